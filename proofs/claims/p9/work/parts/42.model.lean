/-! ===== the reference's questions of its row (own work) ===== -/
def up (r : Int → Int) : Int → Int := fun i => r (60 + i)
def ic (r : Int → Int) (c a st : Int) : Bool := decide (r (140 + c) = st ∧ r (60 + c) = a ∧ c ≠ 0)
def kids (r : Int → Int) (a st : Int) : Int := cn (fun c => ic r c a st) (r 0).toNat 0
def room (r : Int → Int) (p : Int) : Int := if r (140 + p) = 0 then gmax 0 (r (100 + p) - kids r p 0) else 0
def rfs (r : Int → Int) (p gp : Int) : Bool := decide (opI 1 (opI 5 (r (340 + p)) gp) 1 = 1)
def canA (r dm : Int → Int) (p o : Int) : Bool := decide (r (140 + p) = 0) && (!decide (p = o) && (!OV (up r) o p && (decide (dm p = 0) && (decide (0 < room r p) && (decide (DP (up r) p < r 59) && !rfs r p (r (180 + o)))))))
/-- ranges that the questions need -/
def WB (r : Int → Int) : Prop := (1 ≤ r 0 ∧ r 0 ≤ 40) ∧ (∀ i, 0 < i → i < r 0 → 0 ≤ r (60 + i) ∧ r (60 + i) < r 0) ∧ Acy (up r) (r 0) ∧ (0 ≤ r 5 ∧ r 5 ≤ 5) ∧ (∀ i, 0 ≤ i → i < r 0 → -1 ≤ r (260 + i) ∧ r (260 + i) < r 0) ∧ (∀ i d, 0 ≤ i → i < r 0 → 0 ≤ d → d < 8 → -1 ≤ r (460 + 8 * i + d) ∧ r (460 + 8 * i + d) < r 0) ∧ (∀ i, 0 ≤ i → i < r 0 → 0 ≤ r (100 + i) ∧ r (100 + i) ≤ 9)
section MODEL
variable {g : gH} {p a st o k x : Int}
theorem vM_runs (hs : MS g) (hp : 0 ≤ p ∧ p < 40) : fM_runs g 624 p = some (if g 625 (140 + p) = 0 then 1 else 0) := by
  have h0 := hs.1
  simp (disch := omega) only [fM_runs, h0, kd_625, sz_625, w32_r, true_and, if_pos]
  split <;> rfl
theorem vM_isChild (hs : MS g) (hp : 0 ≤ p ∧ p < 40) : fM_isChild g 624 p a st = some (if ic (g 625) p a st = true then 1 else 0) := by
  have h0 := hs.1
  simp (disch := omega) only [fM_isChild, h0, kd_625, sz_625, w32_r, true_and, if_pos, ic, decide_eq_true_eq]
  by_cases h1 : g 625 (140 + p) = st
  · by_cases h2 : g 625 (60 + p) = a
    · by_cases h3 : p = 0
      · simp [h1, h2, h3]
      · simp [h1, h2, h3]
    · simp [h1, h2]
  · simp [h1]
theorem vM_childrenOf (hs : MS g) (hM : 1 ≤ g 625 0 ∧ g 625 0 ≤ 40) : fM_childrenOf g 624 a st = some (kids (g 625) a st) := by
  have h0 := hs.1
  have h := cnt_loop (L := fun n k x => lM_childrenOf_5 g 624 a st n x k) (E := some) (fun c => ic (g 625) c a st) (g 625 0) 0 (by omega) (fun n k x h1 h2 h3 h4 => by
    show bM_childrenOf_5 g 624 a st (lM_childrenOf_5 g 624 a st n) x k = lM_childrenOf_5 g 624 a st n (x + if ic (g 625) k a st = true then 1 else 0) (k + 1)
    rw [bM_childrenOf_5, vM_isChild hs (by omega)]
    simp (disch := omega) only [h0, kd_625, sz_625, true_and, if_pos, bdP_s, w32_r]
    cases ic (g 625) k a st <;> simp (disch := omega) only [w32_r, if_pos, if_neg, ite_true, ite_false, reduceCtorEq, Bool.false_eq_true]) (fun n k x h1 h2 => by
    show bM_childrenOf_5 g 624 a st (lM_childrenOf_5 g 624 a st n) x k = some x
    rw [bM_childrenOf_5]
    simp (disch := omega) only [h0, kd_625, sz_625, true_and, if_pos, if_neg]) (g 625 0).toNat 0 0 fu (by omega) (by omega) (by have := fu_ge; omega) (by omega) (by omega)
  have h : lM_childrenOf_5 g 624 a st fu 0 0 = some (0 + kids (g 625) a st) := h
  rw [fM_childrenOf, h]
  simp
theorem vM_roomOf (hs : MS g) (hb : WB (g 625)) (hp : 0 ≤ p ∧ p < g 625 0) : fM_roomOf g 624 p = some (room (g 625) p) := by
  have h0 := hs.1
  obtain ⟨hM, -, -, -, -, -, hc⟩ := hb
  have hk := cn_bd (fun c => ic (g 625) c p 0) (g 625 0).toNat 0
  have hcp := hc p hp.1 hp.2
  rw [fM_roomOf, vM_runs hs (by omega), room]
  by_cases h1 : g 625 (140 + p) = 0
  · have hk' : 0 ≤ kids (g 625) p 0 ∧ kids (g 625) p 0 ≤ 40 := by unfold kids; omega
    simp (disch := omega) only [h1, if_true, bdP_s, vM_childrenOf hs hM, h0, kd_625, sz_625, w32_r, true_and, if_pos, if_neg]
  · simp only [h1, if_false, bdP_s, if_true]
theorem room_bd {r : Int → Int} (hb : WB r) (hp : 0 ≤ p ∧ p < r 0) : 0 ≤ room r p ∧ room r p ≤ 9 := by
  obtain ⟨hM, -, -, -, -, -, hc⟩ := hb
  have hcp := hc p hp.1 hp.2
  have hk := cn_bd (fun c => ic r c p 0) (r 0).toNat 0
  unfold room gmax kids
  split
  · split <;> omega
  · omega
theorem vM_refuses (hs : MS g) (hp : 0 ≤ p ∧ p < 40) : fM_refusesGroup g 624 p a = some (if rfs (g 625) p a = true then 1 else 0) := by
  have h0 := hs.1
  simp (disch := omega) only [fM_refusesGroup, h0, kd_625, sz_625, w32_r, true_and, if_pos, rfs, decide_eq_true_eq]
  split <;> rfl
theorem vM_over_l (hs : MS g) : ∀ (m n : Nat) (i : Int), en (up (g 625)) m i = true → m < n → lM_isOver_2 g 624 p n i = some (if ov (up (g 625)) m p i = true then 1 else 0) := by
  have h0 := hs.1
  intro m
  induction m with
  | zero =>
    intro n i hi hn
    obtain ⟨n, rfl⟩ : ∃ k, n = k + 1 := ⟨n - 1, by omega⟩
    have hi : i = 0 := by simpa [en] using hi
    show bM_isOver_2 g 624 p (lM_isOver_2 g 624 p n) i = _
    simp only [bM_isOver_2, jM_isOver_32, hi, if_true, ov, Bool.false_eq_true, if_false]
  | succ m ih =>
    intro n i hi hn
    obtain ⟨n, rfl⟩ : ∃ k, n = k + 1 := ⟨n - 1, by omega⟩
    show bM_isOver_2 g 624 p (lM_isOver_2 g 624 p n) i = _
    by_cases hz : i = 0
    · simp only [bM_isOver_2, jM_isOver_32, hz, if_true, ov, Bool.false_eq_true, if_false]
    · rcases en_s.mp hi with h | ⟨h1, h2, h3⟩
      · exact absurd h hz
      · have hr := en_rg h3
        simp (disch := omega) only [bM_isOver_2, jM_isOver_32, hz, if_false, h0, kd_625, sz_625, w32_r, true_and, if_pos, ov]
        show (if up (g 625) i = p then _ else lM_isOver_2 g 624 p n (up (g 625) i)) = _
        by_cases hf : up (g 625) i = p
        · rw [if_pos hf, if_pos hf]
          rfl
        · rw [if_neg hf, if_neg hf]
          exact ih n _ h3 (by omega)
theorem vM_isOver (hs : MS g) (hi : en (up (g 625)) 40 x = true) : fM_isOver g 624 p x = some (if OV (up (g 625)) p x = true then 1 else 0) := by
  rw [fM_isOver]
  exact vM_over_l hs 40 fu x hi (by have := fu_ge; omega)
theorem vM_deep_l (hs : MS g) : ∀ (m n : Nat) (a i : Int), en (up (g 625)) m i = true → m < n → 0 ≤ a → a + m ≤ 1000 → lM_deep_4 g 624 n a i = some (a + dp (up (g 625)) m i) := by
  have h0 := hs.1
  intro m
  induction m with
  | zero =>
    intro n a i hi hn ha ham
    obtain ⟨n, rfl⟩ : ∃ k, n = k + 1 := ⟨n - 1, by omega⟩
    have hi : i = 0 := by simpa [en] using hi
    show bM_deep_4 g 624 (lM_deep_4 g 624 n) a i = _
    simp only [bM_deep_4, hi, if_true, dp, Int.add_zero]
  | succ m ih =>
    intro n a i hi hn ha ham
    obtain ⟨n, rfl⟩ : ∃ k, n = k + 1 := ⟨n - 1, by omega⟩
    show bM_deep_4 g 624 (lM_deep_4 g 624 n) a i = _
    by_cases hz : i = 0
    · simp only [bM_deep_4, hz, if_true, dp, Int.add_zero]
    · rcases en_s.mp hi with h | ⟨h1, h2, h3⟩
      · exact absurd h hz
      · simp (disch := omega) only [bM_deep_4, hz, if_false, h0, kd_625, sz_625, w32_r, true_and, if_pos, dp]
        have := ih n (a + 1) _ h3 (by omega) (by omega) (by omega)
        rw [show g 625 (60 + i) = up (g 625) i from rfl, this]
        congr 1
        omega
theorem vM_deep (hs : MS g) (hi : en (up (g 625)) 40 x = true) : fM_deep g 624 x = some (DP (up (g 625)) x) := by
  rw [fM_deep, vM_deep_l hs 40 fu 0 x hi (by have := fu_ge; omega) (by omega) (by omega)]
  simp
theorem vM_runningMany (hs : MS g) (hM : 1 ≤ g 625 0 ∧ g 625 0 ≤ 40) : fM_runningMany g 624 = some (cn (fun c => decide (g 625 (140 + c) = 0)) (g 625 0).toNat 0) := by
  have h0 := hs.1
  have h := cnt_loop (L := fun n k x => lM_runningMany_4 g 624 n x k) (E := some) (fun c => decide (g 625 (140 + c) = 0)) (g 625 0) 0 (by omega) (fun n k x h1 h2 h3 h4 => by
    show bM_runningMany_4 g 624 (lM_runningMany_4 g 624 n) x k = lM_runningMany_4 g 624 n (x + if decide (g 625 (140 + k) = 0) = true then 1 else 0) (k + 1)
    rw [bM_runningMany_4, vM_runs hs (by omega)]
    simp (disch := omega) only [h0, kd_625, sz_625, true_and, if_pos, bdP_s, w32_r, decide_eq_true_eq]
    by_cases h9 : g 625 (140 + k) = 0
    · simp (disch := omega) only [h9, w32_r, if_pos, if_neg, if_true]
    · simp (disch := omega) only [h9, w32_r, if_pos, if_neg, if_false, if_true]) (fun n k x h1 h2 => by
    show bM_runningMany_4 g 624 (lM_runningMany_4 g 624 n) x k = some x
    rw [bM_runningMany_4]
    simp (disch := omega) only [h0, kd_625, sz_625, true_and, if_pos, if_neg]) (g 625 0).toNat 0 0 fu (by omega) (by omega) (by have := fu_ge; omega) (by omega) (by omega)
  have h : lM_runningMany_4 g 624 fu 0 0 = some (0 + cn (fun c => decide (g 625 (140 + c) = 0)) (g 625 0).toNat 0) := h
  rw [fM_runningMany, h]
  simp
theorem vM_canAdopt (hs : MS g) (hb : WB (g 625)) (hp : 0 ≤ p ∧ p < g 625 0) (ho : 0 ≤ o ∧ o < g 625 0) : fM_canAdopt g 624 p o = some (if canA (g 625) (g 630) p o = true then 1 else 0) := by
  have h0 := hs.1
  have h5 := hs.2.2.2.2.1
  have hM := hb.1
  have hA := hb.2.2.1
  rw [fM_canAdopt, vM_runs hs (by omega), canA]
  by_cases h1 : g 625 (140 + p) = 0
  · by_cases h2 : p = o
    · simp [h1, h2, bdP_s]
    · cases h3 : OV (up (g 625)) o p with
      | true => simp [h1, h2, bdP_s, vM_isOver hs (hA p hp.1 hp.2), h3]
      | false =>
        by_cases h4 : g 630 p = 0
        · by_cases h6 : 0 < room (g 625) p
          · by_cases h7 : DP (up (g 625)) p < g 625 59
            · simp (disch := omega) only [h1, h2, bdP_s, vM_isOver hs (hA p hp.1 hp.2), h3, h5, kd_630, sz_630, true_and, if_pos, h4, vM_roomOf hs hb hp, h6, vM_deep hs (hA p hp.1 hp.2), h0, kd_625, sz_625, w32_r, h7, vM_refuses hs (p := p) (by omega), if_true, if_false, decide_true, decide_false, Bool.true_and, Bool.not_false, Bool.false_eq_true, if_neg]
              cases rfs (g 625) p (g 625 (180 + o)) <;> rfl
            · simp (disch := omega) only [h1, h2, bdP_s, vM_isOver hs (hA p hp.1 hp.2), h3, h5, kd_630, sz_630, true_and, if_pos, h4, vM_roomOf hs hb hp, h6, vM_deep hs (hA p hp.1 hp.2), h0, kd_625, sz_625, w32_r, h7, if_true, if_false, decide_true, decide_false, Bool.true_and, Bool.false_and, Bool.not_false, Bool.false_eq_true, if_neg]
          · simp (disch := omega) only [h1, h2, bdP_s, vM_isOver hs (hA p hp.1 hp.2), h3, h5, kd_630, sz_630, true_and, if_pos, h4, vM_roomOf hs hb hp, h6, if_true, if_false, decide_true, decide_false, Bool.true_and, Bool.false_and, Bool.not_false, Bool.false_eq_true, if_neg]
        · simp (disch := omega) only [h1, h2, bdP_s, vM_isOver hs (hA p hp.1 hp.2), h3, h5, kd_630, sz_630, true_and, if_pos, h4, if_true, if_false, decide_true, decide_false, Bool.true_and, Bool.false_and, Bool.not_false, Bool.false_eq_true, if_neg]
  · simp [h1, bdP_s]
end MODEL
