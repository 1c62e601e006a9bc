/-! ===== the reference's output (own work) ===== -/
section MODEL22
variable {g G H K : gH} {p code t c a b k q gp d x y z w v n l : Int}
theorem MInv_out (h : MInv g) (hn : 0 ≤ n ∧ n ≤ 400) : MInv (pU (pU g 634 a x) 624 23 n) := by
  obtain ⟨h1, h2, h3, ⟨h4, h5⟩, h6, h7, h8⟩ := h
  unfold MInv MS
  simp (disch := omega) only [pU_n, pU_s, u1_n, u1_s]
  exact ⟨h1, h2, h3, ⟨h4, h5⟩, h6, h7, hn⟩
def WR (G H : gH) (k : Int) : Prop := MInv H ∧ MF G H ∧ KI G H ∧ H 625 = G 625 ∧ (0 ≤ H 624 23 ∧ H 624 23 ≤ G 624 23 + k)
theorem WR_r (h : MInv G) : WR G G 0 := ⟨h, MF_r, KI_r, rfl, h.2.2.2.2.2.2.1, by omega⟩
theorem WR_t (h : WR G H a) (h' : WR H K b) : WR G K (a + b) := ⟨h'.1, fun x hx => (h'.2.1 x hx).trans (h.2.1 x hx), KI_t h.2.2.1 h'.2.2.1, h'.2.2.2.1.trans h.2.2.2.1, h'.2.2.2.2.1, by have := h.2.2.2.2.2; have := h'.2.2.2.2.2; omega⟩
theorem WR_l (h : WR G H a) (hab : a ≤ b) : WR G H b := ⟨h.1, h.2.1, h.2.2.1, h.2.2.2.1, h.2.2.2.2.1, by have := h.2.2.2.2.2; omega⟩
theorem vM_write (o : MInv G) (h : G 624 23 < 400) : ∃ H, fM_write G 624 c = some (0, H) ∧ WR G H 1 := by
  have h0 : G 624 22 = 634 := o.1.2.2.2.2.2.2.2.2.1
  have hm := o.2.2.2.2.2.2
  refine ⟨pU (pU G 634 (G 624 23) c) 624 23 (G 624 23 + 1), ?_, MInv_out o (by omega), MF_pU (MF_pU MF_r (by omega)) (by omega), ?_, ?_, ?_⟩
  · have e1 : pU G 634 (G 624 23) c 624 = G 624 := pU_n (by omega)
    rw [fM_write]
    simp (disch := omega) only [h0, kd_634, sz_634, true_and, le_t, lt_t, and_true, ↓reduceIte, bnd_s, e1, w32_r]
  · exact ⟨fun k k0 k1 => by rw [pU_s, u1_n (by omega), pU_n (by omega)], by rw [pU_n (by omega), pU_n (by omega)]⟩
  · rw [pU_n (by omega), pU_n (by omega)]
  · rw [pU_s, u1_s]; omega
theorem vM_writeBetween (o : MInv G) (h : G 624 23 < 400) : ∃ H, fM_writeBetween G 624 c = some (0, H) ∧ WR G H 1 := by
  rw [fM_writeBetween]
  by_cases hc : 0 < G 624 23
  · obtain ⟨H, e, w⟩ := vM_write (c := c) o h
    rw [if_pos hc, e, bdN_s]; exact ⟨H, rfl, w⟩
  · rw [if_neg hc]; exact ⟨G, rfl, WR_l (WR_r o) (by omega)⟩
/-- a number of at most three places -/
theorem vM_writeNumber (o : MInv G) (h : G 624 23 + 3 ≤ 400) (hx : 0 ≤ x ∧ x ≤ 255) : ∃ H, fM_writeNumber G 624 x = some (0, H) ∧ WR G H 3 := by
  have step : ∀ (n : Nat) (v : Int) (G : gH), MInv G → G 624 23 < 400 → (v = 1 ∨ v = 10 ∨ v = 100) → ∃ H, lM_writeNumber_18 624 x (n + 1) v G = lM_writeNumber_18 624 x n (v / 10) H ∧ WR G H 1 := by
    intro n v G o h hv
    obtain ⟨H, e, w⟩ := vM_write (c := w32 (48 + (x / v) % 10)) o h
    refine ⟨H, ?_, w⟩
    show bM_writeNumber_18 624 x (lM_writeNumber_18 624 x n) v G = _
    rw [bM_writeNumber_18]
    have hv0 : 0 < v := by omega
    have hq : 0 ≤ x / v ∧ x / v ≤ 255 := by
      rcases hv with e | e | e <;> subst e <;> omega
    simp (disch := omega) only [e, bdN_s, true_and, le_t, lt_t, and_true, ↓reduceIte]
  have fin : ∀ (n : Nat) (G : gH), lM_writeNumber_18 624 x (n + 1) 0 G = some (0, G) := by
    intro n G
    show bM_writeNumber_18 624 x (lM_writeNumber_18 624 x n) 0 G = _
    rw [bM_writeNumber_18, if_neg (by omega)]
  have hf := fu_ge
  have f1 : fu - 1 + 1 = fu := by omega
  have f2 : fu - 2 + 1 = fu - 1 := by omega
  have f3 : fu - 3 + 1 = fu - 2 := by omega
  have f4 : fu - 4 + 1 = fu - 3 := by omega
  have w1 : ∀ G, MInv G → G 624 23 < 400 → ∀ m : Nat, ∃ H, lM_writeNumber_18 624 x (m + 2) 1 G = some (0, H) ∧ WR G H 1 := by
    intro G o h m
    obtain ⟨H, e, w⟩ := step (m + 1) 1 G o h (Or.inl rfl)
    exact ⟨H, by rw [e, show (1 : Int) / 10 = 0 from by omega, fin], w⟩
  have w2 : ∀ G, MInv G → G 624 23 + 2 ≤ 400 → ∀ m : Nat, ∃ H, lM_writeNumber_18 624 x (m + 3) 10 G = some (0, H) ∧ WR G H 2 := by
    intro G o h m
    obtain ⟨H, e, w⟩ := step (m + 2) 10 G o (by omega) (Or.inr (Or.inl rfl))
    obtain ⟨K, e2, w'⟩ := w1 H w.1 (by have := w.2.2.2.2.2; omega) m
    exact ⟨K, by rw [e, show (10 : Int) / 10 = 1 from by omega, e2], WR_t w w'⟩
  have w3 : ∀ G, MInv G → G 624 23 + 3 ≤ 400 → ∀ m : Nat, ∃ H, lM_writeNumber_18 624 x (m + 4) 100 G = some (0, H) ∧ WR G H 3 := by
    intro G o h m
    obtain ⟨H, e, w⟩ := step (m + 3) 100 G o (by omega) (Or.inr (Or.inr rfl))
    obtain ⟨K, e2, w'⟩ := w2 H w.1 (by have := w.2.2.2.2.2; omega) m
    exact ⟨K, by rw [e, show (100 : Int) / 10 = 10 from by omega, e2], WR_t w w'⟩
  have g1 : fu - 2 + 2 = fu := by omega
  have g2 : fu - 3 + 3 = fu := by omega
  have g3 : fu - 4 + 4 = fu := by omega
  have s1 : ∀ (n : Nat), lM_writeNumber_2 G 624 x (n + 1) 1 = if 9 < x then lM_writeNumber_2 G 624 x n 10 else lM_writeNumber_18 624 x fu 1 G := by
    intro n
    show bM_writeNumber_2 G 624 x (lM_writeNumber_2 G 624 x n) 1 = _
    rw [bM_writeNumber_2]
    simp (disch := omega) only [true_and, le_t, lt_t, and_true, ↓reduceIte, Int.ediv_one, opI_mul, w32_r]
    rfl
  have s2 : ∀ (n : Nat), lM_writeNumber_2 G 624 x (n + 1) 10 = if 9 < x / 10 then lM_writeNumber_2 G 624 x n 100 else lM_writeNumber_18 624 x fu 10 G := by
    intro n
    show bM_writeNumber_2 G 624 x (lM_writeNumber_2 G 624 x n) 10 = _
    rw [bM_writeNumber_2]
    simp (disch := omega) only [true_and, le_t, lt_t, and_true, ↓reduceIte, opI_mul, w32_r]
    rfl
  have s3 : ∀ (n : Nat), lM_writeNumber_2 G 624 x (n + 1) 100 = lM_writeNumber_18 624 x fu 100 G := by
    intro n
    show bM_writeNumber_2 G 624 x (lM_writeNumber_2 G 624 x n) 100 = _
    rw [bM_writeNumber_2]
    have : ¬ 9 < x / 100 := by omega
    simp (disch := omega) only [true_and, le_t, lt_t, and_true, ↓reduceIte, if_neg this]
  have r1 := s1 (fu - 1)
  have r2 := s2 (fu - 2)
  have r3 := s3 (fu - 3)
  rw [f1] at r1; rw [f2] at r2; rw [f3] at r3
  rw [fM_writeNumber, r1]
  split
  · rw [r2]
    split
    · rw [r3]
      obtain ⟨H, e, w⟩ := w3 G o h (fu - 4)
      rw [g3] at e
      exact ⟨H, e, w⟩
    · obtain ⟨H, e, w⟩ := w2 G o (by omega) (fu - 3)
      rw [g2] at e
      exact ⟨H, e, WR_l w (by omega)⟩
  · obtain ⟨H, e, w⟩ := w1 G o (by omega) (fu - 2)
    rw [g1] at e
    exact ⟨H, e, WR_l w (by omega)⟩
/-- the next running child from k on -/
theorem vM_nextChild (hs : MS G) (hM : 1 ≤ G 625 0 ∧ G 625 0 ≤ 40) (hk : 0 ≤ k ∧ k ≤ 40) : ∃ c, fM_nextChild G 624 a k = some c ∧ ((c = -1 ∧ ∀ j, k ≤ j → j < G 625 0 → ic (G 625) j a 0 = false) ∨ ((k ≤ c ∧ c < G 625 0) ∧ ic (G 625) c a 0 = true ∧ ∀ j, k ≤ j → j < c → ic (G 625) j a 0 = false)) := by
  have h0 := hs.1
  have key : ∀ (m n : Nat) (i : Int), (G 625 0 - i).toNat = m → m < n → k ≤ i → (∀ j, k ≤ j → j < i → ic (G 625) j a 0 = false) → ∃ c, lM_nextChild_2 G 624 a n i = some c ∧ ((c = -1 ∧ ∀ j, k ≤ j → j < G 625 0 → ic (G 625) j a 0 = false) ∨ ((k ≤ c ∧ c < G 625 0) ∧ ic (G 625) c a 0 = true ∧ ∀ j, k ≤ j → j < c → ic (G 625) j a 0 = false)) := by
    intro m
    induction m with
    | zero =>
      intro n i hm hn hi hj
      obtain ⟨n, rfl⟩ : ∃ k, n = k + 1 := ⟨n - 1, by omega⟩
      have hni : ¬ i < G 625 0 := by omega
      refine ⟨-1, ?_, Or.inl ⟨rfl, fun j h1 h2 => hj j h1 (by omega)⟩⟩
      show bM_nextChild_2 G 624 a (lM_nextChild_2 G 624 a n) i = _
      rw [bM_nextChild_2, jM_nextChild_28]
      simp (disch := omega) only [h0, kd_625, sz_625, true_and, le_t, lt_t, and_true, ↓reduceIte, if_neg hni]
    | succ m ih =>
      intro n i hm hn hi hj
      obtain ⟨n, rfl⟩ : ∃ k, n = k + 1 := ⟨n - 1, by omega⟩
      have hii : i < G 625 0 := by omega
      have f1 := vM_isChild (g := G) (p := i) (a := a) (st := 0) hs (by omega)
      have e : lM_nextChild_2 G 624 a (n + 1) i = if (if ic (G 625) i a 0 = true then (1 : Int) else 0) = 0 then lM_nextChild_2 G 624 a n (i + 1) else some i := by
        show bM_nextChild_2 G 624 a (lM_nextChild_2 G 624 a n) i = _
        rw [bM_nextChild_2, jM_nextChild_28]
        simp (disch := omega) only [h0, kd_625, sz_625, true_and, le_t, lt_t, and_true, ↓reduceIte, f1, bdP_s, w32_r]
      rw [e]
      cases hc : ic (G 625) i a 0 with
      | true =>
        rw [if_pos rfl, if_neg f0]
        exact ⟨i, rfl, Or.inr ⟨⟨hi, hii⟩, hc, hj⟩⟩
      | false =>
        simp only [Bool.false_eq_true, if_false, if_true]
        refine ih n (i + 1) (by omega) (by omega) (by omega) (fun j h1 h2 => ?_)
        by_cases e : j = i
        · rw [e]; exact hc
        · exact hj j h1 (by omega)
  have hf := fu_ge
  rw [fM_nextChild]
  exact key _ fu k rfl (by omega) (by omega) (fun j h1 h2 => absurd h1 (by omega))
theorem vM_onPath (o : MInv G) (hp : 0 ≤ p ∧ p < G 625 0) (hl : 0 ≤ l) : ∃ q, fM_onPath G 624 p l = some q ∧ 0 ≤ q ∧ q < G 625 0 := by
  have hs := o.1
  have h0 := hs.1
  have w := o.2.1.1
  have key : ∀ (m n : Nat) (i : Int), en (up (G 625)) m i = true → i < G 625 0 → m < n → ∃ q, lM_onPath_2 G 624 l n i = some q ∧ 0 ≤ q ∧ q < G 625 0 := by
    intro m
    induction m with
    | zero =>
      intro n i hi hiM hn
      obtain ⟨n, rfl⟩ : ∃ k, n = k + 1 := ⟨n - 1, by omega⟩
      have e : i = 0 := by simpa [en] using hi
      subst e
      refine ⟨0, ?_, by omega, by omega⟩
      show bM_onPath_2 G 624 l (lM_onPath_2 G 624 l n) 0 = _
      rw [bM_onPath_2, vM_deep hs en_0, bdP_s, if_neg (show ¬ l < DP (up (G 625)) 0 by simp only [DP, dp, if_true]; omega)]
    | succ m ih =>
      intro n i hi hiM hn
      obtain ⟨n, rfl⟩ : ∃ k, n = k + 1 := ⟨n - 1, by omega⟩
      have hr := en_rg hi
      have e : lM_onPath_2 G 624 l (n + 1) i = if l < DP (up (G 625)) i then lM_onPath_2 G 624 l n (up (G 625) i) else some i := by
        show bM_onPath_2 G 624 l (lM_onPath_2 G 624 l n) i = _
        rw [bM_onPath_2, vM_deep hs (en_40 hi), bdP_s]
        simp (disch := omega) only [h0, kd_625, sz_625, true_and, le_t, lt_t, and_true, ↓reduceIte, w32_r]
        rfl
      rw [e]
      split
      · next hlt =>
        by_cases hz : i = 0
        · subst hz
          exact absurd hlt (by simp only [DP, dp, if_true]; omega)
        · rcases en_s.mp hi with e3 | ⟨-, -, e3⟩
          · exact absurd e3 hz
          · exact ih n _ e3 (w.2.1 i (by omega) hiM).2 (by omega)
      · exact ⟨i, rfl, by omega, hiM⟩
  have hf := fu_ge
  rw [fM_onPath]
  exact key 40 fu p (w.2.2.1 p hp.1 hp.2) hp.2 (by omega)
theorem dp_bnd {f : Int → Int} : ∀ (n : Nat) (i : Int), 0 ≤ dp f n i ∧ dp f n i ≤ n := by
  intro n
  induction n with
  | zero => intro i; exact ⟨Int.le_refl _, Int.le_refl _⟩
  | succ n ih =>
    intro i
    have := ih (f i)
    rw [dp]
    split <;> omega
theorem vM_writePath (o : MInv G) (hp : 0 ≤ p ∧ p < G 625 0) (hz : G 624 23 = 0) : ∃ H, fM_writePath G 624 p = some (0, H) ∧ WR G H 164 := by
  have hdp := dp_bnd (f := up (G 625)) 40 p
  have key : ∀ (m n : Nat) (i : Int) (G : gH), MInv G → (0 ≤ p ∧ p < G 625 0) → (DP (up (G 625)) p + 1 - i).toNat = m → m < n → 0 ≤ i → i ≤ 41 → G 624 23 + 4 * m ≤ 400 → DP (up (G 625)) p ≤ 40 → ∃ H, lM_writePath_2 624 p n i G = some (0, H) ∧ WR G H (4 * m) := by
    intro m
    induction m with
    | zero =>
      intro n i G o hp hm hn hi hi' hg hd
      obtain ⟨n, rfl⟩ : ∃ k, n = k + 1 := ⟨n - 1, by omega⟩
      refine ⟨G, ?_, WR_l (WR_r o) (by omega)⟩
      show bM_writePath_2 624 p (lM_writePath_2 624 p n) i G = _
      rw [bM_writePath_2, vM_deep o.1 (o.2.1.1.2.2.1 p hp.1 hp.2), bdP_s, if_pos (by omega)]
    | succ m ih =>
      intro n i G o hp hm hn hi hi' hg hd
      obtain ⟨n, rfl⟩ : ∃ k, n = k + 1 := ⟨n - 1, by omega⟩
      obtain ⟨H, e1, w1⟩ := vM_writeBetween (c := 47) o (by omega)
      have hp1 : 0 ≤ p ∧ p < H 625 0 := by rw [w1.2.2.2.1]; exact hp
      have b1 := w1.2.2.2.2.2
      obtain ⟨q, e2, q0, q1⟩ := vM_onPath w1.1 hp1 hi
      have hM := w1.1.2.1.1.1
      obtain ⟨K, e3, w2⟩ := vM_writeNumber (x := q) w1.1 (by omega) (by omega)
      have b2 := w2.2.2.2.2.2
      have e25 : K 625 = G 625 := w2.2.2.2.1.trans w1.2.2.2.1
      obtain ⟨L, e4, w3⟩ := ih n (i + 1) K w2.1 (by rw [e25]; exact hp) (by rw [e25]; omega) (by omega) (by omega) (by omega) (by omega) (by rw [e25]; exact hd)
      refine ⟨L, ?_, WR_l (WR_t (WR_t w1 w2) w3) (by omega)⟩
      show bM_writePath_2 624 p (lM_writePath_2 624 p n) i G = _
      rw [bM_writePath_2, vM_deep o.1 (o.2.1.1.2.2.1 p hp.1 hp.2), bdP_s, if_neg (by omega), e1, bdN_s, e2, bdP_s, e3, bdN_s, w32_r (by omega), e4]
  have hf := fu_ge
  have hd : DP (up (G 625)) p ≤ 40 ∧ 0 ≤ DP (up (G 625)) p := ⟨hdp.2, hdp.1⟩
  obtain ⟨H, e, w⟩ := key _ fu 0 G o hp rfl (by omega) (by omega) (by omega) (by omega) hd.1
  exact ⟨H, e, WR_l w (by omega)⟩
theorem vM_writeChildren (o : MInv G) (hz : G 624 23 = 0) : ∃ H, fM_writeChildren G 624 p = some (0, H) ∧ WR G H 160 := by
  have key : ∀ (m n : Nat) (i : Int) (G : gH), MInv G → (i = -1 ∨ (0 ≤ i ∧ i < G 625 0 ∧ 40 - i ≤ m)) → m < n → G 624 23 + 4 * m ≤ 400 → ∃ H, lM_writeChildren_7 624 p n i G = some (0, H) ∧ WR G H (4 * m) := by
    intro m
    induction m with
    | zero =>
      intro n i G o hi hn hg
      obtain ⟨n, rfl⟩ : ∃ k, n = k + 1 := ⟨n - 1, by omega⟩
      have hM := o.2.1.1.1
      have hi' : i = -1 := by omega
      refine ⟨G, ?_, WR_l (WR_r o) (by omega)⟩
      show bM_writeChildren_7 624 p (lM_writeChildren_7 624 p n) i G = _
      rw [bM_writeChildren_7, if_pos hi']
    | succ m ih =>
      intro n i G o hi hn hg
      obtain ⟨n, rfl⟩ : ∃ k, n = k + 1 := ⟨n - 1, by omega⟩
      have hM := o.2.1.1.1
      by_cases hi1 : i = -1
      · refine ⟨G, ?_, WR_l (WR_r o) (by omega)⟩
        show bM_writeChildren_7 624 p (lM_writeChildren_7 624 p n) i G = _
        rw [bM_writeChildren_7, if_pos hi1]
      · obtain ⟨i0, i1, i2⟩ : 0 ≤ i ∧ i < G 625 0 ∧ 40 - i ≤ (m + 1 : Nat) := by rcases hi with h | h; exact absurd h hi1; exact h
        obtain ⟨H, e1, w1⟩ := vM_writeBetween (c := 44) o (by omega)
        have b1 := w1.2.2.2.2.2
        obtain ⟨K, e3, w2⟩ := vM_writeNumber (x := i) w1.1 (by omega) (by omega)
        have b2 := w2.2.2.2.2.2
        have e25 : K 625 = G 625 := w2.2.2.2.1.trans w1.2.2.2.1
        obtain ⟨c, e4, hc⟩ := vM_nextChild (a := p) (k := i + 1) w2.1.1 w2.1.2.1.1.1 (by omega)
        obtain ⟨L, e5, w3⟩ := ih n c K w2.1 (by omega) (by omega) (by omega)
        refine ⟨L, ?_, WR_l (WR_t (WR_t w1 w2) w3) (by omega)⟩
        show bM_writeChildren_7 624 p (lM_writeChildren_7 624 p n) i G = _
        rw [bM_writeChildren_7, if_neg hi1, e1, bdN_s, e3, bdN_s, w32_r (by omega), e4, bdP_s, e5]
  have hf := fu_ge
  obtain ⟨c, e4, hc⟩ := vM_nextChild (a := p) (k := 0) o.1 o.2.1.1.1 (by omega)
  obtain ⟨H, e, w⟩ := key 40 fu c G o (by omega) (by omega) (by omega)
  refine ⟨H, ?_, WR_l w (by omega)⟩
  rw [fM_writeChildren, e4, bdP_s, e]
theorem vM_writeZombies (o : MInv G) (hz : G 624 23 = 0) : ∃ H, fM_writeZombies G 624 p = some (0, H) ∧ WR G H 320 := by
  have hE0 := o.2.1.2.2.2.1.1
  have key : ∀ (m n : Nat) (i : Int) (G : gH), MInv G → (G 625 1 - i).toNat = m → m < n → 0 ≤ i → G 624 23 + 8 * m ≤ 400 → ∃ H, lM_writeZombies_2 624 p n i G = some (0, H) ∧ WR G H (8 * m) := by
    intro m
    induction m with
    | zero =>
      intro n i G o hm hn hi hg
      obtain ⟨n, rfl⟩ : ∃ k, n = k + 1 := ⟨n - 1, by omega⟩
      have h0 := o.1.1
      have hni : ¬ i < G 625 1 := by omega
      refine ⟨G, ?_, WR_l (WR_r o) (by omega)⟩
      show bM_writeZombies_2 624 p (lM_writeZombies_2 624 p n) i G = _
      rw [bM_writeZombies_2]
      simp (disch := omega) only [h0, kd_625, sz_625, true_and, le_t, lt_t, and_true, ↓reduceIte, if_neg hni]
    | succ m ih =>
      intro n i G o hm hn hi hg
      obtain ⟨n, rfl⟩ : ∃ k, n = k + 1 := ⟨n - 1, by omega⟩
      have h0 := o.1.1
      have hM := o.2.1.1.1
      have hE := o.2.1.2.2.2.1
      have hE1 := hE.1
      have hii : i < G 625 1 := by omega
      have hz := hE.2 i hi hii
      have f1 := vM_isChild (g := G) (p := G 625 (19 + i)) (a := p) (st := 1) o.1 (by omega)
      show ∃ H, bM_writeZombies_2 624 p (lM_writeZombies_2 624 p n) i G = some (0, H) ∧ _
      rw [bM_writeZombies_2]
      simp (disch := omega) only [h0, kd_625, sz_625, true_and, le_t, lt_t, and_true, ↓reduceIte, w32_r, f1, bdP_s]
      cases hc : ic (G 625) (G 625 (19 + i)) p 1 with
      | false =>
        simp only [Bool.false_eq_true, if_false, if_true]
        obtain ⟨H, e, w⟩ := ih n (i + 1) G o (by omega) (by omega) (by omega) (by omega)
        exact ⟨H, e, WR_l w (by omega)⟩
      | true =>
        have hst : G 625 (140 + G 625 (19 + i)) = 1 := by
          have := of_decide_eq_true hc
          exact this.1
        have hcd := o.2.1.2.2.2.2.2.2.2.1 _ hz.1 hz.2 hst
        rw [if_pos rfl, if_neg f0]
        obtain ⟨H1, e1, w1⟩ := vM_writeBetween (c := 44) o (by omega)
        have b1 := w1.2.2.2.2.2
        obtain ⟨H2, e2, w2⟩ := vM_writeNumber (x := G 625 (19 + i)) w1.1 (by omega) (by omega)
        have b2 := w2.2.2.2.2.2
        obtain ⟨H3, e3, w3⟩ := vM_write (c := 58) w2.1 (by omega)
        have b3 := w3.2.2.2.2.2
        have h03 := w3.1.1.1
        have e25 : H3 625 = G 625 := w3.2.2.2.1.trans (w2.2.2.2.1.trans w1.2.2.2.1)
        obtain ⟨H4, e4, w4⟩ := vM_writeNumber (x := H3 625 (300 + G 625 (19 + i))) w3.1 (by omega) (by rw [e25]; exact hcd)
        have b4 := w4.2.2.2.2.2
        have e25' : H4 625 = G 625 := w4.2.2.2.1.trans e25
        obtain ⟨L, e5, w5⟩ := ih n (i + 1) H4 w4.1 (by rw [e25']; omega) (by omega) (by omega) (by omega)
        rw [e1, bdN_s, e2, bdN_s, e3, bdN_s]
        simp (disch := omega) only [h03, kd_625, sz_625, true_and, le_t, lt_t, and_true, ↓reduceIte]
        rw [e4, bdN_s, e5]
        exact ⟨L, rfl, WR_l (WR_t (WR_t (WR_t (WR_t w1 w2) w3) w4) w5) (by omega)⟩
  have hf := fu_ge
  obtain ⟨H, e, w⟩ := key (G 625 1 - 0).toNat fu 0 G o rfl (by omega) (by omega) (by omega)
  exact ⟨H, e, WR_l w (by omega)⟩
end MODEL22
