/-! ===== the reference: what would be (own work) ===== -/
section MODEL20
variable {g G : gH} {p code t c a b k q gp d : Int}
theorem oM_exited (hi : MInv g) : PO g (fM_exited g 624 a) := by
  have o1 := o0 hi
  have h0 := o1.1.1.1
  have hE := o1.1.2.1.2.2.2.1
  rw [fM_exited, bnd_s, o8 hi]
  simp (disch := omega) only [h0, kd_625, sz_625, w32_r, true_and, le_t, lt_t, and_true, ↓reduceIte, vM_inRange, bdP_s]
  have hw : w32 ((th g 0) 625 1 - 1) = (th g 0) 625 1 - 1 := w32_r (by have := hE.1; omega)
  rw [hw]
  by_cases h : 0 ≤ a ∧ a ≤ (th g 0) 625 1 - 1
  · have := hE.1
    simp only [if_pos h, f0, if_false, jM_exited_27, kd_c624, if_true, vM_fails (Or.inl rfl), bdN_s]
    simp (disch := omega) only [h0, kd_625, sz_625, w32_r, true_and, le_t, lt_t, and_true, ↓reduceIte]
    exact PO_i rfl o1
  · simp only [if_neg h, if_true, jM_exited_27, kd_c624, vM_fails (Or.inr rfl), bdN_s, f0, if_false]
    exact PO_i rfl (OK_th o1)
/-- an exit tried: the row kept stands by -/
theorem bg_ex (h : OKg g G) (hp : 0 < p ∧ p < G 625 0) (hst : G 625 (140 + p) = 0) (hc : 0 ≤ code ∧ code ≤ 255) : fM_begins G 624 = some (0, bgG G) ∧ ∃ v X, fM_exits (bgG G) 624 p code = some (v, X) ∧ OKg g X ∧ fM_ends X 624 = some (0, cpG X 627 0 625 0 780) ∧ OKg g (cpG X 627 0 625 0 780) ∧ G 625 0 ≤ X 625 0 ∧ (∀ k, 0 ≤ k → k < 780 → cpG X 627 0 625 0 780 625 k = G 625 k) := by
  have b1 := OK_bg h
  have e25 : bgG G 625 = G 625 := bgG_n (by omega)
  obtain ⟨v, x1, x2, -, x4, -⟩ := ex_OK (code := code) b1 (p := p) (by rw [e25]; exact hp) (by rw [e25]; exact hst) hc
  have e27 : sw (exG (bgG G) p code) (exF (bgG G 625) (bgG G 630) p code) 627 = bgG G 627 := by rw [sw_n (by omega), exG_n (by omega)]
  refine ⟨vM_begins h.1.1, v, _, x1, x2, vM_ends x2.1.1, OK_en x2 (by rw [e27]; exact WBF_627 h), ?_, fun k k0 k1 => en_row e27 ⟨k0, k1⟩⟩
  rw [sw_s, ← e25]; exact x4
theorem nx_p (h : 0 < p ∧ p < g 625 0) : 0 < p ∧ p < (th g 0) 625 0 := by rw [th_n (by omega)]; exact h
theorem nx_s (h : g 625 (140 + p) = 0) : (th g 0) 625 (140 + p) = 0 := by rw [th_n (by omega)]; exact h
theorem oM_wouldStand (hi : MInv g) : PO g (fM_wouldStand g 624 p code) := by
  refine po_nx hi (fun h1 h2 h3 => ?_)
  obtain ⟨e1, v, X, e2, x1, e3, x2, -⟩ := bg_ex (o0 hi) (nx_p h1) (nx_s h3) h2
  rw [e1, bdN_s, e2, bdN_s]
  refine po_ite (fun _ => ?_) (fun _ => ?_)
  · rw [e3, bdN_s]; exact PO_i rfl x2
  · obtain ⟨y, e4⟩ := q_highest x1
    have e4 : fM_highest X 624 = some y := e4
    rw [e4, bdP_s, e3, bdN_s]; exact PO_i rfl x2
theorem oM_wouldHave (hi : MInv g) : PO g (fM_wouldHave g 624 q p code) := by
  refine po_np hi (fun hq => po_nx2 hi (fun h1 h2 h3 => ?_))
  obtain ⟨e1, v, X, e2, x1, e3, x2, x3, -⟩ := bg_ex (o0 hi) (nx_p h1) (nx_s h3) h2
  have h0 := x1.1.1.1
  have hM := hi.2.1.1.1
  rw [e1, bdN_s, e2, bdN_s]
  refine po_ite (fun _ => ?_) (fun _ => ?_)
  · rw [e3, bdN_s]; exact PO_i rfl x2
  · simp (disch := omega) only [h0, kd_625, sz_625, w32_r, true_and, le_t, lt_t, and_true, ↓reduceIte]
    rw [e3, bdN_s]; exact PO_i rfl x2
theorem oM_wouldHold (hi : MInv g) : PO g (fM_wouldHold g 624 a p code) := by
  refine po_np hi (fun hq => ?_)
  have o1 := o0 hi
  rcases vM_noDuty (g := th g 0) (a := a) (c := 2) with ⟨-, e1⟩ | ⟨ha, e1⟩
  · rw [e1, bdN_s]; exact PO_1 (OK_th o1)
  · rw [e1, bdN_s]
    refine PO_0 (po_nx2 hi (fun h1 h2 h3 => ?_))
    obtain ⟨e1, v, X, e2, x1, e3, x2, x3, -⟩ := bg_ex (o0 hi) (nx_p h1) (nx_s h3) h2
    have h0 := x1.1.1.1
    rw [e1, bdN_s, e2, bdN_s]
    refine po_ite (fun _ => ?_) (fun _ => ?_)
    · rw [e3, bdN_s]; exact PO_i rfl x2
    · simp (disch := omega) only [h0, kd_625, sz_625, w32_r, true_and, le_t, lt_t, and_true, ↓reduceIte]
      rw [e3, bdN_s]; exact PO_i rfl x2
/-- a kill tried -/
theorem bg_kl (h : OKg g G) (hc : 0 ≤ code ∧ code ≤ 255) : fM_begins G 624 = some (0, bgG G) ∧ ∃ v X, fM_kills (bgG G) 624 gp code = some (v, X) ∧ OKg g X ∧ fM_ends X 624 = some (0, cpG X 627 0 625 0 780) ∧ OKg g (cpG X 627 0 625 0 780) := by
  have b1 := OK_bg h
  obtain ⟨v, X, e, x1, x2⟩ := vM_kills (gp := gp) b1 hc
  have e27 : X 627 = bgG G 627 := x2 627 (by omega) (by omega)
  exact ⟨vM_begins h.1.1, v, X, e, x1, vM_ends x1.1.1, OK_en x1 (by rw [e27]; exact WBF_627 h)⟩
theorem oM_wouldFallBy (hi : MInv g) : PO g (fM_wouldFallBy g 624 a code) := by
  rw [fM_wouldFallBy]
  rcases vM_noKill (g := g) (a := a) (code := code) with ⟨-, e⟩ | ⟨⟨-, h⟩, e⟩
  · rw [e, bdN_s]; exact PO_1 (OK_th (OK_r hi))
  · rw [e, bdN_s]
    refine PO_0 ?_
    have o1 := o0 hi
    have h0 := o1.1.1.1
    obtain ⟨e1, v, X, e2, x1, e3, x2⟩ := bg_kl (gp := a) o1 h
    have h0' := x1.1.1.1
    simp (disch := omega) only [h0, kd_625, sz_625, w32_r, true_and, le_t, lt_t, and_true, ↓reduceIte]
    rw [e1, bdN_s, e2, bdN_s]
    refine po_ite (fun _ => ?_) (fun _ => ?_)
    · rw [e3, bdN_s]; exact PO_i rfl x2
    · simp (disch := omega) only [h0', kd_625, sz_625, true_and, le_t, lt_t, and_true, ↓reduceIte]
      rw [e3, bdN_s]; exact PO_i rfl x2
theorem oM_wouldRun (hi : MInv g) : PO g (fM_wouldRun g 624 a code) := by
  rw [fM_wouldRun]
  rcases vM_noKill (g := g) (a := a) (code := code) with ⟨-, e⟩ | ⟨⟨-, h⟩, e⟩
  · rw [e, bdN_s]; exact PO_1 (OK_th (OK_r hi))
  · rw [e, bdN_s]
    refine PO_0 ?_
    have o1 := o0 hi
    obtain ⟨e1, v, X, e2, x1, e3, x2⟩ := bg_kl (gp := a) o1 h
    rw [e1, bdN_s, e2, bdN_s]
    refine po_ite (fun _ => ?_) (fun _ => ?_)
    · rw [e3, bdN_s]; exact PO_i rfl x2
    · rw [vM_runningMany x1.1.1 x1.1.2.1.1.1, bdP_s, e3, bdN_s]; exact PO_i rfl x2
/-- which exit falls hardest -/
theorem w_weakest (hi : MInv g) (hc : 0 ≤ code ∧ code ≤ 255) : ∀ (m n : Nat) (v w k : Int) (G : gH), (G 625 0 - k).toNat = m → m < n → 1 ≤ k → OKg g G → PO g (lM_weakest_38 624 code n v w k G) := by
  intro m
  induction m with
  | zero =>
    intro n v w k G hm hn hk o
    obtain ⟨n, rfl⟩ : ∃ k, n = k + 1 := ⟨n - 1, by omega⟩
    have h0 := o.1.1.1
    have hk' : ¬ k < G 625 0 := by omega
    show PO g (bM_weakest_38 624 code (lM_weakest_38 624 code n) v w k G)
    rw [bM_weakest_38]
    simp (disch := omega) only [h0, kd_625, sz_625, true_and, le_t, lt_t, and_true, ↓reduceIte, if_neg hk']
    exact PO_i rfl o
  | succ m ih =>
    intro n v w k G hm hn hk o
    obtain ⟨n, rfl⟩ : ∃ k, n = k + 1 := ⟨n - 1, by omega⟩
    have h0 := o.1.1.1
    have hM := o.1.2.1.1.1
    have hk' : k < G 625 0 := by omega
    show PO g (bM_weakest_38 624 code (lM_weakest_38 624 code n) v w k G)
    rw [bM_weakest_38]
    have f1 := vM_runs (g := G) (p := k) o.1.1 (by omega)
    simp (disch := omega) only [h0, kd_625, sz_625, true_and, le_t, lt_t, and_true, ↓reduceIte, f1, bdP_s]
    have hgo : ∀ (G' : gH) (s : Int), OKg g G' → G' 625 0 = G 625 0 → PO g (jM_weakest_69 (lM_weakest_38 624 code n) G' 624 code v w k s) := by
      intro G' s o' e'
      rw [jM_weakest_69, w32_r (by omega)]
      exact po_ite (fun _ => ih _ _ _ _ _ (by rw [e']; omega) (by omega) (by omega) o') (fun _ => ih _ _ _ _ _ (by rw [e']; omega) (by omega) (by omega) o')
    by_cases hr : G 625 (140 + k) = 0
    · rw [if_pos hr, if_neg f0]
      obtain ⟨y, G', e, o', hk2⟩ := vM_fallsBy (code := code) o ⟨by omega, hk'⟩ hr hc
      rw [e, bdN_s]
      exact hgo G' y o' (hk2 0 (by omega) (by omega))
    · rw [if_neg hr, if_pos rfl]
      exact hgo G (-1) o rfl
theorem oM_weakest (hi : MInv g) : PO g (fM_weakest g 624 code) := by
  have hf := fu_ge
  have o1 := o0 hi
  have hM := o1.1.2.1.1.1
  rw [fM_weakest, bnd_s, o8 hi, vM_inRange, bdP_s]
  by_cases h : 0 ≤ code ∧ code ≤ 255
  · simp only [if_pos h, f0, if_false, jM_weakest_22, kd_c624, if_true, vM_fails (Or.inl rfl), bdN_s]
    exact w_weakest hi h _ _ _ _ _ _ rfl (by omega) (by omega) o1
  · simp only [if_neg h, if_true, jM_weakest_22, kd_c624, vM_fails (Or.inr rfl), bdN_s, f0, if_false]
    exact PO_i rfl (OK_th o1)
/-- how often a duty's holder may exit -/
theorem w_dutyLife (ha : 0 ≤ a ∧ a ≤ 7) : ∀ (m n : Nat) (v : Int) (G : gH), (40 - G 625 1).toNat = m → m < n → OKg g G → WBF (G 627) → PO g (lM_dutyLife_22 624 a n v G) := by
  intro m
  induction m with
  | zero =>
    intro n v G hm hn o hw
    obtain ⟨n, rfl⟩ : ∃ k, n = k + 1 := ⟨n - 1, by omega⟩
    have h0 := o.1.1.1
    have hD := o.1.2.1.2.2.2.2.2.2.1 a ha.1 (by omega)
    have hE := o.1.2.1.2.2.2.1.1
    show PO g (bM_dutyLife_22 624 a (lM_dutyLife_22 624 a n) v G)
    rw [bM_dutyLife_22]
    simp (disch := omega) only [h0, kd_625, sz_625, w32_r, true_and, le_t, lt_t, and_true, ↓reduceIte]
    refine po_ite (fun _ => ?_) (fun hz => ?_)
    · rw [vM_ends o.1.1, bdN_s]; exact PO_i rfl (OK_en o hw)
    · exfalso
      obtain ⟨x, e1, o', e2, -, -⟩ := ex_OK (code := 0) o (p := G 625 (11 + a)) ⟨by omega, hD.2.1⟩ hD.2.2 (by omega)
      have hE' := o'.1.2.1.2.2.2.1.1
      rw [sw_s] at hE'
      omega
  | succ m ih =>
    intro n v G hm hn o hw
    obtain ⟨n, rfl⟩ : ∃ k, n = k + 1 := ⟨n - 1, by omega⟩
    have h0 := o.1.1.1
    have hD := o.1.2.1.2.2.2.2.2.2.1 a ha.1 (by omega)
    show PO g (bM_dutyLife_22 624 a (lM_dutyLife_22 624 a n) v G)
    rw [bM_dutyLife_22]
    simp (disch := omega) only [h0, kd_625, sz_625, w32_r, true_and, le_t, lt_t, and_true, ↓reduceIte]
    refine po_ite (fun _ => ?_) (fun hz => ?_)
    · rw [vM_ends o.1.1, bdN_s]; exact PO_i rfl (OK_en o hw)
    · obtain ⟨x, e1, o', e2, -, -⟩ := ex_OK (code := 0) o (p := G 625 (11 + a)) ⟨by omega, hD.2.1⟩ hD.2.2 (by omega)
      have hw' : WBF (sw (exG G (G 625 (11 + a)) 0) (exF (G 625) (G 630) (G 625 (11 + a)) 0) 627) := by
        rw [sw_n (by omega), exG_n (by omega)]; exact hw
      rw [e1, bdN_s]
      have hm' : (40 - sw (exG G (G 625 (11 + a)) 0) (exF (G 625) (G 630) (G 625 (11 + a)) 0) 625 1).toNat = m := by
        rw [sw_s, e2]; omega
      exact po_ite (fun _ => ih _ _ _ hm' (by omega) o' hw') (fun _ => ih _ _ _ hm' (by omega) o' hw')
theorem oM_dutyLife (hi : MInv g) : PO g (fM_dutyLife g 624 a) := by
  have hf := fu_ge
  have o1 := o0 hi
  rw [fM_dutyLife, bnd_s, o8 hi]
  rcases vM_noDuty (g := th g 0) (a := a) (c := 1) with ⟨-, e1⟩ | ⟨h1, e1⟩
  · rw [e1, bdN_s]; exact PO_1 (OK_th o1)
  · rw [e1, bdN_s]
    refine PO_0 ?_
    rw [vM_begins o1.1.1, bdN_s]
    have hE := (OK_bg o1).1.2.1.2.2.2.1.1
    exact w_dutyLife h1 _ _ _ _ rfl (by omega) (OK_bg o1) (WBF_627 o1)
end MODEL20
