/-! ===== loops of both over the processes; undoing, saving, restoring, in both (own work) ===== -/
section PAR33
variable {g g' G G' H H' K : gH} {r r' d d' dm : Int → Int} {a b c e i j k l m n o p q s t u v w x y z S T gp code : Int}
/-- two loops, the class's over all 40, the reference's over those that have come -/
theorem loops2 {σ τ X Y : Type} {LC : Nat → Int → σ → X} {LM : Nat → Int → τ → Y} {EC : σ → X} {EM : τ → Y} {s0 : σ} {t0 : τ} (M lo : Int) (Rel : Int → σ → τ → Prop) (hM : 0 ≤ lo ∧ lo ≤ M ∧ M ≤ 40) (h0 : ∀ n k, 0 ≤ k → k < lo → LC (n + 1) k s0 = LC n (k + 1) s0) (hs : ∀ n n' k s t, lo ≤ k → k < M → Rel k s t → ∃ s' t', LC (n + 1) k s = LC n (k + 1) s' ∧ LM (n' + 1) k t = LM n' (k + 1) t' ∧ Rel (k + 1) s' t') (hk : ∀ n k s t, M ≤ k → k < 40 → Rel M s t → LC (n + 1) k s = LC n (k + 1) s) (eC : ∀ n s t, Rel M s t → LC (n + 1) 40 s = EC s) (eM : ∀ n s t, Rel M s t → LM (n + 1) M t = EM t) (hr : Rel lo s0 t0) : ∃ s t, LC fu 0 s0 = EC s ∧ LM fu lo t0 = EM t ∧ Rel M s t := by
  have hfu := fu_ge
  have front : ∀ (m n : Nat) (k : Int), (lo - k).toNat = m → 0 ≤ k → k ≤ lo → LC (n + m) k s0 = LC n lo s0 := by
    intro m
    induction m with
    | zero => intro n k hm k0 k1; rw [show k = lo by omega]; rfl
    | succ m ih => intro n k hm k0 k1; rw [show n + (m + 1) = (n + m) + 1 by omega, h0 _ k k0 (by omega)]; exact ih n (k + 1) (by omega) (by omega) (by omega)
  have back : ∀ (m n : Nat) (k : Int) (s : σ) (t : τ), (40 - k).toNat = m → m < n → M ≤ k → k ≤ 40 → Rel M s t → LC n k s = EC s := by
    intro m
    induction m with
    | zero =>
      intro n k s t hm hn k0 k1 hr
      obtain ⟨n, rfl⟩ : ∃ j, n = j + 1 := ⟨n - 1, by omega⟩
      rw [show k = 40 by omega]; exact eC n s t hr
    | succ m ih =>
      intro n k s t hm hn k0 k1 hr
      obtain ⟨n, rfl⟩ : ∃ j, n = j + 1 := ⟨n - 1, by omega⟩
      rw [hk n k s t k0 (by omega) hr]
      exact ih n (k + 1) s t (by omega) (by omega) (by omega) (by omega) hr
  have mid : ∀ (m n n' : Nat) (k : Int) (s : σ) (t : τ), (M - k).toNat = m → (40 - k).toNat < n → m < n' → lo ≤ k → k ≤ M → Rel k s t → ∃ s' t', LC n k s = EC s' ∧ LM n' k t = EM t' ∧ Rel M s' t' := by
    intro m
    induction m with
    | zero =>
      intro n n' k s t hm hn hn' k0 k1 hr
      obtain ⟨n', rfl⟩ : ∃ j, n' = j + 1 := ⟨n' - 1, by omega⟩
      have ek : k = M := by omega
      rw [ek] at hr hn ⊢
      exact ⟨s, t, back _ n M s t rfl hn (by omega) (by omega) hr, eM n' s t hr, hr⟩
    | succ m ih =>
      intro n n' k s t hm hn hn' k0 k1 hr
      obtain ⟨n, rfl⟩ : ∃ j, n = j + 1 := ⟨n - 1, by omega⟩
      obtain ⟨n', rfl⟩ : ∃ j, n' = j + 1 := ⟨n' - 1, by omega⟩
      obtain ⟨s1, t1, x1, x2, x3⟩ := hs n n' k s t k0 (by omega) hr
      rw [x1, x2]
      exact ih n n' (k + 1) s1 t1 (by omega) (by omega) (by omega) (by omega) (by omega) x3
  obtain ⟨f, ef⟩ : ∃ f, fu = f + lo.toNat := ⟨fu - lo.toNat, by omega⟩
  have e1 : LC fu 0 s0 = LC f lo s0 := by
    rw [ef]
    exact front lo.toNat f 0 (by omega) (by omega) (by omega)
  rw [e1]
  exact mid _ f fu lo s0 t0 rfl (by omega) (by omega) (by omega) (by omega) hr
/-- counting over all 40, and over those that have come -/
theorem cn_cut {P Q : Int → Bool} {M : Int} (hM : 0 ≤ M ∧ M ≤ 40) (h1 : ∀ k, 0 ≤ k → k < M → P k = Q k) (h2 : ∀ k, M ≤ k → k < 40 → P k = false) : cn P 40 0 = cn Q M.toNat 0 := by
  have cut : ∀ (m : Nat) (k : Int), 0 ≤ k → (40 - k).toNat = m → cn P m k = cn Q (M - k).toNat k := by
    intro m
    induction m with
    | zero => intro k k0 hm; rw [show (M - k).toNat = 0 by omega]; rfl
    | succ m ih =>
      intro k k0 hm
      rw [cn_s, ih (k + 1) (by omega) (by omega)]
      by_cases c1 : k < M
      · rw [show (M - k).toNat = (M - (k + 1)).toNat + 1 by omega, cn_s, h1 k k0 c1]
      · rw [show (M - k).toNat = 0 by omega, show (M - (k + 1)).toNat = 0 by omega, h2 k (by omega) (by omega)]
        rfl
  rw [cut 40 0 (by omega) (by omega), Int.sub_zero]
/-- how many are in a state -/
theorem qT_count (h : QQ S G r d) (hs : ¬ a = 3) : fT_countInState G S a = some (cn (fun c => decide (r (140 + c) = a)) (r 0).toNat 0) := by
  have hb := QQ_b h
  have hfu := fu_ge
  have l := cnt_loop (L := fun n k x => lT_countInState_14 G a (S + 2) 40 n x k) (E := some) (fun k => decide (k < r 0 ∧ r (140 + k) = a)) 40 0 (by omega) (fun n k x h1 h2 h3 h4 => by
    show bT_countInState_14 G a (S + 2) 40 (lT_countInState_14 G a (S + 2) 40 n) x k = _
    rw [bT_countInState_14, if_pos h2, if_pos ⟨kdT2 h.1, h1, by rw [szT2 h.1]; omega⟩, TS_p h.2.1.1 (by omega), if_pos (kdp h.1 (by omega)), w32_r (x := k + 1) (by omega), w32_r (x := x + 1) (by omega)]
    by_cases c1 : k < r 0
    · rw [QQ_st h ⟨h1, c1⟩]
      by_cases c2 : r (140 + k) = a
      · rw [if_pos c2, if_pos (decide_eq_true ⟨c1, c2⟩)]
      · rw [if_neg c2, if_neg (fun z => c2 (of_decide_eq_true z).2), Int.add_zero]
    · rw [QQ_out h (by omega), if_neg (fun z => hs z.symm), if_neg (fun z => c1 (of_decide_eq_true z).1), Int.add_zero]) (fun n k x h1 h2 => by
    show bT_countInState_14 G a (S + 2) 40 (lT_countInState_14 G a (S + 2) 40 n) x k = _
    rw [bT_countInState_14, if_neg h2]) 40 0 0 fu (by omega) (by omega) (by omega) (by omega) (by omega)
  have l : lT_countInState_14 G a (S + 2) 40 fu 0 0 = some (0 + cn (fun k => decide (k < r 0 ∧ r (140 + k) = a)) 40 0) := l
  rw [fT_countInState, TS_1 h.2.1.1, if_pos (kdT2 h.1), szT2 h.1, l, Int.zero_add, cn_cut (Q := fun c => decide (r (140 + c) = a)) (M := r 0) (by omega) (fun k k0 k1 => by
    by_cases c2 : r (140 + k) = a
    · rw [decide_eq_true c2, decide_eq_true ⟨k1, c2⟩]
    · rw [decide_eq_false c2, decide_eq_false (fun z => c2 z.2)]) (fun k k0 k1 => decide_eq_false (fun z => by omega))]
/-- what a call of both answers that never throws -/
def JN (P : Prop) (X Y : Option (Int × gH)) : Prop := ∃ v w G H, X = some (v, G) ∧ Y = some (w, H) ∧ JA G H ∧ H 624 8 = 0 ∧ (P → v = w)
theorem JN_i {P : Prop} (h : JA G H) (e : H 624 8 = 0) (hv : P → v = w) : JN P (some (v, G)) (some (w, H)) := ⟨v, w, G, H, rfl, rfl, h, e, hv⟩
theorem pop_c (h : CInv G) (hn : ¬ G 133 1 = 0) (hm : 1 ≤ G 133 1 ∧ G 133 1 ≤ 10) (h2 : 0 ≤ G 133 2 ∧ G 133 2 ≤ 10) (q : QZ (135 + 44 * ((G 133 2 + 9) % 10)) G r) : ∃ G', fH_pop G 133 1 = some (1, G') ∧ QZ 1 G' r ∧ G' 133 1 = G 133 1 - 1 ∧ G' 133 2 = (G 133 2 + 9) % 10 ∧ ∀ x, ¬ x = 133 → ¬ (1 ≤ x ∧ x < 45) → G' x = G x := by
  have l31 : ∀ K, CInv K → K 133 1 = G 133 1 → 1 ≤ K 133 2 ∧ K 133 2 ≤ 10 → QZ (135 + 44 * (K 133 2 - 1)) K r → ∃ G', jH_pop_31 K 133 1 = some (1, G') ∧ QZ 1 G' r ∧ G' 133 1 = G 133 1 - 1 ∧ G' 133 2 = K 133 2 - 1 ∧ ∀ x, ¬ x = 133 → ¬ (1 ≤ x ∧ x < 45) → G' x = K x := by
    intro K h e1 hk q
    have w := CO_w (a := 133) (b := 1) (v := G 133 1 - 1) (CO_w (a := 133) (b := 2) (v := K 133 2 - 1) (CO_r h) (by omega)) (by omega)
    have f1 : pU K 133 2 (K 133 2 - 1) 133 1 = G 133 1 := by rw [pU_y (by omega)]; exact e1
    have f2 : pU (pU K 133 2 (K 133 2 - 1)) 133 1 (G 133 1 - 1) 133 2 = K 133 2 - 1 := by rw [pU_y (by omega), pU_s, u1_s]
    have f3 : pU (pU K 133 2 (K 133 2 - 1)) 133 1 (G 133 1 - 1) 133 1 = G 133 1 - 1 := by rw [pU_s, u1_s]
    have f4 : ∀ x, ¬ x = 133 → pU (pU K 133 2 (K 133 2 - 1)) 133 1 (G 133 1 - 1) x = K x := fun x hx => by rw [pU_n hx, pU_n hx]
    rw [jH_pop_31, bnd_s, w32_r (x := K 133 2 - 1) (by omega), bnd_s, f1, w32_r (x := G 133 1 - 1) (by omega)]
    generalize pU (pU K 133 2 (K 133 2 - 1)) 133 1 (G 133 1 - 1) = A at *
    have hs := w.1.1
    have hT := Tk (k := K 133 2 - 1) (by omega)
    obtain ⟨B, b1, b2, b3⟩ := wT_take (QQ_eq q (fun x x0 x1 => f4 x (by omega))) (w.1.2.1 1 T1) T1 (by omega)
    rw [hs.2.1, f2, if_pos ⟨kd_134, by omega, by rw [sz_134]; omega⟩, hs.2.2.1 _ (by omega) (by omega), if_pos (kdT T1), b1, bdN_s]
    exact ⟨B, rfl, b3, by rw [b2 133 (by omega)]; exact f3, by rw [b2 133 (by omega)]; exact f2, fun x x0 x1 => (b2 x (by omega)).trans (f4 x x0)⟩
  have l25 : (G 133 2 + 9) % 10 = 9 → ∃ G', jH_pop_25 G 133 1 = some (1, G') ∧ QZ 1 G' r ∧ G' 133 1 = G 133 1 - 1 ∧ G' 133 2 = 9 ∧ ∀ x, ¬ x = 133 → ¬ (1 ≤ x ∧ x < 45) → G' x = G x := by
    intro e9
    have e2 : pU G 133 2 10 133 2 = 10 := by rw [pU_s, u1_s]
    rw [e9] at q
    obtain ⟨G', x1, x2, x3, x4, x5⟩ := l31 (pU G 133 2 10) (CO_w (CO_r h) (by omega)).1 (pU_y (by omega)) (by omega) (by rw [e2]; exact QQ_eq q (fun x x0 x1 => pU_n (by omega)))
    rw [jH_pop_25, bnd_s]
    exact ⟨G', x1, x2, x3, by rw [x4, e2]; rfl, fun x x0 x1 => (x5 x x0 x1).trans (pU_n x0)⟩
  rw [fH_pop, if_neg hn]
  by_cases c : 0 < G 133 2
  · rw [if_pos c, if_neg (by omega)]
    have e : (G 133 2 + 9) % 10 = G 133 2 - 1 := by omega
    rw [e] at q ⊢
    exact l31 G h rfl (by omega) q
  · rw [if_neg c]
    have e : (G 133 2 + 9) % 10 = 9 := by omega
    rw [e]
    exact l25 e
theorem jo_undo (h : JA G H) : JN True (fC_undo G 0) (fM_undo H 624) := by
  have o1 := JA_th (t := 0) h
  have e8 : pU H 624 8 0 = th H 0 := rfl
  obtain ⟨vM, HM, m1, m2, -⟩ := oM_undo h.2.1
  rw [fM_undo, bnd_s, e8] at m1
  rw [fC_undo, ja3 h, if_pos kd_133, ja0 h, fM_undo, bnd_s, e8]
  obtain ⟨h1, h2, h3, ⟨r1, r2, r3, r4⟩, h5, h6⟩ := o1
  have t8 : th H 0 624 8 = 0 := th8
  generalize th H 0 = H0 at *
  by_cases c : H0 624 6 = 0
  · rw [if_pos c, fH_pop, if_pos (by rw [r1]; exact c), bdN_s, if_pos rfl]
    exact JN_i ⟨h1, h2, h3, ⟨r1, r2, r3, r4⟩, h5, h6⟩ t8 (fun _ => rfl)
  · have last := r4 (H0 624 6 - 1) (by omega) (by omega)
    rw [show (G 133 2 + 10 - H0 624 6 + (H0 624 6 - 1)) % 10 = (G 133 2 + 9) % 10 by omega] at last
    obtain ⟨G', x1, x2, x3, x4, x5⟩ := pop_c h1 (by rw [r1]; exact c) (by rw [r1]; omega) r3 last
    obtain ⟨v, X, t1, t2⟩ := tH_pop (CO_r h1)
    rw [x1] at t1
    cases t1
    have h0 := h2.1.1
    have h29 := h2.1.2.2.2.1
    have a0 : pU H0 624 6 (H0 624 6 - 1) 624 0 = 625 := by rw [pU_y (by omega)]; exact h0
    have a4 : pU H0 624 6 (H0 624 6 - 1) 624 4 = 629 := by rw [pU_y (by omega)]; exact h29
    have a6 : pU H0 624 6 (H0 624 6 - 1) 624 6 = H0 624 6 - 1 := by rw [pU_s, u1_s]
    have hc := vM_copies (g := pU H0 624 6 (H0 624 6 - 1)) (a := 629) (x := 780 * (H0 624 6 - 1)) (b := 625) (y := 0) (n := 780) ⟨kd_629, kd_625⟩ (by rw [sz_629]; omega) (by rw [sz_625]; omega) (by omega) (Or.inl (by omega))
    rw [if_neg c, bnd_s, w32_r (x := H0 624 6 - 1) (by omega), a0, a4, a6, opI_mul, w32_r (by omega), hc, bdN_s] at m1 ⊢
    have em : HM = cpG (pU H0 624 6 (H0 624 6 - 1)) 629 (780 * (H0 624 6 - 1)) 625 0 780 := by cases m1; rfl
    rw [em] at m2
    have c133 : G' 0 3 = 133 := by rw [x5 0 (by omega) (by omega)]; exact ja3 h
    have k6 : cpG (pU H0 624 6 (H0 624 6 - 1)) 629 (780 * (H0 624 6 - 1)) 625 0 780 624 6 = H0 624 6 - 1 := by rw [cpG_n (by omega)]; exact a6
    have ky : ∀ y, ¬ y = 6 → cpG (pU H0 624 6 (H0 624 6 - 1)) 629 (780 * (H0 624 6 - 1)) 625 0 780 624 y = H0 624 y := fun y hy => by rw [cpG_n (by omega), pU_y hy]
    have kx : ∀ x, ¬ x = 624 → ¬ x = 625 → cpG (pU H0 624 6 (H0 624 6 - 1)) 629 (780 * (H0 624 6 - 1)) 625 0 780 x = H0 x := fun x hx hy => by rw [cpG_n hy, pU_n hx]
    have kr : ∀ k, 0 ≤ k → k < 780 → cpG (pU H0 624 6 (H0 624 6 - 1)) 629 (780 * (H0 624 6 - 1)) 625 0 780 625 k = H0 629 (780 * (H0 624 6 - 1) + k) := fun k k0 k1 => by
      unfold cpG
      rw [if_pos ⟨rfl, by omega, by omega⟩, pU_n (by omega), show (780 * (H0 624 6 - 1) + k - 0 : Int) = 780 * (H0 624 6 - 1) + k by omega]
    generalize cpG (pU H0 624 6 (H0 624 6 - 1)) 629 (780 * (H0 624 6 - 1)) 625 0 780 = H1 at *
    rw [x1, bdN_s, if_neg f0, c133, if_pos kd_133, x3, r1, k6]
    have wl := WBF_1 (h2.2.2.2.1.2 (H0 624 6 - 1) (by omega) (by omega))
    refine JN_i ⟨t2.1, m2, QQ_ext x2 (by omega) kr, ⟨by rw [x3, r1, k6], by rw [k6]; omega, by rw [x4]; omega, fun j j0 j1 => ?_⟩, ?_, ?_⟩ (by rw [ky 8 (by omega)]; exact t8) (fun _ => rfl)
    · rw [k6] at j1
      rw [x4, k6, kx 629 (by omega) (by omega), show ((G 133 2 + 9) % 10 + 10 - (H0 624 6 - 1) + j) % 10 = (G 133 2 + 10 - H0 624 6 + j) % 10 by omega]
      exact QQ_eq (r4 j j0 (by omega)) (fun x y0 y1 => x5 x (by omega) (by omega))
    · exact SV_e h5 (fun x y0 y1 => x5 x (by omega) (by omega)) (by rw [x5 0 (by omega) (by omega)]) (ky 7 (by omega)) (kx 628 (by omega) (by omega))
    · exact IE_e h6 (fun x y0 y1 => x5 x (by omega) (by omega)) (fun k k0 k1 => ky k (by omega)) (kx 631 (by omega) (by omega))
theorem jo_saveState (h : JA G H) : JN True (fC_saveState G 0) (fM_saveState H 624) := by
  have o1 := JA_th (t := 0) h
  have e8 : pU H 624 8 0 = th H 0 := rfl
  obtain ⟨vM, HM, m1, m2, -⟩ := oM_saveState h.2.1
  rw [fM_saveState, bnd_s, e8] at m1
  rw [fC_saveState, ja2 h, if_pos (kdT T89), ja0 h, fM_saveState, bnd_s, e8]
  obtain ⟨h1, h2, h3, h4, h5, h6⟩ := o1
  have t8 : th H 0 624 8 = 0 := th8
  generalize th H 0 = H0 at *
  have h0 := h2.1.1
  have h28 := h2.1.2.2.1
  have hc := vM_copies (g := H0) (a := 625) (x := 0) (b := 628) (y := 0) (n := 780) ⟨kd_625, kd_628⟩ (by rw [sz_625]; omega) (by rw [sz_628]; omega) (by omega) (Or.inl (by omega))
  have k25 : pU (cpG H0 625 0 628 0 780) 624 7 1 625 = H0 625 := by rw [pU_n (by omega), cpG_n (by omega)]
  have kM : MS (pU (cpG H0 625 0 628 0 780) 624 7 1) := by
    unfold MS
    simp (disch := omega) only [cpG_n, pU_n, pU_s, u1_n, u1_s]
    exact h2.1
  have hr := vM_runningMany (g := pU (cpG H0 625 0 628 0 780) 624 7 1) kM (by rw [k25]; exact h2.2.1.1.1)
  rw [k25] at hr
  rw [h0, h28, hc, bdN_s, bnd_s, hr, bdP_s] at m1 ⊢
  have em : HM = pU (cpG H0 625 0 628 0 780) 624 7 1 := by cases m1; rfl
  rw [em] at m2
  obtain ⟨A, a1, a2, a3⟩ := wT_take h3 (h1.2.1 89 T89) T89 (by omega)
  have wA := CO_IT (CO_r h1) T89 ⟨a3.2.1, a2⟩
  have wB := CO_w (a := 0) (b := 6) (v := 1) wA (by omega)
  have f0' : ∀ x, ¬ x = 0 → pU A 0 6 1 x = A x := fun x hx => pU_n hx
  have q1 : QQ 1 (pU A 0 6 1) (H0 625) (fun _ => 0) := QQ_eq h3 (fun x x0 x1 => (f0' x (by omega)).trans (a2 x (by omega)))
  rw [a1, bdN_s, bnd_s, show pU A 0 6 1 0 0 = 1 by rw [pU_y (by omega), a2 0 (by omega)]; exact h1.1.1.1, if_pos (kdT T1), qT_count q1 (by omega), bdP_s]
  have k7 : pU (cpG H0 625 0 628 0 780) 624 7 1 624 7 = 1 := by rw [pU_s, u1_s]
  have ky : ∀ y, ¬ y = 7 → pU (cpG H0 625 0 628 0 780) 624 7 1 624 y = H0 624 y := fun y hy => by rw [pU_y hy, cpG_n (by omega)]
  have kx : ∀ x, ¬ x = 624 → ¬ x = 628 → pU (cpG H0 625 0 628 0 780) 624 7 1 x = H0 x := fun x hx hy => by rw [pU_n hx, cpG_n hy]
  have kr : ∀ k, 0 ≤ k → k < 780 → pU (cpG H0 625 0 628 0 780) 624 7 1 628 k = H0 625 k := fun k k0 k1 => by
    rw [pU_n (by omega)]
    unfold cpG
    rw [if_pos ⟨rfl, by omega, by omega⟩, show (0 + k - 0 : Int) = k by omega]
  generalize pU (cpG H0 625 0 628 0 780) 624 7 1 = H1 at *
  have w1 := WBF_1 h2.2.1
  refine JN_i ⟨wB.1, m2, by rw [k25]; exact q1, RG_e h4 (fun x x0 x1 => (f0' x (by omega)).trans (a2 x (by omega))) (ky 6 (by omega)) (kx 629 (by omega) (by omega)), ⟨by rw [pU_s, u1_s, k7], fun _ => ?_⟩, IE_e h6 (fun x x0 x1 => (f0' x (by omega)).trans (a2 x (by omega))) (fun k k0 k1 => ky k (by omega)) (kx 631 (by omega) (by omega))⟩ (by rw [ky 8 (by omega)]; exact t8) (fun _ => rfl)
  exact QQ_ext (QQ_eq a3 (fun x x0 x1 => f0' x (by omega))) (by omega) kr
theorem jo_restoreState (h : JA G H) : JO t1 True (fC_restoreState G 0) (fM_restoreState H 624) := by
  have o1 := JA_th (t := 0) h
  have o1' := o1
  have e8 : pU H 624 8 0 = th H 0 := rfl
  obtain ⟨vM, HM, m1, m2, -⟩ := oM_restoreState h.2.1
  rw [fM_restoreState, bnd_s, e8] at m1
  rw [fC_restoreState, fM_restoreState, bnd_s, e8]
  obtain ⟨h1, h2, h3, h4, h5, h6⟩ := o1
  have t8 : th H 0 624 8 = 0 := th8
  generalize th H 0 = H0 at *
  have h0 := h2.1.1
  have h28 := h2.1.2.2.1
  by_cases c : H0 624 7 = 0
  · rw [if_pos c, jM_restoreState_18, if_pos kd_c624, fl1, bdN_s, if_neg f0, h5.1.mpr c, st_n, qe2]
    exact JO_e (JA_th o1') (th8.trans rfl) (by decide)
  · have cs : fC_checkState G (G 0 6) = some (0, 0) := by rw [fC_checkState, if_neg (fun z => c (h5.1.mp z))]
    have hc := vM_copies (g := H0) (a := 628) (x := 0) (b := 625) (y := 0) (n := 780) ⟨kd_628, kd_625⟩ (by rw [sz_628]; omega) (by rw [sz_625]; omega) (by omega) (Or.inl (by omega))
    have kM : MS (pU (cpG H0 628 0 625 0 780) 624 6 0) := by
      unfold MS
      simp (disch := omega) only [cpG_n, pU_n, pU_s, u1_n, u1_s]
      exact h2.1
    have kr : ∀ k, 0 ≤ k → k < 780 → pU (cpG H0 628 0 625 0 780) 624 6 0 625 k = H0 628 k := fun k k0 k1 => by
      rw [pU_n (by omega)]
      unfold cpG
      rw [if_pos ⟨rfl, by omega, by omega⟩, show (0 + k - 0 : Int) = k by omega]
    have hq := h5.2 c
    have w8 := h2.2.2.2.2.1 c
    have hr := vM_runningMany (g := pU (cpG H0 628 0 625 0 780) 624 6 0) kM (by rw [kr 0 (by omega) (by omega)]; exact w8.1.1)
    rw [if_neg c, jM_restoreState_18, if_pos kd_c624, fl0, bdN_s, if_pos rfl, h0, h28, hc, bdN_s, bnd_s, hr, bdP_s] at m1 ⊢
    have em : HM = pU (cpG H0 628 0 625 0 780) 624 6 0 := by cases m1; rfl
    rw [em] at m2
    have k6 : pU (cpG H0 628 0 625 0 780) 624 6 0 624 6 = 0 := by rw [pU_s, u1_s]
    have ky : ∀ y, ¬ y = 6 → pU (cpG H0 628 0 625 0 780) 624 6 0 624 y = H0 624 y := fun y hy => by rw [pU_y hy, cpG_n (by omega)]
    have kx : ∀ x, ¬ x = 624 → ¬ x = 625 → pU (cpG H0 628 0 625 0 780) 624 6 0 x = H0 x := fun x hx hy => by rw [pU_n hx, cpG_n hy]
    generalize pU (cpG H0 628 0 625 0 780) 624 6 0 = H1 at *
    obtain ⟨A, a1, a2, a3⟩ := wT_take hq (h1.2.1 1 T1) T1 (by omega)
    have wA := CO_IT (CO_r h1) T1 ⟨a3.2.1, a2⟩
    have wB := CO_w (a := 133) (b := 1) (v := 0) wA (by omega)
    have fx : ∀ x, ¬ x = 133 → pU A 133 1 0 x = A x := fun x hx => pU_n hx
    have w1 := WBF_1 w8
    have q1 : QQ 1 (pU A 133 1 0) (H1 625) (fun _ => 0) := QQ_ext (QQ_eq a3 (fun x x0 x1 => fx x (by omega))) (by omega) kr
    rw [cs, bdQ_0, h1.1.1.1, h1.1.1.2.2.1, if_pos (kdT T1), a1, bdN_s, a2 0 (by omega), h1.1.1.2.2.2.1, if_pos kd_133, bnd_s, fx 0 (by omega), a2 0 (by omega), h1.1.1.1, if_pos (kdT T1), qT_count q1 (by omega), bdP_s]
    refine JO_i ⟨wB.1, m2, q1, ⟨by rw [pU_s, u1_s, k6], by rw [k6]; omega, ?_, fun j j0 j1 => absurd j1 (by rw [k6]; omega)⟩, ?_, ?_⟩ (by rw [ky 8 (by omega)]; exact t8) (fun _ => rfl)
    · rw [pU_y (by omega), a2 133 (by omega)]; exact h4.2.2.1
    · exact SV_e h5 (fun x x0 x1 => (fx x (by omega)).trans (a2 x (by omega))) (by rw [fx 0 (by omega), a2 0 (by omega)]) (ky 7 (by omega)) (kx 628 (by omega) (by omega))
    · exact IE_e h6 (fun x x0 x1 => (fx x (by omega)).trans (a2 x (by omega))) (fun k k0 k1 => ky k (by omega)) (kx 631 (by omega) (by omega))
end PAR33
