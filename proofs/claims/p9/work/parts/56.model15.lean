/-! ===== the reference's calls that change: kill, prune, exchange, undo, saved state (own work) ===== -/
def zd (G : gH) : gH := fun x => if x = 630 then fun _ => 0 else G x
section MODEL15
variable {g G : gH} {p code t c a b k q gp : Int}
theorem zd_n {x : Int} (h : ¬ x = 630) : zd G x = G x := if_neg h
theorem zd_s {i : Int} : zd G 630 i = 0 := rfl
theorem zd_sw {r : Int → Int} : zd (sw (exG G p code) r) = sw (zd G) r := by
  funext x
  by_cases h : x = 625
  · subst h
    rw [zd_n (by omega), sw_s, sw_s]
  · rw [sw_n h]
    by_cases h2 : x = 630
    · subst h2
      funext i
      rfl
    · rw [zd_n h2, zd_n h2, sw_n h, exG_n h2]
theorem OK_zd (h : OKg g G) : OKg g (zd G) := by
  obtain ⟨⟨h1, h2, h3, h4, h6, h7, h8⟩, m, i⟩ := h
  refine ⟨?_, fun x hx => (zd_n (by omega)).trans (m x hx), KI_e i (fun k k0 k1 => by rw [zd_n (by omega)]) (zd_n (by omega))⟩
  unfold MInv MS
  simp (disch := omega) only [zd_n, zd_s]
  exact ⟨h1, h2, fun _ _ _ => trivial, h4, h6, h7, h8⟩
theorem OK_z {G' : gH} (h : OKg g (zd G)) (he : ∀ x, ¬ x = 630 → G' x = G x) (hz : ∀ i, 0 ≤ i → i < 40 → G' 630 i = 0) : OKg g G' := by
  obtain ⟨⟨h1, h2, h3, h4, h6, h7, h8⟩, m, i⟩ := h
  unfold MS at h1
  simp (disch := omega) only [zd_n] at h1 h2 h4 h6 h7 h8 i
  refine ⟨?_, fun x hx => by rw [he x (by omega), ← zd_n (G := G) (show ¬ x = 630 by omega)]; exact m x hx, KI_e i (fun k k0 k1 => by rw [he 624 (by omega), zd_n (by omega)]) (by rw [he 631 (by omega), zd_n (by omega)])⟩
  unfold MInv MS
  simp (disch := omega) only [he]
  exact ⟨h1, h2, hz, h4, h6, h7, h8⟩
theorem exz_OK (h : OKg g (zd G)) (hp : 0 < p ∧ p < G 625 0) (hst : G 625 (140 + p) = 0) (hc : 0 ≤ code ∧ code ≤ 255) : ∃ v G', fM_exits G 624 p code = some (v, G') ∧ OKg g (zd G') ∧ G' 625 1 = G 625 1 + 1 ∧ (G 625 0 ≤ G' 625 0) ∧ (∀ i, 0 ≤ i → i < G 625 0 → i ≠ p → G 625 (140 + i) = 0 → G' 625 (140 + i) = 0) ∧ (∀ i, i < G 625 0 → G' 630 i = G 630 i) ∧ (∀ x, ¬ x = 625 → ¬ x = 630 → G' x = G x) := by
  have w := h.1.2.1
  rw [zd_n (by omega)] at w
  have hs : MS G := by
    have := h.1.1
    unfold MS at this ⊢
    simp (disch := omega) only [zd_n] at this
    exact this
  obtain ⟨e1, e2, e3, e4, e5, e6, e7⟩ := vM_exits (g := G) hs w.1 w.2 hp hst hc
  refine ⟨_, _, e1, ?_, by rw [sw_s]; exact e4, by rw [sw_s]; exact e5.1, fun i i0 i1 i2 i3 => by rw [sw_s]; exact e6 i i0 i1 i2 i3, fun i i0 => ?_, fun x x1 x2 => by rw [sw_n x1, exG_n x2]⟩
  · rw [zd_sw]
    exact OK_sw h ⟨e2, e3⟩
  · rw [sw_n (by omega)]
    unfold exG
    split
    · rw [pU_s, u1_n (by omega)]
    · rfl
theorem vM_kills (h : OKg g G) (hc : 0 ≤ code ∧ code ≤ 255) : ∃ v G', fM_kills G 624 gp code = some (v, G') ∧ OKg g G' ∧ (∀ x, ¬ x = 625 → ¬ x = 630 → G' x = G x) := by
  have hs := h.1.1
  have h0 := hs.1
  have h5 := hs.2.2.2.2.1
  have w := h.1.2.1
  have hM := w.1.1
  rw [fM_kills]
  simp (disch := omega) only [h0, kd_625, sz_625, true_and, le_t, lt_t, and_true, ↓reduceIte]
  -- who is doomed
  obtain ⟨G1, a1, -, -, a2, a3⟩ := for_some (L := fun n k G' => lM_kills_13 624 gp code (G 625 0) 0 n k G') (E := fun G' => lM_kills_76 624 code (G 625 0) fu 0 1 G') 40 (fun k G' => 0 ≤ k ∧ k ≤ 40 ∧ (∀ x, ¬ x = 630 → G' x = G x) ∧ ∀ i, 0 ≤ i → i < k → (G' 630 i = 0 ∨ (0 < i ∧ i < G 625 0 ∧ G 625 (140 + i) = 0))) (fun n k G' hk hI => by
    obtain ⟨k0, k1, i1, i2⟩ := hI
    have g0 : G' 624 0 = 625 := by rw [i1 624 (by omega)]; exact h0
    have g5 : G' 624 5 = 630 := by rw [i1 624 (by omega)]; exact h5
    have g25 : G' 625 = G 625 := i1 625 (by omega)
    have inv : ∀ v, (v = 0 ∨ (0 < k ∧ k < G 625 0 ∧ G 625 (140 + k) = 0)) → 0 ≤ k + 1 ∧ k + 1 ≤ 40 ∧ (∀ x, ¬ x = 630 → pU G' 630 k v x = G x) ∧ ∀ i, 0 ≤ i → i < k + 1 → (pU G' 630 k v 630 i = 0 ∨ (0 < i ∧ i < G 625 0 ∧ G 625 (140 + i) = 0)) := by
      intro v hv
      refine ⟨by omega, by omega, fun x hx => (pU_n hx).trans (i1 x hx), fun i i0 i3 => ?_⟩
      rw [pU_s]
      by_cases e : i = k
      · subst e
        rw [u1_s]
        exact hv
      · rw [u1_n e]
        exact i2 i i0 (by omega)
    have step : lM_kills_13 624 gp code (G 625 0) 0 (n + 1) k G' = bM_kills_13 624 gp code (G 625 0) 0 (lM_kills_13 624 gp code (G 625 0) 0 n) k G' := rfl
    have hr := vM_runs (g := G') (p := k) (by unfold MS; rw [i1 624 (by omega)]; exact hs) (by omega)
    rw [g25] at hr
    by_cases c1 : 0 < k
    · by_cases c2 : k < G 625 0
      · by_cases c3 : G 625 (140 + k) = 0
        · by_cases c4 : G 625 (180 + k) = gp
          · refine ⟨pU G' 630 k 1, ?_, inv 1 (Or.inr ⟨c1, c2, c3⟩)⟩
            show lM_kills_13 624 gp code (G 625 0) 0 (n + 1) k G' = _
            rw [step, bM_kills_13]
            simp (disch := omega) only [hk, c1, c2, c3, c4, hr, bdP_s, g0, g5, g25, kd_625, sz_625, kd_630, sz_630, w32_r, true_and, le_t, lt_t, and_true, ↓reduceIte, ↓bnd_s, f0]
          · refine ⟨pU G' 630 k 0, ?_, inv 0 (Or.inl rfl)⟩
            show lM_kills_13 624 gp code (G 625 0) 0 (n + 1) k G' = _
            rw [step, bM_kills_13]
            simp (disch := omega) only [hk, c1, c2, c3, c4, hr, bdP_s, g0, g5, g25, kd_625, sz_625, kd_630, sz_630, w32_r, true_and, le_t, lt_t, and_true, ↓reduceIte, ↓bnd_s, f0]
        · refine ⟨pU G' 630 k 0, ?_, inv 0 (Or.inl rfl)⟩
          show lM_kills_13 624 gp code (G 625 0) 0 (n + 1) k G' = _
          rw [step, bM_kills_13]
          simp (disch := omega) only [hk, c1, c2, c3, hr, bdP_s, g0, g5, g25, kd_625, sz_625, kd_630, sz_630, w32_r, true_and, le_t, lt_t, and_true, ↓reduceIte, ↓bnd_s, f0]
      · refine ⟨pU G' 630 k 0, ?_, inv 0 (Or.inl rfl)⟩
        show lM_kills_13 624 gp code (G 625 0) 0 (n + 1) k G' = _
        rw [step, bM_kills_13]
        simp (disch := omega) only [hk, c1, c2, g0, g5, kd_630, sz_630, w32_r, true_and, le_t, lt_t, and_true, ↓reduceIte, ↓bnd_s]
    · refine ⟨pU G' 630 k 0, ?_, inv 0 (Or.inl rfl)⟩
      show lM_kills_13 624 gp code (G 625 0) 0 (n + 1) k G' = _
      rw [step, bM_kills_13]
      simp (disch := omega) only [hk, c1, g0, g5, kd_630, sz_630, w32_r, true_and, le_t, lt_t, and_true, ↓reduceIte, ↓bnd_s]) (fun n k G' hk hI => by
    show bM_kills_13 624 gp code (G 625 0) 0 (lM_kills_13 624 gp code (G 625 0) 0 n) k G' = _
    rw [bM_kills_13, if_neg hk]) 40 0 G fu (by omega) (by have := fu_ge; omega) ⟨by omega, by omega, fun _ _ => rfl, fun i i0 i1 => absurd i0 (by omega)⟩
  have z1 : zd G1 = zd G := by
    funext x
    by_cases hx : x = 630
    · subst hx; rfl
    · rw [zd_n hx, zd_n hx, a2 x hx]
  -- they exit
  obtain ⟨⟨n2, G2⟩, b1, -, b2, b3, b4, b5⟩ := for_some (L := fun n k (s : Int × gH) => lM_kills_76 624 code (G 625 0) n s.1 k s.2) (E := fun s => lM_kills_128 624 s.1 fu 0 s.2) (G 625 0) (fun k s => 1 ≤ k ∧ OKg g (zd s.2) ∧ G 625 0 ≤ s.2 625 0 ∧ (∀ i, k ≤ i → i < G 625 0 → s.2 630 i = 0 ∨ (0 < i ∧ s.2 625 (140 + i) = 0)) ∧ (∀ x, ¬ x = 625 → ¬ x = 630 → s.2 x = G x)) (fun n k s hk hI => by
    obtain ⟨n0, G'⟩ := s
    obtain ⟨k0, i1, i2, i3, i4⟩ := hI
    have i2 : G 625 0 ≤ G' 625 0 := i2
    have i1 : OKg g (zd G') := i1
    have i4 : ∀ x, ¬ x = 625 → ¬ x = 630 → G' x = G x := i4
    have i3 : ∀ i, k ≤ i → i < G 625 0 → G' 630 i = 0 ∨ (0 < i ∧ G' 625 (140 + i) = 0) := i3
    have g5 : G' 624 5 = 630 := by rw [i4 624 (by omega) (by omega)]; exact h5
    have step : lM_kills_76 624 code (G 625 0) (n + 1) n0 k G' = bM_kills_76 624 code (G 625 0) (lM_kills_76 624 code (G 625 0) n) n0 k G' := rfl
    by_cases c1 : G' 630 k = 0
    · refine ⟨(n0, G'), ?_, by omega, i1, i2, fun i j0 j1 => i3 i (by omega) j1, i4⟩
      show lM_kills_76 624 code (G 625 0) (n + 1) n0 k G' = _
      rw [step, bM_kills_76]
      simp (disch := omega) only [hk, c1, g5, kd_630, sz_630, w32_r, true_and, le_t, lt_t, and_true, ↓reduceIte]
    · have hst : G' 625 (140 + k) = 0 := by
        rcases i3 k (by omega) hk with e | e
        · exact absurd e c1
        · exact e.2
      obtain ⟨v, G3, e1, e2, e3, e4, e5, e6, e7⟩ := exz_OK (code := code) i1 (p := k) (by omega) hst hc
      have inv : 1 ≤ k + 1 ∧ OKg g (zd G3) ∧ G 625 0 ≤ G3 625 0 ∧ (∀ i, k + 1 ≤ i → i < G 625 0 → G3 630 i = 0 ∨ (0 < i ∧ G3 625 (140 + i) = 0)) ∧ (∀ x, ¬ x = 625 → ¬ x = 630 → G3 x = G x) := by
        refine ⟨by omega, e2, by omega, fun i j0 j1 => ?_, fun x x1 x2 => (e7 x x1 x2).trans (i4 x x1 x2)⟩
        rcases i3 i (by omega) j1 with e | e
        · left; rw [e6 i (by omega)]; exact e
        · right; exact ⟨e.1, e5 i (by omega) (by omega) (by omega) e.2⟩
      by_cases c2 : v < 0
      · refine ⟨(w32 (n0 + 0), G3), ?_, inv⟩
        show lM_kills_76 624 code (G 625 0) (n + 1) n0 k G' = _
        rw [step, bM_kills_76]
        simp (disch := omega) only [hk, c1, c2, g5, kd_630, sz_630, w32_r (show -2147483648 ≤ k + 1 ∧ k + 1 < 2147483648 by omega), true_and, le_t, lt_t, and_true, ↓reduceIte, e1, bdN_s]
      · refine ⟨(w32 (n0 + 1), G3), ?_, inv⟩
        show lM_kills_76 624 code (G 625 0) (n + 1) n0 k G' = _
        rw [step, bM_kills_76]
        simp (disch := omega) only [hk, c1, c2, g5, kd_630, sz_630, w32_r (show -2147483648 ≤ k + 1 ∧ k + 1 < 2147483648 by omega), true_and, le_t, lt_t, and_true, ↓reduceIte, e1, bdN_s]) (fun n k s hk hI => by
    obtain ⟨n0, G'⟩ := s
    show bM_kills_76 624 code (G 625 0) (lM_kills_76 624 code (G 625 0) n) n0 k G' = _
    rw [bM_kills_76, if_neg hk]) (G 625 0 - 1).toNat 1 (0, G1) fu (by omega) (by have := fu_ge; omega) ⟨by omega, by
      show OKg g (zd G1)
      rw [z1]; exact OK_zd h, by
      show G 625 0 ≤ G1 625 0
      rw [a2 625 (by omega)]; exact Int.le_refl _, fun i j0 j1 => by
      show G1 630 i = 0 ∨ (0 < i ∧ G1 625 (140 + i) = 0)
      rw [a2 625 (by omega)]
      rcases a3 i (by omega) (by omega) with e | e
      · exact Or.inl e
      · exact Or.inr ⟨e.1, e.2.2⟩, fun x x1 x2 => a2 x x2⟩
  have b3 : OKg g (zd G2) := b2
  have b6 : ∀ x, ¬ x = 625 → ¬ x = 630 → G2 x = G x := b5
  -- nobody is doomed any more
  obtain ⟨G4, d1, -, -, d2, d3⟩ := for_some (L := fun n k G' => lM_kills_128 624 n2 n k G') (E := fun G' => some (n2, G')) 40 (fun k G' => 0 ≤ k ∧ k ≤ 40 ∧ (∀ x, ¬ x = 630 → G' x = G2 x) ∧ ∀ i, 0 ≤ i → i < k → G' 630 i = 0) (fun n k G' hk hI => by
    obtain ⟨k0, k1, i1, i2⟩ := hI
    have g5 : G' 624 5 = 630 := by rw [i1 624 (by omega), b6 624 (by omega) (by omega)]; exact h5
    refine ⟨pU G' 630 k 0, ?_, by omega, by omega, fun x hx => (pU_n hx).trans (i1 x hx), fun i i0 i3 => ?_⟩
    · show bM_kills_128 624 n2 (lM_kills_128 624 n2 n) k G' = _
      rw [bM_kills_128]
      simp (disch := omega) only [hk, g5, kd_630, sz_630, w32_r, true_and, le_t, lt_t, and_true, ↓reduceIte, ↓bnd_s]
    · rw [pU_s]
      by_cases e : i = k
      · rw [e, u1_s]
      · rw [u1_n e]; exact i2 i i0 (by omega)) (fun n k G' hk hI => by
    show bM_kills_128 624 n2 (lM_kills_128 624 n2 n) k G' = _
    rw [bM_kills_128, if_neg hk]) 40 0 G2 fu (by omega) (by have := fu_ge; omega) ⟨by omega, by omega, fun _ _ => rfl, fun i i0 i1 => absurd i0 (by omega)⟩
  refine ⟨n2, G4, ?_, OK_z b3 d2 (fun i i0 i1 => d3 i i0 (by omega)), fun x x1 x2 => (d2 x x2).trans (b6 x x1 x2)⟩
  rw [a1]
  exact b1.trans d1
theorem oM_kill (hi : MInv g) : PO g (fM_kill g 624 a code) := by
  rw [fM_kill]
  rcases vM_noKill (g := g) (a := a) (code := code) with ⟨-, e⟩ | ⟨h1, e⟩
  · rw [e, bdN_s]; exact PO_1 (OK_th (OK_r hi))
  · rw [e, bdN_s]
    refine PO_0 ?_
    obtain ⟨G, r1, r2, r3, r4, -⟩ := OK_rem (OK_th (t := 0) (OK_r hi))
    obtain ⟨v, G', e1, e2, -⟩ := vM_kills (gp := a) r2 h1.2
    rw [r1, bdN_s, e1, bdN_s]
    exact PO_i rfl e2
/-- the lowest running one below -/
theorem vM_lowest (hs : MS G) (hb : WB (G 625)) : ∃ c, fM_lowestBelow G 624 p = some c ∧ (c = -1 ∨ ((0 < c ∧ c < G 625 0) ∧ G 625 (140 + c) = 0 ∧ OV (up (G 625)) p c = true)) := by
  have h0 := hs.1
  have hM := hb.1
  obtain ⟨b', e1, -, e2⟩ := for_some (L := fun n k b => lM_lowestBelow_4 G 624 p n b k) (E := some) (G 625 0) (fun k b => 1 ≤ k ∧ (b = -1 ∨ ((0 < b ∧ b < G 625 0) ∧ G 625 (140 + b) = 0 ∧ OV (up (G 625)) p b = true))) (fun n k b hk hI => by
    obtain ⟨k0, i1⟩ := hI
    have step : lM_lowestBelow_4 G 624 p (n + 1) b k = bM_lowestBelow_4 G 624 p (lM_lowestBelow_4 G 624 p n) b k := rfl
    have hr := vM_runs (g := G) (p := k) hs (by omega)
    have hov := vM_isOver (g := G) (p := p) (x := k) hs (hb.2.2.1 k (by omega) hk)
    have hd := vM_deep (g := G) (x := k) hs (hb.2.2.1 k (by omega) hk)
    show ∃ s', lM_lowestBelow_4 G 624 p (n + 1) b k = _ ∧ _
    rw [step, bM_lowestBelow_4]
    simp (disch := omega) only [h0, kd_625, sz_625, w32_r, true_and, le_t, lt_t, and_true, ↓reduceIte, hr, hov, hd, bdP_s, hk]
    by_cases c1 : G 625 (140 + k) = 0
    · cases c2 : OV (up (G 625)) p k with
      | false =>
        simp only [c1, if_true, f0, if_false, Bool.false_eq_true]
        exact ⟨b, rfl, i1⟩
      | true =>
        simp only [c1, if_true, f0, if_false]
        have hk2 : k = -1 ∨ ((0 < k ∧ k < G 625 0) ∧ G 625 (140 + k) = 0 ∧ OV (up (G 625)) p k = true) := Or.inr ⟨by omega, c1, c2⟩
        by_cases c3 : b = -1
        · simp only [if_pos c3]
          exact ⟨k, rfl, hk2⟩
        · simp only [if_neg c3]
          rcases i1 with e | e
          · exact absurd e c3
          · have hdb := vM_deep (g := G) (x := b) hs (hb.2.2.1 b (by omega) e.1.2)
            simp only [hdb, bdP_s]
            split
            · exact ⟨b, rfl, Or.inr e⟩
            · exact ⟨k, rfl, hk2⟩
    · simp only [c1, if_true, if_false]
      exact ⟨b, rfl, i1⟩) (fun n k b hk hI => by
    show bM_lowestBelow_4 G 624 p (lM_lowestBelow_4 G 624 p n) b k = some b
    rw [bM_lowestBelow_4]
    simp (disch := omega) only [h0, kd_625, sz_625, true_and, le_t, lt_t, lt_f, and_true, ↓reduceIte]) (G 625 0 - 1).toNat 1 (-1) fu (by omega) (by have := fu_ge; omega) ⟨by omega, Or.inl rfl⟩
  exact ⟨b', e1, e2⟩
theorem vM_prune_l (hc : 0 ≤ code ∧ code ≤ 255) : ∀ (m n : Nat) (n0 c : Int) (G : gH), OKg g G → 40 - G 625 1 = m → m < n → (c = -1 ∨ ((0 < c ∧ c < G 625 0) ∧ G 625 (140 + c) = 0 ∧ OV (up (G 625)) p c = true)) → PO g (lM_prune_68 624 p code n n0 c G) := by
  intro m
  induction m with
  | zero =>
    intro n n0 c G h hm hn hcc
    have w := h.1.2.1
    have := NX_bd w.1.1 w.2.1.2 w.2.2.2.2.2.1
    have := w.1.1
    omega
  | succ m ih =>
    intro n n0 c G h hm hn hcc
    obtain ⟨n, rfl⟩ : ∃ j, n = j + 1 := ⟨n - 1, by omega⟩
    have step : lM_prune_68 624 p code (n + 1) n0 c G = bM_prune_68 624 p code (lM_prune_68 624 p code n) n0 c G := rfl
    rw [step, bM_prune_68]
    rcases hcc with e | ⟨e1, e2, e3⟩
    · rw [if_pos e]; exact PO_i rfl h
    · rw [if_neg (by omega)]
      obtain ⟨v, x1, x2, x3, x4, x5⟩ := ex_OK (code := code) h e1 e2 hc
      have w := x2.1.2.1
      obtain ⟨c', l1, l2⟩ := vM_lowest (p := p) x2.1.1 w.1
      have x3' : sw (exG G c code) (exF (G 625) (G 630) c code) 625 1 = G 625 1 + 1 := by rw [sw_s]; exact x3
      rw [x1, bdN_s]
      split
      · rw [l1, bdP_s]
        exact ih n _ c' _ x2 (by omega) (by omega) l2
      · rw [l1, bdP_s]
        exact ih n _ c' _ x2 (by omega) (by omega) l2
theorem oM_prune (hi : MInv g) : PO g (fM_prune g 624 p code) := by
  rw [fM_prune, vM_noProcess hi]
  have hM := hi.2.1.1.1
  have o1 := OK_th (t := 0) (OK_r hi)
  by_cases h : 0 ≤ p ∧ p < g 625 0
  · simp only [if_pos h, bdN_s, if_true, vM_inRange, bdP_s]
    by_cases hc : 0 ≤ code ∧ code ≤ 255
    · simp only [if_pos hc, f0, if_false, jM_prune_25, kd_c624, if_true, vM_fails (Or.inl rfl), bdN_s]
      have hr := vM_runs (g := th g 0) (p := p) o1.1.1 (by omega)
      by_cases h2 : (th g 0) 625 (140 + p) = 0
      · simp only [hr, h2, bdP_s, if_true, f0, if_false, jM_prune_46, kd_c624, vM_fails (Or.inl rfl), bdN_s]
        obtain ⟨G, r1, r2, r3, r4, -⟩ := OK_rem o1
        have w := r2.1.2.1
        obtain ⟨c', l1, l2⟩ := vM_lowest (p := p) r2.1.1 w.1
        have hn := NX_bd w.1.1 w.2.1.2 w.2.2.2.2.2.1
        have hM2 := w.1.1
        rw [r1, bdN_s, l1, bdP_s]
        exact vM_prune_l hc (40 - G 625 1).toNat fu 0 c' G r2 (by omega) (by have := fu_ge; omega) l2
      · simp only [hr, h2, bdP_s, if_true, f0, if_false, jM_prune_46, kd_c624, vM_fails (Or.inr rfl), bdN_s]
        exact PO_i rfl (OK_th o1)
    · simp only [if_neg hc, if_true, jM_prune_25, kd_c624, vM_fails (Or.inr rfl), bdN_s, f0, if_false]
      exact PO_i rfl (OK_th o1)
  · simp only [if_neg h, bdN_s]
    exact PO_1 (OK_th (OK_r hi))
end MODEL15
