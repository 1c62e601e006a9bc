/-! ===== the reference's calls: exchange, undo, saved state, what would be (own work) ===== -/
theorem ov_keep {f : Int → Int} {c s q : Int} : ∀ {n : Nat} {i : Int}, en f n i = true → i ≠ c → ov f n c i = false → ov (u1 f c s) n q i = ov f n q i := by
  intro n
  induction n with
  | zero => intro i _ _ _; rfl
  | succ n ih =>
    intro i h hc ho
    rcases en_s.mp h with h0 | ⟨h1, h2, h3⟩
    · unfold ov
      rw [if_pos h0, if_pos h0]
    · have ho : (if i = 0 then false else if f i = c then true else ov f n c (f i)) = false := ho
      rw [if_neg (by omega)] at ho
      show (if i = 0 then false else if u1 f c s i = q then true else ov (u1 f c s) n q (u1 f c s i)) = (if i = 0 then false else if f i = q then true else ov f n q (f i))
      have hi0 : ¬ i = 0 := by omega
      rw [if_neg hi0, if_neg hi0, u1_n hc]
      by_cases hf : f i = c
      · rw [if_pos hf] at ho; cases ho
      · rw [if_neg hf] at ho
        rw [ih h3 hf ho]
theorem up_u1 {r : Int → Int} {c s : Int} : up (u1 r (60 + c) s) = u1 (up r) c s := by
  funext i
  unfold up u1
  by_cases h : i = c
  · rw [if_pos h, if_pos (by omega)]
  · rw [if_neg h, if_neg (by omega)]
section MODEL16
variable {g G : gH} {p code t c a b k q gp d : Int}
theorem OK_633 {G' : gH} (h : OKg g G) (he : ∀ x, ¬ x = 633 → G' x = G x) : OKg g G' := by
  obtain ⟨⟨h1, h2, h3, h4, h6, h7, h8⟩, m, i⟩ := h
  refine ⟨?_, fun x hx => by rw [he x (by omega)]; exact m x hx, KI_e i (fun k k0 k1 => by rw [he 624 (by omega)]) (he 631 (by omega))⟩
  unfold MInv MS
  simp (disch := omega) only [he]
  exact ⟨h1, h2, h3, h4, h6, h7, h8⟩
/-- two exchanged -/
theorem WBF_xc {r : Int → Int} (w : WBF r) (hp : 0 < p ∧ p < r 0) (hq : 0 < q ∧ q < r 0) (hpq : p ≠ q) (h1 : r (140 + p) = 0) (h2 : r (140 + q) = 0) (o1 : OV (up r) p q = false) (o2 : OV (up r) q p = false) : WBF (u1 (u1 r (60 + p) (r (60 + q))) (60 + q) (r (60 + p))) := by
  have hM := w.1.1
  have hA := w.1.2.2.1
  have hsp := w.1.2.1 p hp.1 hp.2
  have hspu : 0 ≤ up r p ∧ up r p < r 0 := hsp
  have hsq := w.1.2.1 q hq.1 hq.2
  have rp : r (140 + r (60 + p)) = 0 := w.2.2.1 p hp.1 hp.2 (by omega)
  have rq : r (140 + r (60 + q)) = 0 := w.2.2.1 q hq.1 hq.2 (by omega)
  have e1 := OV_s (p := p) (hA q (by omega) hq.2) (by omega)
  have e2 := OV_s (p := q) (hA p (by omega) hp.2) (by omega)
  rw [o1] at e1
  rw [o2] at e2
  have n1 : up r q ≠ p := by intro e; rw [if_pos e] at e1; cases e1
  have n2 : up r p ≠ q := by intro e; rw [if_pos e] at e2; cases e2
  rw [if_neg n1] at e1
  rw [if_neg n2] at e2
  have w1 : WBF (u1 r (60 + p) (r (60 + q))) := WBF_sup w hp hsq n1 e1.symm rq u1_s (fun k k1 k2 k3 k4 => u1_n k4)
  have e0 : u1 r (60 + p) (r (60 + q)) 0 = r 0 := u1_n (by omega)
  have dpp := DP_s (hA p (by omega) hp.2) (by omega)
  have nsp : up r p ≠ p := by intro e; rw [e] at dpp; omega
  have osp : OV (up r) p (up r p) = false := by
    cases ho : OV (up r) p (up r p) with
    | false => rfl
    | true =>
      have := OV_dp (hA _ hspu.1 hspu.2) ho
      omega
  refine WBF_sup w1 (c := q) (t := r (60 + p)) (by rw [e0]; exact hq) (by rw [e0]; exact hsp) n2 ?_ ?_ u1_s (fun k k1 k2 k3 k4 => u1_n k4)
  · rw [up_u1]
    show ov (u1 (up r) p (r (60 + q))) 40 q (up r p) = false
    rw [ov_keep (hA _ hspu.1 hspu.2) nsp osp]
    exact e2.symm
  · rw [u1_n (by omega)]
    exact rp
theorem oM_exchange (hi : MInv g) : PO g (fM_exchange g 624 p q) := by
  rw [fM_exchange, vM_noProcess hi]
  have hM := hi.2.1.1.1
  have o1 := OK_th (t := 0) (OK_r hi)
  have h01 := o1.1.1.1
  have e625 : (th g 0) 625 = g 625 := th_n (by omega)
  have bad : PO g (jM_exchange_71 (th g 0) 624 p q 624 1) := by
    simp only [jM_exchange_71, kd_c624, if_true, vM_fails (Or.inr rfl), bdN_s, f0, if_false]
    exact PO_i rfl (OK_th o1)
  by_cases h : 0 ≤ p ∧ p < g 625 0
  · simp only [if_pos h, bdN_s, if_true, vM_noProcess2 hi]
    by_cases hq : 0 ≤ q ∧ q < g 625 0
    · simp only [if_pos hq, bdN_s, if_true, jM_exchange_66]
      have hA := o1.1.2.1.1.2.2.1
      have hr := vM_runs (g := th g 0) (p := p) o1.1.1 (by omega)
      have hrq := vM_runs (g := th g 0) (p := q) o1.1.1 (by omega)
      have hov := vM_isOver (g := th g 0) (p := p) (x := q) o1.1.1 (hA q hq.1 (by rw [e625]; exact hq.2))
      have hov2 := vM_isOver (g := th g 0) (p := q) (x := p) o1.1.1 (hA p h.1 (by rw [e625]; exact h.2))
      by_cases h3 : p = 0
      · rw [if_pos h3]; exact bad
      · by_cases h3q : q = 0
        · rw [if_neg h3, if_pos h3q]; exact bad
        · rw [if_neg h3, if_neg h3q, hr, bdP_s]
          by_cases h4 : (th g 0) 625 (140 + p) = 0
          · simp only [if_pos h4, f0, if_false, hrq, bdP_s]
            by_cases h5 : (th g 0) 625 (140 + q) = 0
            · simp only [if_pos h5, f0, if_false]
              by_cases h6 : p = q
              · rw [if_pos h6]; exact bad
              · rw [if_neg h6, hov, bdP_s]
                cases h7 : OV (up ((th g 0) 625)) p q with
                | true => simp only [if_true, f0, if_false]; exact bad
                | false =>
                  simp only [Bool.false_eq_true, if_false, if_true, hov2, bdP_s]
                  cases h8 : OV (up ((th g 0) 625)) q p with
                  | true => simp only [if_true, f0, if_false]; exact bad
                  | false =>
                    simp only [Bool.false_eq_true, if_false, if_true, jM_exchange_71, kd_c624, vM_fails (Or.inl rfl), bdN_s]
                    obtain ⟨G, r1, r2, r3, r4, -⟩ := OK_rem o1
                    have w := r2.1.2.1
                    have h04 := r2.1.1.1
                    have h21 := r2.1.1.2.2.2.2.2.2.2.1
                    have hM1 := w.1.1
                    have hpG : 0 < p ∧ p < G 625 0 := by rw [r3, e625]; omega
                    have hqG : 0 < q ∧ q < G 625 0 := by rw [r3, e625]; omega
                    rw [r1, bdN_s]
                    obtain ⟨G1, a1, -, a2⟩ := for_some (L := fun n k G' => lM_exchange_86 624 p q n k G') (E := fun G' => jM_exchange_125 G' 624 p q) (G 625 0) (fun k G' => 0 ≤ k ∧ ∀ x, ¬ x = 633 → G' x = G x) (fun n k G' hk hI => by
                      obtain ⟨k0, i1⟩ := hI
                      have g0 : G' 624 0 = 625 := by rw [i1 624 (by omega)]; exact h04
                      have g21 : G' 624 21 = 633 := by rw [i1 624 (by omega)]; exact h21
                      have g25 : G' 625 = G 625 := i1 625 (by omega)
                      have hs' : MS G' := by unfold MS; rw [i1 624 (by omega)]; exact r2.1.1
                      have hr' := vM_runs (g := G') (p := k) hs' (by omega)
                      have hd' := vM_deep (g := G') (x := k) hs' (by rw [g25]; exact w.1.2.2.1 k k0 hk)
                      have step : lM_exchange_86 624 p q (n + 1) k G' = bM_exchange_86 624 p q (lM_exchange_86 624 p q n) k G' := rfl
                      have inv : ∀ v, 0 ≤ k + 1 ∧ ∀ x, ¬ x = 633 → pU G' 633 k v x = G x := fun v => ⟨by omega, fun x hx => (pU_n hx).trans (i1 x hx)⟩
                      rw [g25] at hr' hd'
                      by_cases c1 : G 625 (140 + k) = 0
                      · refine ⟨pU G' 633 k (DP (up (G 625)) k), ?_, inv _⟩
                        show lM_exchange_86 624 p q (n + 1) k G' = _
                        rw [step, bM_exchange_86]
                        simp (disch := omega) only [g0, g21, g25, hr', hd', c1, bdP_s, kd_625, sz_625, kd_633, sz_633, w32_r, true_and, le_t, lt_t, and_true, ↓reduceIte, ↓bnd_s, f0]
                      · refine ⟨pU G' 633 k (-1), ?_, inv _⟩
                        show lM_exchange_86 624 p q (n + 1) k G' = _
                        rw [step, bM_exchange_86]
                        simp (disch := omega) only [g0, g21, g25, hr', hd', c1, bdP_s, kd_625, sz_625, kd_633, sz_633, w32_r, true_and, le_t, lt_t, and_true, ↓reduceIte, ↓bnd_s, f0]) (fun n k G' hk hI => by
                      have g0 : G' 624 0 = 625 := by rw [hI.2 624 (by omega)]; exact h04
                      have g25 : G' 625 = G 625 := hI.2 625 (by omega)
                      show bM_exchange_86 624 p q (lM_exchange_86 624 p q n) k G' = _
                      rw [bM_exchange_86]
                      simp (disch := omega) only [g0, g25, kd_625, sz_625, true_and, le_t, lt_t, lt_f, and_true, ↓reduceIte]) (G 625 0).toNat 0 G fu (by omega) (by have := fu_ge; omega) ⟨by omega, fun _ _ => rfl⟩
                    have ok1 := OK_633 r2 a2
                    have g0 := ok1.1.1.1
                    have g25 : G1 625 = G 625 := a2 625 (by omega)
                    have w2 := WBF_xc w hpG hqG h6 (by rw [r3]; exact h4) (by rw [r3]; exact h5) (by rw [r3]; exact h7) (by rw [r3]; exact h8)
                    rw [a1, jM_exchange_125]
                    simp (disch := omega) only [g0, g25, kd_625, sz_625, w32_r, true_and, le_t, lt_t, and_true, ↓reduceIte, ↓bnd_s, pU_625, pU_sw, sw_n, sw_s, sw_sw]
                    have ok2 := OK_sw ok1 w2
                    generalize u1 (u1 (G 625) (60 + p) (G 625 (60 + q))) (60 + q) (G 625 (60 + p)) = r' at w2 ok2
                    have hM2 := w2.1.1
                    obtain ⟨v, e1, -⟩ := for_some (L := fun n k v => lM_exchange_169 (sw G1 r') 624 n v k) (E := fun v => some (v, sw G1 r')) (r' 0) (fun k _ => 0 ≤ k) (fun n k v hk hI => by
                      have hr' := vM_runs (g := sw G1 r') (p := k) ok2.1.1 (by omega)
                      have hd' := vM_deep (g := sw G1 r') (x := k) ok2.1.1 (by rw [sw_s]; exact w2.1.2.2.1 k hI hk)
                      have g21 := ok2.1.1.2.2.2.2.2.2.2.1
                      have step : lM_exchange_169 (sw G1 r') 624 (n + 1) v k = bM_exchange_169 (sw G1 r') 624 (lM_exchange_169 (sw G1 r') 624 n) v k := rfl
                      rw [sw_s] at hr' hd'
                      rw [step, bM_exchange_169]
                      simp (disch := omega) only [sw_n, sw_s, g0, kd_625, sz_625, w32_r (show -2147483648 ≤ k + 1 ∧ k + 1 < 2147483648 by omega), true_and, le_t, lt_t, and_true, ↓reduceIte, hr', bdP_s]
                      rw [sw_n (by omega)] at g21
                      by_cases c1 : r' (140 + k) = 0
                      · simp (disch := omega) only [c1, if_true, f0, if_false, hd', bdP_s, g21, kd_633, sz_633, true_and, le_t, lt_t, and_true, ↓reduceIte]
                        split
                        · exact ⟨_, rfl⟩
                        · exact ⟨_, rfl⟩
                      · simp (disch := omega) only [c1, if_true, if_false, le_t]
                        exact ⟨_, rfl⟩) (fun n k v hk hI => by
                      show bM_exchange_169 (sw G1 r') 624 (lM_exchange_169 (sw G1 r') 624 n) v k = _
                      rw [bM_exchange_169]
                      simp (disch := omega) only [sw_n, sw_s, g0, kd_625, sz_625, true_and, le_t, lt_t, lt_f, and_true, ↓reduceIte]) (r' 0).toNat 0 0 fu (by omega) (by have := fu_ge; omega) (by omega)
                    exact PO_i e1 ok2
            · simp only [if_neg h5, if_true]; exact bad
          · simp only [if_neg h4, if_true]; exact bad
    · simp only [if_neg hq, bdN_s]
      exact PO_1 (OK_th (OK_r hi))
  · simp only [if_neg h, bdN_s]
    exact PO_1 (OK_th (OK_r hi))
theorem oM_undo (hi : MInv g) : PO g (fM_undo g 624) := by
  have e : pU g 624 8 0 = th g 0 := rfl
  rw [fM_undo, bnd_s, e]
  have o1 := OK_th (t := 0) (OK_r hi)
  obtain ⟨h1, h2, h3, ⟨h4, h5⟩, h6, h7, h8⟩ := o1.1
  have h0 := h1.1
  have h29 := h1.2.2.2.1
  by_cases c6 : (th g 0) 624 6 = 0
  · rw [if_pos c6]; exact PO_i rfl o1
  · rw [if_neg c6, bnd_s, w32_r (by omega)]
    generalize hG : th g 0 = G at *
    have a0 : pU G 624 6 (G 624 6 - 1) 624 0 = 625 := by rw [pU_s, u1_n (by omega)]; exact h0
    have a4 : pU G 624 6 (G 624 6 - 1) 624 4 = 629 := by rw [pU_s, u1_n (by omega)]; exact h29
    have a6 : pU G 624 6 (G 624 6 - 1) 624 6 = G 624 6 - 1 := by rw [pU_s, u1_s]
    have hc := vM_copies (g := pU G 624 6 (G 624 6 - 1)) (a := 629) (x := 780 * (G 624 6 - 1)) (b := 625) (y := 0) (n := 780) ⟨kd_629, kd_625⟩ (by rw [sz_629]; omega) (by rw [sz_625]; omega) (by omega) (Or.inl (by omega))
    rw [a0, a4, a6, opI_mul, w32_r (by omega), hc, bdN_s]
    refine PO_i rfl ⟨?_, MF_cp (MF_pU o1.2.1 (by omega)) (by omega), KI_e o1.2.2 (fun k k0 k1 => by rw [cpG_n (by omega), pU_s, u1_n (by omega)]) (by rw [cpG_n (by omega), pU_n (by omega)])⟩
    unfold MInv MS
    simp (disch := omega) only [cpG_n, pU_n, pU_s, u1_n, u1_s]
    refine ⟨h1, WBF_ext (h5 (G 624 6 - 1) (by omega) (by omega)) (fun k k0 k1 => ?_), h3, ⟨by omega, fun j j0 j1 => h5 j j0 (by omega)⟩, h6, h7, h8⟩
    unfold cpG
    rw [if_pos ⟨rfl, by omega, by omega⟩, pU_n (by omega), show (780 * (G 624 6 - 1) + k - 0 : Int) = 780 * (G 624 6 - 1) + k by omega]
theorem oM_saveState (hi : MInv g) : PO g (fM_saveState g 624) := by
  have e : pU g 624 8 0 = th g 0 := rfl
  rw [fM_saveState, bnd_s, e]
  have o1 := OK_th (t := 0) (OK_r hi)
  obtain ⟨h1, h2, h3, ⟨h4, h5⟩, h6, h7, h8⟩ := o1.1
  have h0 := h1.1
  have h28 := h1.2.2.1
  generalize hG : th g 0 = G at *
  have hc := vM_copies (g := G) (a := 625) (x := 0) (b := 628) (y := 0) (n := 780) ⟨kd_625, kd_628⟩ (by rw [sz_625]; omega) (by rw [sz_628]; omega) (by omega) (Or.inl (by omega))
  rw [h0, h28, hc, bdN_s, bnd_s]
  have hM : MInv (pU (cpG G 625 0 628 0 780) 624 7 1) := by
    unfold MInv MS
    simp (disch := omega) only [cpG_n, pU_n, pU_s, u1_n, u1_s]
    refine ⟨h1, h2, h3, ⟨h4, h5⟩, fun _ => WBF_ext h2 (fun k k0 k1 => ?_), h7, h8⟩
    unfold cpG
    rw [if_pos ⟨rfl, by omega, by omega⟩, show (0 + k - 0 : Int) = k by omega]
  rw [vM_runningMany hM.1 (by rw [pU_n (by omega), cpG_n (by omega)]; exact h2.1.1), bdP_s]
  exact PO_i rfl ⟨hM, MF_pU (MF_cp o1.2.1 (by omega)) (by omega), KI_e o1.2.2 (fun k k0 k1 => by rw [pU_s, u1_n (by omega), cpG_n (by omega)]) (by rw [pU_n (by omega), cpG_n (by omega)])⟩
theorem oM_restoreState (hi : MInv g) : PO g (fM_restoreState g 624) := by
  have e : pU g 624 8 0 = th g 0 := rfl
  rw [fM_restoreState, bnd_s, e]
  have o1 := OK_th (t := 0) (OK_r hi)
  obtain ⟨h1, h2, h3, ⟨h4, h5⟩, h6, h7, h8⟩ := id o1.1
  have h0 := h1.1
  have h28 := h1.2.2.1
  by_cases c7 : (th g 0) 624 7 = 0
  · simp only [if_pos c7, jM_restoreState_18, kd_c624, if_true, vM_fails (Or.inr rfl), bdN_s, f0, if_false]
    exact PO_i rfl (OK_th o1)
  · simp only [if_neg c7, jM_restoreState_18, kd_c624, if_true, vM_fails (Or.inl rfl), bdN_s]
    generalize hG : th g 0 = G at *
    have hc := vM_copies (g := G) (a := 628) (x := 0) (b := 625) (y := 0) (n := 780) ⟨kd_628, kd_625⟩ (by rw [sz_628]; omega) (by rw [sz_625]; omega) (by omega) (Or.inl (by omega))
    rw [h0, h28, hc, bdN_s, bnd_s]
    have hw := h6 c7
    have hrow : WBF (cpG G 628 0 625 0 780 625) := WBF_ext hw (fun k k0 k1 => by
      unfold cpG
      rw [if_pos ⟨rfl, by omega, by omega⟩, show (0 + k - 0 : Int) = k by omega])
    have hM : MInv (pU (cpG G 628 0 625 0 780) 624 6 0) := by
      unfold MInv MS
      simp (disch := omega) only [cpG_n, pU_n, pU_s, u1_n, u1_s]
      exact ⟨h1, hrow, h3, ⟨by omega, fun j j0 j1 => absurd j0 (by omega)⟩, h6, h7, h8⟩
    rw [vM_runningMany hM.1 (by rw [pU_n (by omega)]; exact hrow.1.1), bdP_s]
    exact PO_i rfl ⟨hM, MF_pU (MF_cp o1.2.1 (by omega)) (by omega), KI_e o1.2.2 (fun k k0 k1 => by rw [pU_s, u1_n (by omega), cpG_n (by omega)]) (by rw [pU_n (by omega), cpG_n (by omega)])⟩
/-! what would be -/
theorem OK_bg (h : OKg g G) : OKg g (bgG G) := ⟨MInv_bg h.1, fun x hx => (bgG_n (by omega)).trans (h.2.1 x hx), KI_e h.2.2 (fun k k0 k1 => by rw [bgG_n (by omega)]) (bgG_n (by omega))⟩
theorem OK_en (h : OKg g G) (hw : WBF (G 627)) : OKg g (cpG G 627 0 625 0 780) := ⟨MInv_en h.1 hw, MF_cp h.2.1 (by omega), KI_e h.2.2 (fun k k0 k1 => by rw [cpG_n (by omega)]) (cpG_n (by omega))⟩
theorem WBF_627 (h : OKg g G) : WBF (bgG G 627) := WBF_ext h.1.2.1 (fun k k0 k1 => bgG_s ⟨k0, k1⟩)
theorem en_row {G' : gH} (h : G' 627 = bgG G 627) (hk : 0 ≤ k ∧ k < 780) : cpG G' 627 0 625 0 780 625 k = G 625 k := by
  unfold cpG
  rw [if_pos ⟨rfl, by omega, by omega⟩, h, show (0 + k - 0 : Int) = k by omega, bgG_s hk]
theorem vM_fallsBy (h : OKg g G) (hp : 0 < p ∧ p < G 625 0) (hst : G 625 (140 + p) = 0) (hc : 0 ≤ code ∧ code ≤ 255) : ∃ v G', fM_fallsBy G 624 p code = some (v, G') ∧ OKg g G' ∧ (∀ k, 0 ≤ k → k < 780 → G' 625 k = G 625 k) := by
  have b1 := OK_bg h
  obtain ⟨v, x1, x2, -⟩ := ex_OK (code := code) b1 (p := p) (by rw [bgG_n (by omega)]; exact hp) (by rw [bgG_n (by omega)]; exact hst) hc
  have e27 : sw (exG (bgG G) p code) (exF (bgG G 625) (bgG G 630) p code) 627 = bgG G 627 := by rw [sw_n (by omega), exG_n (by omega)]
  rw [fM_fallsBy, vM_begins h.1.1, bdN_s, x1, bdN_s, vM_ends x2.1.1, bdN_s]
  exact ⟨_, _, rfl, OK_en x2 (by rw [e27]; exact WBF_627 h), fun k k0 k1 => en_row e27 ⟨k0, k1⟩⟩
theorem oM_wouldFall (hi : MInv g) : PO g (fM_wouldFall g 624 p code) := by
  rw [fM_wouldFall]
  rcases vM_noExit (p := p) (code := code) hi with ⟨-, e⟩ | ⟨-, -, e⟩ | ⟨-, -, -, e⟩ | ⟨h1, h2, h3, e⟩
  · rw [e, bdN_s]; exact PO_1 (OK_th (OK_r hi))
  · rw [e, bdN_s]; exact PO_1 (OK_th (OK_r hi))
  · rw [e, bdN_s]; exact PO_1 (OK_th (OK_r hi))
  · rw [e, bdN_s]
    refine PO_0 ?_
    obtain ⟨v, G', f1, f2, -⟩ := vM_fallsBy (code := code) (OK_th (t := 0) (OK_r hi)) (p := p) (by rw [th_n (by omega)]; exact h1) (by rw [th_n (by omega)]; exact h3) h2
    rw [f1, bdN_s]
    exact PO_i rfl f2
theorem oM_betterCode (hi : MInv g) : PO g (fM_betterCode g 624 p) := by
  rw [fM_betterCode]
  rcases vM_notExiting (p := p) (c := 2) hi with ⟨-, e⟩ | ⟨-, -, e⟩ | ⟨h1, h2, e⟩
  · rw [e, bdN_s]; exact PO_1 (OK_th (OK_r hi))
  · rw [e, bdN_s]; exact PO_1 (OK_th (OK_r hi))
  · rw [e, bdN_s]
    refine PO_0 ?_
    have hM := hi.2.1.1.1
    obtain ⟨v, G', f1, f2, f3⟩ := vM_fallsBy (code := 1) (OK_th (t := 0) (OK_r hi)) (p := p) (by rw [th_n (by omega)]; exact h1) (by rw [th_n (by omega)]; exact h2) (by omega)
    rw [th_n (by omega)] at f3
    obtain ⟨v2, G2, f4, f5, -⟩ := vM_fallsBy (code := 0) f2 (p := p) (by rw [f3 0 (by omega) (by omega)]; exact h1) (by rw [f3 _ (by omega) (by omega)]; exact h2) (by omega)
    rw [f1, bdN_s, f4, bdN_s]
    split
    · exact PO_i rfl f5
    · exact PO_i rfl f5
end MODEL16
