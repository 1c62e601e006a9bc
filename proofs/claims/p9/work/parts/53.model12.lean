/-! ===== the reference's calls that change (own work) ===== -/
def OKg (g G : gH) : Prop := MInv G ∧ MF g G ∧ KI g G
section MODEL12
variable {g G : gH} {p code t c a b k q : Int}
theorem OK_r (h : MInv g) : OKg g g := ⟨h, MF_r, KI_r⟩
theorem OK_th (h : OKg g G) : OKg g (th G t) := ⟨MInv_th h.1, MF_th h.2.1, KI_e h.2.2 (fun k k0 k1 => th_f (by omega)) (th_n (by omega))⟩
theorem OK_sw {r : Int → Int} (h : OKg g G) (hr : WBF r) : OKg g (sw G r) := ⟨MInv_sw h.1 hr, MF_sw h.2.1, KI_e h.2.2 (fun k k0 k1 => by rw [sw_n (by omega)]) (sw_n (by omega))⟩
theorem OK_exG (h : OKg g G) : OKg g (exG G p code) := ⟨MInv_exG h.1, MF_exG h.2.1, KI_e h.2.2 (fun k k0 k1 => by rw [exG_n (by omega)]) (exG_n (by omega))⟩
theorem OK_rem (h : OKg g G) : ∃ G', fM_remembers G 624 = some (0, G') ∧ OKg g G' ∧ G' 625 = G 625 ∧ G' 630 = G 630 ∧ (∀ k, ¬ k = 6 → G' 624 k = G 624 k) := by
  obtain ⟨G', h1, h2, h3, h4, h5⟩ := vM_remembers h.1
  exact ⟨G', h1, ⟨h2, MF_t h.2.1 h3, KI_e h.2.2 (fun k k0 k1 => h5 k (by omega)) (h4 631 (by omega) (by omega))⟩, h4 625 (by omega) (by omega), h4 630 (by omega) (by omega), h5⟩
theorem PO_i {X : Option (Int × gH)} {v : Int} (e : X = some (v, G)) (h : OKg g G) : PO g X := ⟨v, G, e, h.1, h.2.1, h.2.2⟩
theorem PO_1 {A : Option (Int × gH)} {x : Int} (h : OKg g G) : PO g (if (1 : Int) = 0 then A else some (x, G)) := PO_i (if_neg (by omega)) h
theorem PO_0 {A B : Option (Int × gH)} (h : PO g A) : PO g (if (0 : Int) = 0 then A else B) := by
  rw [if_pos rfl]
  exact h
theorem ex_OK (h : OKg g G) (hp : 0 < p ∧ p < G 625 0) (hst : G 625 (140 + p) = 0) (hc : 0 ≤ code ∧ code ≤ 255) : ∃ v, fM_exits G 624 p code = some (v, sw (exG G p code) (exF (G 625) (G 630) p code)) ∧ OKg g (sw (exG G p code) (exF (G 625) (G 630) p code)) ∧ exF (G 625) (G 630) p code 1 = G 625 1 + 1 ∧ (G 625 0 ≤ exF (G 625) (G 630) p code 0) ∧ (∀ i, 0 ≤ i → i < G 625 0 → i ≠ p → G 625 (140 + i) = 0 → exF (G 625) (G 630) p code (140 + i) = 0) := by
  obtain ⟨e1, e2, e3, e4, e5, e6, e7⟩ := vM_exits h.1.1 h.1.2.1.1 h.1.2.1.2 hp hst hc
  exact ⟨_, e1, OK_sw (OK_exG h) ⟨e2, e3⟩, e4, e5.1, e6⟩
theorem oM_exit (hi : MInv g) : PO g (fM_exit g 624 p code) := by
  rw [fM_exit]
  rcases vM_noExit (p := p) (code := code) hi with ⟨-, e⟩ | ⟨-, -, e⟩ | ⟨-, -, -, e⟩ | ⟨h1, h2, h3, e⟩
  · rw [e, bdN_s]; exact PO_1 (OK_th (OK_r hi))
  · rw [e, bdN_s]; exact PO_1 (OK_th (OK_r hi))
  · rw [e, bdN_s]; exact PO_1 (OK_th (OK_r hi))
  · rw [e, bdN_s]
    refine PO_0 ?_
    obtain ⟨G, r1, r2, r3, r4, -⟩ := OK_rem (OK_th (t := 0) (OK_r hi))
    rw [th_n (by omega)] at r3
    obtain ⟨v, e1, e2, -⟩ := ex_OK (code := code) r2 (p := p) (by rw [r3]; exact h1) (by rw [r3]; exact h3) h2
    rw [r1, bdN_s, e1, bdN_s]
    exact PO_i rfl e2
theorem oM_readAll (hi : MInv g) : PO g (fM_readAll g 624 p) := by
  rw [fM_readAll]
  rcases vM_notRunning (p := p) (c := 2) hi with ⟨-, e⟩ | ⟨-, -, e⟩ | ⟨h1, h2, e⟩
  · rw [e, bdN_s]; exact PO_1 (OK_th (OK_r hi))
  · rw [e, bdN_s]; exact PO_1 (OK_th (OK_r hi))
  · rw [e, bdN_s]
    refine PO_0 ?_
    obtain ⟨G, r1, r2, r3, r4, -⟩ := OK_rem (OK_th (t := 0) (OK_r hi))
    have w := r2.1.2.1
    obtain ⟨ra, -⟩ := vM_readsAll (g := G) (r := G 625) (p := p) r2.1.1 w.1.1 w.2.2.2.1 w.2.2.2.2.1 w.2.2.2.2.2.2.2.1
    rw [sw_id] at ra
    rw [r1, bdN_s, ra, bdN_s]
    obtain ⟨w1, w2⟩ := WF_rd (p := p) w.1 w.2
    exact PO_i rfl (OK_sw r2 ⟨w1, w2⟩)
/-- one testament read -/
theorem WF_one {r : Int → Int} {z : Int} (hb : WB r) (hf : WF r) (hz : 0 ≤ z ∧ z < r 0) (hs : r (140 + z) = 1) : WBF (u1 r (140 + z) 2) := by
  have hM := hb.1
  obtain ⟨⟨s1, s2⟩, hSR, ⟨x1, x2⟩, hL, hN, hH, hC, hB⟩ := hf
  have e0 : u1 r (140 + z) 2 0 = r 0 := u1_n (by omega)
  have e1 : u1 r (140 + z) 2 1 = r 1 := u1_n (by omega)
  have est : ∀ i, 0 ≤ i → i < 40 → i ≠ z → u1 r (140 + z) 2 (140 + i) = r (140 + i) := fun i i0 i1 i2 => u1_n (by omega)
  have run : ∀ i, 0 ≤ i → i < r 0 → r (140 + i) = 0 → u1 r (140 + z) 2 (140 + i) = 0 := by
    intro i i0 i1 i2
    rw [est i i0 (by omega) (by intro e; rw [e, hs] at i2; omega)]
    exact i2
  refine ⟨WB_eq hb (fun k hk => u1_n (by omega)), ⟨?_, ?_⟩, ?_, ⟨by rw [e1]; exact x1, ?_⟩, ?_, ?_, ?_, ?_, ?_⟩
  · intro i i0 i1
    rw [e0] at i1
    by_cases e : i = z
    · rw [e, u1_s]; omega
    · rw [est i i0 (by omega) e]; exact s1 i i0 i1
  · have := run 0 (by omega) (by omega) s2
    exact this
  · intro i i0 i1 i2
    rw [e0] at i1
    rw [u1_n (show ¬ 60 + i = 140 + z by omega)]
    have h := hb.2.1 i i0 i1
    refine run _ h.1 h.2 (hSR i i0 i1 ?_)
    by_cases e : i = z
    · rw [e, hs]; omega
    · rw [est i (by omega) (by omega) e] at i2; exact i2
  · intro k k0 k1
    rw [e1] at k1
    rw [u1_n (by omega), e0]
    exact x2 k k0 k1
  · intro i i0 i1 i2
    rw [e0] at i1
    obtain ⟨k, k0, k1, k2⟩ := hL i i0 i1 (fun z => i2 (run i i0 i1 z))
    exact ⟨k, k0, by rw [e1]; exact k1, by rw [u1_n (by omega)]; exact k2⟩
  · show u1 r (140 + z) 2 1 = _
    rw [e1, e0, hN]
    exact cn_congr _ _ (fun j j0 j1 => by
      show (!decide (r (140 + j) = 0)) = !decide (u1 r (140 + z) 2 (140 + j) = 0)
      by_cases e : j = z
      · rw [e, u1_s, hs]; rfl
      · rw [est j j0 (by omega) e])
  · intro d d0 d1
    rw [u1_n (show ¬ 11 + d = 140 + z by omega), e0]
    have := hH d d0 d1
    exact ⟨this.1, this.2.1, run _ this.1 this.2.1 this.2.2⟩
  · intro i i0 i1 i2
    rw [e0] at i1
    rw [u1_n (show ¬ 300 + i = 140 + z by omega)]
    by_cases e : i = z
    · rw [e, u1_s] at i2; omega
    · rw [est i i0 (by omega) e] at i2; exact hC i i0 i1 i2
  · intro i i0 i1
    rw [e0] at i1
    rw [u1_n (show ¬ 220 + i = 140 + z by omega)]
    exact hB i i0 i1
theorem oM_read (hi : MInv g) : PO g (fM_read g 624 p) := by
  rw [fM_read]
  rcases vM_notRunning (p := p) (c := 2) hi with ⟨-, e⟩ | ⟨-, -, e⟩ | ⟨h1, h2, e⟩
  · rw [e, bdN_s]; exact PO_1 (OK_th (OK_r hi))
  · rw [e, bdN_s]; exact PO_1 (OK_th (OK_r hi))
  · rw [e, bdN_s]
    refine PO_0 ?_
    have o1 := OK_th (t := 0) (OK_r hi)
    have w := o1.1.2.1
    have hz := vM_firstZombie (g := th g 0) (p := p) o1.1.1 w.1.1.2 w.2.2.2.1
    rw [hz, bdP_s]
    rcases FZ_f (p := p) w.2.2.2.1 with hz1 | ⟨z0, z1, z2⟩
    · rw [hz1, if_pos rfl]
      simp only [jM_read_28, kd_c624, if_true, vM_fails (Or.inr rfl), bdN_s, show ¬ (1 : Int) = 0 by omega, if_false]
      exact PO_i rfl (OK_th o1)
    · rw [if_neg (by omega)]
      generalize FZ (th g 0 625) p = z at z0 z1 z2
      obtain ⟨G, r1, r2, r3, r4, -⟩ := OK_rem o1
      have hM := w.1.1
      have w' := r2.1.2.1
      have h04 := r2.1.1.1
      simp only [jM_read_28, kd_c624, if_true, vM_fails (Or.inl rfl), bdN_s, r1]
      simp (disch := omega) only [h04, kd_625, sz_625, w32_r, true_and, le_t, lt_t, and_true, ↓reduceIte, ↓bnd_s, pU_625, sw_n, sw_s]
      refine PO_i rfl (OK_sw r2 (WF_one w'.1 w'.2 (by rw [r3]; exact ⟨z0, z1⟩) ?_))
      rw [r3]
      exact (ic_t.mp z2).1
/-- places that nothing here asks for -/
theorem WBF_eq {r r' : Int → Int} (h : WBF r) (hb : WB r') (he : ∀ k, k = 0 ∨ k = 1 ∨ (11 ≤ k ∧ k < 100 ∧ ¬ k = 59) ∨ (140 ≤ k ∧ k < 180) ∨ (220 ≤ k ∧ k < 260) ∨ (300 ≤ k ∧ k < 340) → r' k = r k) : WBF r' := by
  obtain ⟨hb0, ⟨s1, s2⟩, hSR, ⟨x1, x2⟩, hL, hN, hH, hC, hB⟩ := h
  have hM := hb0.1
  have e0 : r' 0 = r 0 := he 0 (by omega)
  have e1 : r' 1 = r 1 := he 1 (by omega)
  have est : ∀ i, 0 ≤ i → i < r 0 → r' (140 + i) = r (140 + i) := fun i i0 i1 => he _ (by omega)
  refine ⟨hb, ⟨?_, by rw [he 140 (by omega)]; exact s2⟩, ?_, ⟨by rw [e1]; exact x1, ?_⟩, ?_, ?_, ?_, ?_, ?_⟩
  · intro i i0 i1
    rw [e0] at i1
    rw [est i i0 i1]
    exact s1 i i0 i1
  · intro i i0 i1 i2
    rw [e0] at i1
    rw [est i (by omega) i1] at i2
    rw [he (60 + i) (by omega)]
    have := hb0.2.1 i i0 i1
    rw [est _ this.1 this.2]
    exact hSR i i0 i1 i2
  · intro k k0 k1
    rw [e1] at k1
    rw [he _ (by omega), e0]
    exact x2 k k0 k1
  · intro i i0 i1 i2
    rw [e0] at i1
    rw [est i i0 i1] at i2
    obtain ⟨k, k0, k1, k2⟩ := hL i i0 i1 i2
    exact ⟨k, k0, by rw [e1]; exact k1, by rw [he _ (by omega)]; exact k2⟩
  · show r' 1 = _
    rw [e1, cn_eq_st e0 hM.2 (fun k k0 k1 => he k (by omega))]
    exact hN
  · intro d d0 d1
    have := hH d d0 d1
    rw [he (11 + d) (by omega), e0, est _ this.1 this.2.1]
    exact this
  · intro i i0 i1 i2
    rw [e0] at i1
    rw [est i i0 i1] at i2
    rw [he _ (by omega)]
    exact hC i i0 i1 i2
  · intro i i0 i1
    rw [e0] at i1
    rw [he _ (by omega)]
    exact hB i i0 i1
/-- a supervisor changed, to a running one that is not below -/
theorem WBF_sup {r r' : Int → Int} (h : WBF r) (hc : 0 < c ∧ c < r 0) (ht : 0 ≤ t ∧ t < r 0) (htc : t ≠ c) (ho : OV (up r) c t = false) (hst : r (140 + t) = 0) (hk : r' (60 + c) = t) (he : ∀ k, ¬ k = 2 → ¬ k = 3 → ¬ (380 ≤ k ∧ k < 420) → ¬ k = 60 + c → r' k = r k) : WBF r' := by
  have hM := h.1.1
  have hb := WB_sup h.1 hc ht htc ho hk (fun k hk => he k (by omega) (by omega) (by omega) (by omega))
  obtain ⟨hb0, ⟨s1, s2⟩, hSR, ⟨x1, x2⟩, hL, hN, hH, hC, hB⟩ := h
  have e0 : r' 0 = r 0 := he 0 (by omega) (by omega) (by omega) (by omega)
  have e1 : r' 1 = r 1 := he 1 (by omega) (by omega) (by omega) (by omega)
  have est : ∀ i, 0 ≤ i → i < r 0 → r' (140 + i) = r (140 + i) := fun i i0 i1 => he _ (by omega) (by omega) (by omega) (by omega)
  refine ⟨hb, ⟨?_, by rw [he 140 (by omega) (by omega) (by omega) (by omega)]; exact s2⟩, ?_, ⟨by rw [e1]; exact x1, ?_⟩, ?_, ?_, ?_, ?_, ?_⟩
  · intro i i0 i1
    rw [e0] at i1
    rw [est i i0 i1]
    exact s1 i i0 i1
  · intro i i0 i1 i2
    rw [e0] at i1
    rw [est i (by omega) i1] at i2
    by_cases e : i = c
    · rw [e, hk, est t ht.1 ht.2]; exact hst
    · rw [he (60 + i) (by omega) (by omega) (by omega) (by omega)]
      have := hb0.2.1 i i0 i1
      rw [est _ this.1 this.2]
      exact hSR i i0 i1 i2
  · intro k k0 k1
    rw [e1] at k1
    rw [he _ (by omega) (by omega) (by omega) (by omega), e0]
    exact x2 k k0 k1
  · intro i i0 i1 i2
    rw [e0] at i1
    rw [est i i0 i1] at i2
    obtain ⟨k, k0, k1, k2⟩ := hL i i0 i1 i2
    exact ⟨k, k0, by rw [e1]; exact k1, by rw [he _ (by omega) (by omega) (by omega) (by omega)]; exact k2⟩
  · show r' 1 = _
    rw [e1, cn_eq_st e0 hM.2 (fun k k0 k1 => he k (by omega) (by omega) (by omega) (by omega))]
    exact hN
  · intro d d0 d1
    have := hH d d0 d1
    rw [he (11 + d) (by omega) (by omega) (by omega) (by omega), e0, est _ this.1 this.2.1]
    exact this
  · intro i i0 i1 i2
    rw [e0] at i1
    rw [est i i0 i1] at i2
    rw [he _ (by omega) (by omega) (by omega) (by omega)]
    exact hC i i0 i1 i2
  · intro i i0 i1
    rw [e0] at i1
    rw [he _ (by omega) (by omega) (by omega) (by omega)]
    exact hB i i0 i1
/-- an adoption by one that can, or by the root, keeps all -/
theorem WBF_ad {r : Int → Int} (h : WBF r) (hc : 0 < c ∧ c < r 0) (hs : MS g) (hw : 0 ≤ q ∧ q < r 0) : WBF (adR r (AD r (g 630) c q) c) := by
  have hM := h.1.1
  have hAD := (vM_adopterOf (g := sw g r) (o := c) (wo := q) (MS_sw hs) (by rw [sw_s]; exact h.1) (by rw [sw_s]; omega) (by rw [sw_s]; omega)).2
  rw [sw_s, sw_n (show ¬ (630 : Int) = 625 by omega)] at hAD
  have ht : (0 ≤ AD r (g 630) c q ∧ AD r (g 630) c q < r 0) ∧ AD r (g 630) c q ≠ c ∧ OV (up r) c (AD r (g 630) c q) = false ∧ r (140 + AD r (g 630) c q) = 0 := by
    rcases hAD with e2 | ⟨e2, e3, e4, e5⟩
    · rw [e2]
      exact ⟨by omega, by omega, OV_0, h.2.1.2⟩
    · obtain ⟨f1, f2, f3⟩ := canA_f e5
      exact ⟨⟨by omega, e3⟩, f2, f3, f1⟩
  exact WBF_sup h hc ht.1 ht.2.1 ht.2.2.1 ht.2.2.2 (adR_s (by omega)) (fun k k1 k2 k3 k4 => adR_n (by omega))
end MODEL12
