/-! ===== orphans and zombies of an exit; the whole exit (own work) ===== -/
theorem canA_f {r dm : Int → Int} {t c : Int} (h : canA r dm t c = true) : r (140 + t) = 0 ∧ t ≠ c ∧ OV (up r) c t = false := by
  unfold canA at h
  simp only [Bool.and_eq_true, decide_eq_true_eq, Bool.not_eq_true', decide_eq_false_iff_not] at h
  exact ⟨h.1, h.2.1, h.2.2.1⟩
theorem ic_t {r : Int → Int} {c a st : Int} : ic r c a st = true ↔ r (140 + c) = st ∧ r (60 + c) = a ∧ c ≠ 0 := by
  unfold ic
  exact decide_eq_true_iff
/-- no child of p in this state before c -/
def NC (r : Int → Int) (p st c : Int) : Prop := ∀ j, 0 < j → j < c → ¬ (r (140 + j) = st ∧ r (60 + j) = p)
theorem EP_dp {r : Int → Int} {p s q c : Int} (h : EP r p s q) (hc : 0 < c ∧ c < r 0) (hcp : r (60 + c) = p) : s ≠ c ∧ OV (up r) c s = false ∧ (q ≠ -1 → c ≠ q → OV (up r) c q = false) := by
  obtain ⟨a1, a2, a3, a4, a5, a6⟩ := h.2.1
  have hA := h.1.2.2.1
  have d1 := DP_s (hA p (by omega) a3.2) (by omega)
  have d2 := DP_s (hA c (by omega) hc.2) (by omega)
  have u1' : up r p = s := a2
  have u2 : up r c = p := hcp
  rw [u1'] at d1
  rw [u2] at d2
  have h1 : s ≠ c := by
    intro e
    rw [e] at d1
    omega
  have h2 : OV (up r) c s = false := by
    cases ho : OV (up r) c s with
    | false => rfl
    | true =>
      have := OV_dp (hA s a4.1 a4.2) ho
      omega
  refine ⟨h1, h2, fun hq hcq => ?_⟩
  rcases h.2.2.2.2.2.2.2.2.2 with e | ⟨q1, q2, q3, q4, q5⟩
  · exact absurd e hq
  · have u3 : up r q = s := q4
    rw [OV_s (hA q (by omega) q2) (by omega), u3, if_neg h1, h2]
section MODEL8
variable {g : gH} {p s q b : Int}
theorem orp_step {r : Int → Int} {c : Int} (hs : MS g) (h : EP r p s q) (hh : HP r p 8) (hn : NC r p 0 c) (hc : 0 < c ∧ c < r 0) : EP (orpS (g 630) p q c r) p s q ∧ HP (orpS (g 630) p q c r) p 8 ∧ NC (orpS (g 630) p q c r) p 0 (c + 1) ∧ orpS (g 630) p q c r 0 = r 0 := by
  have hM := h.1.1
  obtain ⟨a1, a2, a3, a4, a5, a6⟩ := h.2.1
  unfold orpS
  by_cases hi : ic r c p 0 = true
  · rw [if_pos hi]
    obtain ⟨i1, i2, i3⟩ := ic_t.mp hi
    have hcp : c ≠ p := by intro e; rw [e, a1] at i1; omega
    have hcq : c ≠ q := by
      intro e
      rcases h.2.2.2.2.2.2.2.2.2 with e2 | ⟨q1, q2, q3, q4, q5⟩
      · omega
      · rw [e, q4] at i2; exact a5 i2
    obtain ⟨d1, d2, d3⟩ := EP_dp h hc i2
    have ht : (0 ≤ (if ¬ q = -1 ∧ 0 < room r q then q else AD r (g 630) c p) ∧ (if ¬ q = -1 ∧ 0 < room r q then q else AD r (g 630) c p) < r 0) ∧ (if ¬ q = -1 ∧ 0 < room r q then q else AD r (g 630) c p) ≠ c ∧ OV (up r) c (if ¬ q = -1 ∧ 0 < room r q then q else AD r (g 630) c p) = false ∧ r (140 + (if ¬ q = -1 ∧ 0 < room r q then q else AD r (g 630) c p)) = 0 := by
      by_cases e : ¬ q = -1 ∧ 0 < room r q
      · rw [if_pos e]
        rcases h.2.2.2.2.2.2.2.2.2 with e2 | ⟨q1, q2, q3, q4, q5⟩
        · exact absurd e2 e.1
        · exact ⟨⟨by omega, q2⟩, fun z => hcq z.symm, d3 e.1 hcq, q3⟩
      · rw [if_neg e]
        have hAD := (vM_adopterOf (g := sw g r) (o := c) (wo := p) (MS_sw hs) (by rw [sw_s]; exact h.1) (by rw [sw_s]; omega) (by rw [sw_s]; omega)).2
        rw [sw_s, sw_n (show ¬ (630 : Int) = 625 by omega)] at hAD
        rcases hAD with e2 | ⟨e2, e3, e4, e5⟩
        · rw [e2]
          exact ⟨by omega, by omega, OV_0, h.2.2.1.2⟩
        · obtain ⟨f1, f2, f3⟩ := canA_f e5
          exact ⟨⟨by omega, e3⟩, f2, f3, f1⟩
    generalize (if ¬ q = -1 ∧ 0 < room r q then q else AD r (g 630) c p) = t at ht
    obtain ⟨t1, t2, t3, t4⟩ := ht
    have htp : t ≠ p := by intro e; rw [e, a1] at t4; omega
    have e0 : adR r t c 0 = r 0 := adR_n (by omega)
    refine ⟨EP_sup h hc hcp hcq t1 t2 t3 t4 (adR_s (by omega)) (fun k k1 k2 k3 k4 => adR_n (by omega)), ?_, ?_, e0⟩
    · intro d d0 d1
      have := hh d d0 d1
      rw [e0, adR_n (k := 11 + d) (by omega), adR_n (k := 140 + r (11 + d)) (by omega)]
      exact this
    · intro j j0 j1
      by_cases e : j = c
      · rw [e, adR_s (by omega)]
        exact fun z => htp z.2
      · rw [adR_n (by omega), adR_n (by omega)]
        exact hn j j0 (by omega)
  · rw [if_neg hi]
    refine ⟨h, hh, ?_, rfl⟩
    intro j j0 j1
    by_cases e : j = c
    · rw [e]
      exact fun z => hi (ic_t.mpr ⟨z.1, z.2, by omega⟩)
    · exact hn j j0 (by omega)
theorem vM_ex4 {r : Int → Int} (hs : MS g) (h : EP r p s q) (hh : HP r p 8) : lM_exits_134 624 p s b q fu 1 (sw g r) = lM_exits_201 624 p s b fu 1 (sw g (ex4 (g 630) p q r)) ∧ EP (ex4 (g 630) p q r) p s q ∧ HP (ex4 (g 630) p q r) p 8 ∧ NC (ex4 (g 630) p q r) p 0 (r 0) ∧ ex4 (g 630) p q r 0 = r 0 := by
  have h0 := hs.1
  have hM := h.1.1
  have := for_loop (L := fun n k r => lM_exits_134 624 p s b q n k (sw g r)) (E := fun r => lM_exits_201 624 p s b fu 1 (sw g r)) (fun k r => orpS (g 630) p q k r) (r 0) (fun k r' => 1 ≤ k ∧ k ≤ r 0 ∧ EP r' p s q ∧ HP r' p 8 ∧ NC r' p 0 k ∧ r' 0 = r 0) (fun n k r' hk hI => by
    obtain ⟨k0, k1, i1, i2, i3, i4⟩ := hI
    obtain ⟨d1, d2, d3, d4⟩ := orp_step (q := q) hs i1 i2 i3 ⟨by omega, by omega⟩
    refine ⟨?_, by omega, by omega, d1, d2, d3, d4.trans i4⟩
    show bM_exits_134 624 p s b q (lM_exits_134 624 p s b q n) k (sw g r') = lM_exits_134 624 p s b q n (k + 1) (sw g (orpS (g 630) p q k r'))
    have hp := i1.2.1.2.2.1
    have w1 : WB (sw g r' 625) := by rw [sw_s]; exact i1.1
    have hAD := (vM_adopterOf (g := sw g r') (o := k) (wo := p) (MS_sw hs) w1 (by rw [sw_s]; omega) (by rw [sw_s]; omega)).1
    rw [sw_s, sw_n (show ¬ (630 : Int) = 625 by omega)] at hAD
    have hic := vM_isChild (g := sw g r') (p := k) (a := p) (st := 0) (MS_sw hs) (by omega)
    rw [sw_s] at hic
    have had := fun t => vM_adopts (g := sw g r') (p := t) (o := k) (MS_sw hs) (by omega)
    simp only [sw_s, sw_sw] at had
    rw [bM_exits_134, orpS, hic]
    by_cases c1 : ic r' k p 0 = true
    · by_cases c2 : q = -1
      · simp (disch := omega) only [c1, c2, sw_n, sw_s, h0, kd_625, sz_625, w32_r, true_and, le_t, lt_t, and_true, ↓reduceIte, bdP_s, eq_f, hAD, had, bdN_s, not_true, false_and]
      · have hrq := vM_roomOf (g := sw g r') (p := q) (MS_sw hs) w1 (by
          rw [sw_s]
          rcases i1.2.2.2.2.2.2.2.2.2 with e | e
          · exact absurd e c2
          · omega)
        rw [sw_s] at hrq
        by_cases c3 : 0 < room r' q
        · simp (disch := omega) only [c1, c2, c3, sw_n, sw_s, h0, kd_625, sz_625, w32_r, true_and, le_t, lt_t, and_true, ↓reduceIte, bdP_s, eq_f, hrq, had, bdN_s, not_false_eq_true]
        · simp (disch := omega) only [c1, c2, c3, sw_n, sw_s, h0, kd_625, sz_625, w32_r, true_and, le_t, lt_t, and_true, and_false, ↓reduceIte, bdP_s, eq_f, hrq, hAD, had, bdN_s, not_false_eq_true]
    · simp (disch := omega) only [c1, sw_n, sw_s, h0, kd_625, sz_625, w32_r, true_and, le_t, lt_t, and_true, ↓reduceIte, bdP_s, Bool.false_eq_true]) (fun n k r' hk hI => by
    show bM_exits_134 624 p s b q (lM_exits_134 624 p s b q n) k (sw g r') = _
    have i4 := hI.2.2.2.2.2
    rw [bM_exits_134]
    simp (disch := omega) only [sw_n, sw_s, h0, kd_625, sz_625, true_and, le_t, lt_t, lt_f, and_true, ↓reduceIte]) (r 0 - 1).toNat 1 r fu (by omega) (by have := fu_ge; omega) ⟨by omega, by omega, h, hh, fun j j0 j1 => absurd j0 (by omega), rfl⟩
  obtain ⟨e1, -, -, e2, e3, e4, e5⟩ := this
  exact ⟨e1, e2, e3, fun j j0 j1 => e4 j j0 (by omega), e5⟩
theorem zom_step {r : Int → Int} {c : Int} (h : EP r p s q) (hh : HP r p 8) (hn0 : NC r p 0 (r 0)) (hn : NC r p 1 c) (hc : 0 < c ∧ c < r 0) : EP (zomS p s c r) p s q ∧ HP (zomS p s c r) p 8 ∧ NC (zomS p s c r) p 0 (r 0) ∧ NC (zomS p s c r) p 1 (c + 1) ∧ zomS p s c r 0 = r 0 := by
  have hM := h.1.1
  obtain ⟨a1, a2, a3, a4, a5, a6⟩ := h.2.1
  unfold zomS
  by_cases hi : ic r c p 1 = true
  · rw [if_pos hi]
    obtain ⟨i1, i2, i3⟩ := ic_t.mp hi
    have hcp : c ≠ p := by intro e; rw [e, a2] at i2; exact a5 i2
    have hcq : c ≠ q := by
      intro e
      rcases h.2.2.2.2.2.2.2.2.2 with e2 | ⟨q1, q2, q3, q4, q5⟩
      · omega
      · rw [e, q3] at i1; omega
    obtain ⟨d1, d2, -⟩ := EP_dp h hc i2
    have e0 : u1 r (60 + c) s 0 = r 0 := u1_n (by omega)
    refine ⟨EP_sup h hc hcp hcq a4 d1 d2 a6 u1_s (fun k k1 k2 k3 k4 => u1_n k4), ?_, ?_, ?_, e0⟩
    · intro d d0 d1
      have := hh d d0 d1
      rw [e0, u1_n (show ¬ 11 + d = 60 + c by omega), u1_n (by omega)]
      exact this
    · intro j j0 j1
      by_cases e : j = c
      · rw [e, u1_s]
        exact fun z => a5 z.2
      · rw [u1_n (by omega), u1_n (by omega)]
        exact hn0 j j0 j1
    · intro j j0 j1
      by_cases e : j = c
      · rw [e, u1_s]
        exact fun z => a5 z.2
      · rw [u1_n (by omega), u1_n (by omega)]
        exact hn j j0 (by omega)
  · rw [if_neg hi]
    refine ⟨h, hh, hn0, ?_, rfl⟩
    intro j j0 j1
    by_cases e : j = c
    · rw [e]
      exact fun z => hi (ic_t.mpr ⟨z.1, z.2, by omega⟩)
    · exact hn j j0 (by omega)
theorem vM_ex5 {r : Int → Int} (hs : MS g) (h : EP r p s q) (hh : HP r p 8) (hn : NC r p 0 (r 0)) : lM_exits_201 624 p s b fu 1 (sw g r) = jM_exits_240 (sw g (ex5 p s r)) 624 s b ∧ EP (ex5 p s r) p s q ∧ HP (ex5 p s r) p 8 ∧ NC (ex5 p s r) p 0 (r 0) ∧ NC (ex5 p s r) p 1 (r 0) ∧ ex5 p s r 0 = r 0 := by
  have h0 := hs.1
  have hM := h.1.1
  have := for_loop (L := fun n k r => lM_exits_201 624 p s b n k (sw g r)) (E := fun r => jM_exits_240 (sw g r) 624 s b) (fun k r => zomS p s k r) (r 0) (fun k r' => 1 ≤ k ∧ k ≤ r 0 ∧ EP r' p s q ∧ HP r' p 8 ∧ NC r' p 0 (r' 0) ∧ NC r' p 1 k ∧ r' 0 = r 0) (fun n k r' hk hI => by
    obtain ⟨k0, k1, i1, i2, i3, i4, i5⟩ := hI
    obtain ⟨d1, d2, d3, d4, d5⟩ := zom_step (q := q) i1 i2 i3 i4 ⟨by omega, by omega⟩
    refine ⟨?_, by omega, by omega, d1, d2, by rw [d5]; exact d3, d4, d5.trans i5⟩
    show bM_exits_201 624 p s b (lM_exits_201 624 p s b n) k (sw g r') = lM_exits_201 624 p s b n (k + 1) (sw g (zomS p s k r'))
    have hic := vM_isChild (g := sw g r') (p := k) (a := p) (st := 1) (MS_sw hs) (by omega)
    rw [sw_s] at hic
    rw [bM_exits_201, zomS, hic]
    by_cases c1 : ic r' k p 1 = true
    · simp (disch := omega) only [c1, sw_n, sw_s, h0, kd_625, sz_625, w32_r, true_and, le_t, lt_t, and_true, ↓reduceIte, bdP_s, eq_f, ↓bnd_s, pU_sw]
    · simp (disch := omega) only [c1, sw_n, sw_s, h0, kd_625, sz_625, w32_r, true_and, le_t, lt_t, and_true, ↓reduceIte, bdP_s, Bool.false_eq_true]) (fun n k r' hk hI => by
    show bM_exits_201 624 p s b (lM_exits_201 624 p s b n) k (sw g r') = _
    have i4 := hI.2.2.2.2.2.2
    rw [bM_exits_201]
    simp (disch := omega) only [sw_n, sw_s, h0, kd_625, sz_625, true_and, le_t, lt_t, lt_f, and_true, ↓reduceIte]) (r 0 - 1).toNat 1 r fu (by omega) (by have := fu_ge; omega) ⟨by omega, by omega, h, hh, hn, fun j j0 j1 => absurd j0 (by omega), rfl⟩
  obtain ⟨e1, -, -, e2, e3, e4, e5, e6⟩ := this
  rw [show (fd (fun k r => zomS p s k r) (r 0 - 1).toNat 1 r) = ex5 p s r from rfl] at e1 e2 e3 e4 e5 e6
  exact ⟨e1, e2, e3, by rw [e6] at e4; exact e4, fun j j0 j1 => e5 j j0 (by omega), e6⟩
end MODEL8
