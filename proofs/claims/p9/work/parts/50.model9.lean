/-! ===== the whole exit (own work) ===== -/
theorem fd_fr {f : Int → (Int → Int) → Int → Int} {j : Int} : ∀ (m : Nat) (k : Int) (r : Int → Int), (∀ i r, k ≤ i → i < k + m → f i r j = r j) → fd f m k r j = r j := by
  intro m
  induction m with
  | zero => intro k r _; rfl
  | succ m ih =>
    intro k r h
    show fd f m (k + 1) (f k r) j = r j
    rw [ih (k + 1) (f k r) (fun i r i0 i1 => h i r (by omega) (by omega)), h k r (by omega) (by omega)]
theorem ex3_fr {dm r : Int → Int} {p q j : Int} (h : ¬ (11 ≤ j ∧ j < 19)) : ex3 dm p q r j = r j :=
  fd_fr 8 0 r (fun i r i0 i1 => by
    unfold dutS
    split
    · exact u1_n (by omega)
    · rfl)
theorem ex4_fr {dm r : Int → Int} {p q j : Int} (hM : r 0 ≤ 40) (h : ¬ j = 2 ∧ ¬ j = 3 ∧ ¬ (60 ≤ j ∧ j < 100) ∧ ¬ (380 ≤ j ∧ j < 420)) : ex4 dm p q r j = r j :=
  fd_fr _ 1 r (fun i r i0 i1 => by
    unfold orpS
    split
    · exact adR_n (by omega)
    · rfl)
theorem ex5_fr {r : Int → Int} {p s j : Int} (hM : r 0 ≤ 40) (h : ¬ (60 ≤ j ∧ j < 100)) : ex5 p s r j = r j :=
  fd_fr _ 1 r (fun i r i0 i1 => by
    unfold zomS
    split
    · exact u1_n (by omega)
    · rfl)
def ex6 (s : Int) (r : Int → Int) : Int → Int := if s = 0 then rdR r 0 else r
/-- the row behind an exit -/
def exF (r dm : Int → Int) (p code : Int) : Int → Int :=
  ex6 (r (60 + p)) (ex5 p (r (60 + p)) (ex4 (exd (ex1 r p code) dm p code) p (exq (ex1 r p code) dm p code) (ex3 (exd (ex1 r p code) dm p code) p (exq (ex1 r p code) dm p code) (ex2 (ex1 r p code) dm p code))))
def exG (g : gH) (p code : Int) : gH := if RPc (ex1 (g 625) p code) (g 630) p code then pU g 630 (g 625 0) 0 else g
theorem rdR_o {r : Int → Int} {p k : Int} (h : ¬ (140 ≤ k ∧ k < 140 + r 0)) : rdR r p k = r k := by
  unfold rdR
  rw [if_neg (fun z => h ⟨z.1, z.2.1⟩)]
theorem rdR_st {r : Int → Int} {p i : Int} (h : 0 ≤ i ∧ i < r 0) : (rdR r p (140 + i) = r (140 + i) ∧ ic r i p 1 = false) ∨ (rdR r p (140 + i) = 2 ∧ r (140 + i) = 1) := by
  unfold rdR
  have e : 140 + i - 140 = i := by omega
  rw [e]
  cases hi : ic r i p 1 with
  | false => exact Or.inl ⟨if_neg (by simp), rfl⟩
  | true => exact Or.inr ⟨if_pos ⟨by omega, by omega, rfl⟩, (ic_t.mp hi).1⟩
/-- testaments read: what holds goes on holding -/
theorem WF_rd {r : Int → Int} {p : Int} (hb : WB r) (hf : WF r) : WB (rdR r p) ∧ WF (rdR r p) := by
  have hM := hb.1
  obtain ⟨⟨s1, s2⟩, hSR, ⟨x1, x2⟩, hL, hN, hH, hC, hB⟩ := hf
  have e0 : rdR r p 0 = r 0 := rdR_o (by omega)
  have e1 : rdR r p 1 = r 1 := rdR_o (by omega)
  have run : ∀ i, 0 ≤ i → i < r 0 → r (140 + i) = 0 → rdR r p (140 + i) = 0 := by
    intro i i0 i1 i2
    rcases rdR_st (p := p) ⟨i0, i1⟩ with h | h
    · rw [h.1, i2]
    · rw [h.2] at i2; omega
  have run' : ∀ i, 0 ≤ i → i < r 0 → rdR r p (140 + i) = 0 → r (140 + i) = 0 := by
    intro i i0 i1 i2
    rcases rdR_st (p := p) ⟨i0, i1⟩ with h | h
    · rw [h.1] at i2; exact i2
    · rw [h.1] at i2; omega
  refine ⟨WB_eq hb (fun k hk => rdR_o (by omega)), ⟨?_, ?_⟩, ?_, ⟨by rw [e1]; exact x1, ?_⟩, ?_, ?_, ?_, ?_, ?_⟩
  · intro i i0 i1
    rw [e0] at i1
    rcases rdR_st (p := p) ⟨i0, i1⟩ with h | h
    · rw [h.1]; exact s1 i i0 i1
    · rw [h.1]; omega
  · have := run 0 (by omega) (by omega) s2
    exact this
  · intro i i0 i1 i2
    rw [e0] at i1
    rw [rdR_o (k := 60 + i) (by omega)]
    have hs := hb.2.1 i i0 i1
    refine run _ hs.1 hs.2 (hSR i i0 i1 ?_)
    rcases rdR_st (p := p) (i := i) ⟨by omega, i1⟩ with h | h
    · rw [h.1] at i2; exact i2
    · rw [h.2]; omega
  · intro k k0 k1
    rw [e1] at k1
    rw [rdR_o (by omega), e0]
    exact x2 k k0 k1
  · intro i i0 i1 i2
    rw [e0] at i1
    obtain ⟨k, k0, k1, k2⟩ := hL i i0 i1 (fun z => i2 (run i i0 i1 z))
    exact ⟨k, k0, by rw [e1]; exact k1, by rw [rdR_o (by omega)]; exact k2⟩
  · show rdR r p 1 = _
    rw [e1, e0, hN]
    exact cn_congr _ _ (fun j j0 j1 => by
      show (!decide (r (140 + j) = 0)) = !decide (rdR r p (140 + j) = 0)
      by_cases h : r (140 + j) = 0
      · rw [h, run j j0 (by omega) h]
      · have : ¬ rdR r p (140 + j) = 0 := fun z => h (run' j j0 (by omega) z)
        simp [h, this])
  · intro d d0 d1
    rw [rdR_o (k := 11 + d) (by omega), e0]
    have := hH d d0 d1
    exact ⟨this.1, this.2.1, run _ this.1 this.2.1 this.2.2⟩
  · intro i i0 i1 i2
    rw [e0] at i1
    rw [rdR_o (k := 300 + i) (by omega)]
    rcases rdR_st (p := p) ⟨i0, i1⟩ with h | h
    · rw [h.1] at i2; exact hC i i0 i1 i2
    · rw [h.1] at i2; omega
  · intro i i0 i1
    rw [e0] at i1
    rw [rdR_o (k := 220 + i) (by omega)]
    exact hB i i0 i1
theorem EP_WF {r : Int → Int} {p s q : Int} (h : EP r p s q) (hh : HP r p 8) (n0 : NC r p 0 (r 0)) (n1 : NC r p 1 (r 0)) : WB r ∧ WF r := by
  obtain ⟨h1, h2, h3, h4, h5, h6, h7, h8, h9, h10⟩ := h
  refine ⟨h1, h3, ?_, h5, h6, h7, ?_, h8, h9⟩
  · intro i i0 i1 i2
    refine h4 i i0 i1 i2 (fun z => ?_)
    rcases h3.1 i (by omega) i1 with e | e | e
    · exact n0 i i0 i1 ⟨e, z⟩
    · exact n1 i i0 i1 ⟨e, z⟩
    · exact i2 e
  · intro d d0 d1
    have := hh d d0 d1
    rcases this.2.2 with e | e
    · exact ⟨this.1, this.2.1, e⟩
    · omega
section MODEL9
variable {g : gH} {p code : Int}
theorem vM_exits (hs : MS g) (hb : WB (g 625)) (hf : WF (g 625)) (hp : 0 < p ∧ p < g 625 0) (hst : g 625 (140 + p) = 0) (hc : 0 ≤ code ∧ code ≤ 255) :
    fM_exits g 624 p code = some (w32 (exF (g 625) (g 630) p code 3 - g 625 3), sw (exG g p code) (exF (g 625) (g 630) p code)) ∧ WB (exF (g 625) (g 630) p code) ∧ WF (exF (g 625) (g 630) p code) ∧ exF (g 625) (g 630) p code 1 = g 625 1 + 1 ∧ (g 625 0 ≤ exF (g 625) (g 630) p code 0 ∧ exF (g 625) (g 630) p code 0 ≤ g 625 0 + 1) ∧ (∀ i, 0 ≤ i → i < g 625 0 → i ≠ p → g 625 (140 + i) = 0 → exF (g 625) (g 630) p code (140 + i) = 0) ∧ ¬ exF (g 625) (g 630) p code (140 + p) = 0 := by
  have h0 := hs.1
  have h5 := hs.2.2.2.2.1
  have hM := hb.1
  obtain ⟨E1, H1⟩ := EP_ex1 (code := code) hb hf hp hst hc
  have hn := NX_bd2 hM hf.1.2 hf.2.2.2.2.1 hp hst
  have hsr := hb.2.1 p hp.1 hp.2
  obtain ⟨v1, v2, v3, v4⟩ := ex1_v (r := g 625) (p := p) (code := code) (by omega) (by omega)
  have e10 : ex1 (g 625) p code 0 = g 625 0 := ex1_n (by omega)
  have e1s : ex1 (g 625) p code (60 + p) = g 625 (60 + p) := ex1_n (by omega)
  have H1' : HP (ex1 (g 625) p code) p 0 := by
    intro d d0 d1
    have := H1 d d0 d1
    rw [e10]
    exact ⟨this.1, this.2.1, by rcases this.2.2 with e | e; exact Or.inl e; exact Or.inr ⟨d0, e⟩⟩
  -- the replacement
  have hrep := vM_replaces (g := sw g (ex1 (g 625) p code)) (p := p) (c := code) (MS_sw hs) (by rw [sw_s, e10]; exact hM) (by rw [sw_s, e10]; omega) (by rw [sw_s, e10, e1s]; exact hsr)
  rw [sw_s, sw_n (show ¬ (630 : Int) = 625 by omega), e10] at hrep
  have key : fM_replaces (sw g (ex1 (g 625) p code)) 624 p code = some (exq (ex1 (g 625) p code) (g 630) p code, sw (exG g p code) (ex2 (ex1 (g 625) p code) (g 630) p code)) ∧ EP (ex2 (ex1 (g 625) p code) (g 630) p code) p (g 625 (60 + p)) (exq (ex1 (g 625) p code) (g 630) p code) ∧ HP (ex2 (ex1 (g 625) p code) (g 630) p code) p 0 ∧ MS (exG g p code) ∧ (exG g p code) 630 = exd (ex1 (g 625) p code) (g 630) p code ∧ (g 625 0 ≤ ex2 (ex1 (g 625) p code) (g 630) p code 0 ∧ ex2 (ex1 (g 625) p code) (g 630) p code 0 ≤ g 625 0 + 1) ∧ ex2 (ex1 (g 625) p code) (g 630) p code 1 = g 625 1 + 1 ∧ ∀ i, 0 ≤ i → i < g 625 0 → ex2 (ex1 (g 625) p code) (g 630) p code (140 + i) = ex1 (g 625) p code (140 + i) := by
    unfold exq ex2 exG exd
    by_cases hr : RPc (ex1 (g 625) p code) (g 630) p code
    · simp only [if_pos hr]
      have hM40 : g 625 0 < 40 := by have := hr.2.2.2; rw [e10] at this; omega
      have ho := fun k => rpR_o (r := ex1 (g 625) p code) (p := p) (k := k) (by rw [e10]; omega) (by omega) (by rw [e1s]; omega)
      obtain ⟨w0, w1, w2, w3, w4, w5⟩ := rpR_v (r := ex1 (g 625) p code) (p := p) (by rw [e10]; omega) (by rw [e10]; exact hp) (by rw [e1s]; omega)
      have hbud : ¬ ex1 (g 625) p code (220 + g 625 (60 + p)) = 0 := by have := hr.2.2.1; rw [e1s] at this; exact this
      have E2 := EP_rp E1 (by rw [e10]; exact hM40) hbud
      rw [e10] at E2 w0 w1 w2 ho ⊢
      refine ⟨?_, E2, ?_, MS_pU hs (by omega), pU_s, by rw [w0]; omega, by rw [ho 1 (by rw [e1s]; omega), v1], fun i i0 i1 => ho _ (by rw [e1s]; omega)⟩
      · rw [hrep.1 hr]
        congr 2
        rw [pU_sw' (by omega), sw_sw]
      · intro d d0 d1
        have := H1' d d0 d1
        rw [e10] at this
        rw [ho (11 + d) (by rw [e1s]; omega), w0, ho (140 + ex1 (g 625) p code (11 + d)) (by rw [e1s]; omega)]
        exact ⟨this.1, by omega, this.2.2⟩
    · simp only [if_neg hr]
      refine ⟨hrep.2 hr, E1, H1', hs, trivial, by rw [e10]; omega, v1, fun i i0 i1 => trivial⟩
  obtain ⟨k1, k2, k3, k4, k5, k6, k7, k8⟩ := key
  generalize hq : exq (ex1 (g 625) p code) (g 630) p code = q at k1 k2
  generalize hr2 : ex2 (ex1 (g 625) p code) (g 630) p code = r2 at k1 k2 k3 k6 k7 k8
  obtain ⟨x1, x2, x3, x4⟩ := vM_ex3 (g := exG g p code) (b := g 625 3) k4 k2 k3
  obtain ⟨y1, y2, y3, y4, y5⟩ := vM_ex4 (g := exG g p code) (b := g 625 3) k4 x2 x3
  rw [← y5] at y4
  obtain ⟨z1, z2, z3, z4, z5, z6⟩ := vM_ex5 (g := exG g p code) (b := g 625 3) k4 y2 y3 y4
  rw [k5] at x1 x4 y1 y5 z1 z2 z3 z4 z5 z6
  have hF : exF (g 625) (g 630) p code = ex6 (g 625 (60 + p)) (ex5 p (g 625 (60 + p)) (ex4 (exd (ex1 (g 625) p code) (g 630) p code) p q (ex3 (exd (ex1 (g 625) p code) (g 630) p code) p q r2))) := by
    unfold exF
    rw [hq, hr2]
  have hM4 : ex3 (exd (ex1 (g 625) p code) (g 630) p code) p q r2 0 ≤ 40 := by rw [x4]; exact k2.1.1.2
  have hM5 : ex4 (exd (ex1 (g 625) p code) (g 630) p code) p q (ex3 (exd (ex1 (g 625) p code) (g 630) p code) p q r2) 0 ≤ 40 := by rw [y5]; exact hM4
  have fr : ∀ j, (j = 1 ∨ (140 ≤ j ∧ j < 180)) → ex5 p (g 625 (60 + p)) (ex4 (exd (ex1 (g 625) p code) (g 630) p code) p q (ex3 (exd (ex1 (g 625) p code) (g 630) p code) p q r2)) j = r2 j := by
    intro j hj
    rw [ex5_fr hM5 (by omega), ex4_fr hM4 (by omega), ex3_fr (by omega)]
  rw [← z6] at z4 z5
  obtain ⟨wb5, wf5⟩ := EP_WF z2 z3 z4 z5
  rw [hF]
  have e5 : ex5 p (g 625 (60 + p)) (ex4 (exd (ex1 (g 625) p code) (g 630) p code) p q (ex3 (exd (ex1 (g 625) p code) (g 630) p code) p q r2)) 0 = r2 0 := by rw [z6, y5, x4]
  generalize ex5 p (g 625 (60 + p)) (ex4 (exd (ex1 (g 625) p code) (g 630) p code) p q (ex3 (exd (ex1 (g 625) p code) (g 630) p code) p q r2)) = r5 at z1 wb5 wf5 fr e5 ⊢
  have first : fM_exits g 624 p code = jM_exits_240 (sw (exG g p code) r5) 624 (g 625 (60 + p)) (g 625 3) := by
    rw [← z1, ← y1, ← x1]
    have e : u1 (u1 (u1 (u1 (g 625) (140 + p) 1) (300 + p) code) (19 + g 625 1) p) 1 (g 625 1 + 1) = ex1 (g 625) p code := rfl
    simp (disch := omega) only [fM_exits, h0, kd_625, sz_625, w32_r, true_and, le_t, lt_t, and_true, ↓reduceIte, ↓bnd_s, pU_625, pU_sw, sw_sw, sw_s, sw_n, u1_n, e, k1, bdN_s]
  rw [first, jM_exits_240]
  unfold ex6
  by_cases hz : g 625 (60 + p) = 0
  · obtain ⟨ra1, ra2, ra3⟩ := vM_readsAll (g := exG g p code) (r := r5) (p := 0) k4 wb5.1 wf5.2.2.1 wf5.2.2.2.1 wf5.2.2.2.2.2.2.1
    obtain ⟨wb6, wf6⟩ := WF_rd (p := 0) wb5 wf5
    simp only [if_pos hz]
    refine ⟨?_, wb6, wf6, ?_, ?_, ?_, ?_⟩
    · rw [ra1, bdN_s, jM_exits_253]
      have h04 : exG g p code 624 0 = 625 := k4.1
      simp (disch := omega) only [sw_n, sw_s, h04, kd_625, sz_625, true_and, le_t, lt_t, lt_f, and_true, ↓reduceIte]
    · rw [rdR_o (by omega), fr 1 (Or.inl rfl), k7]
    · rw [rdR_o (by omega), e5]; exact k6
    · intro i i0 i1 i2 i3
      have h9 : r5 (140 + i) = 0 := by
        rw [fr _ (Or.inr (by omega)), k8 i i0 i1, ex1_n (by omega)]; exact i3
      rcases rdR_st (r := r5) (p := 0) (i := i) ⟨i0, by rw [e5]; omega⟩ with h | h
      · rw [h.1]; exact h9
      · rw [h.2] at h9; omega
    · have h9 : r5 (140 + p) = 1 := by
        rw [fr _ (Or.inr (by omega)), k8 p (by omega) hp.2]; exact v4
      rcases rdR_st (r := r5) (p := 0) (i := p) ⟨by omega, by rw [e5]; omega⟩ with h | h
      · rw [h.1, h9]; omega
      · rw [h.1]; omega
  · simp only [if_neg hz]
    refine ⟨?_, wb5, wf5, by rw [fr 1 (Or.inl rfl), k7], by rw [e5]; exact k6, ?_, ?_⟩
    · rw [jM_exits_253]
      have h04 : exG g p code 624 0 = 625 := k4.1
      simp (disch := omega) only [sw_n, sw_s, h04, kd_625, sz_625, true_and, le_t, lt_t, lt_f, and_true, ↓reduceIte]
    · intro i i0 i1 i2 i3
      rw [fr _ (Or.inr (by omega)), k8 i i0 i1, ex1_n (by omega)]
      exact i3
    · rw [fr _ (Or.inr (by omega)), k8 p (by omega) hp.2, v4]; omega
end MODEL9
