/-! ===== the class's exit on a tree, whole (own work) ===== -/
section PAR25
variable {g g' G H K : gH} {r r' dm κ κ' : Int → Int} {a b c d e i j k l m n o p q s t u v w wo x y z S code : Int}
/-- behind the replacement -/
theorem EP_2 (hb : WB r) (hf : WF r) (hp : 0 < p ∧ p < r 0) (hst : r (140 + p) = 0) (hc : 0 ≤ code ∧ code ≤ 255) (hd : ∃ g : gH, MS g ∧ g 630 = dm) : EP (ex2 (ex1 r p code) dm p code) p (up r p) (exq (ex1 r p code) dm p code) ∧ HP (ex2 (ex1 r p code) dm p code) p 0 ∧ ∃ g : gH, MS g ∧ g 630 = exd (ex1 r p code) dm p code := by
  have hM := hb.1
  obtain ⟨E1, H1⟩ := EP_ex1 (code := code) hb hf hp hst hc
  have hn := NX_bd2 hM hf.1.2 hf.2.2.2.2.1 hp hst
  have hsr := hb.2.1 p hp.1 hp.2
  obtain ⟨v1, v2, v3, v4⟩ := ex1_v (r := r) (p := p) (code := code) (by omega) (by omega)
  have e10 : ex1 r p code 0 = r 0 := ex1_n (by omega)
  have e1s : ex1 r p code (60 + p) = r (60 + p) := ex1_n (by omega)
  have H1' : HP (ex1 r p code) p 0 := by
    intro d d0 d1
    have := H1 d d0 d1
    rw [e10]
    exact ⟨this.1, this.2.1, by rcases this.2.2 with e | e; exact Or.inl e; exact Or.inr ⟨d0, e⟩⟩
  unfold exq ex2 exd
  by_cases hr : RPc (ex1 r p code) dm p code
  · simp only [if_pos hr]
    have hM40 : r 0 < 40 := by have := hr.2.2.2; rw [e10] at this; omega
    have ho := fun k => rpR_o (r := ex1 r p code) (p := p) (k := k) (by rw [e10]; omega) (by omega) (by rw [e1s]; omega)
    obtain ⟨w0, w1, w2, w3, w4, w5⟩ := rpR_v (r := ex1 r p code) (p := p) (by rw [e10]; omega) (by rw [e10]; exact hp) (by rw [e1s]; omega)
    have hbud : ¬ ex1 r p code (220 + r (60 + p)) = 0 := by have := hr.2.2.1; rw [e1s] at this; exact this
    have E2 := EP_rp E1 (by rw [e10]; exact hM40) hbud
    rw [e10] at E2 w0 w1 w2 ho ⊢
    refine ⟨E2, ?_, ?_⟩
    · intro d d0 d1
      have := H1' d d0 d1
      rw [e10] at this
      rw [ho (11 + d) (by rw [e1s]; omega), w0, ho (140 + ex1 r p code (11 + d)) (by rw [e1s]; omega)]
      exact ⟨this.1, by omega, this.2.2⟩
    · obtain ⟨g, g1, g2⟩ := hd
      exact ⟨pU g 630 (r 0) 0, MS_pU g1 (by omega), by rw [pU_s, g2]⟩
  · simp only [if_neg hr]
    exact ⟨E1, H1', hd⟩
/-- an exit -/
theorem aT_letExit (h : QQ S G r dm) (hf : WF r) (hd : ∃ g : gH, MS g ∧ g 630 = dm) (hp : 0 < p ∧ p < r 0) (hst : r (140 + p) = 0) (hc : 0 ≤ code ∧ code ≤ 255) : ∃ G', fT_letExit G S (pc S p) code = some (w32 (exF r dm p code 3 - r 3), G') ∧ QQ S G' (exF r dm p code) (exd (ex1 r p code) dm p code) ∧ TF S G G' := by
  have hfu := fu_ge
  have hb := QQ_b h
  have hs := QQ_rg h hp
  have bp := pc_b (T := S) (i := p) (by omega)
  have hn := NX_bd2 hb hf.1.2 hf.2.2.2.2.1 hp hst
  obtain ⟨E2, H2, hd2⟩ := EP_2 (code := code) h.2.2.1 hf hp hst hc hd
  obtain ⟨E1, -⟩ := EP_ex1 (code := code) h.2.2.1 hf hp hst hc
  have e10 : ex1 r p code 0 = r 0 := ex1_n (by omega)
  have e6 : G S 6 = r 1 := h.2.2.2.1.1.2.1
  have e8 : G S 8 = r 3 := h.2.2.2.1.1.2.2.2.1
  have x1 : pU (pU G (pc S p) 1 1) (pc S p) 9 code S 6 = r 1 := by rw [pU_n (by omega), pU_n (by omega)]; exact e6
  have x2 : pU (pU (pU G (pc S p) 1 1) (pc S p) 9 code) (pc S p) 10 (r 1) S 6 = r 1 := by rw [pU_n (by omega)]; exact x1
  obtain ⟨G1, o1, h1, f1⟩ := aT_out (code := code) h hf hp hst hc
  have first : ∃ G2, fT_letExit G S (pc S p) code = jT_letExit_69 G2 S (pc S p) (pc S (up r p)) (r 3) (pcx S (exq (ex1 r p code) dm p code)) ∧ QQ S G2 (ex2 (ex1 r p code) dm p code) (exd (ex1 r p code) dm p code) ∧ TF S G G2 := by
    rw [fT_letExit, if_pos (kdp h.1 (by omega)), QQ_up h hp, if_neg (pc_pos h.1 (by omega)), bnd_s, bnd_s, x1, bnd_s, x2, w32_r (x := r 1 + 1) (by omega), bnd_s, if_pos (kdp h.1 (by omega)), bnd_s, o1, e8]
    by_cases c0 : code = 0
    · have hr : ¬ RPc (ex1 r p code) dm p code := fun z => z.1 c0
      unfold exq ex2 exd
      rw [if_neg hr, if_neg hr, if_neg hr, if_pos c0, pcx_n]
      exact ⟨G1, rfl, h1, f1⟩
    · obtain ⟨G2, r1, r2, r3⟩ := aT_replace h1 E1 c0
      have eu : ex1 r p code (60 + p) = up r p := ex1_n (by omega)
      rw [if_neg c0, show fT_replace G1 S (pc S p) (pc S (up r p)) = some (pcx S (exq (ex1 r p code) dm p code), G2) from r1, bdN_s]
      exact ⟨G2, rfl, r2, TF_t f1 r3⟩
  obtain ⟨G2, r1, h2, f2⟩ := first
  rw [r1, jT_letExit_69]
  unfold exF
  have eu : r (60 + p) = up r p := rfl
  rw [eu]
  generalize exq (ex1 r p code) dm p code = q at *
  generalize exd (ex1 r p code) dm p code = dm2 at *
  generalize ex2 (ex1 r p code) dm p code = r2 at *
  -- duties
  obtain ⟨G3, d1, h3, f3⟩ := aT_duties (dm := dm2) (q := q) (s := up r p) hp.1 8 fu 0 G2 r2 (by omega) (by omega) (by omega) (by omega) h2 E2 H2
  have h3 : QQ S G3 (ex3 dm2 p q r2) dm2 := h3
  have ex : EP (ex3 dm2 p q r2) p (up r p) q ∧ HP (ex3 dm2 p q r2) p 8 ∧ ex3 dm2 p q r2 0 = r2 0 := by
    obtain ⟨g, g1, rfl⟩ := hd2
    exact (vM_ex3 (b := 0) g1 E2 H2).2
  obtain ⟨E3, H3, z3⟩ := ex
  have n3 : NC (ex3 dm2 p q r2) p 0 1 := fun j j0 j1 => by omega
  rw [fT_passDuties, d1, bdN_s, TS_1 h3.2.1.1, if_pos (kdT2 h.1), szT2 h.1]
  generalize ex3 dm2 p q r2 = r3 at *
  have hp3 := E3.2.1.2.2.1
  have hb3 := QQ_b h3
  obtain ⟨n, hn1⟩ : ∃ n, fu = n + 1 := ⟨fu - 1, by omega⟩
  -- orphans
  have st0 : lT_letExit_92 S (pc S p) (pc S (up r p)) (r 3) (pcx S q) (S + 2) 40 fu 0 G3 = lT_letExit_92 S (pc S p) (pc S (up r p)) (r 3) (pcx S q) (S + 2) 40 n 1 G3 := by
    rw [hn1]
    show bT_letExit_92 S (pc S p) (pc S (up r p)) (r 3) (pcx S q) (S + 2) 40 (lT_letExit_92 S (pc S p) (pc S (up r p)) (r 3) (pcx S q) (S + 2) 40 n) 0 G3 = _
    rw [bT_letExit_92, if_pos (by omega), if_pos ⟨kdT2 h.1, by omega, by rw [szT2 h.1]; omega⟩, TS_p h3.2.1.1 (by omega), if_pos (kdp h.1 (by omega)), qP_child h3 (by omega) (by omega), if_neg (fun z => (ic_t.mp z.2).2.2 rfl), bdP_s, if_pos rfl, w32_r (by omega)]
    rfl
  obtain ⟨G4, a1, h4, f4⟩ := aT_orphans (b := r 3) (s := up r p) (q := q) (p := p) hd2 _ n 1 G3 r3 rfl (by omega) (by omega) (by omega) h3 E3 H3 n3
  have h4 : QQ S G4 (ex4 dm2 p q r3) dm2 := h4
  have ex : EP (ex4 dm2 p q r3) p (up r p) q ∧ HP (ex4 dm2 p q r3) p 8 ∧ NC (ex4 dm2 p q r3) p 0 (r3 0) ∧ ex4 dm2 p q r3 0 = r3 0 := by
    obtain ⟨g, g1, rfl⟩ := hd2
    exact (vM_ex4 (b := 0) g1 E3 H3).2
  obtain ⟨E4, H4, n4, z4⟩ := ex
  rw [← z4] at n4
  rw [st0, a1, jT_letExit_163, TS_1 h4.2.1.1, if_pos (kdT2 h.1), szT2 h.1]
  generalize ex4 dm2 p q r3 = r4 at *
  have hb4 := QQ_b h4
  have hp4 := E4.2.1.2.2.1
  -- zombies
  have st1 : lT_letExit_177 S (pc S p) (pc S (up r p)) (r 3) (S + 2) 40 fu 0 G4 = lT_letExit_177 S (pc S p) (pc S (up r p)) (r 3) (S + 2) 40 n 1 G4 := by
    rw [hn1]
    show bT_letExit_177 S (pc S p) (pc S (up r p)) (r 3) (S + 2) 40 (lT_letExit_177 S (pc S p) (pc S (up r p)) (r 3) (S + 2) 40 n) 0 G4 = _
    rw [bT_letExit_177, if_pos (by omega), if_pos ⟨kdT2 h.1, by omega, by rw [szT2 h.1]; omega⟩, TS_p h4.2.1.1 (by omega), if_pos (kdp h.1 (by omega)), qP_zombie h4 (by omega) (by omega), if_neg (fun z => (ic_t.mp z.2).2.2 rfl), bdP_s, if_pos rfl, w32_r (by omega)]
    rfl
  obtain ⟨G5, b1, h5, f5⟩ := aT_zombies (b := r 3) (s := up r p) (q := q) (p := p) (dm := dm2) _ n 1 G4 r4 rfl (by omega) (by omega) (by omega) h4 E4 H4 n4 (fun j j0 j1 => by omega)
  have h5 : QQ S G5 (ex5 p (up r p) r4) dm2 := h5
  have ex : EP (ex5 p (up r p) r4) p (up r p) q ∧ HP (ex5 p (up r p) r4) p 8 ∧ NC (ex5 p (up r p) r4) p 0 (r4 0) ∧ NC (ex5 p (up r p) r4) p 1 (r4 0) ∧ ex5 p (up r p) r4 0 = r4 0 := by
    obtain ⟨g, g1, rfl⟩ := hd2
    exact (vM_ex5 (b := 0) g1 E4 H4 n4).2
  obtain ⟨E5, H5, m4, m5, z5⟩ := ex
  rw [← z5] at m4 m5
  obtain ⟨wb5, wf5⟩ := EP_WF E5 H5 m4 m5
  rw [st1, b1, jT_letExit_212, TS_0 h5.2.1.1, ← pc_0]
  generalize ex5 p (up r p) r4 = r5 at *
  have tf : TF S G G5 := TF_t (TF_t (TF_t f2 f3) f4) f5
  unfold ex6
  by_cases cs : up r p = 0
  · rw [if_pos (show pc S (up r p) = pc S 0 by rw [cs]), if_pos cs]
    obtain ⟨wb6, wf6⟩ := WF_rd (p := 0) wb5 wf5
    obtain ⟨G6, c1, h6, f6⟩ := aT_readZ (p := 0) h5 wf5.2.2.1.1 wf5.2.2.2.2.2.2.1 (by have := QQ_b h5; omega) wb6
    rw [c1, bdN_s, h6.2.2.2.1.1.2.2.2.1]
    exact ⟨G6, rfl, h6, TF_t tf f6⟩
  · rw [if_neg (fun z => cs (pc_inj hs.1 (by omega) z)), if_neg cs, h5.2.2.2.1.1.2.2.2.1]
    exact ⟨G5, rfl, h5, tf⟩
end PAR25
