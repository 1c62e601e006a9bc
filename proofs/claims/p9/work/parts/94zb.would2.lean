/-! ===== what would be, in both: holders, kills, comparisons (own work) ===== -/
section PAR38
variable {g g' G G' H H' K : gH} {r r' d d' dm : Int → Int} {a b c e i j k l m n o p q s t u v w x y z S T gp code : Int}
theorem jo_wouldHold (h : JA G H) : JO t3 True (fC_wouldHold G 0 a p code) (fM_wouldHold H 624 a p code) := by
  have hb := jaM h
  rw [fC_wouldHold, fM_wouldHold, vM_noProcess h.2.1]
  by_cases a0 : 0 ≤ p ∧ p < H 625 0
  · rw [if_pos a0, if_pos a0, bdN_s, if_pos rfl, jn_y h a0, bdQ_0]
    have o1 := JA_th (t := 0) h
    have e25 : th H 0 625 = H 625 := th_n (by omega)
    rcases vM_noDuty (g := th H 0) (a := a) (c := 2) with ⟨a1, e1⟩ | ⟨a1, e1⟩
    · rw [e1, bdN_s, if_neg f0, rg_n a1, qe1]; exact JO_e (JA_th o1) (th8.trans rfl) (by decide)
    · rw [e1, bdN_s, if_pos rfl, rg_y a1, bdQ_0]
      rcases vM_noExit (p := p) (code := code) o1.2.1 with ⟨a, e⟩ | ⟨a, b, e⟩ | ⟨a, b, c, e⟩ | ⟨a, b, c, e⟩
      · rw [e25] at a
        rw [e, bdN_s, if_neg f0, nx_1 h a, bdQ_e]; exact JO_e (JA_th o1) (th8.trans rfl) (by decide)
      · rw [e25] at a
        rw [e, bdN_s, if_neg f0, nx_2 h a b, bdQ_e]; exact JO_e (JA_th o1) (th8.trans rfl) (by decide)
      · rw [e25] at a c
        rw [e, bdN_s, if_neg f0, nx_3 h a b c, bdQ_e]; exact JO_e (JA_th o1) (th8.trans rfl) (by decide)
      · have o2 := JA_th (t := 0) o1
        have e26 : th (th H 0) 0 625 = H 625 := by rw [th_n (by omega)]; exact e25
        rw [e25] at a c
        obtain ⟨v, G', r', d', x1, x2, x3, x4, x5, x6, x7, x8, x9, -⟩ := wx_exit (code := code) o2 (p := p) (by rw [e26]; exact a) (by rw [e26]; exact c) b
        obtain ⟨y1, y2, y3, -⟩ := wx_back o2 x7 x4 x5 x6
        have hd := x6.2.2.2.2.2.2.1 _ a1.1 (by omega)
        have hbb := QQ_b x4
        have h0 : sw (md (bgG (th (th H 0) 0)) d') r' 624 0 = 625 := m0s (md_MS (MInv_bg o2.2.1).1)
        rw [e, bdN_s, if_pos rfl, nx_4 h a b c, bdQ_0, x1, bdN_s, ja1 y2, if_pos (kdT T45), qT_holder x4 (by omega) (by omega), bdP_s, if_pos (kdp T45 (by omega)), TS_n x4.2.1.1 (by omega), x2, bdN_s, x3, bdN_s, if_neg x8, h0, w32_r (by omega), if_pos (g625 (by omega)), sw_s, y1, bdN_s]
        exact JO_i y2 (by rw [y3]; exact th8) (fun _ => rfl)
  · rw [if_neg a0, if_neg a0, bdN_s, if_neg f0, jn_n h a0, qe3]
    exact JO_e (JA_th h) (th8.trans rfl) (by decide)
/-- a kill on the copy -/
theorem wx_kill (h : JA G H) (hc : 0 ≤ code ∧ code ≤ 255) : ∃ v A G' r' d', fT_take G 45 1 = some (0, A) ∧ TF 45 G A ∧ fT_killGroup A 45 gp code = some (v, G') ∧ fM_begins H 624 = some (0, bgG H) ∧ fM_kills (bgG H) 624 gp code = some (v, sw (md (bgG H) d') r') ∧ QQ 45 G' r' d' ∧ (∀ i, 0 ≤ i → i < 40 → d' i = 0) ∧ WBF r' ∧ TF 45 G G' ∧ ¬ v < 0 := by
  obtain ⟨A, a1, a2, a3⟩ := wx_take h
  have b25 : bgG H 625 = H 625 := bgG_n (by omega)
  obtain ⟨v, G', r', d', x1, x2, x3, x4, x5, x6, x7⟩ := lk_kill (gp := gp) (code := code) (MInv_bg h.2.1).1 a3 (by rw [b25]; exact h.2.1.2.1) hc
  rw [md_id, sw_id] at x2
  exact ⟨v, A, G', r', d', a1, a2, x1, vM_begins h.2.1.1, x2, x3, x5, x4, TF_t a2 x6, by omega⟩
theorem ck_n (a : ¬ ((0 ≤ gp ∧ gp ≤ 9) ∧ 0 ≤ code ∧ code ≤ 255)) : fC_checkKill g gp code = some (0 + 1, 0) := by
  rw [fC_checkKill]
  by_cases c1 : 0 ≤ gp ∧ gp ≤ 9
  · rw [rg_y c1, bdQ_0, rg_n (fun z => a ⟨c1, z⟩), qe1]
  · rw [rg_n c1, qe1]
theorem ck_y (a : (0 ≤ gp ∧ gp ≤ 9) ∧ 0 ≤ code ∧ code ≤ 255) : fC_checkKill g gp code = some (0, 0) := by
  rw [fC_checkKill, rg_y a.1, bdQ_0, rg_y a.2, bdQ_0]
theorem jo_wouldFallBy (h : JA G H) : JO t0 True (fC_wouldFallBy G 0 gp code) (fM_wouldFallBy H 624 gp code) := by
  rw [fC_wouldFallBy, fM_wouldFallBy]
  rcases vM_noKill (g := H) (a := gp) (code := code) with ⟨a, e⟩ | ⟨a, e⟩
  · rw [e, bdN_s, if_neg f0, ck_n a, bdQ_e]; exact JO_e (JA_th h) (th8.trans rfl) (by decide)
  · have o1 := JA_th (t := 0) h
    have e25 : th H 0 625 = H 625 := th_n (by omega)
    have h01 : th H 0 624 0 = 625 := o1.2.1.1.1
    obtain ⟨v, A, G', r', d', x0, x9, x1, x2, x3, x4, x5, x6, x7, x8⟩ := wx_kill (gp := gp) o1 a.2
    obtain ⟨y1, y2, y3, -⟩ := wx_back o1 x7 x4 x5 x6
    have h0 : sw (md (bgG (th H 0)) d') r' 624 0 = 625 := m0s (md_MS (MInv_bg o1.2.1).1)
    have v8 : G' 45 8 = r' 3 := x4.2.2.2.1.1.2.2.2.1
    have w8 : G' 1 8 = H 625 3 := by rw [x7 1 (by omega)]; exact (jaQ h).2.2.2.1.1.2.2.2.1
    rw [e, bdN_s, if_pos rfl, ck_y a, bdQ_0, ja1 h, if_pos (kdT T45), ja0 h, x0, bdN_s, x9 0 (by omega), ja1 h, if_pos (kdT T45), x1, bdN_s, ja1 y2, if_pos (kdT T45), ja0 y2, if_pos (kdT T1), v8, w8, h01, if_pos (g625 (by omega)), x2, bdN_s, x3, bdN_s, if_neg x8, h0, if_pos (g625 (by omega)), sw_s, e25, y1, bdN_s]
    exact JO_i y2 (by rw [y3]; exact th8) (fun _ => rfl)
theorem jo_wouldRun (h : JA G H) : JO t0 True (fC_wouldRun G 0 gp code) (fM_wouldRun H 624 gp code) := by
  rw [fC_wouldRun, fM_wouldRun]
  rcases vM_noKill (g := H) (a := gp) (code := code) with ⟨a, e⟩ | ⟨a, e⟩
  · rw [e, bdN_s, if_neg f0, ck_n a, bdQ_e]; exact JO_e (JA_th h) (th8.trans rfl) (by decide)
  · have o1 := JA_th (t := 0) h
    obtain ⟨v, A, G', r', d', x0, x9, x1, x2, x3, x4, x5, x6, x7, x8⟩ := wx_kill (gp := gp) o1 a.2
    obtain ⟨y1, y2, y3, -⟩ := wx_back o1 x7 x4 x5 x6
    have rm := vM_runningMany (g := sw (md (bgG (th H 0)) d') r') (MS_sw (md_MS (MInv_bg o1.2.1).1)) (by rw [sw_s]; exact QQ_b x4)
    rw [sw_s] at rm
    rw [e, bdN_s, if_pos rfl, ck_y a, bdQ_0, ja1 h, if_pos (kdT T45), ja0 h, x0, bdN_s, x9 0 (by omega), ja1 h, if_pos (kdT T45), x1, bdN_s, ja1 y2, if_pos (kdT T45), qT_count x4 (by omega), bdP_s, x2, bdN_s, x3, bdN_s, if_neg x8, rm, bdP_s, y1, bdN_s]
    exact JO_i y2 (by rw [y3]; exact th8) (fun _ => rfl)
theorem jo_betterCode (h : JA G H) : JO t2 True (fC_betterCode G 0 p) (fM_betterCode H 624 p) := by
  have hb := jaM h
  have q := jaQ h
  rw [fC_betterCode, fM_betterCode]
  rcases vM_notExiting (p := p) (c := 2) h.2.1 with ⟨a, e⟩ | ⟨a, c, e⟩ | ⟨a, c, e⟩
  · rw [e, bdN_s, if_neg f0, jn_n h a, qe3]
    exact JO_e (JA_th h) (th8.trans rfl) (by decide)
  · rw [e, bdN_s, if_neg f0, jn_y h a, bdQ_0, if_pos (kdp T1 (by omega)), qP_mortal q (by omega), bdP_s, if_neg (fun z => c ⟨by omega, z.2⟩), st_n, qe2]
    exact JO_e (JA_th h) (th8.trans rfl) (by decide)
  · have o1 := JA_th (t := 0) h
    have e25 : th H 0 625 = H 625 := th_n (by omega)
    obtain ⟨v, G1, r1, d1, x1, x2, x3, x4, x5, x6, x7, -, -, -⟩ := wx_exit (code := 1) o1 (p := p) (by rw [e25]; exact a) (by rw [e25]; exact c) (by omega)
    obtain ⟨y1, y2, y3, y4⟩ := wx_back o1 x7 x4 x5 x6
    generalize cpG (sw (md (bgG (th H 0)) d1) r1) 627 0 625 0 780 = H1 at *
    have s0 : H1 625 0 = H 625 0 := by rw [y4 0 (by omega) (by omega), e25]
    have sp : H1 625 (140 + p) = 0 := by rw [y4 (140 + p) (by omega) (by omega), e25]; exact c
    obtain ⟨w, G2, r2, d2, z1, z2, z3, z4, z5, z6, z7, -, -, -⟩ := wx_exit (code := 0) y2 (p := p) (by rw [s0]; exact a) sp (by omega)
    obtain ⟨u1_, u2, u3, -⟩ := wx_back y2 z7 z4 z5 z6
    rw [e, bdN_s, if_pos rfl, jn_y h ⟨by omega, a.2⟩, bdQ_0, if_pos (kdp T1 (by omega)), qP_mortal q (by omega), bdP_s, if_pos ⟨a, c⟩, st_1, bdQ_0, x1, bdN_s, z1, bdN_s, fM_fallsBy, x2, bdN_s, x3, bdN_s, y1, bdN_s, bdN_s, fM_fallsBy, z2, bdN_s, z3, bdN_s, u1_, bdN_s, bdN_s]
    have f8 : cpG (sw (md (bgG H1) d2) r2) 627 0 625 0 780 624 8 = 0 := by rw [u3, y3]; exact th8
    by_cases c1 : v < w
    · rw [if_pos c1, if_pos c1]; exact JO_i u2 f8 (fun _ => rfl)
    · rw [if_neg c1, if_neg c1]; exact JO_i u2 f8 (fun _ => rfl)
/-- which exit falls hardest, in both -/
theorem jo_weakest (h : JA G H) : JO t0 True (fC_weakest G 0 code) (fM_weakest H 624 code) := by
  have hb := jaM h
  have o1 := JA_th (t := 0) h
  have e25 : th H 0 625 = H 625 := th_n (by omega)
  have e8 : pU H 624 8 0 = th H 0 := rfl
  rw [fC_weakest, fM_weakest, bnd_s, e8, vM_inRange, bdP_s]
  by_cases b : 0 ≤ code ∧ code ≤ 255
  · obtain ⟨s, t, e1, e2, e3⟩ := loops2 (LC := fun n k (s : Int × Int × gH) => lC_weakest_28 0 code (1 + 2) 40 n s.1 s.2.1 k s.2.2) (LM := fun n k (t : Int × Int × gH) => lM_weakest_38 624 code n t.1 t.2.1 k t.2.2) (EC := fun s => some (0, (s.1, s.2.2))) (EM := fun t => some (t.1, t.2.2)) (s0 := (-1, -1, G)) (t0 := (-1, -1, th H 0)) (H 625 0) 1 (fun k s t => s.1 = t.1 ∧ s.2.1 = t.2.1 ∧ -1 ≤ s.2.1 ∧ JA s.2.2 t.2.2 ∧ (∀ k, 0 ≤ k → k < 780 → t.2.2 625 k = H 625 k) ∧ t.2.2 624 8 = 0) (by omega) (fun n k k0 k1 => by
      have hk : k = 0 := by omega
      subst hk
      show bC_weakest_28 0 code (1 + 2) 40 (lC_weakest_28 0 code (1 + 2) 40 n) (-1) (-1) 0 G = lC_weakest_28 0 code (1 + 2) 40 n (-1) (-1) (0 + 1) G
      rw [bC_weakest_28, if_pos (by omega), if_pos ⟨kdT2 T1, by omega, by rw [szT2 T1]; omega⟩, TS_p (jaQ h).2.1.1 (by omega), if_pos (kdp T1 (by omega)), qP_mortal (jaQ h) (by omega), if_neg (by omega), bdP_s, if_pos rfl, jC_weakest_64, if_neg (by omega), w32_r (by omega)]) (fun n n' k s t k0 k1 hr => by
      obtain ⟨x1, y1, G1⟩ := s
      obtain ⟨x2, y2, H1⟩ := t
      obtain ⟨r1, r2, r3, r4, r5, r6⟩ := hr
      have r1 : x1 = x2 := r1
      have r2 : y1 = y2 := r2
      have r3 : -1 ≤ y1 := r3
      have r4 : JA G1 H1 := r4
      have r5 : ∀ k, 0 ≤ k → k < 780 → H1 625 k = H 625 k := r5
      have r6 : H1 624 8 = 0 := r6
      subst r1 r2
      have q1 : QQ 1 G1 (H1 625) (fun _ => 0) := jaQ r4
      have z0 : H1 625 0 = H 625 0 := r5 0 (by omega) (by omega)
      have m0 : H1 624 0 = 625 := r4.2.1.1.1
      have nx : ∀ v G2 H2, JA G2 H2 → (∀ k, 0 ≤ k → k < 780 → H2 625 k = H 625 k) → H2 624 8 = 0 → -1 ≤ v → ∃ s' t' : Int × Int × gH, jC_weakest_64 (lC_weakest_28 0 code (1 + 2) 40 n) G2 0 code x1 y1 (1 + 2) 40 k (pc 1 k) v = lC_weakest_28 0 code (1 + 2) 40 n s'.1 s'.2.1 (k + 1) s'.2.2 ∧ jM_weakest_69 (lM_weakest_38 624 code n') H2 624 code x1 y1 k v = lM_weakest_38 624 code n' t'.1 t'.2.1 (k + 1) t'.2.2 ∧ s'.1 = t'.1 ∧ s'.2.1 = t'.2.1 ∧ -1 ≤ s'.2.1 ∧ JA s'.2.2 t'.2.2 ∧ (∀ k, 0 ≤ k → k < 780 → t'.2.2 625 k = H 625 k) ∧ t'.2.2 624 8 = 0 := by
        intro v G2 H2 j2 f5 f6 hv
        rw [jC_weakest_64, jM_weakest_69, w32_r (by omega)]
        by_cases c : y1 < v
        · have eg : gmax y1 v = v := by unfold gmax; rw [if_pos c]
          rw [if_pos c, if_pos c, if_pos (kdp T1 (by omega)), TS_n (jaQ j2).2.1.1 (by omega), eg]
          exact ⟨(k, v, G2), (k, v, H2), rfl, rfl, rfl, rfl, hv, j2, f5, f6⟩
        · have eg : gmax y1 v = y1 := by unfold gmax; rw [if_neg c]
          rw [if_neg c, if_neg c, eg]
          exact ⟨(x1, y1, G2), (x1, y1, H2), rfl, rfl, rfl, rfl, r3, j2, f5, f6⟩
      have eC : lC_weakest_28 0 code (1 + 2) 40 (n + 1) x1 y1 k G1 = bC_weakest_28 0 code (1 + 2) 40 (lC_weakest_28 0 code (1 + 2) 40 n) x1 y1 k G1 := rfl
      have eM : lM_weakest_38 624 code (n' + 1) x1 y1 k H1 = bM_weakest_38 624 code (lM_weakest_38 624 code n') x1 y1 k H1 := rfl
      show ∃ s' t' : Int × Int × gH, lC_weakest_28 0 code (1 + 2) 40 (n + 1) x1 y1 k G1 = _ ∧ lM_weakest_38 624 code (n' + 1) x1 y1 k H1 = _ ∧ _
      rw [eC, eM, bC_weakest_28, bM_weakest_38, if_pos (show k < 40 by omega), if_pos ⟨kdT2 T1, by omega, by rw [szT2 T1]; omega⟩, TS_p q1.2.1.1 (by omega), if_pos (kdp T1 (by omega)), qP_mortal q1 (by omega), bdP_s, TS_n q1.2.1.1 (by omega), m0, if_pos (g625 (by omega)), if_pos (show k < H1 625 0 by omega), vM_runs (g := H1) r4.2.1.1 (by omega), bdP_s]
      by_cases c : H1 625 (140 + k) = 0
      · have ck : 0 < k ∧ k < H1 625 0 := by omega
        obtain ⟨v, G2, r2, d2, w1, w2, w3, w4, w5, w6, w7, w8, -, -⟩ := wx_exit (code := code) r4 ck c b
        obtain ⟨u1_, u2, u3, u4⟩ := wx_back r4 w7 w4 w5 w6
        rw [if_pos c, if_pos (show (0 < k ∧ k < H1 625 0) ∧ H1 625 (140 + k) = 0 from ⟨ck, c⟩), if_neg f0, if_neg f0, w1, bdN_s, fM_fallsBy, w2, bdN_s, w3, bdN_s, u1_, bdN_s, bdN_s]
        exact nx v _ _ u2 (fun k k0 k1 => (u4 k k0 k1).trans (r5 k k0 k1)) (by rw [u3]; exact r6) (by omega)
      · rw [if_neg c, if_neg (show ¬ ((0 < k ∧ k < H1 625 0) ∧ H1 625 (140 + k) = 0) from fun z => c z.2), if_pos rfl, if_pos rfl]
        exact nx (-1) _ _ r4 r5 r6 (by omega)) (fun n k s t k0 k1 hr => by
      obtain ⟨x1, y1, G1⟩ := s
      obtain ⟨x2, y2, H1⟩ := t
      obtain ⟨r1, r2, r3, r4, r5, r6⟩ := hr
      have r3 : -1 ≤ y1 := r3
      have r4 : JA G1 H1 := r4
      have r5 : ∀ k, 0 ≤ k → k < 780 → H1 625 k = H 625 k := r5
      have q1 : QQ 1 G1 (H1 625) (fun _ => 0) := jaQ r4
      have z0 : H1 625 0 = H 625 0 := r5 0 (by omega) (by omega)
      show bC_weakest_28 0 code (1 + 2) 40 (lC_weakest_28 0 code (1 + 2) 40 n) x1 y1 k G1 = lC_weakest_28 0 code (1 + 2) 40 n x1 y1 (k + 1) G1
      rw [bC_weakest_28, if_pos (by omega), if_pos ⟨kdT2 T1, by omega, by rw [szT2 T1]; omega⟩, TS_p q1.2.1.1 (by omega), if_pos (kdp T1 (by omega)), qP_mortal q1 (by omega), if_neg (by omega), bdP_s, if_pos rfl, jC_weakest_64, if_neg (by omega), w32_r (by omega)]) (fun n s _ _ => by
      obtain ⟨x1, y1, G1⟩ := s
      show bC_weakest_28 0 code (1 + 2) 40 (lC_weakest_28 0 code (1 + 2) 40 n) x1 y1 40 G1 = _
      rw [bC_weakest_28, if_neg (by omega)]) (fun n s t hr => by
      obtain ⟨x2, y2, H1⟩ := t
      have r4 : JA s.2.2 H1 := hr.2.2.2.1
      have r5 : ∀ k, 0 ≤ k → k < 780 → H1 625 k = H 625 k := hr.2.2.2.2.1
      have z0 : H1 625 0 = H 625 0 := r5 0 (by omega) (by omega)
      show bM_weakest_38 624 code (lM_weakest_38 624 code n) x2 y2 (H 625 0) H1 = _
      rw [bM_weakest_38, r4.2.1.1.1, if_pos (g625 (by omega)), if_neg (by omega)]) ⟨rfl, rfl, by show (-1 : Int) ≤ -1; omega, o1, fun k _ _ => by show th H 0 625 k = _; rw [e25], show th H 0 624 8 = 0 from th8⟩
    obtain ⟨x1, y1, G1⟩ := s
    obtain ⟨x2, y2, H1⟩ := t
    obtain ⟨r1, r2, r3, r4, r5, r6⟩ := e3
    have e1 : lC_weakest_28 0 code (1 + 2) 40 fu (-1) (-1) 0 G = some (0, (x1, G1)) := e1
    have e2 : lM_weakest_38 624 code fu (-1) (-1) 1 (th H 0) = some (x2, H1) := e2
    rw [if_pos b, if_neg f0, jM_weakest_22, if_pos kd_c624, fl0, bdN_s, if_pos rfl, e2, rg_y b, bdQ_0, ja0 h, if_pos (kdT T1), TS_1 (jaQ h).2.1.1, if_pos (kdT2 T1), szT2 T1, e1]
    exact JO_i r4 r6 (fun _ => r1)
  · rw [if_neg b, if_pos rfl, jM_weakest_22, if_pos kd_c624, fl1, bdN_s, if_neg f0, rg_n b, qe1]
    exact JO_e (JA_th o1) (th8.trans rfl) (by decide)
/-- how often a duty's holder may exit, in both -/
theorem dl_both (hi : JA G H) (ha : 0 ≤ a ∧ a ≤ 7) : ∀ (m n1 n2 : Nat) (v : Int) (G' : gH) (r d : Int → Int), (40 - r 1).toNat = m → m < n1 → m < n2 → (0 ≤ v ∧ v ≤ r 1) → TF 45 G G' → QQ 45 G' r d → WBF r → (∀ i, 0 ≤ i → i < 40 → d i = 0) → ∃ w G2 H2, lC_dutyLife_19 0 a n1 v G' = some (0, (w, G2)) ∧ lM_dutyLife_22 624 a n2 v (sw (md (bgG H) d) r) = some (w, H2) ∧ JA G2 H2 ∧ H2 624 8 = H 624 8 := by
  intro m
  induction m with
  | zero =>
    intro n1 n2 v G' r d hm hn1 hn2 hv hF q hw hd
    have := WBF_1 hw
    omega
  | succ m ih =>
    intro n1 n2 v G' r d hm hn1 hn2 hv hF q hw hd
    obtain ⟨n1, rfl⟩ : ∃ k, n1 = k + 1 := ⟨n1 - 1, by omega⟩
    obtain ⟨n2, rfl⟩ : ∃ k, n2 = k + 1 := ⟨n2 - 1, by omega⟩
    have w1 := WBF_1 hw
    have hbb := QQ_b q
    have hd' := hw.2.2.2.2.2.2.1 a ha.1 (by omega)
    have h0 : sw (md (bgG H) d) r 624 0 = 625 := m0s (md_MS (MInv_bg hi.2.1).1)
    have g1 : G' 0 1 = 45 := by rw [hF 0 (by omega)]; exact ja1 hi
    have r0 : G' 45 0 = pc 45 0 := by rw [TS_0 q.2.1.1, ← pc_0]
    show ∃ w G2 H2, bC_dutyLife_19 0 a (lC_dutyLife_19 0 a n1) v G' = _ ∧ bM_dutyLife_22 624 a (lM_dutyLife_22 624 a n2) v (sw (md (bgG H) d) r) = _ ∧ _
    rw [bC_dutyLife_19, bM_dutyLife_22, if_pos (show v < 40 by omega), g1, if_pos (kdT T45), qT_holder q (by omega) (by omega), bdP_s, bdP_s, r0, h0, w32_r (x := 11 + a) (by omega), if_pos (g625 (by omega)), if_pos (g625 (by omega)), sw_s]
    by_cases c : r (11 + a) = 0
    · obtain ⟨y1, y2, y3, -⟩ := wx_back hi hF q hd hw
      rw [c, if_pos rfl, if_pos rfl, y1, bdN_s]
      exact ⟨v, G', _, rfl, rfl, y2, by rw [y3]⟩
    · obtain ⟨G2, u, d2, x1, x2, x3, x4, x5, x6, x7, -, -, -, x11⟩ := lk_exit (code := 0) (MInv_bg hi.2.1).1 q hw (p := r (11 + a)) (by omega) hd'.2.2 (by omega)
      rw [if_neg (fun z => c (pc_inj hd'.1 (by omega) z)), if_neg c, x1, bdN_s, x2, bdN_s, if_neg (show ¬ u < 0 by omega), w32_r (x := v + 1) (by omega)]
      exact ih n1 n2 (v + 1) G2 _ d2 (by omega) (by omega) (by omega) (by omega) (TF_t hF x5) x3 x4 (fun i i0 i1 => x11 i (hd i i0 i1))
theorem jo_dutyLife (h : JA G H) : JO t0 True (fC_dutyLife G 0 a) (fM_dutyLife H 624 a) := by
  have o1 := JA_th (t := 0) h
  have e8 : pU H 624 8 0 = th H 0 := rfl
  have hfu := fu_ge
  rw [fC_dutyLife, fM_dutyLife, bnd_s, e8]
  rcases vM_noDuty (g := th H 0) (a := a) (c := 1) with ⟨a1, e1⟩ | ⟨a1, e1⟩
  · rw [e1, bdN_s, if_neg f0, rg_n a1, qe1]; exact JO_e (JA_th o1) (th8.trans rfl) (by decide)
  · obtain ⟨A, x0, x1, x2⟩ := wx_take o1
    have b25 : bgG (th H 0) 625 = th H 0 625 := bgG_n (by omega)
    have w := o1.2.1.2.1
    have w1 := WBF_1 w
    rw [b25] at x2
    obtain ⟨v, G2, H2, z1, z2, z3, z4⟩ := dl_both o1 a1 _ fu fu 0 A (th H 0 625) (bgG (th H 0) 630) rfl (by omega) (by omega) (by omega) x1 x2 w (MInv_bg o1.2.1).2.2.1
    rw [md_id, ← b25, sw_id] at z2
    rw [e1, bdN_s, if_pos rfl, rg_y a1, bdQ_0, ja1 h, if_pos (kdT T45), ja0 h, x0, bdN_s, z1, vM_begins o1.2.1.1, bdN_s, z2]
    exact JO_i z3 (by rw [z4]; exact th8) (fun _ => rfl)
end PAR38
