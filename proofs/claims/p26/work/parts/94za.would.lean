/-! ===== what would be, in both (own work) ===== -/
section PAR37
variable {g g' G G' H H' K : gH} {r r' d d' dm : Int → Int} {a b c e i j k l m n o p q s t u v w x y z S T gp code : Int}
theorem nx_1 (h : JA G H) (a : ¬ (0 ≤ p ∧ p < H 625 0)) : fC_namedForExit G 0 p code = some (2 + 1, 0) := by rw [fC_namedForExit, jn_n h a, qe3]
theorem nx_2 (h : JA G H) (a : 0 ≤ p ∧ p < H 625 0) (b : ¬ (0 ≤ code ∧ code ≤ 255)) : fC_namedForExit G 0 p code = some (0 + 1, 0) := by rw [fC_namedForExit, jn_y h a, bdQ_0, rg_n b, qe1]
theorem nx_3 (h : JA G H) (a : 0 ≤ p ∧ p < H 625 0) (b : 0 ≤ code ∧ code ≤ 255) (c : ¬ (¬ p = 0 ∧ H 625 (140 + p) = 0)) : fC_namedForExit G 0 p code = some (1 + 1, 0) := by
  have hb := jaM h
  rw [fC_namedForExit, jn_y h a, bdQ_0, rg_y b, bdQ_0, if_pos (kdp T1 (by omega)), qP_mortal (jaQ h) (by omega), bdP_s, if_neg (fun z => c ⟨by omega, z.2⟩), st_n, qe2]
theorem nx_4 (h : JA G H) (a : 0 < p ∧ p < H 625 0) (b : 0 ≤ code ∧ code ≤ 255) (c : H 625 (140 + p) = 0) : fC_namedForExit G 0 p code = some (0, pc 1 p) := by
  have hb := jaM h
  rw [fC_namedForExit, jn_y h ⟨by omega, a.2⟩, bdQ_0, rg_y b, bdQ_0, if_pos (kdp T1 (by omega)), qP_mortal (jaQ h) (by omega), bdP_s, if_pos ⟨a, c⟩, st_1, bdQ_0]
/-- the copy is made -/
theorem wx_take (h : JA G H) : ∃ A, fT_take G 45 1 = some (0, A) ∧ TF 45 G A ∧ QQ 45 A (bgG H 625) (bgG H 630) := by
  obtain ⟨A, a1, a2, a3⟩ := wT_take (jaQ h) (h.1.2.1 45 T45) T45 (by omega)
  rw [bgG_n (by omega), bgG_n (by omega)]
  exact ⟨A, a1, a2, QQ_d a3 (fun i i0 i1 => h.2.1.2.2.1 i i0 i1)⟩
/-- and the reference's row comes back -/
theorem wx_back (h : JA G H) (hF : TF 45 G G') (q : QQ 45 G' r d) (hd : ∀ i, 0 ≤ i → i < 40 → d i = 0) (hw : WBF r) : fM_ends (sw (md (bgG H) d) r) 624 = some (0, cpG (sw (md (bgG H) d) r) 627 0 625 0 780) ∧ JA G' (cpG (sw (md (bgG H) d) r) 627 0 625 0 780) ∧ cpG (sw (md (bgG H) d) r) 627 0 625 0 780 624 = H 624 ∧ ∀ k, 0 ≤ k → k < 780 → cpG (sw (md (bgG H) d) r) 627 0 625 0 780 625 k = H 625 k := by
  have mX := MInv_sw (MInv_md (MInv_bg h.2.1) hd) hw
  have x27 : sw (md (bgG H) d) r 627 = bgG H 627 := by rw [sw_n (by omega), md_n (by omega)]
  have xo : ∀ x, ¬ x = 625 → ¬ x = 627 → ¬ x = 630 → cpG (sw (md (bgG H) d) r) 627 0 625 0 780 x = H x := fun x x1 x2 x3 => by rw [cpG_n x1, sw_n x1, md_n x3, bgG_n x2]
  have xr : ∀ k, 0 ≤ k → k < 780 → cpG (sw (md (bgG H) d) r) 627 0 625 0 780 625 k = H 625 k := fun k k0 k1 => en_row x27 ⟨k0, k1⟩
  have mE := MInv_en mX (by rw [x27]; exact WBF_ext h.2.1.2.1 (fun k k0 k1 => bgG_s ⟨k0, k1⟩))
  refine ⟨vM_ends mX.1, JA_row (JA_45 h hF q.2.1) mE xr (xo 629 (by omega) (by omega) (by omega)) (xo 628 (by omega) (by omega) (by omega)) (xo 631 (by omega) (by omega) (by omega)) (fun k k0 k1 k2 => by rw [xo 624 (by omega) (by omega) (by omega)]), xo 624 (by omega) (by omega) (by omega), xr⟩
/-- an exit on the copy -/
theorem wx_exit (h : JA G H) (hp : 0 < p ∧ p < H 625 0) (hst : H 625 (140 + p) = 0) (hc : 0 ≤ code ∧ code ≤ 255) : ∃ v G' r' d', fC_exitOfCopy G 0 p code = some (v, G') ∧ fM_begins H 624 = some (0, bgG H) ∧ fM_exits (bgG H) 624 p code = some (v, sw (md (bgG H) d') r') ∧ QQ 45 G' r' d' ∧ (∀ i, 0 ≤ i → i < 40 → d' i = 0) ∧ WBF r' ∧ TF 45 G G' ∧ ¬ v < 0 ∧ H 625 0 ≤ r' 0 ∧ r' 1 = H 625 1 + 1 := by
  have hb := jaM h
  obtain ⟨A, a1, a2, a3⟩ := wx_take h
  have b25 : bgG H 625 = H 625 := bgG_n (by omega)
  obtain ⟨G', v, d', x1, x2, x3, x4, x5, x6, x7, -, -, -, x11⟩ := lk_exit (p := p) (code := code) (MInv_bg h.2.1).1 a3 (by rw [b25]; exact h.2.1.2.1) (by rw [b25]; exact hp) (by rw [b25]; exact hst) hc
  rw [md_id, sw_id] at x2
  refine ⟨v, G', _, d', ?_, vM_begins h.2.1.1, x2, x3, fun i i0 i1 => x11 i ((MInv_bg h.2.1).2.2.1 i i0 i1), x4, TF_t a2 x5, by omega, by rw [← b25]; exact x7.2, by rw [x7.1, b25]⟩
  rw [fC_exitOfCopy, ja1 h, if_pos (kdT T45), ja0 h, a1, bdN_s, a2 0 (by omega), ja1 h, if_pos (kdT T45), qT_at a3, b25, if_pos (by omega), bdP_s, if_neg (pc_pos T45 (by omega)), x1, bdN_s]
theorem jo_wouldFall (h : JA G H) : JO t3 True (fC_wouldFall G 0 p code) (fM_wouldFall H 624 p code) := by
  rw [fC_wouldFall, fM_wouldFall]
  rcases vM_noExit (p := p) (code := code) h.2.1 with ⟨a, e⟩ | ⟨a, b, e⟩ | ⟨a, b, c, e⟩ | ⟨a, b, c, e⟩
  · rw [e, bdN_s, if_neg f0, nx_1 h a, bdQ_e]; exact JO_e (JA_th h) (th8.trans rfl) (by decide)
  · rw [e, bdN_s, if_neg f0, nx_2 h a b, bdQ_e]; exact JO_e (JA_th h) (th8.trans rfl) (by decide)
  · rw [e, bdN_s, if_neg f0, nx_3 h a b c, bdQ_e]; exact JO_e (JA_th h) (th8.trans rfl) (by decide)
  · have e25 : th H 0 625 = H 625 := th_n (by omega)
    have o1 := JA_th (t := 0) h
    obtain ⟨v, G', r', d', x1, x2, x3, x4, x5, x6, x7, -, -, -⟩ := wx_exit (code := code) o1 (p := p) (by rw [e25]; exact a) (by rw [e25]; exact c) b
    obtain ⟨y1, y2, y3, -⟩ := wx_back o1 x7 x4 x5 x6
    rw [e, bdN_s, if_pos rfl, nx_4 h a b c, bdQ_0, x1, bdN_s, fM_fallsBy, x2, bdN_s, x3, bdN_s, y1, bdN_s, bdN_s]
    exact JO_i y2 (by rw [y3]; exact th8) (fun _ => rfl)
/-- the height, in both -/
theorem lk_high (hs : MS H) (h : QQ S G r d) : ∃ v, fT_greatestDepth G S = some v ∧ fM_highest (sw H r) 624 = some v := by
  have hb := QQ_b h
  obtain ⟨s, t, e1, e2, e3⟩ := loops2 (LC := fun n k s => lT_greatestDepth_13 G (S + 2) 40 n s k) (LM := fun n k t => lM_highest_4 (sw H r) 624 n t k) (EC := some) (EM := some) (s0 := 0) (t0 := 0) (r 0) 0 (fun _ s t => s = t) (by omega) (fun n k k0 k1 => by omega) (fun n n' k s t k0 k1 hr => by
    have ru := vM_runs (g := sw H r) (p := k) (MS_sw hs) (by omega)
    have dk := vM_deep (g := sw H r) (x := k) (MS_sw hs) (by rw [sw_s]; exact QQ_en h ⟨k0, k1⟩)
    rw [sw_s] at ru dk
    have eC : lT_greatestDepth_13 G (S + 2) 40 (n + 1) s k = bT_greatestDepth_13 G (S + 2) 40 (lT_greatestDepth_13 G (S + 2) 40 n) s k := rfl
    have eM : lM_highest_4 (sw H r) 624 (n' + 1) t k = bM_highest_4 (sw H r) 624 (lM_highest_4 (sw H r) 624 n') t k := rfl
    rw [← hr] at eM ⊢
    show ∃ s' t', lT_greatestDepth_13 G (S + 2) 40 (n + 1) s k = _ ∧ lM_highest_4 (sw H r) 624 (n' + 1) s k = _ ∧ s' = t'
    rw [eC, eM, bT_greatestDepth_13, bM_highest_4, if_pos (show k < 40 by omega), if_pos ⟨kdT2 h.1, k0, by rw [szT2 h.1]; omega⟩, TS_p h.2.1.1 (by omega), if_pos (kdp h.1 (by omega)), qP_run h ⟨k0, k1⟩, bdP_s, qP_above h ⟨k0, k1⟩, bdP_s, bdP_s, if_pos (gd25 hs (by omega)), m0s hs, sw_s, if_pos k1, ru, bdP_s, dk, bdP_s, w32_r (x := k + 1) (by omega)]
    by_cases c1 : r (140 + k) = 0
    · rw [if_pos c1, if_neg f0, if_neg f0]
      by_cases c2 : s < DP (up r) k
      · rw [if_pos c2]
        exact ⟨_, _, rfl, rfl, by unfold gmax; split <;> omega⟩
      · rw [if_neg c2]
        exact ⟨_, _, rfl, rfl, by unfold gmax; split <;> omega⟩
    · rw [if_neg c1, if_pos rfl, if_pos rfl]
      exact ⟨_, _, rfl, rfl, rfl⟩) (fun n k s t k0 k1 hr => by
    show bT_greatestDepth_13 G (S + 2) 40 (lT_greatestDepth_13 G (S + 2) 40 n) s k = _
    rw [bT_greatestDepth_13, if_pos k1, if_pos ⟨kdT2 h.1, by omega, by rw [szT2 h.1]; omega⟩, TS_p h.2.1.1 (by omega), if_pos (kdp h.1 (by omega)), fP_isRunning, QQ_out h (by omega), if_neg (by omega), bdP_s, if_pos rfl, w32_r (by omega)]) (fun n s _ _ => by
    show bT_greatestDepth_13 G (S + 2) 40 (lT_greatestDepth_13 G (S + 2) 40 n) s 40 = _
    rw [bT_greatestDepth_13, if_neg (by omega)]) (fun n _ t _ => by
    show bM_highest_4 (sw H r) 624 (lM_highest_4 (sw H r) 624 n) t (r 0) = _
    rw [bM_highest_4, if_pos (gd25 hs (by omega)), m0s hs, sw_s, if_neg (by omega)]) rfl
  have e1 : lT_greatestDepth_13 G (S + 2) 40 fu 0 0 = some s := e1
  refine ⟨s, ?_, ?_⟩
  · rw [fT_greatestDepth, TS_1 h.2.1.1, if_pos (kdT2 h.1), szT2 h.1, e1]
  · rw [fM_highest, e3]; exact e2
theorem jo_wouldStand (h : JA G H) : JO t3 True (fC_wouldStand G 0 p code) (fM_wouldStand H 624 p code) := by
  rw [fC_wouldStand, fM_wouldStand]
  rcases vM_noExit (p := p) (code := code) h.2.1 with ⟨a, e⟩ | ⟨a, b, e⟩ | ⟨a, b, c, e⟩ | ⟨a, b, c, e⟩
  · rw [e, bdN_s, if_neg f0, nx_1 h a, bdQ_e]; exact JO_e (JA_th h) (th8.trans rfl) (by decide)
  · rw [e, bdN_s, if_neg f0, nx_2 h a b, bdQ_e]; exact JO_e (JA_th h) (th8.trans rfl) (by decide)
  · rw [e, bdN_s, if_neg f0, nx_3 h a b c, bdQ_e]; exact JO_e (JA_th h) (th8.trans rfl) (by decide)
  · have e25 : th H 0 625 = H 625 := th_n (by omega)
    have o1 := JA_th (t := 0) h
    obtain ⟨v, G', r', d', x1, x2, x3, x4, x5, x6, x7, x8, -, -⟩ := wx_exit (code := code) o1 (p := p) (by rw [e25]; exact a) (by rw [e25]; exact c) b
    obtain ⟨y1, y2, y3, -⟩ := wx_back o1 x7 x4 x5 x6
    obtain ⟨u, z1, z2⟩ := lk_high (md_MS (d := d') (MInv_bg o1.2.1).1) x4
    rw [e, bdN_s, if_pos rfl, nx_4 h a b c, bdQ_0, x1, bdN_s, ja1 y2, if_pos (kdT T45), z1, bdP_s, x2, bdN_s, x3, bdN_s, if_neg x8, z2, bdP_s, y1, bdN_s]
    exact JO_i y2 (by rw [y3]; exact th8) (fun _ => rfl)
theorem jo_wouldHave (h : JA G H) : JO t3 True (fC_wouldHave G 0 q p code) (fM_wouldHave H 624 q p code) := by
  have hb := jaM h
  rw [fC_wouldHave, fM_wouldHave, vM_noProcess h.2.1]
  by_cases a0 : 0 ≤ q ∧ q < H 625 0
  · rw [if_pos a0, if_pos a0, bdN_s, if_pos rfl, jn_y h a0, bdQ_0]
    have o1 := JA_th (t := 0) h
    have e25 : th H 0 625 = H 625 := th_n (by omega)
    rcases vM_noExit (p := p) (code := code) o1.2.1 with ⟨a, e⟩ | ⟨a, b, e⟩ | ⟨a, b, c, e⟩ | ⟨a, b, c, e⟩
    · rw [e25] at a
      rw [e, bdN_s, if_neg f0, nx_1 h a, bdQ_e]; exact JO_e (JA_th o1) (th8.trans rfl) (by decide)
    · rw [e25] at a
      rw [e, bdN_s, if_neg f0, nx_2 h a b, bdQ_e]; exact JO_e (JA_th o1) (th8.trans rfl) (by decide)
    · rw [e25] at a c
      rw [e, bdN_s, if_neg f0, nx_3 h a b c, bdQ_e]; exact JO_e (JA_th o1) (th8.trans rfl) (by decide)
    · have o2 := JA_th (t := 0) o1
      have e26 : th (th H 0) 0 625 = H 625 := by rw [th_n (by omega)]; exact e25
      rw [e25] at a c
      obtain ⟨v, G', r', d', x1, x2, x3, x4, x5, x6, x7, x8, x9, -⟩ := wx_exit (code := code) o2 (p := p) (by rw [e26]; exact a) (by rw [e26]; exact c) b
      obtain ⟨y1, y2, y3, -⟩ := wx_back o2 x7 x4 x5 x6
      rw [e26] at x9
      have hbb := QQ_b x4
      have hq : 0 ≤ q ∧ q < r' 0 := by omega
      have h0 : sw (md (bgG (th (th H 0) 0)) d') r' 624 0 = 625 := m0s (md_MS (MInv_bg o2.2.1).1)
      have sup : fC_numberOf G' (G' (pc 45 q) 2) = some (r' (60 + q)) := by
        by_cases z : q = 0
        · rw [z, QQ_top x4, fC_numberOf, if_pos (by omega), Int.add_zero, x4.2.2.2.2.2.2]
        · have hu := QQ_rg x4 (i := q) (by omega)
          rw [QQ_up x4 (by omega), fC_numberOf, if_neg (pc_pos T45 (by omega)), if_pos (kdp T45 (by omega)), TS_n x4.2.1.1 (by omega)]
          rfl
      rw [e, bdN_s, if_pos rfl, nx_4 h a b c, bdQ_0, x1, bdN_s, ja1 y2, if_pos (kdT T45), qT_at x4, if_pos hq, bdP_s, if_neg (pc_pos T45 (by omega)), if_pos (kdp T45 (by omega)), sup, bdP_s, x2, bdN_s, x3, bdN_s, if_neg x8, h0, w32_r (by omega), if_pos (g625 (by omega)), sw_s, y1, bdN_s]
      exact JO_i y2 (by rw [y3]; exact th8) (fun _ => rfl)
  · rw [if_neg a0, if_neg a0, bdN_s, if_neg f0, jn_n h a0, qe3]
    exact JO_e (JA_th h) (th8.trans rfl) (by decide)
end PAR37
/-! ===== what would be, in both: holders, kills, comparisons (own work) ===== -/
section PAR38
variable {g g' G G' H H' K : gH} {r r' d d' dm : Int → Int} {a b c e i j k l m n o p q s t u v w x y z S T gp code : Int}
theorem jo_wouldHold (h : JA G H) : JO t3 True (fC_wouldHold G 0 a p code) (fM_wouldHold H 624 a p code) := by
  have hb := jaM h
  rw [fC_wouldHold, fM_wouldHold, vM_noProcess h.2.1]
  by_cases a0 : 0 ≤ p ∧ p < H 625 0
  · rw [if_pos a0, if_pos a0, bdN_s, if_pos rfl, jn_y h a0, bdQ_0]
    have o1 := JA_th (t := 0) h
    have e25 : th H 0 625 = H 625 := th_n (by omega)
    rcases vM_noDuty (g := th H 0) (a := a) (c := 2) with ⟨a1, e1⟩ | ⟨a1, e1⟩
    · rw [e1, bdN_s, if_neg f0, rg_n a1, qe1]; exact JO_e (JA_th o1) (th8.trans rfl) (by decide)
    · rw [e1, bdN_s, if_pos rfl, rg_y a1, bdQ_0]
      rcases vM_noExit (p := p) (code := code) o1.2.1 with ⟨a, e⟩ | ⟨a, b, e⟩ | ⟨a, b, c, e⟩ | ⟨a, b, c, e⟩
      · rw [e25] at a
        rw [e, bdN_s, if_neg f0, nx_1 h a, bdQ_e]; exact JO_e (JA_th o1) (th8.trans rfl) (by decide)
      · rw [e25] at a
        rw [e, bdN_s, if_neg f0, nx_2 h a b, bdQ_e]; exact JO_e (JA_th o1) (th8.trans rfl) (by decide)
      · rw [e25] at a c
        rw [e, bdN_s, if_neg f0, nx_3 h a b c, bdQ_e]; exact JO_e (JA_th o1) (th8.trans rfl) (by decide)
      · have o2 := JA_th (t := 0) o1
        have e26 : th (th H 0) 0 625 = H 625 := by rw [th_n (by omega)]; exact e25
        rw [e25] at a c
        obtain ⟨v, G', r', d', x1, x2, x3, x4, x5, x6, x7, x8, x9, -⟩ := wx_exit (code := code) o2 (p := p) (by rw [e26]; exact a) (by rw [e26]; exact c) b
        obtain ⟨y1, y2, y3, -⟩ := wx_back o2 x7 x4 x5 x6
        have hd := x6.2.2.2.2.2.2.1 _ a1.1 (by omega)
        have hbb := QQ_b x4
        have h0 : sw (md (bgG (th (th H 0) 0)) d') r' 624 0 = 625 := m0s (md_MS (MInv_bg o2.2.1).1)
        rw [e, bdN_s, if_pos rfl, nx_4 h a b c, bdQ_0, x1, bdN_s, ja1 y2, if_pos (kdT T45), qT_holder x4 (by omega) (by omega), bdP_s, if_pos (kdp T45 (by omega)), TS_n x4.2.1.1 (by omega), x2, bdN_s, x3, bdN_s, if_neg x8, h0, w32_r (by omega), if_pos (g625 (by omega)), sw_s, y1, bdN_s]
        exact JO_i y2 (by rw [y3]; exact th8) (fun _ => rfl)
  · rw [if_neg a0, if_neg a0, bdN_s, if_neg f0, jn_n h a0, qe3]
    exact JO_e (JA_th h) (th8.trans rfl) (by decide)
/-- a kill on the copy -/
theorem wx_kill (h : JA G H) (hc : 0 ≤ code ∧ code ≤ 255) : ∃ v A G' r' d', fT_take G 45 1 = some (0, A) ∧ TF 45 G A ∧ fT_killGroup A 45 gp code = some (v, G') ∧ fM_begins H 624 = some (0, bgG H) ∧ fM_kills (bgG H) 624 gp code = some (v, sw (md (bgG H) d') r') ∧ QQ 45 G' r' d' ∧ (∀ i, 0 ≤ i → i < 40 → d' i = 0) ∧ WBF r' ∧ TF 45 G G' ∧ ¬ v < 0 := by
  obtain ⟨A, a1, a2, a3⟩ := wx_take h
  have b25 : bgG H 625 = H 625 := bgG_n (by omega)
  obtain ⟨v, G', r', d', x1, x2, x3, x4, x5, x6, x7⟩ := lk_kill (gp := gp) (code := code) (MInv_bg h.2.1).1 a3 (by rw [b25]; exact h.2.1.2.1) hc
  rw [md_id, sw_id] at x2
  exact ⟨v, A, G', r', d', a1, a2, x1, vM_begins h.2.1.1, x2, x3, x5, x4, TF_t a2 x6, by omega⟩
theorem ck_n (a : ¬ ((0 ≤ gp ∧ gp ≤ 9) ∧ 0 ≤ code ∧ code ≤ 255)) : fC_checkKill g gp code = some (0 + 1, 0) := by
  rw [fC_checkKill]
  by_cases c1 : 0 ≤ gp ∧ gp ≤ 9
  · rw [rg_y c1, bdQ_0, rg_n (fun z => a ⟨c1, z⟩), qe1]
  · rw [rg_n c1, qe1]
theorem ck_y (a : (0 ≤ gp ∧ gp ≤ 9) ∧ 0 ≤ code ∧ code ≤ 255) : fC_checkKill g gp code = some (0, 0) := by
  rw [fC_checkKill, rg_y a.1, bdQ_0, rg_y a.2, bdQ_0]
theorem jo_wouldFallBy (h : JA G H) : JO t0 True (fC_wouldFallBy G 0 gp code) (fM_wouldFallBy H 624 gp code) := by
  rw [fC_wouldFallBy, fM_wouldFallBy]
  rcases vM_noKill (g := H) (a := gp) (code := code) with ⟨a, e⟩ | ⟨a, e⟩
  · rw [e, bdN_s, if_neg f0, ck_n a, bdQ_e]; exact JO_e (JA_th h) (th8.trans rfl) (by decide)
  · have o1 := JA_th (t := 0) h
    have e25 : th H 0 625 = H 625 := th_n (by omega)
    have h01 : th H 0 624 0 = 625 := o1.2.1.1.1
    obtain ⟨v, A, G', r', d', x0, x9, x1, x2, x3, x4, x5, x6, x7, x8⟩ := wx_kill (gp := gp) o1 a.2
    obtain ⟨y1, y2, y3, -⟩ := wx_back o1 x7 x4 x5 x6
    have h0 : sw (md (bgG (th H 0)) d') r' 624 0 = 625 := m0s (md_MS (MInv_bg o1.2.1).1)
    have v8 : G' 45 8 = r' 3 := x4.2.2.2.1.1.2.2.2.1
    have w8 : G' 1 8 = H 625 3 := by rw [x7 1 (by omega)]; exact (jaQ h).2.2.2.1.1.2.2.2.1
    rw [e, bdN_s, if_pos rfl, ck_y a, bdQ_0, ja1 h, if_pos (kdT T45), ja0 h, x0, bdN_s, x9 0 (by omega), ja1 h, if_pos (kdT T45), x1, bdN_s, ja1 y2, if_pos (kdT T45), ja0 y2, if_pos (kdT T1), v8, w8, h01, if_pos (g625 (by omega)), x2, bdN_s, x3, bdN_s, if_neg x8, h0, if_pos (g625 (by omega)), sw_s, e25, y1, bdN_s]
    exact JO_i y2 (by rw [y3]; exact th8) (fun _ => rfl)
theorem jo_wouldRun (h : JA G H) : JO t0 True (fC_wouldRun G 0 gp code) (fM_wouldRun H 624 gp code) := by
  rw [fC_wouldRun, fM_wouldRun]
  rcases vM_noKill (g := H) (a := gp) (code := code) with ⟨a, e⟩ | ⟨a, e⟩
  · rw [e, bdN_s, if_neg f0, ck_n a, bdQ_e]; exact JO_e (JA_th h) (th8.trans rfl) (by decide)
  · have o1 := JA_th (t := 0) h
    obtain ⟨v, A, G', r', d', x0, x9, x1, x2, x3, x4, x5, x6, x7, x8⟩ := wx_kill (gp := gp) o1 a.2
    obtain ⟨y1, y2, y3, -⟩ := wx_back o1 x7 x4 x5 x6
    have rm := vM_runningMany (g := sw (md (bgG (th H 0)) d') r') (MS_sw (md_MS (MInv_bg o1.2.1).1)) (by rw [sw_s]; exact QQ_b x4)
    rw [sw_s] at rm
    rw [e, bdN_s, if_pos rfl, ck_y a, bdQ_0, ja1 h, if_pos (kdT T45), ja0 h, x0, bdN_s, x9 0 (by omega), ja1 h, if_pos (kdT T45), x1, bdN_s, ja1 y2, if_pos (kdT T45), qT_count x4 (by omega), bdP_s, x2, bdN_s, x3, bdN_s, if_neg x8, rm, bdP_s, y1, bdN_s]
    exact JO_i y2 (by rw [y3]; exact th8) (fun _ => rfl)
theorem jo_betterCode (h : JA G H) : JO t2 True (fC_betterCode G 0 p) (fM_betterCode H 624 p) := by
  have hb := jaM h
  have q := jaQ h
  rw [fC_betterCode, fM_betterCode]
  rcases vM_notExiting (p := p) (c := 2) h.2.1 with ⟨a, e⟩ | ⟨a, c, e⟩ | ⟨a, c, e⟩
  · rw [e, bdN_s, if_neg f0, jn_n h a, qe3]
    exact JO_e (JA_th h) (th8.trans rfl) (by decide)
  · rw [e, bdN_s, if_neg f0, jn_y h a, bdQ_0, if_pos (kdp T1 (by omega)), qP_mortal q (by omega), bdP_s, if_neg (fun z => c ⟨by omega, z.2⟩), st_n, qe2]
    exact JO_e (JA_th h) (th8.trans rfl) (by decide)
  · have o1 := JA_th (t := 0) h
    have e25 : th H 0 625 = H 625 := th_n (by omega)
    obtain ⟨v, G1, r1, d1, x1, x2, x3, x4, x5, x6, x7, -, -, -⟩ := wx_exit (code := 1) o1 (p := p) (by rw [e25]; exact a) (by rw [e25]; exact c) (by omega)
    obtain ⟨y1, y2, y3, y4⟩ := wx_back o1 x7 x4 x5 x6
    generalize cpG (sw (md (bgG (th H 0)) d1) r1) 627 0 625 0 780 = H1 at *
    have s0 : H1 625 0 = H 625 0 := by rw [y4 0 (by omega) (by omega), e25]
    have sp : H1 625 (140 + p) = 0 := by rw [y4 (140 + p) (by omega) (by omega), e25]; exact c
    obtain ⟨w, G2, r2, d2, z1, z2, z3, z4, z5, z6, z7, -, -, -⟩ := wx_exit (code := 0) y2 (p := p) (by rw [s0]; exact a) sp (by omega)
    obtain ⟨u1_, u2, u3, -⟩ := wx_back y2 z7 z4 z5 z6
    rw [e, bdN_s, if_pos rfl, jn_y h ⟨by omega, a.2⟩, bdQ_0, if_pos (kdp T1 (by omega)), qP_mortal q (by omega), bdP_s, if_pos ⟨a, c⟩, st_1, bdQ_0, x1, bdN_s, z1, bdN_s, fM_fallsBy, x2, bdN_s, x3, bdN_s, y1, bdN_s, bdN_s, fM_fallsBy, z2, bdN_s, z3, bdN_s, u1_, bdN_s, bdN_s]
    have f8 : cpG (sw (md (bgG H1) d2) r2) 627 0 625 0 780 624 8 = 0 := by rw [u3, y3]; exact th8
    by_cases c1 : v < w
    · rw [if_pos c1, if_pos c1]; exact JO_i u2 f8 (fun _ => rfl)
    · rw [if_neg c1, if_neg c1]; exact JO_i u2 f8 (fun _ => rfl)
/-- which exit falls hardest, in both -/
theorem jo_weakest (h : JA G H) : JO t0 True (fC_weakest G 0 code) (fM_weakest H 624 code) := by
  have hb := jaM h
  have o1 := JA_th (t := 0) h
  have e25 : th H 0 625 = H 625 := th_n (by omega)
  have e8 : pU H 624 8 0 = th H 0 := rfl
  rw [fC_weakest, fM_weakest, bnd_s, e8, vM_inRange, bdP_s]
  by_cases b : 0 ≤ code ∧ code ≤ 255
  · obtain ⟨s, t, e1, e2, e3⟩ := loops2 (LC := fun n k (s : Int × Int × gH) => lC_weakest_28 0 code (1 + 2) 40 n s.1 s.2.1 k s.2.2) (LM := fun n k (t : Int × Int × gH) => lM_weakest_38 624 code n t.1 t.2.1 k t.2.2) (EC := fun s => some (0, (s.1, s.2.2))) (EM := fun t => some (t.1, t.2.2)) (s0 := (-1, -1, G)) (t0 := (-1, -1, th H 0)) (H 625 0) 1 (fun k s t => s.1 = t.1 ∧ s.2.1 = t.2.1 ∧ -1 ≤ s.2.1 ∧ JA s.2.2 t.2.2 ∧ (∀ k, 0 ≤ k → k < 780 → t.2.2 625 k = H 625 k) ∧ t.2.2 624 8 = 0) (by omega) (fun n k k0 k1 => by
      have hk : k = 0 := by omega
      subst hk
      show bC_weakest_28 0 code (1 + 2) 40 (lC_weakest_28 0 code (1 + 2) 40 n) (-1) (-1) 0 G = lC_weakest_28 0 code (1 + 2) 40 n (-1) (-1) (0 + 1) G
      rw [bC_weakest_28, if_pos (by omega), if_pos ⟨kdT2 T1, by omega, by rw [szT2 T1]; omega⟩, TS_p (jaQ h).2.1.1 (by omega), if_pos (kdp T1 (by omega)), qP_mortal (jaQ h) (by omega), if_neg (by omega), bdP_s, if_pos rfl, jC_weakest_64, if_neg (by omega), w32_r (by omega)]) (fun n n' k s t k0 k1 hr => by
      obtain ⟨x1, y1, G1⟩ := s
      obtain ⟨x2, y2, H1⟩ := t
      obtain ⟨r1, r2, r3, r4, r5, r6⟩ := hr
      have r1 : x1 = x2 := r1
      have r2 : y1 = y2 := r2
      have r3 : -1 ≤ y1 := r3
      have r4 : JA G1 H1 := r4
      have r5 : ∀ k, 0 ≤ k → k < 780 → H1 625 k = H 625 k := r5
      have r6 : H1 624 8 = 0 := r6
      subst r1 r2
      have q1 : QQ 1 G1 (H1 625) (fun _ => 0) := jaQ r4
      have z0 : H1 625 0 = H 625 0 := r5 0 (by omega) (by omega)
      have m0 : H1 624 0 = 625 := r4.2.1.1.1
      have nx : ∀ v G2 H2, JA G2 H2 → (∀ k, 0 ≤ k → k < 780 → H2 625 k = H 625 k) → H2 624 8 = 0 → -1 ≤ v → ∃ s' t' : Int × Int × gH, jC_weakest_64 (lC_weakest_28 0 code (1 + 2) 40 n) G2 0 code x1 y1 (1 + 2) 40 k (pc 1 k) v = lC_weakest_28 0 code (1 + 2) 40 n s'.1 s'.2.1 (k + 1) s'.2.2 ∧ jM_weakest_69 (lM_weakest_38 624 code n') H2 624 code x1 y1 k v = lM_weakest_38 624 code n' t'.1 t'.2.1 (k + 1) t'.2.2 ∧ s'.1 = t'.1 ∧ s'.2.1 = t'.2.1 ∧ -1 ≤ s'.2.1 ∧ JA s'.2.2 t'.2.2 ∧ (∀ k, 0 ≤ k → k < 780 → t'.2.2 625 k = H 625 k) ∧ t'.2.2 624 8 = 0 := by
        intro v G2 H2 j2 f5 f6 hv
        rw [jC_weakest_64, jM_weakest_69, w32_r (by omega)]
        by_cases c : y1 < v
        · have eg : gmax y1 v = v := by unfold gmax; rw [if_pos c]
          rw [if_pos c, if_pos c, if_pos (kdp T1 (by omega)), TS_n (jaQ j2).2.1.1 (by omega), eg]
          exact ⟨(k, v, G2), (k, v, H2), rfl, rfl, rfl, rfl, hv, j2, f5, f6⟩
        · have eg : gmax y1 v = y1 := by unfold gmax; rw [if_neg c]
          rw [if_neg c, if_neg c, eg]
          exact ⟨(x1, y1, G2), (x1, y1, H2), rfl, rfl, rfl, rfl, r3, j2, f5, f6⟩
      have eC : lC_weakest_28 0 code (1 + 2) 40 (n + 1) x1 y1 k G1 = bC_weakest_28 0 code (1 + 2) 40 (lC_weakest_28 0 code (1 + 2) 40 n) x1 y1 k G1 := rfl
      have eM : lM_weakest_38 624 code (n' + 1) x1 y1 k H1 = bM_weakest_38 624 code (lM_weakest_38 624 code n') x1 y1 k H1 := rfl
      show ∃ s' t' : Int × Int × gH, lC_weakest_28 0 code (1 + 2) 40 (n + 1) x1 y1 k G1 = _ ∧ lM_weakest_38 624 code (n' + 1) x1 y1 k H1 = _ ∧ _
      rw [eC, eM, bC_weakest_28, bM_weakest_38, if_pos (show k < 40 by omega), if_pos ⟨kdT2 T1, by omega, by rw [szT2 T1]; omega⟩, TS_p q1.2.1.1 (by omega), if_pos (kdp T1 (by omega)), qP_mortal q1 (by omega), bdP_s, TS_n q1.2.1.1 (by omega), m0, if_pos (g625 (by omega)), if_pos (show k < H1 625 0 by omega), vM_runs (g := H1) r4.2.1.1 (by omega), bdP_s]
      by_cases c : H1 625 (140 + k) = 0
      · have ck : 0 < k ∧ k < H1 625 0 := by omega
        obtain ⟨v, G2, r2, d2, w1, w2, w3, w4, w5, w6, w7, w8, -, -⟩ := wx_exit (code := code) r4 ck c b
        obtain ⟨u1_, u2, u3, u4⟩ := wx_back r4 w7 w4 w5 w6
        rw [if_pos c, if_pos (show (0 < k ∧ k < H1 625 0) ∧ H1 625 (140 + k) = 0 from ⟨ck, c⟩), if_neg f0, if_neg f0, w1, bdN_s, fM_fallsBy, w2, bdN_s, w3, bdN_s, u1_, bdN_s, bdN_s]
        exact nx v _ _ u2 (fun k k0 k1 => (u4 k k0 k1).trans (r5 k k0 k1)) (by rw [u3]; exact r6) (by omega)
      · rw [if_neg c, if_neg (show ¬ ((0 < k ∧ k < H1 625 0) ∧ H1 625 (140 + k) = 0) from fun z => c z.2), if_pos rfl, if_pos rfl]
        exact nx (-1) _ _ r4 r5 r6 (by omega)) (fun n k s t k0 k1 hr => by
      obtain ⟨x1, y1, G1⟩ := s
      obtain ⟨x2, y2, H1⟩ := t
      obtain ⟨r1, r2, r3, r4, r5, r6⟩ := hr
      have r3 : -1 ≤ y1 := r3
      have r4 : JA G1 H1 := r4
      have r5 : ∀ k, 0 ≤ k → k < 780 → H1 625 k = H 625 k := r5
      have q1 : QQ 1 G1 (H1 625) (fun _ => 0) := jaQ r4
      have z0 : H1 625 0 = H 625 0 := r5 0 (by omega) (by omega)
      show bC_weakest_28 0 code (1 + 2) 40 (lC_weakest_28 0 code (1 + 2) 40 n) x1 y1 k G1 = lC_weakest_28 0 code (1 + 2) 40 n x1 y1 (k + 1) G1
      rw [bC_weakest_28, if_pos (by omega), if_pos ⟨kdT2 T1, by omega, by rw [szT2 T1]; omega⟩, TS_p q1.2.1.1 (by omega), if_pos (kdp T1 (by omega)), qP_mortal q1 (by omega), if_neg (by omega), bdP_s, if_pos rfl, jC_weakest_64, if_neg (by omega), w32_r (by omega)]) (fun n s _ _ => by
      obtain ⟨x1, y1, G1⟩ := s
      show bC_weakest_28 0 code (1 + 2) 40 (lC_weakest_28 0 code (1 + 2) 40 n) x1 y1 40 G1 = _
      rw [bC_weakest_28, if_neg (by omega)]) (fun n s t hr => by
      obtain ⟨x2, y2, H1⟩ := t
      have r4 : JA s.2.2 H1 := hr.2.2.2.1
      have r5 : ∀ k, 0 ≤ k → k < 780 → H1 625 k = H 625 k := hr.2.2.2.2.1
      have z0 : H1 625 0 = H 625 0 := r5 0 (by omega) (by omega)
      show bM_weakest_38 624 code (lM_weakest_38 624 code n) x2 y2 (H 625 0) H1 = _
      rw [bM_weakest_38, r4.2.1.1.1, if_pos (g625 (by omega)), if_neg (by omega)]) ⟨rfl, rfl, by show (-1 : Int) ≤ -1; omega, o1, fun k _ _ => by show th H 0 625 k = _; rw [e25], show th H 0 624 8 = 0 from th8⟩
    obtain ⟨x1, y1, G1⟩ := s
    obtain ⟨x2, y2, H1⟩ := t
    obtain ⟨r1, r2, r3, r4, r5, r6⟩ := e3
    have e1 : lC_weakest_28 0 code (1 + 2) 40 fu (-1) (-1) 0 G = some (0, (x1, G1)) := e1
    have e2 : lM_weakest_38 624 code fu (-1) (-1) 1 (th H 0) = some (x2, H1) := e2
    rw [if_pos b, if_neg f0, jM_weakest_22, if_pos kd_c624, fl0, bdN_s, if_pos rfl, e2, rg_y b, bdQ_0, ja0 h, if_pos (kdT T1), TS_1 (jaQ h).2.1.1, if_pos (kdT2 T1), szT2 T1, e1]
    exact JO_i r4 r6 (fun _ => r1)
  · rw [if_neg b, if_pos rfl, jM_weakest_22, if_pos kd_c624, fl1, bdN_s, if_neg f0, rg_n b, qe1]
    exact JO_e (JA_th o1) (th8.trans rfl) (by decide)
/-- how often a duty's holder may exit, in both -/
theorem dl_both (hi : JA G H) (ha : 0 ≤ a ∧ a ≤ 7) : ∀ (m n1 n2 : Nat) (v : Int) (G' : gH) (r d : Int → Int), (40 - r 1).toNat = m → m < n1 → m < n2 → (0 ≤ v ∧ v ≤ r 1) → TF 45 G G' → QQ 45 G' r d → WBF r → (∀ i, 0 ≤ i → i < 40 → d i = 0) → ∃ w G2 H2, lC_dutyLife_19 0 a n1 v G' = some (0, (w, G2)) ∧ lM_dutyLife_22 624 a n2 v (sw (md (bgG H) d) r) = some (w, H2) ∧ JA G2 H2 ∧ H2 624 8 = H 624 8 := by
  intro m
  induction m with
  | zero =>
    intro n1 n2 v G' r d hm hn1 hn2 hv hF q hw hd
    have := WBF_1 hw
    omega
  | succ m ih =>
    intro n1 n2 v G' r d hm hn1 hn2 hv hF q hw hd
    obtain ⟨n1, rfl⟩ : ∃ k, n1 = k + 1 := ⟨n1 - 1, by omega⟩
    obtain ⟨n2, rfl⟩ : ∃ k, n2 = k + 1 := ⟨n2 - 1, by omega⟩
    have w1 := WBF_1 hw
    have hbb := QQ_b q
    have hd' := hw.2.2.2.2.2.2.1 a ha.1 (by omega)
    have h0 : sw (md (bgG H) d) r 624 0 = 625 := m0s (md_MS (MInv_bg hi.2.1).1)
    have g1 : G' 0 1 = 45 := by rw [hF 0 (by omega)]; exact ja1 hi
    have r0 : G' 45 0 = pc 45 0 := by rw [TS_0 q.2.1.1, ← pc_0]
    show ∃ w G2 H2, bC_dutyLife_19 0 a (lC_dutyLife_19 0 a n1) v G' = _ ∧ bM_dutyLife_22 624 a (lM_dutyLife_22 624 a n2) v (sw (md (bgG H) d) r) = _ ∧ _
    rw [bC_dutyLife_19, bM_dutyLife_22, if_pos (show v < 40 by omega), g1, if_pos (kdT T45), qT_holder q (by omega) (by omega), bdP_s, bdP_s, r0, h0, w32_r (x := 11 + a) (by omega), if_pos (g625 (by omega)), if_pos (g625 (by omega)), sw_s]
    by_cases c : r (11 + a) = 0
    · obtain ⟨y1, y2, y3, -⟩ := wx_back hi hF q hd hw
      rw [c, if_pos rfl, if_pos rfl, y1, bdN_s]
      exact ⟨v, G', _, rfl, rfl, y2, by rw [y3]⟩
    · obtain ⟨G2, u, d2, x1, x2, x3, x4, x5, x6, x7, -, -, -, x11⟩ := lk_exit (code := 0) (MInv_bg hi.2.1).1 q hw (p := r (11 + a)) (by omega) hd'.2.2 (by omega)
      rw [if_neg (fun z => c (pc_inj hd'.1 (by omega) z)), if_neg c, x1, bdN_s, x2, bdN_s, if_neg (show ¬ u < 0 by omega), w32_r (x := v + 1) (by omega)]
      exact ih n1 n2 (v + 1) G2 _ d2 (by omega) (by omega) (by omega) (by omega) (TF_t hF x5) x3 x4 (fun i i0 i1 => x11 i (hd i i0 i1))
theorem jo_dutyLife (h : JA G H) : JO t0 True (fC_dutyLife G 0 a) (fM_dutyLife H 624 a) := by
  have o1 := JA_th (t := 0) h
  have e8 : pU H 624 8 0 = th H 0 := rfl
  have hfu := fu_ge
  rw [fC_dutyLife, fM_dutyLife, bnd_s, e8]
  rcases vM_noDuty (g := th H 0) (a := a) (c := 1) with ⟨a1, e1⟩ | ⟨a1, e1⟩
  · rw [e1, bdN_s, if_neg f0, rg_n a1, qe1]; exact JO_e (JA_th o1) (th8.trans rfl) (by decide)
  · obtain ⟨A, x0, x1, x2⟩ := wx_take o1
    have b25 : bgG (th H 0) 625 = th H 0 625 := bgG_n (by omega)
    have w := o1.2.1.2.1
    have w1 := WBF_1 w
    rw [b25] at x2
    obtain ⟨v, G2, H2, z1, z2, z3, z4⟩ := dl_both o1 a1 _ fu fu 0 A (th H 0 625) (bgG (th H 0) 630) rfl (by omega) (by omega) (by omega) x1 x2 w (MInv_bg o1.2.1).2.2.1
    rw [md_id, ← b25, sw_id] at z2
    rw [e1, bdN_s, if_pos rfl, rg_y a1, bdQ_0, ja1 h, if_pos (kdT T45), ja0 h, x0, bdN_s, z1, vM_begins o1.2.1.1, bdN_s, z2]
    exact JO_i z3 (by rw [z4]; exact th8) (fun _ => rfl)
end PAR38
/-! ===== questions leave the state; count, in both (own work) ===== -/
section PAR39
variable {g g' G G' H H' K : gH} {r r' dm : Int → Int} {a b c d e i j k l m n o p q s t u v w x y z S T gp code : Int}
/-- a question of the reference, behind which all stands -/
theorem jw_Q {X : Option (Int × gH)} (h : JA G H) (hp : PO H X) (q : Q8 H X) : ∃ w H', X = some (w, H') ∧ JA G H' := by
  obtain ⟨w, H', e, m1, -⟩ := hp
  have f := q w H' e
  exact ⟨w, H', e, JA_row h m1 (fun k _ _ => by rw [f.1 625 (by omega)]) (f.1 629 (by omega)) (f.1 628 (by omega)) (f.1 631 (by omega)) (fun k k0 k1 k2 => f.2 k k2)⟩
theorem jw_print (h : JA G H) : ∃ w H', fM_print H 624 p a = some (w, H') ∧ JA G H' := by
  obtain ⟨w, H', e, m1, -⟩ := oM_print (p := p) (a := a) h.2.1
  have f := q9_fM_print (v1 := p) (v2 := a) (E9_r h.2.1.1.2.2.2.2.2.2.2.2.1) w H' e
  exact ⟨w, H', e, JA_row h m1 (fun k _ _ => by rw [f.2.1 625 (by omega) (by omega)]) (f.2.1 629 (by omega) (by omega)) (f.2.1 628 (by omega) (by omega)) (f.2.1 631 (by omega) (by omega)) (fun k k0 k1 k2 => f.2.2 k k2 (by omega))⟩
theorem JA_OO (h : JA G H) (ho : OO G G') : JA G' H := by
  obtain ⟨h1, h2, h3, h4, h5, h6⟩ := h
  exact ⟨(CO_OO (CO_r h1) ho).1, h2, QQ_eq h3 (fun x x0 x1 => ho.1 x (by omega)), RG_e h4 (fun x x0 x1 => ho.1 x (by omega)) rfl rfl, SV_e h5 (fun x x0 x1 => ho.1 x (by omega)) (by rw [ho.1 0 (by omega)]) rfl rfl, IE_e h6 (fun x x0 x1 => ho.1 x (by omega)) (fun _ _ _ => rfl) rfl⟩
/-- the class's print writes its output alone -/
theorem jp_print (h : CInv G) : WT (fun _ K => OO G K) (fun e K => (e = 2 ∨ e = 0 ∨ e = 1) ∧ K = G) (fC_print G 0 v w) := by
  have hc := CO_r h
  rw [fC_print]
  refine W_bdQ (tC_namedP hc) (fun c hcc => W_bdQ tC_checkRange (fun _ _ => ?_) (fun e he => WT_e ⟨by subst he; simp, rfl⟩)) (fun e he => WT_e ⟨by subst he; simp, rfl⟩)
  have ht := CO_T hc T1
  have pa := Pn_a ht hcc
  have l137 : ∀ A, OO G A → WT (fun _ K => OO G K) (fun e K => (e = 2 ∨ e = 0 ∨ e = 1) ∧ K = G) (jC_print_137 A 0) := by
    intro A hA
    have wA := CO_OO hc hA
    rw [jC_print_137, co5 wA, if_pos kd_622]
    refine W_ite (fun _ => W_bdN (tO_putSign hA) (fun _ B hB => ?_)) (fun _ => WT_i hA)
    have wB := CO_OO hc hB
    rw [co5 wB, if_pos kd_622]
    exact WT_i hB
  have l24 : ∀ s, WT (fun _ K => OO G K) (fun e K => (e = 2 ∨ e = 0 ∨ e = 1) ∧ K = G) (jC_print_24 G 0 w c s) := by
    intro s
    rw [jC_print_24]
    refine W_bdQ tC_checkState (fun _ _ => ?_) (fun e he => WT_e ⟨by subst he; simp, rfl⟩)
    rw [co5 hc, if_pos kd_622, bnd_s]
    have wA := CO_w (a := 622) (b := 1) (v := 0) hc (by omega)
    have oA : OO G (pU G 622 1 0) := OO_w ⟨fun _ _ => rfl, h.1.2.2.2.2.2.2⟩ (by omega)
    generalize pU G 622 1 0 = A at *
    have go : ∀ B, OO G B → WT (fun _ K => OO G K) (fun e K => (e = 2 ∨ e = 0 ∨ e = 1) ∧ K = G) (jC_print_137 B 0) := fun B hB => l137 B hB
    rw [co5 wA, if_pos kd_622, co0 wA, if_pos kd_622, if_pos kd_622, if_pos kd_622]
    exact W_ite (fun _ => W_bdN (tO_putPath ht T1 oA pa) (fun _ B hB => go B hB)) (fun _ => W_ite (fun _ => W_bdN (tO_putChildren ht T1 oA) (fun _ B hB => go B hB)) (fun _ => W_ite (fun _ => W_bdN (tC_putBranch ht T1 fr 0 c A oA pa (by omega) (by show (41 - (0 : Int)).toNat < 60; omega)) (fun _ B hB => go B hB)) (fun _ => W_ite (fun _ => W_bdN (tO_putDuties ht T1 oA pa) (fun _ B hB => go B hB)) (fun _ => W_bdN (tO_putZombies ht T1 oA) (fun _ B hB => go B hB)))))
  rw [if_pos (Pa_kd T1 pa)]
  exact W_ite (fun _ => l24 0) (fun _ => l24 1)
/-- what a question of both answers -/
def JQ (tm : Nat → Int) (G : gH) (X : Option (Nat × Int)) (Y : Option (Int × gH)) : Prop := (∃ v H, X = some (0, v) ∧ Y = some (v, H) ∧ JA G H ∧ H 624 8 = 0) ∨ ∃ e v w H, X = some (e + 1, v) ∧ Y = some (w, H) ∧ JA G H ∧ H 624 8 = tm e ∧ ¬ tm e = 0
theorem JQ_i {tm : Nat → Int} (h : JA G H) (e : H 624 8 = 0) : JQ tm G (some (0, v)) (some (v, H)) := Or.inl ⟨v, H, rfl, rfl, h, e⟩
theorem JQ_e {tm : Nat → Int} {k : Nat} (h : JA G H) (e : H 624 8 = tm k) (hn : ¬ tm k = 0) : JQ tm G (some (k + 1, v)) (some (w, H)) := Or.inr ⟨k, v, w, H, rfl, rfl, h, e, hn⟩
theorem vM_inState (hs : MS H) (hM : 1 ≤ H 625 0 ∧ H 625 0 ≤ 40) : fM_inState H 624 a = some (cn (fun c => decide (H 625 (140 + c) = a)) (H 625 0).toNat 0) := by
  have h0 := hs.1
  have hfu := fu_ge
  have l : lM_inState_4 H 624 a fu 0 0 = some (0 + cn (fun c => decide (H 625 (140 + c) = a)) (H 625 0).toNat 0) := cnt_loop (L := fun n k x => lM_inState_4 H 624 a n x k) (E := some) (fun c => decide (H 625 (140 + c) = a)) (H 625 0) 0 (by omega) (fun n k x h1 h2 h3 h4 => by
    show bM_inState_4 H 624 a (lM_inState_4 H 624 a n) x k = _
    rw [bM_inState_4, h0, if_pos (g625 (by omega)), if_pos h2, w32_r (x := 140 + k) (by omega), if_pos (g625 (by omega)), w32_r (x := k + 1) (by omega), w32_r (x := x + 1) (by omega), w32_r (x := x + 0) (by omega)]
    by_cases c : H 625 (140 + k) = a
    · rw [if_pos c, if_pos (decide_eq_true c)]
    · rw [if_neg c, if_neg (fun z => c (of_decide_eq_true z))]) (fun n k x h1 h2 => by
    show bM_inState_4 H 624 a (lM_inState_4 H 624 a n) x k = _
    rw [bM_inState_4, h0, if_pos (g625 (by omega)), if_neg h2]) (H 625 0).toNat 0 0 fu (by omega) (by omega) (by omega) (by omega) (by omega)
  rw [fM_inState, l, Int.zero_add]
theorem or_0 (h : InR v) : opI 2 v 0 = v := by
  have e : opI 2 v 0 = (toI v ||| toI 0).toInt := rfl
  rw [e, show toI 0 = 0 from rfl, Int32.or_zero, toI_toInt]
  exact w32_id h
/-- the duties of a process as a mask -/
theorem lk_duties (hs : MS H) (h : QQ S G r dm) (hp : 0 ≤ p ∧ p < r 0) : ∃ v, fT_dutiesOf G S (pc S p) = some v ∧ fM_dutiesOf (sw H r) 624 p = some v ∧ InR v := by
  have hb := QQ_b h
  have hfu := fu_ge
  have key : ∀ (m n1 n2 : Nat) (d v : Int), (8 - d).toNat = m → m < n1 → m < n2 → 0 ≤ d → InR v → ∃ w, lT_dutiesOf_4 G S (pc S p) n1 v d = some w ∧ lM_dutiesOf_4 (sw H r) 624 p n2 v d = some w ∧ InR w := by
    intro m
    induction m with
    | zero =>
      intro n1 n2 d v hm hn1 hn2 d0 hv
      obtain ⟨n1, rfl⟩ : ∃ k, n1 = k + 1 := ⟨n1 - 1, by omega⟩
      obtain ⟨n2, rfl⟩ : ∃ k, n2 = k + 1 := ⟨n2 - 1, by omega⟩
      refine ⟨v, ?_, ?_, hv⟩
      · show bT_dutiesOf_4 G S (pc S p) (lT_dutiesOf_4 G S (pc S p) n1) v d = _
        rw [bT_dutiesOf_4, if_neg (by omega)]
      · show bM_dutiesOf_4 (sw H r) 624 p (lM_dutiesOf_4 (sw H r) 624 p n2) v d = _
        rw [bM_dutiesOf_4, if_neg (by omega)]
    | succ m ih =>
      intro n1 n2 d v hm hn1 hn2 d0 hv
      obtain ⟨n1, rfl⟩ : ∃ k, n1 = k + 1 := ⟨n1 - 1, by omega⟩
      obtain ⟨n2, rfl⟩ : ∃ k, n2 = k + 1 := ⟨n2 - 1, by omega⟩
      have eh : G (S + 3) d = r (11 + d) := h.2.2.2.1.2.2.1 d d0 (by omega)
      show ∃ w, bT_dutiesOf_4 G S (pc S p) (lT_dutiesOf_4 G S (pc S p) n1) v d = _ ∧ bM_dutiesOf_4 (sw H r) 624 p (lM_dutiesOf_4 (sw H r) 624 p n2) v d = _ ∧ _
      rw [bT_dutiesOf_4, bM_dutiesOf_4, if_pos (show d < 8 by omega), TS_2 h.2.1.1, if_pos ⟨kdT3 h.1, d0, by rw [szT3 h.1]; omega⟩, if_pos (kdp h.1 (by omega)), eh, TS_n h.2.1.1 (by omega), w32_r (x := d + 1) (by omega), if_pos (show d < 8 by omega), w32_r (x := 11 + d) (by omega), if_pos (gd25 hs (by omega)), m0s hs, sw_s, or_0 hv]
      by_cases c : r (11 + d) = p
      · rw [if_pos c, if_pos c]
        exact ih n1 n2 (d + 1) _ (by omega) (by omega) (by omega) (by omega) (inR_opI _ _ _)
      · rw [if_neg c, if_neg c]
        exact ih n1 n2 (d + 1) v (by omega) (by omega) (by omega) (by omega) hv
  obtain ⟨w, e1, e2, e3⟩ := key 8 fu fu 0 0 (by omega) (by omega) (by omega) (by omega) inR_0
  exact ⟨w, e1, e2, e3⟩
theorem jq_count (h : JA G H) : JQ t0 G (fC_count G 0 a) (fM_count H 624 a) := by
  have hb := jaM h
  have q := jaQ h
  have o1 := JA_th (t := 0) h
  have e25 : th H 0 625 = H 625 := th_n (by omega)
  have h01 : th H 0 624 0 = 625 := o1.2.1.1.1
  have e8 : pU H 624 8 0 = th H 0 := rfl
  obtain ⟨⟨c0, c1, c2, c3, c4, c5⟩, -⟩ := q.2.2.2.1
  have is := fun s => vM_inState (a := s) o1.2.1.1 (by rw [e25]; exact hb)
  rw [e25] at is
  have t6 : th H 0 624 6 = G 133 1 := by rw [th_f (by omega)]; exact h.2.2.2.1.1.symm
  obtain ⟨dv, d1, d2, -⟩ := lk_duties (p := 0) o1.2.1.1 (by rw [← e25] at q; exact q) (by rw [e25]; omega)
  rw [sw_id] at d2
  rw [fC_count, fM_count, bnd_s, e8, vM_inRange, bdP_s, ja0 h, ja3 h, if_pos (kdT T1), if_pos kd_133, TS_0 q.2.1.1, ← pc_0, d1]
  by_cases ha : 0 ≤ a ∧ a ≤ 10
  · rw [if_pos ha, if_neg f0, jM_count_21, if_pos kd_c624, fl0, bdN_s, if_pos rfl, h01, e25]
    have hv : a = 0 ∨ a = 1 ∨ a = 2 ∨ a = 3 ∨ a = 4 ∨ a = 5 ∨ a = 6 ∨ a = 7 ∨ a = 8 ∨ a = 9 ∨ a = 10 := by omega
    rcases hv with rfl | rfl | rfl | rfl | rfl | rfl | rfl | rfl | rfl | rfl | rfl
    · simp only [Int.reduceEq, ↓reduceIte]
      rw [if_pos (g625 (by omega)), c0]
      exact JQ_i o1 th8
    · simp only [Int.reduceEq, ↓reduceIte]
      rw [qT_count q (by omega), bdP_s, show w32 (1 - 1) = 0 from rfl, is 0, bdP_s]
      exact JQ_i o1 th8
    · simp only [Int.reduceEq, ↓reduceIte]
      rw [qT_count q (by omega), bdP_s, show w32 (2 - 1) = 1 from rfl, is 1, bdP_s]
      exact JQ_i o1 th8
    · simp only [Int.reduceEq, ↓reduceIte]
      rw [qT_count q (by omega), bdP_s, show w32 (3 - 1) = 2 from rfl, is 2, bdP_s]
      exact JQ_i o1 th8
    · simp only [Int.reduceEq, ↓reduceIte]
      rw [show w32 (w32 (1 + 4) - 4) = 1 from rfl, if_pos (g625 (by omega)), c1]
      exact JQ_i o1 th8
    · simp only [Int.reduceEq, ↓reduceIte]
      rw [show w32 (w32 (1 + 5) - 4) = 2 from rfl, if_pos (g625 (by omega)), c2]
      exact JQ_i o1 th8
    · simp only [Int.reduceEq, ↓reduceIte]
      rw [show w32 (w32 (1 + 6) - 4) = 3 from rfl, if_pos (g625 (by omega)), c3]
      exact JQ_i o1 th8
    · simp only [Int.reduceEq, ↓reduceIte]
      rw [show w32 (w32 (1 + 7) - 4) = 4 from rfl, if_pos (g625 (by omega)), c4]
      exact JQ_i o1 th8
    · simp only [Int.reduceEq, ↓reduceIte]
      rw [bdP_s, d2, bdP_s]
      exact JQ_i o1 th8
    · simp only [Int.reduceEq, ↓reduceIte]
      rw [t6]
      exact JQ_i o1 th8
    · simp only [Int.reduceEq, ↓reduceIte]
      rw [if_pos (g625 (by omega)), c5]
      exact JQ_i o1 th8
  · rw [if_neg ha, if_pos rfl, jM_count_21, if_pos kd_c624, fl1, bdN_s, if_neg f0, if_neg (show ¬ a = 0 by omega), if_neg (show ¬ a = 1 by omega), if_neg (show ¬ a = 2 by omega), if_neg (show ¬ a = 3 by omega), if_neg (show ¬ a = 4 by omega), if_neg (show ¬ a = 5 by omega), if_neg (show ¬ a = 6 by omega), if_neg (show ¬ a = 7 by omega), if_neg (show ¬ a = 8 by omega), if_neg (show ¬ a = 9 by omega), if_neg (show ¬ a = 10 by omega)]
    exact JQ_e (k := 0) (JA_th o1) (th8.trans rfl) (by decide)
end PAR39
/-! ===== a call of both from one heap: the class's first, then the reference's (own work) ===== -/
section PAR41
variable {g g' G G' H H' K : gH} {r r' dm : Int → Int} {a b c d i j l m n o p q s t u v w x y z S T gp code : Int}
theorem MI_x (h : MInv G) (e : ∀ x, 624 ≤ x → x < 635 → H x = G x) : MInv H := by
  unfold MInv MS at *
  rw [e 624 (by omega) (by omega), e 625 (by omega) (by omega), e 628 (by omega) (by omega), e 629 (by omega) (by omega), e 630 (by omega) (by omega)]
  exact h
theorem CI_x (h : CInv G) (e : ∀ x, x < 624 → H x = G x) : CInv H := by
  obtain ⟨⟨h1, h2, h3, h4, h5, h6, h7⟩, ht, hl⟩ := h
  refine ⟨⟨by rw [e 0 (by omega)]; exact h1, by rw [e 133 (by omega)]; exact h2, by rw [e 134 (by omega)]; exact h3, by rw [e 575 (by omega)]; exact h4, by rw [e 575 (by omega)]; exact h5, by rw [e 576 (by omega)]; exact h6, by rw [e 622 (by omega)]; exact h7⟩, fun S hS => ?_, by rw [e 576 (by omega)]; exact hl⟩
  have o := out_Ts S hS
  exact TI_F (ht S hS) (fun x x0 x1 => e x (by omega))
/-- of the class's heap it speaks below 624, of the reference's from 624 to 634 -/
theorem JA_x (h : JA G H) (e1 : ∀ x, x < 624 → G' x = G x) (e2 : ∀ x, 624 ≤ x → x < 635 → H' x = H x) : JA G' H' := by
  obtain ⟨h1, h2, h3, h4, h5, h6⟩ := h
  exact ⟨CI_x h1 e1, MI_x h2 e2, by rw [e2 625 (by omega) (by omega)]; exact QQ_eq h3 (fun x x0 x1 => e1 x (by omega)), RG_e h4 (fun x x0 x1 => e1 x (by omega)) (by rw [e2 624 (by omega) (by omega)]) (e2 629 (by omega) (by omega)), SV_e h5 (fun x x0 x1 => e1 x (by omega)) (by rw [e1 0 (by omega)]) (by rw [e2 624 (by omega) (by omega)]) (e2 628 (by omega) (by omega)), IE_e h6 (fun x x0 x1 => e1 x (by omega)) (fun k k0 k1 => by rw [e2 624 (by omega) (by omega)]) (e2 631 (by omega) (by omega))⟩
theorem fr_WC {E : Nat → Prop} {X : Option (Nat × (Int × gH))} (h : WC E g X) : ∀ e v G, X = some (e, (v, G)) → ∀ x, 624 ≤ x → G x = g x := by
  intro e v G he
  obtain ⟨e', v', G', q, z⟩ := h
  rw [he] at q
  cases q
  rcases z with ⟨-, c⟩ | ⟨k, -, -, c⟩
  · exact fun x x0 => c.2.1 x (Or.inr x0)
  · exact fun x x0 => c.2.1 x (Or.inr x0)
theorem fr_PO {X : Option (Int × gH)} (h : PO K X) : ∀ w H, X = some (w, H) → MF K H := by
  intro w H he
  obtain ⟨w', H', q, -, f, -⟩ := h
  rw [he] at q
  cases q
  exact f
/-- a call that may throw -/
theorem step_T {tm : Nat → Int} {P : Prop} {Xc : Option (Nat × (Int × gH))} {Y : gH → Option (Int × gH)} (h : JA g g) (hj : ∀ K, JA g K → JO tm P Xc (Y K)) (hc : ∀ e v G, Xc = some (e, (v, G)) → ∀ x, 624 ≤ x → G x = g x) (hm : ∀ K w H, MInv K → Y K = some (w, H) → MF K H) : ∃ e v G, Xc = some (e, (v, G)) ∧ ∀ G1, (∀ x, ¬ x = 635 → G1 x = G x) → ∃ w H, Y G1 = some (w, H) ∧ JA H H ∧ H 635 = G1 635 ∧ ((e = 0 ∧ H 624 8 = 0 ∧ (P → v = w)) ∨ ∃ k, e = k + 1 ∧ H 624 8 = tm k ∧ ¬ tm k = 0) := by
  have go : ∀ e v G, Xc = some (e, (v, G)) → ∀ G1, (∀ x, ¬ x = 635 → G1 x = G x) → ∃ w H, Y G1 = some (w, H) ∧ JA H H ∧ H 635 = G1 635 ∧ ((e = 0 ∧ H 624 8 = 0 ∧ (P → v = w)) ∨ ∃ k, e = k + 1 ∧ H 624 8 = tm k ∧ ¬ tm k = 0) := by
    intro e v G he G1 hG1
    have fr := hc e v G he
    have jK : JA g G1 := JA_x h (fun _ _ => rfl) (fun x x0 x1 => (hG1 x (by omega)).trans (fr x x0))
    rcases hj G1 jK with ⟨v', w', G', H', a1, a2, b1, b2, b3⟩ | ⟨k, v', w', G', H', a1, a2, b1, b2, b3⟩
    · rw [he] at a1
      cases a1
      have mf := hm G1 w' H' jK.2.1 a2
      exact ⟨w', H', a2, JA_x b1 (fun x hx => (mf x (by omega)).trans (hG1 x (by omega))) (fun _ _ _ => rfl), mf 635 (by omega), Or.inl ⟨rfl, b2, b3⟩⟩
    · rw [he] at a1
      cases a1
      have mf := hm G1 w' H' jK.2.1 a2
      exact ⟨w', H', a2, JA_x b1 (fun x hx => (mf x (by omega)).trans (hG1 x (by omega))) (fun _ _ _ => rfl), mf 635 (by omega), Or.inr ⟨k, rfl, b2, b3⟩⟩
  rcases hj g h with ⟨v, w, G, H, e1, -⟩ | ⟨k, v, w, G, H, e1, -⟩
  · exact ⟨0, v, G, e1, go 0 v G e1⟩
  · exact ⟨k + 1, v, G, e1, go (k + 1) v G e1⟩
theorem k635 : kd 635 = 23 ∧ (0 : Int) ≤ 0 ∧ 0 < sz 635 := by decide +kernel
/-- through the law's own method, which stores the answer -/
theorem step_W {tm : Nat → Int} {P : Prop} {Xc : Option (Nat × (Int × gH))} {Y : gH → Option (Int × gH)} {W : Nat → gH → Option (Int × gH)} (h : JA g g) (hj : ∀ K, JA g K → JO tm P Xc (Y K)) (hc : ∀ e v G, Xc = some (e, (v, G)) → ∀ x, 624 ≤ x → G x = g x) (hm : ∀ K w H, MInv K → Y K = some (w, H) → MF K H) (hW : ∀ k G, ¬ tm k = 0 → W k G = some (tm k, G)) : ∃ c G1 w H, bdT Xc (fun y2 g4 => if kd 635 = 23 ∧ (0 : Int) ≤ 0 ∧ 0 < sz 635 then bnd (pU g4 635 0 y2) (fun g9 => some (0, g9)) else none) W = some (c, G1) ∧ Y G1 = some (w, H) ∧ JA H H ∧ H 624 8 = c ∧ (c = 0 → P → H 635 0 = w) := by
  obtain ⟨e, v, G, e1, hk⟩ := step_T h hj hc hm
  cases e with
  | zero =>
    obtain ⟨w, H, a1, a2, a3, a4⟩ := hk (pU G 635 0 v) (fun x hx => pU_n hx)
    rcases a4 with ⟨-, b2, b3⟩ | ⟨k, b1, -⟩
    · refine ⟨0, pU G 635 0 v, w, H, by rw [e1, bdT_0, if_pos k635, bnd_s], a1, a2, b2, fun _ hP => ?_⟩
      rw [a3, pU_s, u1_s]; exact b3 hP
    · cases b1
  | succ k =>
    obtain ⟨w, H, a1, a2, a3, a4⟩ := hk G (fun _ _ => rfl)
    rcases a4 with ⟨b1, -⟩ | ⟨k', b1, b2, b3⟩
    · cases b1
    · cases b1
      exact ⟨tm k, G, w, H, by rw [e1, bdT_e]; exact hW k G b3, a1, a2, b2, fun z => absurd z b3⟩
/-- the same, where the answer is told by 0 or 1 -/
theorem step_W2 {tm : Nat → Int} {P : Prop} {Xc : Option (Nat × (Int × gH))} {Y : gH → Option (Int × gH)} {W : Nat → gH → Option (Int × gH)} (h : JA g g) (hj : ∀ K, JA g K → JO tm P Xc (Y K)) (hc : ∀ e v G, Xc = some (e, (v, G)) → ∀ x, 624 ≤ x → G x = g x) (hm : ∀ K w H, MInv K → Y K = some (w, H) → MF K H) (hW : ∀ k G, ¬ tm k = 0 → W k G = some (tm k, G)) : ∃ c G1 w H, bdT Xc (fun y2 g4 => if y2 = 0 then (if kd 635 = 23 ∧ (0 : Int) ≤ 0 ∧ 0 < sz 635 then bnd (pU g4 635 0 0) (fun g11 => some (0, g11)) else none) else (if kd 635 = 23 ∧ (0 : Int) ≤ 0 ∧ 0 < sz 635 then bnd (pU g4 635 0 1) (fun g14 => some (0, g14)) else none)) W = some (c, G1) ∧ Y G1 = some (w, H) ∧ JA H H ∧ H 624 8 = c ∧ (c = 0 → P → H 635 0 = if w = 0 then 0 else 1) := by
  obtain ⟨e, v, G, e1, hk⟩ := step_T h hj hc hm
  cases e with
  | zero =>
    have go : ∀ u, u = (if v = 0 then 0 else 1) → ∃ w H, Y (pU G 635 0 u) = some (w, H) ∧ JA H H ∧ H 624 8 = 0 ∧ (P → H 635 0 = if w = 0 then 0 else 1) := by
      intro u hu
      obtain ⟨w, H, a1, a2, a3, a4⟩ := hk (pU G 635 0 u) (fun x hx => pU_n hx)
      rcases a4 with ⟨-, b2, b3⟩ | ⟨k, b1, -⟩
      · refine ⟨w, H, a1, a2, b2, fun hP => ?_⟩
        rw [a3, pU_s, u1_s, hu, b3 hP]
      · cases b1
    by_cases z : v = 0
    · obtain ⟨w, H, a1, a2, a3, a4⟩ := go 0 (by rw [if_pos z])
      exact ⟨0, pU G 635 0 0, w, H, by rw [e1, bdT_0, if_pos z, if_pos k635, bnd_s], a1, a2, a3, fun _ hP => a4 hP⟩
    · obtain ⟨w, H, a1, a2, a3, a4⟩ := go 1 (by rw [if_neg z])
      exact ⟨0, pU G 635 0 1, w, H, by rw [e1, bdT_0, if_neg z, if_pos k635, bnd_s], a1, a2, a3, fun _ hP => a4 hP⟩
  | succ k =>
    obtain ⟨w, H, a1, a2, a3, a4⟩ := hk G (fun _ _ => rfl)
    rcases a4 with ⟨b1, -⟩ | ⟨k', b1, b2, b3⟩
    · cases b1
    · cases b1
      exact ⟨tm k, G, w, H, by rw [e1, bdT_e]; exact hW k G b3, a1, a2, b2, fun z => absurd z b3⟩
/-- a call that never throws and changes the class -/
theorem step_N {P : Prop} {Xc : Option (Int × gH)} {Y : gH → Option (Int × gH)} (h : JA g g) (hj : ∀ K, JA g K → JN P Xc (Y K)) (hc : ∀ v G, Xc = some (v, G) → ∀ x, 624 ≤ x → G x = g x) (hm : ∀ K w H, MInv K → Y K = some (w, H) → MF K H) : ∃ v G w H, Xc = some (v, G) ∧ Y G = some (w, H) ∧ JA H H ∧ (P → v = w) := by
  obtain ⟨v, w, G, H, e1, -⟩ := hj g h
  have fr := hc v G e1
  have jK : JA g G := JA_x h (fun _ _ => rfl) (fun x x0 x1 => fr x x0)
  obtain ⟨v', w', G', H', a1, a2, b1, b2, b3⟩ := hj G jK
  rw [e1] at a1
  cases a1
  have mf := hm G w' H' jK.2.1 a2
  exact ⟨v, G, w', H', e1, a2, JA_x b1 (fun x hx => mf x (by omega)) (fun _ _ _ => rfl), b3⟩
/-- a question of the class, through the law's own method -/
theorem step_Q {tm : Nat → Int} {Xc : Option (Nat × Int)} {Y : gH → Option (Int × gH)} {W : Nat → Option (Int × gH)} (h : JA g g) (hj : ∀ K, JA g K → JQ tm g Xc (Y K)) (hm : ∀ K w H, MInv K → Y K = some (w, H) → MF K H) (hW : ∀ k, ¬ tm k = 0 → W k = some (tm k, g)) : ∃ c G1 w H, bdQ Xc (fun y2 => if kd 635 = 23 ∧ (0 : Int) ≤ 0 ∧ 0 < sz 635 then bnd (pU g 635 0 y2) (fun g9 => some (0, g9)) else none) W = some (c, G1) ∧ Y G1 = some (w, H) ∧ JA H H ∧ H 624 8 = c ∧ (c = 0 → H 635 0 = w) := by
  rcases hj g h with ⟨v, H, e1, -⟩ | ⟨k, v, w, H, e1, -, -, -, hn⟩
  · have jK : JA g (pU g 635 0 v) := JA_x h (fun _ _ => rfl) (fun x x0 x1 => pU_n (by omega))
    rcases hj _ jK with ⟨v', H', a1, a2, b1, b2⟩ | ⟨k, v', w', H', a1, -⟩
    · rw [e1] at a1
      cases a1
      have mf := hm _ v H' jK.2.1 a2
      refine ⟨0, pU g 635 0 v, v, H', by rw [e1, bdQ_0, if_pos k635, bnd_s], a2, JA_x b1 (fun x hx => (mf x (by omega)).trans (pU_n (by omega))) (fun _ _ _ => rfl), b2, fun _ => ?_⟩
      rw [mf 635 (by omega), pU_s, u1_s]
    · rw [e1] at a1
      cases a1
  · rcases hj g h with ⟨v', H', a1, -⟩ | ⟨k', v', w', H', a1, a2, b1, b2, b3⟩
    · rw [e1] at a1
      cases a1
    · rw [e1] at a1
      cases a1
      have mf := hm g w' H' h.2.1 a2
      exact ⟨tm k, g, w', H', by rw [e1, bdQ_e]; exact hW k hn, a2, JA_x b1 (fun x hx => mf x (by omega)) (fun _ _ _ => rfl), b2, fun z => absurd z hn⟩
/-- a question that isn't compared: the class's heap but for the place of the answer -/
theorem step_w {Y : gH → Option (Int × gH)} (h : JA g g) (hG : ∀ x, ¬ x = 635 → G x = g x) (hy : ∀ K, JA g K → ∃ w H, Y K = some (w, H) ∧ JA g H) (hm : ∀ K w H, MInv K → Y K = some (w, H) → MF K H) : ∃ w H, Y G = some (w, H) ∧ JA H H := by
  have jK : JA g G := JA_x h (fun _ _ => rfl) (fun x x0 x1 => hG x (by omega))
  obtain ⟨w, H, a1, a2⟩ := hy G jK
  have mf := hm G w H jK.2.1 a1
  exact ⟨w, H, a1, JA_x a2 (fun x hx => (mf x (by omega)).trans (hG x (by omega))) (fun _ _ _ => rfl)⟩
end PAR41
/-! ===== answers to questions, in both: what all of them need (own work) ===== -/
section PAR42
variable {g g' G G' H H' K : gH} {r r' dm : Int → Int} {a b c d e i j k l m n o p q s t u v w x y z S T gp code : Int}
/-! marks of throws -/
def tp (e : Nat) : Int := if e = 2 then 1 else if e = 0 then 2 else 0
def tq (e : Nat) : Int := if e = 2 then 1 else 0
def tn (e : Nat) : Int := if e = 3 then 1 else 0
/-- what a question that never throws answers -/
def JV (G : gH) (X : Option Int) (Y : Option (Int × gH)) : Prop := ∃ v H, X = some v ∧ Y = some (v, H) ∧ JA G H ∧ H 624 8 = 0
theorem JV_i (h : JA G H) (e : H 624 8 = 0) : JV G (some v) (some (v, H)) := ⟨v, H, rfl, rfl, h, e⟩
theorem gone_ (h : JA G H) (a : 0 ≤ p ∧ p < H 625 0) : fM_isGone H 624 p = some (if H 625 (140 + p) = 2 then 1 else 0) := by
  have hb := jaM h
  exact vM_isGone h.2.1.1 (by omega)
/-- who has one below that isn't gone runs -/
theorem over_run {r : Int → Int} (hw : WBF r) (hk : 0 ≤ k ∧ k < r 0) (hs : ¬ r (140 + k) = 2) (ho : OV (up r) p k = true) : r (140 + p) = 0 := by
  have hA := hw.1.2.2.1
  have k0 : k ≠ 0 := fun z => by rw [z, OV_0] at ho; cases ho
  have hs1 := hw.2.2.1 k (by omega) hk.2 hs
  have rg := hw.1.2.1 k (by omega) hk.2
  rw [OV_s (hA k hk.1 hk.2) k0] at ho
  by_cases c : up r k = p
  · rw [← c]; exact hs1
  · rw [if_neg c] at ho
    exact Bl_run hw 40 (up r k) (hA _ rg.1 rg.2) ⟨rg.1, rg.2⟩ hs1 (Bl_ov ho)
theorem vM_belowOf (hs : MS H) (hb : WB (H 625)) : fM_belowOf H 624 p = some (cn (fun k => decide (H 625 (140 + k) = 0) && OV (up (H 625)) p k) (H 625 0).toNat 0) := by
  have h0 := hs.1
  have hM := hb.1
  have hfu := fu_ge
  have l : lM_belowOf_4 H 624 p fu 0 1 = some (0 + cn (fun k => decide (H 625 (140 + k) = 0) && OV (up (H 625)) p k) (H 625 0 - 1).toNat 1) := cnt_loop (L := fun n k x => lM_belowOf_4 H 624 p n x k) (E := some) (fun k => decide (H 625 (140 + k) = 0) && OV (up (H 625)) p k) (H 625 0) 1 (by omega) (fun n k x h1 h2 h3 h4 => by
    show bM_belowOf_4 H 624 p (lM_belowOf_4 H 624 p n) x k = _
    rw [bM_belowOf_4, h0, if_pos (g625 (by omega)), if_pos h2, vM_runs hs (by omega), bdP_s, vM_isOver hs (hb.2.2.1 k (by omega) h2), bdP_s, w32_r (x := k + 1) (by omega), w32_r (x := x + 1) (by omega), w32_r (x := x + 0) (by omega)]
    by_cases c : H 625 (140 + k) = 0
    · rw [if_pos c, if_neg f0, decide_eq_true c, Bool.true_and]
      by_cases c2 : OV (up (H 625)) p k = true
      · rw [if_pos c2, if_neg f0]
      · rw [if_neg c2, if_pos rfl]
    · rw [if_neg c, if_pos rfl, decide_eq_false c, Bool.false_and]
      rfl) (fun n k x h1 h2 => by
    show bM_belowOf_4 H 624 p (lM_belowOf_4 H 624 p n) x k = _
    rw [bM_belowOf_4, h0, if_pos (g625 (by omega)), if_neg h2]) (H 625 0 - 1).toNat 1 0 fu (by omega) (by omega) (by omega) (by omega) (by omega)
  rw [fM_belowOf, l, Int.zero_add, show (H 625 0).toNat = (H 625 0 - 1).toNat + 1 by omega, cn_s, OV_0, Bool.and_false]
  show some _ = some ((if false = true then 1 else 0) + _)
  rw [if_neg (by decide), Int.zero_add]
  rfl
theorem g24_ (h : QQ S G r dm) (hk : 0 ≤ k ∧ k < 40) : kd (S + 2) = 24 ∧ (0 : Int) ≤ k ∧ k < sz (S + 2) := ⟨kdT2 h.1, hk.1, by rw [szT2 h.1]; exact hk.2⟩
end PAR42
