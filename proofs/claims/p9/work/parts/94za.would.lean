/-! ===== what would be, in both (own work) ===== -/
section PAR37
variable {g g' G G' H H' K : gH} {r r' d d' dm : Int → Int} {a b c e i j k l m n o p q s t u v w x y z S T gp code : Int}
theorem nx_1 (h : JA G H) (a : ¬ (0 ≤ p ∧ p < H 625 0)) : fC_namedForExit G 0 p code = some (2 + 1, 0) := by rw [fC_namedForExit, jn_n h a, qe3]
theorem nx_2 (h : JA G H) (a : 0 ≤ p ∧ p < H 625 0) (b : ¬ (0 ≤ code ∧ code ≤ 255)) : fC_namedForExit G 0 p code = some (0 + 1, 0) := by rw [fC_namedForExit, jn_y h a, bdQ_0, rg_n b, qe1]
theorem nx_3 (h : JA G H) (a : 0 ≤ p ∧ p < H 625 0) (b : 0 ≤ code ∧ code ≤ 255) (c : ¬ (¬ p = 0 ∧ H 625 (140 + p) = 0)) : fC_namedForExit G 0 p code = some (1 + 1, 0) := by
  have hb := jaM h
  rw [fC_namedForExit, jn_y h a, bdQ_0, rg_y b, bdQ_0, if_pos (kdp T1 (by omega)), qP_mortal (jaQ h) (by omega), bdP_s, if_neg (fun z => c ⟨by omega, z.2⟩), st_n, qe2]
theorem nx_4 (h : JA G H) (a : 0 < p ∧ p < H 625 0) (b : 0 ≤ code ∧ code ≤ 255) (c : H 625 (140 + p) = 0) : fC_namedForExit G 0 p code = some (0, pc 1 p) := by
  have hb := jaM h
  rw [fC_namedForExit, jn_y h ⟨by omega, a.2⟩, bdQ_0, rg_y b, bdQ_0, if_pos (kdp T1 (by omega)), qP_mortal (jaQ h) (by omega), bdP_s, if_pos ⟨a, c⟩, st_1, bdQ_0]
/-- the copy is made -/
theorem wx_take (h : JA G H) : ∃ A, fT_take G 45 1 = some (0, A) ∧ TF 45 G A ∧ QQ 45 A (bgG H 625) (bgG H 630) := by
  obtain ⟨A, a1, a2, a3⟩ := wT_take (jaQ h) (h.1.2.1 45 T45) T45 (by omega)
  rw [bgG_n (by omega), bgG_n (by omega)]
  exact ⟨A, a1, a2, QQ_d a3 (fun i i0 i1 => h.2.1.2.2.1 i i0 i1)⟩
/-- and the reference's row comes back -/
theorem wx_back (h : JA G H) (hF : TF 45 G G') (q : QQ 45 G' r d) (hd : ∀ i, 0 ≤ i → i < 40 → d i = 0) (hw : WBF r) : fM_ends (sw (md (bgG H) d) r) 624 = some (0, cpG (sw (md (bgG H) d) r) 627 0 625 0 780) ∧ JA G' (cpG (sw (md (bgG H) d) r) 627 0 625 0 780) ∧ cpG (sw (md (bgG H) d) r) 627 0 625 0 780 624 = H 624 ∧ ∀ k, 0 ≤ k → k < 780 → cpG (sw (md (bgG H) d) r) 627 0 625 0 780 625 k = H 625 k := by
  have mX := MInv_sw (MInv_md (MInv_bg h.2.1) hd) hw
  have x27 : sw (md (bgG H) d) r 627 = bgG H 627 := by rw [sw_n (by omega), md_n (by omega)]
  have xo : ∀ x, ¬ x = 625 → ¬ x = 627 → ¬ x = 630 → cpG (sw (md (bgG H) d) r) 627 0 625 0 780 x = H x := fun x x1 x2 x3 => by rw [cpG_n x1, sw_n x1, md_n x3, bgG_n x2]
  have xr : ∀ k, 0 ≤ k → k < 780 → cpG (sw (md (bgG H) d) r) 627 0 625 0 780 625 k = H 625 k := fun k k0 k1 => en_row x27 ⟨k0, k1⟩
  have mE := MInv_en mX (by rw [x27]; exact WBF_ext h.2.1.2.1 (fun k k0 k1 => bgG_s ⟨k0, k1⟩))
  refine ⟨vM_ends mX.1, JA_row (JA_45 h hF q.2.1) mE xr (xo 629 (by omega) (by omega) (by omega)) (xo 628 (by omega) (by omega) (by omega)) (xo 631 (by omega) (by omega) (by omega)) (fun k k0 k1 k2 => by rw [xo 624 (by omega) (by omega) (by omega)]), xo 624 (by omega) (by omega) (by omega), xr⟩
/-- an exit on the copy -/
theorem wx_exit (h : JA G H) (hp : 0 < p ∧ p < H 625 0) (hst : H 625 (140 + p) = 0) (hc : 0 ≤ code ∧ code ≤ 255) : ∃ v G' r' d', fC_exitOfCopy G 0 p code = some (v, G') ∧ fM_begins H 624 = some (0, bgG H) ∧ fM_exits (bgG H) 624 p code = some (v, sw (md (bgG H) d') r') ∧ QQ 45 G' r' d' ∧ (∀ i, 0 ≤ i → i < 40 → d' i = 0) ∧ WBF r' ∧ TF 45 G G' ∧ ¬ v < 0 ∧ H 625 0 ≤ r' 0 ∧ r' 1 = H 625 1 + 1 := by
  have hb := jaM h
  obtain ⟨A, a1, a2, a3⟩ := wx_take h
  have b25 : bgG H 625 = H 625 := bgG_n (by omega)
  obtain ⟨G', v, d', x1, x2, x3, x4, x5, x6, x7, -, -, -, x11⟩ := lk_exit (p := p) (code := code) (MInv_bg h.2.1).1 a3 (by rw [b25]; exact h.2.1.2.1) (by rw [b25]; exact hp) (by rw [b25]; exact hst) hc
  rw [md_id, sw_id] at x2
  refine ⟨v, G', _, d', ?_, vM_begins h.2.1.1, x2, x3, fun i i0 i1 => x11 i ((MInv_bg h.2.1).2.2.1 i i0 i1), x4, TF_t a2 x5, by omega, by rw [← b25]; exact x7.2, by rw [x7.1, b25]⟩
  rw [fC_exitOfCopy, ja1 h, if_pos (kdT T45), ja0 h, a1, bdN_s, a2 0 (by omega), ja1 h, if_pos (kdT T45), qT_at a3, b25, if_pos (by omega), bdP_s, if_neg (pc_pos T45 (by omega)), x1, bdN_s]
theorem jo_wouldFall (h : JA G H) : JO t3 True (fC_wouldFall G 0 p code) (fM_wouldFall H 624 p code) := by
  rw [fC_wouldFall, fM_wouldFall]
  rcases vM_noExit (p := p) (code := code) h.2.1 with ⟨a, e⟩ | ⟨a, b, e⟩ | ⟨a, b, c, e⟩ | ⟨a, b, c, e⟩
  · rw [e, bdN_s, if_neg f0, nx_1 h a, bdQ_e]; exact JO_e (JA_th h) (th8.trans rfl) (by decide)
  · rw [e, bdN_s, if_neg f0, nx_2 h a b, bdQ_e]; exact JO_e (JA_th h) (th8.trans rfl) (by decide)
  · rw [e, bdN_s, if_neg f0, nx_3 h a b c, bdQ_e]; exact JO_e (JA_th h) (th8.trans rfl) (by decide)
  · have e25 : th H 0 625 = H 625 := th_n (by omega)
    have o1 := JA_th (t := 0) h
    obtain ⟨v, G', r', d', x1, x2, x3, x4, x5, x6, x7, -, -, -⟩ := wx_exit (code := code) o1 (p := p) (by rw [e25]; exact a) (by rw [e25]; exact c) b
    obtain ⟨y1, y2, y3, -⟩ := wx_back o1 x7 x4 x5 x6
    rw [e, bdN_s, if_pos rfl, nx_4 h a b c, bdQ_0, x1, bdN_s, fM_fallsBy, x2, bdN_s, x3, bdN_s, y1, bdN_s, bdN_s]
    exact JO_i y2 (by rw [y3]; exact th8) (fun _ => rfl)
/-- the height, in both -/
theorem lk_high (hs : MS H) (h : QQ S G r d) : ∃ v, fT_greatestDepth G S = some v ∧ fM_highest (sw H r) 624 = some v := by
  have hb := QQ_b h
  obtain ⟨s, t, e1, e2, e3⟩ := loops2 (LC := fun n k s => lT_greatestDepth_13 G (S + 2) 40 n s k) (LM := fun n k t => lM_highest_4 (sw H r) 624 n t k) (EC := some) (EM := some) (s0 := 0) (t0 := 0) (r 0) 0 (fun _ s t => s = t) (by omega) (fun n k k0 k1 => by omega) (fun n n' k s t k0 k1 hr => by
    have ru := vM_runs (g := sw H r) (p := k) (MS_sw hs) (by omega)
    have dk := vM_deep (g := sw H r) (x := k) (MS_sw hs) (by rw [sw_s]; exact QQ_en h ⟨k0, k1⟩)
    rw [sw_s] at ru dk
    have eC : lT_greatestDepth_13 G (S + 2) 40 (n + 1) s k = bT_greatestDepth_13 G (S + 2) 40 (lT_greatestDepth_13 G (S + 2) 40 n) s k := rfl
    have eM : lM_highest_4 (sw H r) 624 (n' + 1) t k = bM_highest_4 (sw H r) 624 (lM_highest_4 (sw H r) 624 n') t k := rfl
    rw [← hr] at eM ⊢
    show ∃ s' t', lT_greatestDepth_13 G (S + 2) 40 (n + 1) s k = _ ∧ lM_highest_4 (sw H r) 624 (n' + 1) s k = _ ∧ s' = t'
    rw [eC, eM, bT_greatestDepth_13, bM_highest_4, if_pos (show k < 40 by omega), if_pos ⟨kdT2 h.1, k0, by rw [szT2 h.1]; omega⟩, TS_p h.2.1.1 (by omega), if_pos (kdp h.1 (by omega)), qP_run h ⟨k0, k1⟩, bdP_s, qP_above h ⟨k0, k1⟩, bdP_s, bdP_s, if_pos (gd25 hs (by omega)), m0s hs, sw_s, if_pos k1, ru, bdP_s, dk, bdP_s, w32_r (x := k + 1) (by omega)]
    by_cases c1 : r (140 + k) = 0
    · rw [if_pos c1, if_neg f0, if_neg f0]
      by_cases c2 : s < DP (up r) k
      · rw [if_pos c2]
        exact ⟨_, _, rfl, rfl, by unfold gmax; split <;> omega⟩
      · rw [if_neg c2]
        exact ⟨_, _, rfl, rfl, by unfold gmax; split <;> omega⟩
    · rw [if_neg c1, if_pos rfl, if_pos rfl]
      exact ⟨_, _, rfl, rfl, rfl⟩) (fun n k s t k0 k1 hr => by
    show bT_greatestDepth_13 G (S + 2) 40 (lT_greatestDepth_13 G (S + 2) 40 n) s k = _
    rw [bT_greatestDepth_13, if_pos k1, if_pos ⟨kdT2 h.1, by omega, by rw [szT2 h.1]; omega⟩, TS_p h.2.1.1 (by omega), if_pos (kdp h.1 (by omega)), fP_isRunning, QQ_out h (by omega), if_neg (by omega), bdP_s, if_pos rfl, w32_r (by omega)]) (fun n s _ _ => by
    show bT_greatestDepth_13 G (S + 2) 40 (lT_greatestDepth_13 G (S + 2) 40 n) s 40 = _
    rw [bT_greatestDepth_13, if_neg (by omega)]) (fun n _ t _ => by
    show bM_highest_4 (sw H r) 624 (lM_highest_4 (sw H r) 624 n) t (r 0) = _
    rw [bM_highest_4, if_pos (gd25 hs (by omega)), m0s hs, sw_s, if_neg (by omega)]) rfl
  have e1 : lT_greatestDepth_13 G (S + 2) 40 fu 0 0 = some s := e1
  refine ⟨s, ?_, ?_⟩
  · rw [fT_greatestDepth, TS_1 h.2.1.1, if_pos (kdT2 h.1), szT2 h.1, e1]
  · rw [fM_highest, e3]; exact e2
theorem jo_wouldStand (h : JA G H) : JO t3 True (fC_wouldStand G 0 p code) (fM_wouldStand H 624 p code) := by
  rw [fC_wouldStand, fM_wouldStand]
  rcases vM_noExit (p := p) (code := code) h.2.1 with ⟨a, e⟩ | ⟨a, b, e⟩ | ⟨a, b, c, e⟩ | ⟨a, b, c, e⟩
  · rw [e, bdN_s, if_neg f0, nx_1 h a, bdQ_e]; exact JO_e (JA_th h) (th8.trans rfl) (by decide)
  · rw [e, bdN_s, if_neg f0, nx_2 h a b, bdQ_e]; exact JO_e (JA_th h) (th8.trans rfl) (by decide)
  · rw [e, bdN_s, if_neg f0, nx_3 h a b c, bdQ_e]; exact JO_e (JA_th h) (th8.trans rfl) (by decide)
  · have e25 : th H 0 625 = H 625 := th_n (by omega)
    have o1 := JA_th (t := 0) h
    obtain ⟨v, G', r', d', x1, x2, x3, x4, x5, x6, x7, x8, -, -⟩ := wx_exit (code := code) o1 (p := p) (by rw [e25]; exact a) (by rw [e25]; exact c) b
    obtain ⟨y1, y2, y3, -⟩ := wx_back o1 x7 x4 x5 x6
    obtain ⟨u, z1, z2⟩ := lk_high (md_MS (d := d') (MInv_bg o1.2.1).1) x4
    rw [e, bdN_s, if_pos rfl, nx_4 h a b c, bdQ_0, x1, bdN_s, ja1 y2, if_pos (kdT T45), z1, bdP_s, x2, bdN_s, x3, bdN_s, if_neg x8, z2, bdP_s, y1, bdN_s]
    exact JO_i y2 (by rw [y3]; exact th8) (fun _ => rfl)
theorem jo_wouldHave (h : JA G H) : JO t3 True (fC_wouldHave G 0 q p code) (fM_wouldHave H 624 q p code) := by
  have hb := jaM h
  rw [fC_wouldHave, fM_wouldHave, vM_noProcess h.2.1]
  by_cases a0 : 0 ≤ q ∧ q < H 625 0
  · rw [if_pos a0, if_pos a0, bdN_s, if_pos rfl, jn_y h a0, bdQ_0]
    have o1 := JA_th (t := 0) h
    have e25 : th H 0 625 = H 625 := th_n (by omega)
    rcases vM_noExit (p := p) (code := code) o1.2.1 with ⟨a, e⟩ | ⟨a, b, e⟩ | ⟨a, b, c, e⟩ | ⟨a, b, c, e⟩
    · rw [e25] at a
      rw [e, bdN_s, if_neg f0, nx_1 h a, bdQ_e]; exact JO_e (JA_th o1) (th8.trans rfl) (by decide)
    · rw [e25] at a
      rw [e, bdN_s, if_neg f0, nx_2 h a b, bdQ_e]; exact JO_e (JA_th o1) (th8.trans rfl) (by decide)
    · rw [e25] at a c
      rw [e, bdN_s, if_neg f0, nx_3 h a b c, bdQ_e]; exact JO_e (JA_th o1) (th8.trans rfl) (by decide)
    · have o2 := JA_th (t := 0) o1
      have e26 : th (th H 0) 0 625 = H 625 := by rw [th_n (by omega)]; exact e25
      rw [e25] at a c
      obtain ⟨v, G', r', d', x1, x2, x3, x4, x5, x6, x7, x8, x9, -⟩ := wx_exit (code := code) o2 (p := p) (by rw [e26]; exact a) (by rw [e26]; exact c) b
      obtain ⟨y1, y2, y3, -⟩ := wx_back o2 x7 x4 x5 x6
      rw [e26] at x9
      have hbb := QQ_b x4
      have hq : 0 ≤ q ∧ q < r' 0 := by omega
      have h0 : sw (md (bgG (th (th H 0) 0)) d') r' 624 0 = 625 := m0s (md_MS (MInv_bg o2.2.1).1)
      have sup : fC_numberOf G' (G' (pc 45 q) 2) = some (r' (60 + q)) := by
        by_cases z : q = 0
        · rw [z, QQ_top x4, fC_numberOf, if_pos (by omega), Int.add_zero, x4.2.2.2.2.2.2]
        · have hu := QQ_rg x4 (i := q) (by omega)
          rw [QQ_up x4 (by omega), fC_numberOf, if_neg (pc_pos T45 (by omega)), if_pos (kdp T45 (by omega)), TS_n x4.2.1.1 (by omega)]
          rfl
      rw [e, bdN_s, if_pos rfl, nx_4 h a b c, bdQ_0, x1, bdN_s, ja1 y2, if_pos (kdT T45), qT_at x4, if_pos hq, bdP_s, if_neg (pc_pos T45 (by omega)), if_pos (kdp T45 (by omega)), sup, bdP_s, x2, bdN_s, x3, bdN_s, if_neg x8, h0, w32_r (by omega), if_pos (g625 (by omega)), sw_s, y1, bdN_s]
      exact JO_i y2 (by rw [y3]; exact th8) (fun _ => rfl)
  · rw [if_neg a0, if_neg a0, bdN_s, if_neg f0, jn_n h a0, qe3]
    exact JO_e (JA_th h) (th8.trans rfl) (by decide)
end PAR37
