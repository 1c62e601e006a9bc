/-! ===== the end of a killing; pruning, in both (own work) ===== -/
section PAR28
variable {g g' G H K : gH} {r r' d dm κ κ' : Int → Int} {a b c e i j k l m n o p q s t u v w wo x y z S M0 gp code : Int}
/-- the marks are told for 0 to 39 alone -/
theorem QQ_d {d' : Int → Int} (h : QQ S G r d) (e : ∀ i, 0 ≤ i → i < 40 → d' i = d i) : QQ S G r d' := ⟨h.1, h.2.1, h.2.2.1, h.2.2.2.1, fun i i0 i1 => (h.2.2.2.2.1 i i0 i1).trans (e i i0 i1).symm, h.2.2.2.2.2⟩
theorem md_id : md H (H 630) = H := by
  funext x
  unfold md
  split
  · rename_i hx; rw [hx]
  · rfl
theorem lk_un_c : ∀ (m n : Nat) (i : Int) (G : gH) (d : Int → Int), (40 - i).toNat = m → m < n → 0 ≤ i → i ≤ 40 → QQ S G r d → (∀ j, 0 ≤ j → j < i → d j = 0) → ∃ G' d', lT_killGroup_127 v (S + 2) 40 n i G = some (v, G') ∧ QQ S G' r d' ∧ (∀ j, 0 ≤ j → j < 40 → d' j = 0) ∧ TF S G G' := by
  intro m
  induction m with
  | zero =>
    intro n i G d hm hn i0 i1 h hz
    obtain ⟨n, rfl⟩ : ∃ k, n = k + 1 := ⟨n - 1, by omega⟩
    refine ⟨G, d, ?_, h, fun j j0 j1 => hz j j0 (by omega), TF_r⟩
    show bT_killGroup_127 v (S + 2) 40 (lT_killGroup_127 v (S + 2) 40 n) i G = _
    rw [bT_killGroup_127, if_neg (by omega)]
  | succ m ih =>
    intro n i G d hm hn i0 i1 h hz
    obtain ⟨n, rfl⟩ : ∃ k, n = k + 1 := ⟨n - 1, by omega⟩
    obtain ⟨q1, q2⟩ := QQ_13 (v := 0) h ⟨i0, by omega⟩
    show ∃ G' d', bT_killGroup_127 v (S + 2) 40 (lT_killGroup_127 v (S + 2) 40 n) i G = _ ∧ _
    rw [bT_killGroup_127, if_pos (by omega), if_pos ⟨kdT2 h.1, i0, by rw [szT2 h.1]; omega⟩, TS_p h.2.1.1 (by omega), if_pos (kdp h.1 (by omega)), bnd_s, w32_r (by omega)]
    obtain ⟨G', d', e1, e2, e3, e4⟩ := ih n (i + 1) _ _ (by omega) (by omega) (by omega) (by omega) q1 (fun j j0 j1 => by
      by_cases z : j = i
      · rw [z, u1_s]
      · rw [u1_n z]; exact hz j j0 (by omega))
    exact ⟨G', d', e1, e2, e3, TF_t q2 e4⟩
theorem lk_un_m (hs : MS H) : ∀ (m n : Nat) (i : Int) (d : Int → Int), (40 - i).toNat = m → m < n → 0 ≤ i → i ≤ 40 → (∀ j, 0 ≤ j → j < i → d j = 0) → ∃ d', lM_kills_128 624 v n i (sw (md H d) r) = some (v, sw (md H d') r) ∧ ∀ j, 0 ≤ j → j < 40 → d' j = 0 := by
  intro m
  induction m with
  | zero =>
    intro n i d hm hn i0 i1 hz
    obtain ⟨n, rfl⟩ : ∃ k, n = k + 1 := ⟨n - 1, by omega⟩
    refine ⟨d, ?_, fun j j0 j1 => hz j j0 (by omega)⟩
    show bM_kills_128 624 v (lM_kills_128 624 v n) i (sw (md H d) r) = _
    rw [bM_kills_128, if_neg (by omega)]
  | succ m ih =>
    intro n i d hm hn i0 i1 hz
    obtain ⟨n, rfl⟩ : ∃ k, n = k + 1 := ⟨n - 1, by omega⟩
    show ∃ d', bM_kills_128 624 v (lM_kills_128 624 v n) i (sw (md H d) r) = _ ∧ _
    rw [bM_kills_128, if_pos (by omega), m5s hs, if_pos (g630 (by omega)), bnd_s, md_pU, w32_r (by omega)]
    exact ih n (i + 1) _ (by omega) (by omega) (by omega) (by omega) (fun j j0 j1 => by
      by_cases z : j = i
      · rw [z, u1_s]
      · rw [u1_n z]; exact hz j j0 (by omega))
/-- a group is killed, in both -/
theorem lk_kill (hs : MS H) (h : QQ S G r d) (hw : WBF r) (hc : 0 ≤ code ∧ code ≤ 255) : ∃ v G' r' d', fT_killGroup G S gp code = some (v, G') ∧ fM_kills (sw (md H d) r) 624 gp code = some (v, sw (md H d') r') ∧ QQ S G' r' d' ∧ WBF r' ∧ (∀ j, 0 ≤ j → j < 40 → d' j = 0) ∧ TF S G G' ∧ 0 ≤ v := by
  have hfu := fu_ge
  have hb := QQ_b h
  obtain ⟨f, ef⟩ : ∃ f, fu = f + 1 := ⟨fu - 1, by omega⟩
  obtain ⟨G1, c1, c2, c3⟩ := lk_mark_c (gp := gp) (code := code) (d := d) (r := r) (S := S) 40 fu 0 G rfl (by omega) (by omega) (by omega) (by rw [mk_0]; exact h)
  have m1 := lk_mark_m (gp := gp) (code := code) (d := d) (r := r) hs hb 40 fu 0 rfl (by omega) (by omega) (by omega)
  rw [mk_0] at m1
  have z0 : mk r gp 40 d 0 = 0 := by
    unfold mk
    rw [if_pos (by omega), if_neg (fun z => absurd z.1.1.1 (by omega))]
  have zc : ∀ j, 1 ≤ j → j < r 0 → ¬ mk r gp 40 d j = 0 → r (140 + j) = 0 := by
    intro j j0 j1 j2
    unfold mk at j2
    rw [if_pos (by omega)] at j2
    by_cases y : ((0 < j ∧ j < r 0) ∧ r (140 + j) = 0) ∧ r (180 + j) = gp
    · exact y.1.2
    · rw [if_neg y] at j2; exact absurd rfl j2
  have zo : ∀ j, r 0 ≤ j → j < 40 → mk r gp 40 d j = 0 := by
    intro j j0 j1
    unfold mk
    rw [if_pos (by omega), if_neg (fun z => absurd z.1.1.2 (by omega))]
  have s0 : lT_killGroup_74 S code (S + 2) 40 fu 0 0 G1 = lT_killGroup_74 S code (S + 2) 40 f 0 1 G1 := by
    rw [ef]
    show bT_killGroup_74 S code (S + 2) 40 (lT_killGroup_74 S code (S + 2) 40 f) 0 0 G1 = _
    rw [bT_killGroup_74, if_pos (by omega), if_pos ⟨kdT2 c2.1, by omega, by rw [szT2 c2.1]; omega⟩, TS_p c2.2.1.1 (by omega), if_pos (kdp c2.1 (by omega)), c2.2.2.2.2.1 0 (by omega) (by omega), if_pos z0, w32_r (by omega)]
    rfl
  obtain ⟨v, G2, r2, d2, x1, x2, x3, x4, x5, x6⟩ := lk_kills (M0 := r 0) hs hc _ f fu 1 0 G1 r (mk r gp 40 d) rfl (by omega) (by omega) (by omega) (by omega) (by omega) c2 hw ⟨by omega, by omega⟩ zc zo
  obtain ⟨G3, d3, y1, y2, y3, y4⟩ := lk_un_c (v := v) 40 fu 0 G2 d2 rfl (by omega) (by omega) (by omega) x3 (fun j j0 j1 => absurd j1 (by omega))
  obtain ⟨d4, w1, w2⟩ := lk_un_m (v := v) (r := r2) hs 40 fu 0 d2 rfl (by omega) (by omega) (by omega) (fun j j0 j1 => absurd j1 (by omega))
  refine ⟨v, G3, r2, d4, ?_, ?_, QQ_d y2 (fun j j0 j1 => by rw [w2 j j0 j1, y3 j j0 j1]), x4, w2, TF_t c3 (TF_t x5 y4), x6⟩
  · rw [fT_killGroup, TS_1 h.2.1.1, if_pos (kdT2 h.1), szT2 h.1, c1, jT_killGroup_58, TS_1 c2.2.1.1, if_pos (kdT2 h.1), szT2 h.1, s0, x1, jT_killGroup_113, TS_1 x3.2.1.1, if_pos (kdT2 h.1), szT2 h.1, y1]
  · rw [fM_kills, m0s (md_MS hs), if_pos (g625 (by omega)), sw_s, m1, x2, w1]
/-! the one that hangs deepest -/
theorem lk_low (hs : MS H) (h : QQ S G r d) (hp : 0 ≤ p ∧ p < r 0) : ∀ (m n1 n2 : Nat) (k b : Int), (r 0 - k).toNat = m → (40 - k).toNat < n1 → m < n2 → 1 ≤ k → k ≤ 40 → (b = -1 ∨ ((0 < b ∧ b < r 0) ∧ r (140 + b) = 0 ∧ OV (up r) p b = true)) → ∃ c, lT_deepestBelow_14 G (pc S p) (S + 2) 40 n1 (pcx S b) k = some (pcx S c) ∧ lM_lowestBelow_4 (sw H r) 624 p n2 b k = some c ∧ (c = -1 ∨ ((0 < c ∧ c < r 0) ∧ r (140 + c) = 0 ∧ OV (up r) p c = true)) := by
  have hb := QQ_b h
  have skip : ∀ (m n : Nat) (k b : Int), (40 - k).toNat = m → m < n → r 0 ≤ k → 1 ≤ k → lT_deepestBelow_14 G (pc S p) (S + 2) 40 n (pcx S b) k = some (pcx S b) := by
    intro m
    induction m with
    | zero =>
      intro n k b hm hn k0 k1
      obtain ⟨n, rfl⟩ : ∃ k, n = k + 1 := ⟨n - 1, by omega⟩
      show bT_deepestBelow_14 G (pc S p) (S + 2) 40 (lT_deepestBelow_14 G (pc S p) (S + 2) 40 n) (pcx S b) k = _
      rw [bT_deepestBelow_14, if_neg (by omega)]
    | succ m ih =>
      intro n k b hm hn k0 k1
      obtain ⟨n, rfl⟩ : ∃ k, n = k + 1 := ⟨n - 1, by omega⟩
      show bT_deepestBelow_14 G (pc S p) (S + 2) 40 (lT_deepestBelow_14 G (pc S p) (S + 2) 40 n) (pcx S b) k = _
      rw [bT_deepestBelow_14, if_pos (by omega), if_pos ⟨kdT2 h.1, by omega, by rw [szT2 h.1]; omega⟩, TS_p h.2.1.1 (by omega), if_pos (kdp h.1 (by omega)), fP_isRunning, QQ_out h (by omega), if_neg (by omega), bdP_s, if_pos rfl, w32_r (by omega)]
      exact ih n (k + 1) b (by omega) (by omega) (by omega) (by omega)
  intro m
  induction m with
  | zero =>
    intro n1 n2 k b hm hn1 hn2 k0 k1 hbb
    obtain ⟨n2, rfl⟩ : ∃ k, n2 = k + 1 := ⟨n2 - 1, by omega⟩
    refine ⟨b, skip _ n1 k b rfl hn1 (by omega) k0, ?_, hbb⟩
    show bM_lowestBelow_4 (sw H r) 624 p (lM_lowestBelow_4 (sw H r) 624 p n2) b k = _
    rw [bM_lowestBelow_4, if_pos (gd25 hs (by omega)), m0s hs, sw_s, if_neg (by omega)]
  | succ m ih =>
    intro n1 n2 k b hm hn1 hn2 k0 k1 hbb
    obtain ⟨n1, rfl⟩ : ∃ k, n1 = k + 1 := ⟨n1 - 1, by omega⟩
    obtain ⟨n2, rfl⟩ : ∃ k, n2 = k + 1 := ⟨n2 - 1, by omega⟩
    have hk : 0 ≤ k ∧ k < r 0 := by omega
    have eC : lT_deepestBelow_14 G (pc S p) (S + 2) 40 (n1 + 1) (pcx S b) k = bT_deepestBelow_14 G (pc S p) (S + 2) 40 (lT_deepestBelow_14 G (pc S p) (S + 2) 40 n1) (pcx S b) k := rfl
    have eM : lM_lowestBelow_4 (sw H r) 624 p (n2 + 1) b k = bM_lowestBelow_4 (sw H r) 624 p (lM_lowestBelow_4 (sw H r) 624 p n2) b k := rfl
    have ru := vM_runs (g := sw H r) (p := k) (MS_sw hs) (by omega)
    have ov := vM_isOver (g := sw H r) (p := p) (x := k) (MS_sw hs) (by rw [sw_s]; exact QQ_en h hk)
    have dk := vM_deep (g := sw H r) (x := k) (MS_sw hs) (by rw [sw_s]; exact QQ_en h hk)
    rw [sw_s] at ru ov dk
    rw [eC, eM, bT_deepestBelow_14, bM_lowestBelow_4, if_pos (show k < 40 by omega), if_pos ⟨kdT2 h.1, by omega, by rw [szT2 h.1]; omega⟩, TS_p h.2.1.1 (by omega), if_pos (kdp h.1 (by omega)), fP_isRunning, QQ_st h hk, if_pos (kdp h.1 (i := p) (by omega)), qP_over h hp.1 hk, if_pos (gd25 hs (by omega)), m0s hs, sw_s, if_pos hk.2, ru, bdP_s, w32_r (x := k + 1) (by omega), ov, bdP_s]
    have stay := ih n1 n2 (k + 1) b (by omega) (by omega) (by omega) (by omega) (by omega) hbb
    by_cases c1 : r (140 + k) = 0
    · rw [if_pos c1, if_pos c1, bdP_s, if_neg f0, if_neg f0, bdP_s]
      by_cases c2 : OV (up r) p k = true
      · have take := ih n1 n2 (k + 1) k (by omega) (by omega) (by omega) (by omega) (by omega) (Or.inr ⟨by omega, c1, c2⟩)
        rw [pcx_p hk.1] at take
        rw [if_pos c2, if_neg f0, if_neg f0]
        rcases hbb with e | ⟨e1, e2, e3⟩
        · rw [e, pcx_n, if_pos (by omega), if_pos rfl]
          exact take
        · have hbk : 0 ≤ b ∧ b < r 0 := by omega
          have db := vM_deep (g := sw H r) (x := b) (MS_sw hs) (by rw [sw_s]; exact QQ_en h hbk)
          rw [sw_s] at db
          rw [pcx_p hbk.1] at stay ⊢
          rw [if_neg (pc_pos h.1 (by omega)), if_neg (by omega), qP_above h hk, bdP_s, if_pos (kdp h.1 (by omega)), qP_above h hbk, bdP_s, dk, bdP_s, db, bdP_s]
          by_cases c3 : DP (up r) k < DP (up r) b
          · rw [if_pos c3, if_pos c3]; exact stay
          · rw [if_neg c3, if_neg c3]; exact take
      · rw [if_neg c2, if_pos rfl, if_pos rfl]
        exact stay
    · rw [if_neg c1, if_neg c1, bdP_s, if_pos rfl, if_pos rfl]
      exact stay
theorem lk_lowest (hs : MS H) (h : QQ S G r d) (hp : 0 ≤ p ∧ p < r 0) : ∃ c, fT_deepestBelow G S (pc S p) = some (pcx S c) ∧ fM_lowestBelow (sw H r) 624 p = some c ∧ (c = -1 ∨ ((0 < c ∧ c < r 0) ∧ r (140 + c) = 0 ∧ OV (up r) p c = true)) := by
  have hfu := fu_ge
  have hb := QQ_b h
  obtain ⟨f, ef⟩ : ∃ f, fu = f + 1 := ⟨fu - 1, by omega⟩
  obtain ⟨c, e1, e2, e3⟩ := lk_low hs h hp _ f fu 1 (-1) rfl (by omega) (by omega) (by omega) (by omega) (Or.inl rfl)
  have s0 : lT_deepestBelow_14 G (pc S p) (S + 2) 40 fu (-1) 0 = lT_deepestBelow_14 G (pc S p) (S + 2) 40 f (-1) 1 := by
    rw [ef]
    show bT_deepestBelow_14 G (pc S p) (S + 2) 40 (lT_deepestBelow_14 G (pc S p) (S + 2) 40 f) (-1) 0 = _
    rw [bT_deepestBelow_14, if_pos (by omega), if_pos ⟨kdT2 h.1, by omega, by rw [szT2 h.1]; omega⟩, TS_p h.2.1.1 (by omega), if_pos (kdp h.1 (by omega)), fP_isRunning, if_pos (kdp h.1 (i := p) (by omega)), qP_over h hp.1 (i := 0) (by omega), w32_r (by omega)]
    have o0 : ¬ OV (up r) p 0 = true := fun z => absurd (OV_0.symm.trans z) (by decide)
    rw [if_neg o0]
    split
    · rw [bdP_s, if_neg f0, bdP_s, if_pos rfl]
      rfl
    · rw [bdP_s, if_pos rfl]
      rfl
  refine ⟨c, ?_, ?_, e3⟩
  · rw [fT_deepestBelow, TS_1 h.2.1.1, if_pos (kdT2 h.1), szT2 h.1, s0]
    rw [pcx_n] at e1
    exact e1
  · rw [fM_lowestBelow]; exact e2
/-- pruning, in both -/
theorem lk_prune_l (hs : MS H) (hc : 0 ≤ code ∧ code ≤ 255) : ∀ (m n1 n2 : Nat) (v c : Int) (G : gH) (r d : Int → Int), (40 - r 1).toNat = m → m < n1 → m < n2 → (0 ≤ v ∧ v ≤ r 1) → (c = -1 ∨ ((0 < c ∧ c < r 0) ∧ r (140 + c) = 0 ∧ OV (up r) p c = true)) → QQ S G r d → WBF r → (0 ≤ p ∧ p < r 0) → ∃ v' G' r' d', lT_pruneBelow_9 S (pc S p) code n1 v (pcx S c) G = some (v', G') ∧ lM_prune_68 624 p code n2 v c (sw (md H d) r) = some (v', sw (md H d') r') ∧ QQ S G' r' d' ∧ WBF r' ∧ TF S G G' ∧ ∀ j, d j = 0 → d' j = 0 := by
  intro m
  induction m with
  | zero =>
    intro n1 n2 v c G r d hm hn1 hn2 hv hcc h hw hp
    have := NX_bd hw.1.1 hw.2.1.2 hw.2.2.2.2.2.1
    have := QQ_b h
    omega
  | succ m ih =>
    intro n1 n2 v c G r d hm hn1 hn2 hv hcc h hw hp
    have hb := QQ_b h
    obtain ⟨n1, rfl⟩ : ∃ k, n1 = k + 1 := ⟨n1 - 1, by omega⟩
    obtain ⟨n2, rfl⟩ : ∃ k, n2 = k + 1 := ⟨n2 - 1, by omega⟩
    have eC : lT_pruneBelow_9 S (pc S p) code (n1 + 1) v (pcx S c) G = bT_pruneBelow_9 S (pc S p) code (lT_pruneBelow_9 S (pc S p) code n1) v (pcx S c) G := rfl
    have eM : lM_prune_68 624 p code (n2 + 1) v c (sw (md H d) r) = bM_prune_68 624 p code (lM_prune_68 624 p code n2) v c (sw (md H d) r) := rfl
    rw [eC, eM, bT_pruneBelow_9, bM_prune_68]
    rcases hcc with e | ⟨e1, e2, e3⟩
    · rw [e, pcx_n, if_pos (by omega), if_pos rfl]
      exact ⟨v, G, r, d, rfl, rfl, h, hw, TF_r, fun _ z => z⟩
    · have nb := NX_bd2 hw.1.1 hw.2.1.2 hw.2.2.2.2.2.1 e1 e2
      obtain ⟨G', u, d', x1, x2, x3, x4, x5, x6, x7, x8, x9, x10, x11⟩ := lk_exit hs h hw e1 e2 hc
      obtain ⟨c', l1, l2, l3⟩ := lk_lowest (p := p) (md_MS (d := d') hs) x3 (by omega)
      rw [pcx_p (by omega), if_neg (pc_pos h.1 (by omega)), if_pos (show v < 40 by omega), if_neg (by omega), x1, bdN_s, x2, bdN_s, if_neg (show ¬ u < 0 by omega), l1, bdP_s, l2, bdP_s, w32_r (x := v + 1) (by omega)]
      obtain ⟨v', G2, r2, d2, y1, y2, y3, y4, y5, y6⟩ := ih n1 n2 (v + 1) c' G' _ d' (by omega) (by omega) (by omega) (by omega) l3 x3 x4 (by omega)
      exact ⟨v', G2, r2, d2, y1, y2, y3, y4, TF_t x5 y5, fun j z => y6 j (x11 j z)⟩
end PAR28
