/-! ===== killing a group, in both (own work) ===== -/
section PAR27
variable {g g' G H K : gH} {r r' d dm κ κ' : Int → Int} {a b c e i j k l m n o p q s t u v w wo x y z S M0 gp code : Int}
/-- the reference's marks set -/
def md (H : gH) (d : Int → Int) : gH := fun x => if x = 630 then d else H x
theorem md_s : md H d 630 = d := if_pos rfl
theorem md_n (h : ¬ x = 630) : md H d x = H x := if_neg h
theorem md_MS (h : MS H) : MS (md H d) := by
  unfold MS at h ⊢
  rw [md_n (by omega)]
  exact h
theorem md_pU : pU (sw (md H d) r) 630 k v = sw (md H (u1 d k v)) r := by
  funext x
  by_cases h1 : x = 630
  · subst h1
    rw [pU_s, sw_n (by omega), sw_n (by omega), md_s, md_s]
  · rw [pU_n h1]
    by_cases h2 : x = 625
    · rw [h2, sw_s, sw_s]
    · rw [sw_n h2, sw_n h2, md_n h1, md_n h1]
theorem md_sw : sw (sw (md H d) r) r' = sw (md H d) r' := sw_sw
/-- a mark of doom is written -/
theorem QQ_13 (h : QQ S G r dm) (hi : 0 ≤ i ∧ i < 40) : QQ S (pU G (pc S i) 13 v) r (u1 dm i v) ∧ TF S G (pU G (pc S i) 13 v) := by
  have bi := pc_b (T := S) hi
  have hI : IT S G (pU G (pc S i) 13 v) := IT_w (IT_r h.2.1) (by omega)
  obtain ⟨h1, h2, h3, h4, h5, h6, h7⟩ := h.2.2.2.1
  have ey : ∀ k y, ¬ y = 13 → pU G (pc S i) 13 v (pc S k) y = G (pc S k) y := fun k y hy => pU_y hy
  refine ⟨⟨h.1, hI.1, h.2.2.1, ⟨by rw [pU_n (show ¬ S = pc S i by omega)]; exact h1, fun k k0 k1 => by rw [pU_n (by omega)]; exact h2 k k0 k1, fun k k0 k1 => by rw [pU_n (by omega)]; exact h3 k k0 k1, fun k k0 k1 => ?_, fun k k0 k1 => by rw [ey _ _ (by omega)]; exact h5 k k0 k1, fun k k0 k1 => by rw [ey _ _ (by omega)]; exact h6 k k0 k1, h7⟩, fun k k0 k1 => ?_, h.2.2.2.2.2⟩, hI.2⟩
  · obtain ⟨⟨a1, a2, a3, a4, a5, a6, a7, a8, a9⟩, w1, w2, w3⟩ := h4 k k0 k1
    refine ⟨⟨by rw [ey _ _ (by omega)]; exact a1, by rw [ey _ _ (by omega)]; exact a2, by rw [ey _ _ (by omega)]; exact a3, by rw [ey _ _ (by omega)]; exact a4, by rw [ey _ _ (by omega)]; exact a5, by rw [ey _ _ (by omega)]; exact a6, by rw [ey _ _ (by omega)]; exact a7, by rw [ey _ _ (by omega)]; exact a8, by rw [ey _ _ (by omega)]; exact a9⟩, fun x x0 x1 => by rw [ey _ _ (by omega)]; exact w1 x x0 x1, by rw [ey _ _ (by omega)]; exact w2, fun z => by rw [ey _ _ (by omega)]; exact w3 z⟩
  · by_cases z : k = i
    · rw [z, pU_s, u1_s, u1_s]
    · rw [pU_n (pc_ne k0 hi.1 z), u1_n z]; exact h.2.2.2.2.1 k k0 k1
/-- the marks of the first k -/
def mk (r : Int → Int) (gp k : Int) (d : Int → Int) : Int → Int := fun i => if 0 ≤ i ∧ i < k then (if ((0 < i ∧ i < r 0) ∧ r (140 + i) = 0) ∧ r (180 + i) = gp then 1 else 0) else d i
theorem mk_0 : mk r gp 0 d = d := by
  funext i
  exact if_neg (by omega)
theorem mk_s (hk : 0 ≤ k) : u1 (mk r gp k d) k (if ((0 < k ∧ k < r 0) ∧ r (140 + k) = 0) ∧ r (180 + k) = gp then 1 else 0) = mk r gp (k + 1) d := by
  funext i
  unfold mk
  by_cases c : i = k
  · rw [c, u1_s, if_pos (show 0 ≤ k ∧ k < k + 1 from ⟨hk, by omega⟩)]
  · rw [u1_n c]
    by_cases c2 : 0 ≤ i ∧ i < k
    · rw [if_pos c2, if_pos (show 0 ≤ i ∧ i < k + 1 from ⟨c2.1, by omega⟩)]
    · rw [if_neg c2, if_neg (fun z => c2 ⟨z.1, by omega⟩)]
theorem lk_mark_c : ∀ (m n : Nat) (i : Int) (G : gH), (40 - i).toNat = m → m < n → 0 ≤ i → i ≤ 40 → QQ S G r (mk r gp i d) → ∃ G', lT_killGroup_12 S gp code (S + 2) 40 n i G = jT_killGroup_58 G' S code ∧ QQ S G' r (mk r gp 40 d) ∧ TF S G G' := by
  intro m
  induction m with
  | zero =>
    intro n i G hm hn i0 i1 h
    obtain ⟨n, rfl⟩ : ∃ k, n = k + 1 := ⟨n - 1, by omega⟩
    have e : i = 40 := by omega
    subst e
    refine ⟨G, ?_, h, TF_r⟩
    show bT_killGroup_12 S gp code (S + 2) 40 (lT_killGroup_12 S gp code (S + 2) 40 n) 40 G = _
    rw [bT_killGroup_12, if_neg (by omega)]
  | succ m ih =>
    intro n i G hm hn i0 i1 h
    obtain ⟨n, rfl⟩ : ∃ k, n = k + 1 := ⟨n - 1, by omega⟩
    have hb := QQ_b h
    have nx : ∀ v, v = (if ((0 < i ∧ i < r 0) ∧ r (140 + i) = 0) ∧ r (180 + i) = gp then 1 else 0) → ∃ G', lT_killGroup_12 S gp code (S + 2) 40 n (w32 (i + 1)) (pU G (pc S i) 13 v) = jT_killGroup_58 G' S code ∧ QQ S G' r (mk r gp 40 d) ∧ TF S G G' := by
      intro v hv
      obtain ⟨q1, q2⟩ := QQ_13 (v := v) h ⟨i0, by omega⟩
      rw [hv, mk_s i0, ← hv] at q1
      rw [w32_r (by omega)]
      obtain ⟨G', e1, e2, e3⟩ := ih n (i + 1) _ (by omega) (by omega) (by omega) (by omega) q1
      exact ⟨G', e1, e2, TF_t q2 e3⟩
    show ∃ G', bT_killGroup_12 S gp code (S + 2) 40 (lT_killGroup_12 S gp code (S + 2) 40 n) i G = _ ∧ _
    rw [bT_killGroup_12, if_pos (by omega), if_pos ⟨kdT2 h.1, i0, by rw [szT2 h.1]; omega⟩, TS_p h.2.1.1 (by omega), if_pos (kdp h.1 (by omega)), qP_mortal h (by omega), bdP_s]
    by_cases c : (0 < i ∧ i < r 0) ∧ r (140 + i) = 0
    · rw [if_pos c, if_neg f0, (QQ_pe h (i := i) (by omega)).1.2.2.1]
      by_cases c2 : r (180 + i) = gp
      · rw [if_pos c2, bnd_s]
        exact nx 1 (by rw [if_pos ⟨c, c2⟩])
      · rw [if_neg c2, bnd_s]
        exact nx 0 (by rw [if_neg (fun z => c2 z.2)])
    · rw [if_neg c, if_pos rfl, bnd_s]
      exact nx 0 (by rw [if_neg (fun z => c z.1)])
theorem m5s (hs : MS H) : sw (md H d) r 624 5 = 630 := by
  rw [sw_n (by omega), md_n (by omega)]
  exact hs.2.2.2.2.1
theorem g630 (hk : 0 ≤ k ∧ k < 40) : kd 630 = 22 ∧ (0 : Int) ≤ k ∧ k < sz 630 := by rw [sz_630]; exact ⟨kd_630, hk⟩
theorem lk_mark_m (hs : MS H) (hb : 1 ≤ r 0 ∧ r 0 ≤ 40) : ∀ (m n : Nat) (i : Int), (40 - i).toNat = m → m < n → 0 ≤ i → i ≤ 40 → lM_kills_13 624 gp code (r 0) 0 n i (sw (md H (mk r gp i d)) r) = lM_kills_76 624 code (r 0) fu 0 1 (sw (md H (mk r gp 40 d)) r) := by
  intro m
  induction m with
  | zero =>
    intro n i hm hn i0 i1
    obtain ⟨n, rfl⟩ : ∃ k, n = k + 1 := ⟨n - 1, by omega⟩
    have e : i = 40 := by omega
    subst e
    show bM_kills_13 624 gp code (r 0) 0 (lM_kills_13 624 gp code (r 0) 0 n) 40 (sw (md H (mk r gp 40 d)) r) = _
    rw [bM_kills_13, if_neg (by omega)]
  | succ m ih =>
    intro n i hm hn i0 i1
    obtain ⟨n, rfl⟩ : ∃ k, n = k + 1 := ⟨n - 1, by omega⟩
    have nx : ∀ v, v = (if ((0 < i ∧ i < r 0) ∧ r (140 + i) = 0) ∧ r (180 + i) = gp then 1 else 0) → bnd (pU (sw (md H (mk r gp i d)) r) 630 i v) (fun g18 => lM_kills_13 624 gp code (r 0) 0 n (w32 (i + 1)) g18) = lM_kills_76 624 code (r 0) fu 0 1 (sw (md H (mk r gp 40 d)) r) := by
      intro v hv
      rw [bnd_s, md_pU, hv, mk_s i0, w32_r (by omega)]
      exact ih n (i + 1) (by omega) (by omega) (by omega) (by omega)
    have ru := vM_runs (g := sw (md H (mk r gp i d)) r) (p := i) (MS_sw (md_MS hs)) (by omega)
    rw [sw_s] at ru
    have h0 : sw (md H (mk r gp i d)) r 624 0 = 625 := m0s (md_MS hs)
    show bM_kills_13 624 gp code (r 0) 0 (lM_kills_13 624 gp code (r 0) 0 n) i (sw (md H (mk r gp i d)) r) = _
    rw [bM_kills_13, if_pos (by omega), m5s hs, if_pos (g630 (by omega)), if_pos (g630 (by omega)), ru, bdP_s, h0, sw_s, w32_r (x := 180 + i) (by omega), if_pos (g625 (by omega))]
    by_cases c1 : 0 < i
    · rw [if_pos c1]
      by_cases c2 : i < r 0
      · rw [if_pos c2]
        by_cases c3 : r (140 + i) = 0
        · rw [if_pos c3, if_neg f0]
          by_cases c4 : r (180 + i) = gp
          · rw [if_pos c4]
            exact nx 1 (by rw [if_pos ⟨⟨⟨c1, c2⟩, c3⟩, c4⟩])
          · rw [if_neg c4]
            exact nx 0 (by rw [if_neg (fun z => c4 z.2)])
        · rw [if_neg c3, if_pos rfl]
          exact nx 0 (by rw [if_neg (fun z => c3 z.1.2)])
      · rw [if_neg c2]
        exact nx 0 (by rw [if_neg (fun z => c2 z.1.1.2)])
    · rw [if_neg c1]
      exact nx 0 (by rw [if_neg (fun z => c1 z.1.1.1)])
/-- how many the root has adopted then -/
theorem fd_orp3 : ∀ (m : Nat) (c : Int) (r : Int → Int), ∃ k z, (0 ≤ k ∧ k ≤ m) ∧ fd (fun c r => orpS dm p q c r) m c r 3 = r 3 + k + 4294967296 * z := by
  intro m
  induction m with
  | zero => intro c r; exact ⟨0, 0, by omega, by show r 3 = _; omega⟩
  | succ m ih =>
    intro c r
    obtain ⟨k, z, hk, e⟩ := ih (c + 1) (orpS dm p q c r)
    have e' : fd (fun c r => orpS dm p q c r) (m + 1) c r 3 = orpS dm p q c r 3 + k + 4294967296 * z := e
    by_cases hi : ic r c p 0 = true
    · have eo : orpS dm p q c r 3 = w32 (r 3 + if (if ¬ q = -1 ∧ 0 < room r q then q else AD r dm c p) = 0 then 1 else 0) := by
        unfold orpS
        rw [if_pos hi]
        unfold adR
        rw [u1_s]
      by_cases y : (if ¬ q = -1 ∧ 0 < room r q then q else AD r dm c p) = 0
      · rw [if_pos y] at eo
        refine ⟨k + 1, z + (w32 (r 3 + 1) - (r 3 + 1)) / 4294967296, by omega, ?_⟩
        rw [e', eo]
        unfold w32
        omega
      · rw [if_neg y] at eo
        refine ⟨k, z + (w32 (r 3 + 0) - (r 3 + 0)) / 4294967296, by omega, ?_⟩
        rw [e', eo]
        unfold w32
        omega
    · have eo : orpS dm p q c r = r := by unfold orpS; rw [if_neg hi]
      rw [eo] at e'
      exact ⟨k, z, by omega, e'⟩
theorem exF_3 (hw : WBF r) (hp : 0 < p ∧ p < r 0) (hst : r (140 + p) = 0) (hc : 0 ≤ code ∧ code ≤ 255) (hd : ∃ g : gH, MS g ∧ g 630 = dm) : 0 ≤ w32 (exF r dm p code 3 - r 3) ∧ w32 (exF r dm p code 3 - r 3) ≤ 40 := by
  obtain ⟨E2, H2, hd2⟩ := EP_2 (code := code) hw.1 hw.2 hp hst hc hd
  have hM := hw.1.1
  have hn := NX_bd2 hM hw.2.1.2 hw.2.2.2.2.2.1 hp hst
  have hs := hw.1.2.1 p hp.1 hp.2
  have e2 : ex2 (ex1 r p code) dm p code 3 = r 3 := by
    have e1 : ex1 r p code 3 = r 3 := ex1_n (by omega)
    have e0 : ex1 r p code 0 = r 0 := ex1_n (by omega)
    have eu : ex1 r p code (60 + p) = r (60 + p) := ex1_n (by omega)
    unfold ex2
    by_cases z : RPc (ex1 r p code) dm p code
    · have z4 := z.2.2.2
      rw [e0] at z4
      rw [if_pos z, rpR_o (by rw [e0]; omega) (by omega) (by rw [eu]; omega) (by rw [e0, eu]; omega)]
      exact e1
    · rw [if_neg z]; exact e1
  have eu : r (60 + p) = up r p := rfl
  unfold exF
  rw [eu]
  generalize exq (ex1 r p code) dm p code = q at *
  generalize exd (ex1 r p code) dm p code = dm2 at *
  generalize ex2 (ex1 r p code) dm p code = r2 at *
  have ex : EP (ex3 dm2 p q r2) p (up r p) q ∧ HP (ex3 dm2 p q r2) p 8 ∧ ex3 dm2 p q r2 0 = r2 0 := by
    obtain ⟨g, g1, rfl⟩ := hd2
    exact (vM_ex3 (b := 0) g1 E2 H2).2
  have h3 : ex3 dm2 p q r2 3 = r2 3 := ex3_fr (by omega)
  have hM2 := E2.1.1
  obtain ⟨k, z, hk, e4⟩ := fd_orp3 (dm := dm2) (p := p) (q := q) (ex3 dm2 p q r2 0 - 1).toNat 1 (ex3 dm2 p q r2)
  have e4 : ex4 dm2 p q (ex3 dm2 p q r2) 3 = ex3 dm2 p q r2 3 + k + 4294967296 * z := e4
  have e40 : ex4 dm2 p q (ex3 dm2 p q r2) 0 ≤ 40 := by
    rw [ex4_fr (by rw [ex.2.2]; omega) (by omega), ex.2.2]; omega
  have e5 : ex5 p (up r p) (ex4 dm2 p q (ex3 dm2 p q r2)) 3 = ex4 dm2 p q (ex3 dm2 p q r2) 3 := ex5_fr e40 (by omega)
  have e6 : ex6 (up r p) (ex5 p (up r p) (ex4 dm2 p q (ex3 dm2 p q r2))) 3 = ex5 p (up r p) (ex4 dm2 p q (ex3 dm2 p q r2)) 3 := by
    unfold ex6
    split
    · exact rdR_o (by omega)
    · rfl
  rw [e6, e5, e4, h3, e2]
  have ek : (((ex3 dm2 p q r2 0 - 1).toNat : Nat) : Int) ≤ 39 := by rw [ex.2.2]; omega
  unfold w32
  omega
/-- one exit, in both -/
theorem lk_exit (hs : MS H) (h : QQ S G r d) (hw : WBF r) (hp : 0 < p ∧ p < r 0) (hst : r (140 + p) = 0) (hc : 0 ≤ code ∧ code ≤ 255) : ∃ G' v d', fT_letExit G S (pc S p) code = some (v, G') ∧ fM_exits (sw (md H d) r) 624 p code = some (v, sw (md H d') (exF r d p code)) ∧ QQ S G' (exF r d p code) d' ∧ WBF (exF r d p code) ∧ TF S G G' ∧ (0 ≤ v ∧ v ≤ 40) ∧ (exF r d p code 1 = r 1 + 1 ∧ r 0 ≤ exF r d p code 0) ∧ (∀ i, 0 ≤ i → i < r 0 → i ≠ p → r (140 + i) = 0 → exF r d p code (140 + i) = 0) ∧ (∀ i, i < r 0 → d' i = d i) ∧ (∀ i, ¬ d i = 0 → ¬ d' i = 0 → d' i = d i) ∧ (∀ i, d i = 0 → d' i = 0) := by
  have hd : ∃ g : gH, MS g ∧ g 630 = d := ⟨md H d, md_MS hs, md_s⟩
  obtain ⟨G', e1, e2, e3⟩ := aT_letExit h hw.2 hd hp hst hc
  have m := vM_exits (g := sw (md H d) r) (p := p) (code := code) (MS_sw (md_MS hs)) (by rw [sw_s]; exact hw.1) (by rw [sw_s]; exact hw.2) (by rw [sw_s]; exact hp) (by rw [sw_s]; exact hst) hc
  rw [sw_s, sw_n (show ¬ (630 : Int) = 625 by omega), md_s] at m
  obtain ⟨m1, m2, m3, m4, m5, m6, -⟩ := m
  have eg : sw (exG (sw (md H d) r) p code) (exF r d p code) = sw (md H (exd (ex1 r p code) d p code)) (exF r d p code) := by
    unfold exG exd
    rw [sw_s, sw_n (show ¬ (630 : Int) = 625 by omega), md_s]
    have e0 : ex1 r p code 0 = r 0 := ex1_n (by
      have hM := hw.1.1
      have hn := NX_bd2 hM hw.2.1.2 hw.2.2.2.2.2.1 hp hst
      omega)
    by_cases z : RPc (ex1 r p code) d p code
    · rw [if_pos z, if_pos z, md_pU, sw_sw, e0]
    · rw [if_neg z, if_neg z, sw_sw]
  rw [eg] at m1
  have hM := hw.1.1
  have hn := NX_bd2 hM hw.2.1.2 hw.2.2.2.2.2.1 hp hst
  have e0 : ex1 r p code 0 = r 0 := ex1_n (by omega)
  have dd : ∀ i, exd (ex1 r p code) d p code i = d i ∨ (i = r 0 ∧ exd (ex1 r p code) d p code i = 0) := by
    intro i
    unfold exd
    by_cases z : RPc (ex1 r p code) d p code
    · rw [if_pos z, e0]
      by_cases y : i = r 0
      · rw [y, u1_s]; exact Or.inr ⟨rfl, rfl⟩
      · rw [u1_n y]; exact Or.inl rfl
    · rw [if_neg z]; exact Or.inl rfl
  refine ⟨G', _, _, e1, m1, e2, ⟨m2, m3⟩, e3, exF_3 hw hp hst hc hd, ⟨m4, m5.1⟩, m6, fun i hi => ?_, fun i h1 h2 => ?_, fun i h1 => ?_⟩
  · rcases dd i with y | y
    · exact y
    · omega
  · rcases dd i with y | y
    · exact y
    · exact absurd y.2 h2
  · rcases dd i with y | y
    · rw [y]; exact h1
    · exact y.2
/-- all that are marked exit -/
theorem lk_kills (hs : MS H) (hc : 0 ≤ code ∧ code ≤ 255) : ∀ (m n1 n2 : Nat) (i v : Int) (G : gH) (r d : Int → Int), (M0 - i).toNat = m → (40 - i).toNat < n1 → m < n2 → 1 ≤ i → i ≤ 40 → (0 ≤ v ∧ v ≤ i) → QQ S G r d → WBF r → (M0 ≤ r 0 ∧ M0 ≤ 40) → (∀ j, i ≤ j → j < M0 → ¬ d j = 0 → r (140 + j) = 0) → (∀ j, M0 ≤ j → j < 40 → d j = 0) → ∃ v' G' r' d', lT_killGroup_74 S code (S + 2) 40 n1 v i G = jT_killGroup_113 G' S v' ∧ lM_kills_76 624 code M0 n2 v i (sw (md H d) r) = lM_kills_128 624 v' fu 0 (sw (md H d') r') ∧ QQ S G' r' d' ∧ WBF r' ∧ TF S G G' ∧ 0 ≤ v' := by
  have skip : ∀ (m n : Nat) (i v : Int) (G : gH) (r d : Int → Int), (40 - i).toNat = m → m < n → 1 ≤ i → M0 ≤ i → QQ S G r d → (∀ j, M0 ≤ j → j < 40 → d j = 0) → lT_killGroup_74 S code (S + 2) 40 n v i G = jT_killGroup_113 G S v := by
    intro m
    induction m with
    | zero =>
      intro n i v G r d hm hn i0 i1 h hz
      obtain ⟨n, rfl⟩ : ∃ k, n = k + 1 := ⟨n - 1, by omega⟩
      show bT_killGroup_74 S code (S + 2) 40 (lT_killGroup_74 S code (S + 2) 40 n) v i G = _
      rw [bT_killGroup_74, if_neg (by omega)]
    | succ m ih =>
      intro n i v G r d hm hn i0 i1 h hz
      obtain ⟨n, rfl⟩ : ∃ k, n = k + 1 := ⟨n - 1, by omega⟩
      show bT_killGroup_74 S code (S + 2) 40 (lT_killGroup_74 S code (S + 2) 40 n) v i G = _
      rw [bT_killGroup_74, if_pos (by omega), if_pos ⟨kdT2 h.1, by omega, by rw [szT2 h.1]; omega⟩, TS_p h.2.1.1 (by omega), if_pos (kdp h.1 (by omega)), h.2.2.2.2.1 i (by omega) (by omega), if_pos (hz i i1 (by omega)), w32_r (by omega)]
      exact ih n (i + 1) v G r d (by omega) (by omega) (by omega) (by omega) h hz
  intro m
  induction m with
  | zero =>
    intro n1 n2 i v G r d hm hn1 hn2 i0 i1 hv h hw hM hd hz
    obtain ⟨n2, rfl⟩ : ∃ k, n2 = k + 1 := ⟨n2 - 1, by omega⟩
    refine ⟨v, G, r, d, skip _ n1 i v G r d rfl hn1 i0 (by omega) h hz, ?_, h, hw, TF_r, hv.1⟩
    show bM_kills_76 624 code M0 (lM_kills_76 624 code M0 n2) v i (sw (md H d) r) = _
    rw [bM_kills_76, if_neg (by omega)]
  | succ m ih =>
    intro n1 n2 i v G r d hm hn1 hn2 i0 i1 hv h hw hM hd hz
    obtain ⟨n1, rfl⟩ : ∃ k, n1 = k + 1 := ⟨n1 - 1, by omega⟩
    obtain ⟨n2, rfl⟩ : ∃ k, n2 = k + 1 := ⟨n2 - 1, by omega⟩
    have eC : lT_killGroup_74 S code (S + 2) 40 (n1 + 1) v i G = bT_killGroup_74 S code (S + 2) 40 (lT_killGroup_74 S code (S + 2) 40 n1) v i G := rfl
    have eM : lM_kills_76 624 code M0 (n2 + 1) v i (sw (md H d) r) = bM_kills_76 624 code M0 (lM_kills_76 624 code M0 n2) v i (sw (md H d) r) := rfl
    have d630 : sw (md H d) r 630 = d := by rw [sw_n (by omega)]; exact md_s
    rw [eC, eM, bT_killGroup_74, bM_kills_76, if_pos (show i < 40 by omega), if_pos ⟨kdT2 h.1, by omega, by rw [szT2 h.1]; omega⟩, TS_p h.2.1.1 (by omega), if_pos (kdp h.1 (by omega)), h.2.2.2.2.1 i (by omega) (by omega), if_pos (show i < M0 by omega), m5s hs, if_pos (g630 (by omega)), d630, w32_r (x := i + 1) (by omega), w32_r (x := v + 1) (by omega)]
    by_cases c : d i = 0
    · rw [if_pos c, if_pos c]
      exact ih n1 n2 (i + 1) v G r d (by omega) (by omega) (by omega) (by omega) (by omega) (by omega) h hw hM (fun j j0 j1 => hd j (by omega) j1) hz
    · rw [if_neg c, if_neg c]
      obtain ⟨G', u, d', x1, x2, x3, x4, x5, x6, x7, x8, x9, x10, x11⟩ := lk_exit hs h hw (p := i) (by omega) (hd i (by omega) (by omega) c) hc
      rw [x1, bdN_s, x2, bdN_s, if_neg (show ¬ u < 0 by omega)]
      obtain ⟨v', G2, r2, d2, y1, y2, y3, y4, y5, y6⟩ := ih n1 n2 (i + 1) (v + 1) G' _ d' (by omega) (by omega) (by omega) (by omega) (by omega) (by omega) x3 x4 (by omega) (fun j j0 j1 j2 => x8 j (by omega) (by omega) (by omega) (hd j (by omega) j1 (fun z => j2 (x11 j z)))) (fun j j0 j1 => x11 j (hz j j0 j1))
      exact ⟨v', G2, r2, d2, y1, y2, y3, y4, TF_t x5 y5, y6⟩
end PAR27
