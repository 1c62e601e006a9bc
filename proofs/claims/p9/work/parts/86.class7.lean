/-! ===== the class's trees: letExit and what uses it (own work) ===== -/
section CLS7
variable {g g' G H K : gH} {T S i j k a b c v w d o p q r s m x y : Int}
theorem lx_212 (h : IT T g G) (hT : isT T) : WN (fun _ H => IT T g H) (jT_letExit_212 G T c d) := by
  rw [jT_letExit_212]
  refine W_ite (fun _ => ?_) (fun _ => WN_i h)
  refine W_bdN (tT_readZombiesOf h.1 hT) (fun _ H hH => WN_i (IT_t h hH.1))
theorem lx_163 (h : LI T i s r g G) (hT : isT T) : WN (fun _ H => IT T g H) (jT_letExit_163 G T (pc T i) (pc T s) d) := by
  have hfu := fu_ge
  have hs := h.1.1.1
  rw [jT_letExit_163, TS_1 hs, if_pos (kdT2 hT), szT2 hT]
  refine W_loop (W := WN (fun _ H => IT T g H)) (fun n (a : Int × gH) => lT_letExit_177 T (pc T i) (pc T s) d (T + 2) 40 n a.1 a.2) (fun a => (40 - a.1).toNat) (fun a => (0 ≤ a.1 ∧ a.1 ≤ 40) ∧ LI T i s r g a.2) ?_ fu (0, G) ⟨by dsimp only; omega, h⟩ (by dsimp only; omega)
  clear hs h
  rintro n ⟨k, G⟩ hI ih
  have k0 : 0 ≤ k := hI.1.1
  have h : LI T i s r g G := hI.2
  show WN _ (bT_letExit_177 T (pc T i) (pc T s) d (T + 2) 40 (lT_letExit_177 T (pc T i) (pc T s) d (T + 2) 40 n) k G)
  rw [bT_letExit_177]
  refine W_ite (fun hk => ?_) (fun _ => lx_212 h.1 hT)
  have hk : 0 ≤ k ∧ k < 40 := ⟨k0, hk⟩
  have bk := pc_b (T := T) hk
  have nx : ∀ G', LI T i s r g G' → WN (fun _ H => IT T g H) (lT_letExit_177 T (pc T i) (pc T s) d (T + 2) 40 n (w32 (k + 1)) G') := fun G' h1 => by rw [w32_r (by omega)]; exact ih (k + 1, G') ⟨by dsimp only; omega, h1⟩ (by dsimp only; omega)
  have hc := h.1.1.2.1
  simp only [TS_p h.1.1.1 hk, kdp hT hk, kdT2 hT, szT2 hT, hk.1, hk.2, if_true, true_and, and_self, bnd_s]
  refine W_bdP tP_isZombieOf (fun y hy => W_ite (fun _ => nx _ h) (fun hz => nx _ ?_))
  have e := hy hz
  have hi2 := h.2.1
  have hk2 := hang_ h.1.1 hk (by rw [e]; exact pc_pos hT (by omega))
  have hl := LI_k h hk2 e
  have hss := LI_s h
  have t := TI_sup h.1.1 hk2 ⟨h.2.2.1, hss.1⟩ hl.2.1 hl.2.2.1
  refine LI_mv (c := pc T s) h hk2 e ⟨t, TF_pU TF_r (by omega)⟩ (by rw [pU_n (by omega)]) (fun j j0 j1 => ?_)
  by_cases z : j = k
  · rw [z, pU_s, u1_s, if_pos rfl]
  · rw [pU_n (pc_ne j0 (by omega) z), if_neg z]
theorem lx_69 (h : LI T i s r g G) (hT : isT T) : WN (fun _ H => IT T g H) (jT_letExit_69 G T (pc T i) (pc T s) d r) := by
  have hfu := fu_ge
  have hc := h.1.1.2.1
  have hi2 := h.2.1
  have pr : r = -1 ∨ Pa T r := by
    rcases h.2.2.2.2 with z | ⟨j, j1, j2, -⟩
    · exact Or.inl z
    · exact Or.inr ⟨j, by omega, j2⟩
  rw [jT_letExit_69]
  refine W_bdN (tT_passDuties h.1.1 hT ⟨i, by omega, rfl⟩ pr) (fun _ A hA => ?_)
  have hL : LI T i s r g A := by
    obtain ⟨a1, a2⟩ := hA
    refine ⟨IT_t h.1 a1, by rw [a2.1]; exact h.2.1, h.2.2.1, by rw [a2.2 i (by omega) (by omega)]; exact h.2.2.2.1, ?_⟩
    rcases h.2.2.2.2 with z | ⟨j, j1, j2, j3⟩
    · exact Or.inl z
    · rw [j2] at j3
      exact Or.inr ⟨j, by rw [a2.1]; exact j1, j2, by rw [j2, a2.2 j (by omega) (by omega)]; exact j3⟩
  clear hA hi2 hc h
  rw [TS_1 hL.1.1.1, if_pos (kdT2 hT), szT2 hT]
  refine W_loop (W := WN (fun _ H => IT T g H)) (fun n (a : Int × gH) => lT_letExit_92 T (pc T i) (pc T s) d r (T + 2) 40 n a.1 a.2) (fun a => (40 - a.1).toNat) (fun a => (0 ≤ a.1 ∧ a.1 ≤ 40) ∧ LI T i s r g a.2) ?_ fu (0, A) ⟨by dsimp only; omega, hL⟩ (by dsimp only; omega)
  clear hL A
  rintro n ⟨k, G⟩ hI ih
  have k0 : 0 ≤ k := hI.1.1
  have h : LI T i s r g G := hI.2
  show WN _ (bT_letExit_92 T (pc T i) (pc T s) d r (T + 2) 40 (lT_letExit_92 T (pc T i) (pc T s) d r (T + 2) 40 n) k G)
  rw [bT_letExit_92]
  refine W_ite (fun hk => ?_) (fun _ => lx_163 h hT)
  have hk : 0 ≤ k ∧ k < 40 := ⟨k0, hk⟩
  have bk := pc_b (T := T) hk
  have nx : ∀ G', LI T i s r g G' → WN (fun _ H => IT T g H) (lT_letExit_92 T (pc T i) (pc T s) d r (T + 2) 40 n (w32 (k + 1)) G') := fun G' h1 => by rw [w32_r (by omega)]; exact ih (k + 1, G') ⟨by dsimp only; omega, h1⟩ (by dsimp only; omega)
  have hc := h.1.1.2.1
  have hi2 := h.2.1
  simp only [TS_p h.1.1.1 hk, kdp hT hk, kdT2 hT, szT2 hT, hk.1, hk.2, if_true, true_and, and_self]
  refine W_bdP tP_isRunningChildOf (fun y hy => W_ite (fun _ => nx _ h) (fun hz => ?_))
  have e := hy hz
  have hk2 := hang_ h.1.1 hk (by rw [e]; exact pc_pos hT (by omega))
  have hl := LI_k h hk2 e
  have ad : WN (fun _ H => IT T g H) (jT_letExit_132 (lT_letExit_92 T (pc T i) (pc T s) d r (T + 2) 40 n) G T (pc T i) (pc T s) d r (T + 2) 40 k (pc T k)) := by
    rw [jT_letExit_132, jT_letExit_133, if_pos rfl]
    refine W_bdP (tT_adopterOf h.1.1 hT ⟨k, hk, rfl⟩) (fun c hcc => ?_)
    obtain ⟨j, j1, rfl, j3, j4⟩ := ADc_f h.1.1 hT hk2 hcc
    exact W_bdN (tT_adopt h.1.1 hT hk2 j1 j3 j4) (fun _ A hA => nx A (LI_mv h hk2 e hA.1 hA.2.1 hA.2.2))
  refine W_ite (fun _ => ad) (fun hn => ?_)
  rcases h.2.2.2.2 with z | ⟨j, j1, j2, j3⟩
  · exact absurd (by omega) hn
  · subst j2
    rw [if_pos (kdp hT (by omega))]
    refine W_bdP tP_room (fun _ _ => W_ite (fun _ => ?_) (fun _ => ad))
    rw [jT_letExit_133, if_neg f0]
    have hj := hl.2.2.2 j j1 j3
    exact W_bdN (tT_adopt h.1.1 hT hk2 ⟨by omega, j1.2⟩ hj.1 hj.2) (fun _ A hA => nx A (LI_mv h hk2 e hA.1 hA.2.1 hA.2.2))
theorem tT_letExit (h : TI g T) (hT : isT T) (hp : Pa T p) (hd : 0 ≤ d ∧ d < 2147483648) : WN (fun _ G => IT T g G) (fT_letExit g T p d) := by
  have hc := h.2.1
  obtain ⟨i, hi, rfl⟩ := hp
  rw [fT_letExit, if_pos (kdp hT hi)]
  refine W_ite (fun _ => WN_i (IT_r h)) (fun hn => ?_)
  have hi2 := hang_ h hi hn
  have hs := sp_rg h (by omega) hi2.2
  have bi := pc_b (T := T) hi
  have bs := pc_b (T := T) (i := sp g T i) ⟨by omega, by omega⟩
  rw [hs.2]
  generalize hsp : sp g T i = s at *
  rw [bnd_s, bnd_s, bnd_s, bnd_s, if_pos (kdp hT (by omega)), bnd_s]
  have w2 : IT T g (pU (pU g (pc T i) 1 1) (pc T i) 9 d) := ⟨TI_ex h ⟨i, hi, rfl⟩ hd, TF_pU (TF_pU TF_r (by omega)) (by omega)⟩
  have s2 : SS T g (pU (pU g (pc T i) 1 1) (pc T i) 9 d) := SS_w (SS_w SS_r (by omega) (by omega)) (by omega) (by omega)
  generalize pU (pU g (pc T i) 1 1) (pc T i) 9 d = B at *
  have w3 : IT T g (pU B (pc T i) 10 (B T 6)) := IT_w w2 (by omega)
  have s3 : SS T g (pU B (pc T i) 10 (B T 6)) := SS_w s2 (by omega) (by omega)
  generalize pU B (pc T i) 10 (B T 6) = C at *
  have w4 : IT T g (pU C T 6 (w32 (C T 6 + 1))) := IT_w w3 (by omega)
  have s4 : SS T g (pU C T 6 (w32 (C T 6 + 1))) := SS_w s3 (by omega) (by omega)
  generalize pU C T 6 (w32 (C T 6 + 1)) = D at *
  have w5 : IT T g (pU D (pc T s) 3 (w32 (D (pc T s) 3 - 1))) := IT_w w4 (by omega)
  have s5 : SS T g (pU D (pc T s) 3 (w32 (D (pc T s) 3 - 1))) := SS_w s4 (by omega) (by omega)
  generalize pU D (pc T s) 3 (w32 (D (pc T s) 3 - 1)) = E at *
  clear s2 s3 s4 w2 w3 w4
  have hL : LI T i s (-1) g E := ⟨w5, by rw [s5.1]; exact hi2, hs.1.1, by rw [s5.2 i hi.1 hi.2]; exact hs.2, Or.inl rfl⟩
  refine W_ite (fun _ => lx_69 hL hT) (fun _ => ?_)
  refine W_bdN (tT_replace w5.1 hT ⟨i, hi, rfl⟩ (by rw [s5.1]; exact hs.1)) (fun v F hF => lx_69 (r := v) (T := T) (i := i) (s := s) (g := g) ?_ hT)
  obtain ⟨f1, f2, f3, f4⟩ := hF
  rw [s5.1] at f2 f3
  exact ⟨IT_t w5 f1, by omega, hs.1.1, by rw [f3 i hi.1 hi2.2, s5.2 i hi.1 hi.2]; exact hs.2, f4⟩
theorem tT_killGroup (h : TI g T) (hT : isT T) (hb : 0 ≤ b ∧ b < 2147483648) : WN (fun _ G => IT T g G) (fT_killGroup g T a b) := by
  have hfu := fu_ge
  have l127 : ∀ x G, IT T g G → WN (fun _ G => IT T g G) (lT_killGroup_127 x (T + 2) 40 fu 0 G) := by
    intro x G h
    refine W_loop (W := WN (fun _ G => IT T g G)) (fun n (a : Int × gH) => lT_killGroup_127 x (T + 2) 40 n a.1 a.2) (fun a => (40 - a.1).toNat) (fun a => (0 ≤ a.1 ∧ a.1 ≤ 40) ∧ IT T g a.2) ?_ fu (0, G) ⟨by dsimp only; omega, h⟩ (by dsimp only; omega)
    clear h G
    rintro n ⟨k, G⟩ hI ih
    have k0 : 0 ≤ k := hI.1.1
    have h : IT T g G := hI.2
    show WN _ (bT_killGroup_127 x (T + 2) 40 (lT_killGroup_127 x (T + 2) 40 n) k G)
    rw [bT_killGroup_127]
    refine W_ite (fun hk => ?_) (fun _ => WN_i h)
    have hk : 0 ≤ k ∧ k < 40 := ⟨k0, hk⟩
    have bk := pc_b (T := T) hk
    simp only [TS_p h.1.1 hk, kdp hT hk, kdT2 hT, szT2 hT, hk.1, hk.2, if_true, true_and, and_self, bnd_s]
    rw [w32_r (by omega)]
    exact ih (k + 1, _) ⟨by dsimp only; omega, IT_w h (by omega)⟩ (by dsimp only; omega)
  have l74 : ∀ G, IT T g G → WN (fun _ G => IT T g G) (lT_killGroup_74 T b (T + 2) 40 fu 0 0 G) := by
    intro G h
    refine W_loop (W := WN (fun _ G => IT T g G)) (fun n (a : Int × Int × gH) => lT_killGroup_74 T b (T + 2) 40 n a.1 a.2.1 a.2.2) (fun a => (40 - a.2.1).toNat) (fun a => (0 ≤ a.2.1 ∧ a.2.1 ≤ 40) ∧ IT T g a.2.2) ?_ fu (0, 0, G) ⟨by dsimp only; omega, h⟩ (by dsimp only; omega)
    clear h G
    rintro n ⟨x, k, G⟩ hI ih
    have k0 : 0 ≤ k := hI.1.1
    have h : IT T g G := hI.2
    show WN _ (bT_killGroup_74 T b (T + 2) 40 (lT_killGroup_74 T b (T + 2) 40 n) x k G)
    rw [bT_killGroup_74]
    refine W_ite (fun hk => ?_) (fun _ => ?_)
    · have hk : 0 ≤ k ∧ k < 40 := ⟨k0, hk⟩
      have nx : ∀ x' G', IT T g G' → WN (fun _ G => IT T g G) (lT_killGroup_74 T b (T + 2) 40 n x' (w32 (k + 1)) G') := fun x' G' h1 => by rw [w32_r (by omega)]; exact ih (x', k + 1, G') ⟨by dsimp only; omega, h1⟩ (by dsimp only; omega)
      simp only [TS_p h.1.1 hk, kdp hT hk, kdT2 hT, szT2 hT, hk.1, hk.2, if_true, true_and, and_self]
      exact W_ite (fun _ => nx _ _ h) (fun _ => W_bdN (tT_letExit h.1 hT ⟨k, hk, rfl⟩ hb) (fun _ A hA => nx _ _ (IT_t h hA)))
    · rw [jT_killGroup_113, TS_1 h.1.1, if_pos (kdT2 hT), szT2 hT]
      exact l127 x G h
  rw [fT_killGroup, TS_1 h.1, if_pos (kdT2 hT), szT2 hT]
  refine W_loop (W := WN (fun _ G => IT T g G)) (fun n (c : Int × gH) => lT_killGroup_12 T a b (T + 2) 40 n c.1 c.2) (fun c => (40 - c.1).toNat) (fun c => (0 ≤ c.1 ∧ c.1 ≤ 40) ∧ IT T g c.2) ?_ fu (0, g) ⟨by dsimp only; omega, IT_r h⟩ (by dsimp only; omega)
  rintro n ⟨k, G⟩ hI ih
  have k0 : 0 ≤ k := hI.1.1
  have h : IT T g G := hI.2
  show WN _ (bT_killGroup_12 T a b (T + 2) 40 (lT_killGroup_12 T a b (T + 2) 40 n) k G)
  rw [bT_killGroup_12]
  refine W_ite (fun hk => ?_) (fun _ => ?_)
  · have hk : 0 ≤ k ∧ k < 40 := ⟨k0, hk⟩
    have bk := pc_b (T := T) hk
    have nx : ∀ G', IT T g G' → WN (fun _ G => IT T g G) (lT_killGroup_12 T a b (T + 2) 40 n (w32 (k + 1)) G') := fun G' h1 => by rw [w32_r (by omega)]; exact ih (k + 1, G') ⟨by dsimp only; omega, h1⟩ (by dsimp only; omega)
    simp only [TS_p h.1.1 hk, kdp hT hk, kdT2 hT, szT2 hT, hk.1, hk.2, if_true, true_and, and_self, bnd_s]
    exact W_bdP tP_isMortal (fun _ _ => W_ite (fun _ => nx _ (IT_w h (by omega))) (fun _ => W_ite (fun _ => nx _ (IT_w h (by omega))) (fun _ => nx _ (IT_w h (by omega)))))
  · rw [jT_killGroup_58, TS_1 h.1.1, if_pos (kdT2 hT), szT2 hT]
    exact l74 G h
/-- a running child is handed on -/
theorem lx_hand (h : IT T g G) (hT : isT T) (hk : 0 ≤ k ∧ k < 40) (hc : Pa T c) (e : G (pc T k) 2 = c) {β : Type} {W : Option β → Prop} {X : gH → Option β} (hX : ∀ H, IT T g H → W (X H)) : W (bdP (fT_adopterOf G T (pc T k)) (fun y => bdN (fT_adopt G T (pc T k) y) (fun _ H => X H))) := by
  have hk2 := hang_ h.1 hk (by rw [e]; exact Pa_pos hT hc)
  refine W_bdP (tT_adopterOf h.1 hT ⟨k, hk, rfl⟩) (fun y hy => ?_)
  obtain ⟨j, j1, rfl, j3, j4⟩ := ADc_f h.1 hT hk2 hy
  exact W_bdN (tT_adopt h.1 hT hk2 j1 j3 j4) (fun _ A hA => hX A (IT_t h hA.1))
theorem tT_loseGroup (h : TI g T) (hT : isT T) (hp : Pa T c) : WN (fun _ G => IT T g G) (fT_loseGroup g T c b) := by
  have hfu := fu_ge
  rw [fT_loseGroup, TS_1 h.1, if_pos (kdT2 hT), szT2 hT]
  refine W_loop (W := WN (fun _ G => IT T g G)) (fun n (a : Int × Int × gH) => lT_loseGroup_16 T c b (T + 2) 40 n a.1 a.2.1 a.2.2) (fun a => (40 - a.2.1).toNat) (fun a => (0 ≤ a.2.1 ∧ a.2.1 ≤ 40) ∧ IT T g a.2.2) ?_ fu (0, 0, g) ⟨by dsimp only; omega, IT_r h⟩ (by dsimp only; omega)
  rintro n ⟨x, k, G⟩ hI ih
  have k0 : 0 ≤ k := hI.1.1
  have h : IT T g G := hI.2
  show WN _ (bT_loseGroup_16 T c b (T + 2) 40 (lT_loseGroup_16 T c b (T + 2) 40 n) x k G)
  rw [bT_loseGroup_16]
  refine W_ite (fun hk => ?_) (fun _ => WN_i h)
  have hk : 0 ≤ k ∧ k < 40 := ⟨k0, hk⟩
  have nx : ∀ x' G', IT T g G' → WN (fun _ G => IT T g G) (lT_loseGroup_16 T c b (T + 2) 40 n x' (w32 (k + 1)) G') := fun x' G' h1 => by rw [w32_r (by omega)]; exact ih (x', k + 1, G') ⟨by dsimp only; omega, h1⟩ (by dsimp only; omega)
  simp only [TS_p h.1.1 hk, kdp hT hk, kdT2 hT, szT2 hT, hk.1, hk.2, if_true, true_and, and_self]
  exact W_bdP tP_isRunningChildOf (fun y hy => W_ite (fun _ => nx _ _ h) (fun hz => W_ite (fun _ => lx_hand h hT hk hp (hy hz) (fun H hH => nx _ _ hH)) (fun _ => nx _ _ h)))
theorem tT_loseSurplus (h : TI g T) (hT : isT T) (hp : Pa T c) : WN (fun _ G => IT T g G) (fT_loseSurplus g T c) := by
  have hfu := fu_ge
  rw [fT_loseSurplus]
  refine W_loop (W := WN (fun _ G => IT T g G)) (fun n (a : Int × Int × gH) => lT_loseSurplus_5 T c n a.1 a.2.1 a.2.2) (fun a => (a.2.1 + 1).toNat) (fun a => (-1 ≤ a.2.1 ∧ a.2.1 < 40) ∧ IT T g a.2.2) ?_ fu (0, 39, g) ⟨by dsimp only; omega, IT_r h⟩ (by dsimp only; omega)
  rintro n ⟨x, k, G⟩ hI ih
  have k0 : k < 40 := hI.1.2
  have h : IT T g G := hI.2
  show WN _ (bT_loseSurplus_5 T c (lT_loseSurplus_5 T c n) x k G)
  rw [bT_loseSurplus_5]
  refine W_ite (fun _ => WN_i h) (fun hk => ?_)
  have hk : 0 ≤ k ∧ k < 40 := ⟨by omega, k0⟩
  have nx : ∀ x' G', IT T g G' → WN (fun _ G => IT T g G) (lT_loseSurplus_5 T c n x' (w32 (k + (-1))) G') := fun x' G' h1 => by rw [w32_r (by omega)]; exact ih (x', k + (-1), G') ⟨by dsimp only; omega, h1⟩ (by dsimp only; omega)
  simp only [TS_1 h.1.1, TS_p h.1.1 hk, kdp hT hk, kdT2 hT, szT2 hT, hk.1, hk.2, Pa_kd hT hp, if_true, true_and, and_self]
  exact W_ite (fun _ => W_bdP tP_isRunningChildOf (fun y hy => W_ite (fun _ => nx _ _ h) (fun hz => lx_hand h hT hk hp (hy hz) (fun H hH => nx _ _ hH)))) (fun _ => nx _ _ h)
theorem tT_pruneBelow (h : TI g T) (hT : isT T) (hp : Pa T c) (hb : 0 ≤ b ∧ b < 2147483648) : WN (fun _ G => IT T g G) (fT_pruneBelow g T c b) := by
  have hfu := fu_ge
  rw [fT_pruneBelow]
  refine W_bdP (tT_deepestBelow h hT hp) (fun y hy => ?_)
  refine W_loop (W := WN (fun _ G => IT T g G)) (fun n (a : Int × Int × gH) => lT_pruneBelow_9 T c b n a.1 a.2.1 a.2.2) (fun a => (40 - a.1).toNat) (fun a => (0 ≤ a.1 ∧ a.1 ≤ 40) ∧ (a.2.1 = -1 ∨ Pa T a.2.1) ∧ IT T g a.2.2) ?_ fu (0, y, g) ⟨by dsimp only; omega, hy, IT_r h⟩ (by dsimp only; omega)
  rintro n ⟨k, z, G⟩ hI ih
  have k0 : 0 ≤ k := hI.1.1
  have hz : z = -1 ∨ Pa T z := hI.2.1
  have h : IT T g G := hI.2.2
  show WN _ (bT_pruneBelow_9 T c b (lT_pruneBelow_9 T c b n) k z G)
  rw [bT_pruneBelow_9]
  refine W_ite (fun _ => WN_i h) (fun hn => W_ite (fun hk => ?_) (fun _ => WN_i h))
  have hz : Pa T z := by
    rcases hz with e | e
    · exact absurd (by omega) hn
    · exact e
  refine W_bdN (tT_letExit h.1 hT hz hb) (fun _ A hA => W_bdP (tT_deepestBelow hA.1 hT hp) (fun v hv => ?_))
  rw [w32_r (by omega)]
  exact ih (k + 1, v, A) ⟨by dsimp only; omega, hv, IT_t h hA⟩ (by dsimp only; omega)
end CLS7
