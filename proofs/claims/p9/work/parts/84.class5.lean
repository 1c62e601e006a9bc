/-! ===== the class's trees: coming, hanging under, adopting (own work) ===== -/
section CLS5
variable {g g' G H K : gH} {T S i j k a b c v w d o p q s m x y : Int}
/-- G came from g by work on the tree T, which stands whole -/
def IT (T : Int) (g G : gH) : Prop := TI G T ∧ TF T g G
theorem IT_r (h : TI g T) : IT T g g := ⟨h, TF_r⟩
theorem IT_t (h1 : IT T g G) (h2 : IT T G H) : IT T g H := ⟨h2.1, TF_t h1.2 h2.2⟩
theorem IT_w (h : IT T g G) (hab : a = T + 3 ∨ a = T + 4 ∨ (a = T ∧ (b = 4 ∨ 5 < b)) ∨ (T < a ∧ a < T + 44 ∧ ¬ a = T + 2 ∧ ¬ b = 0 ∧ ¬ b = 2 ∧ ¬ b = 1 ∧ ¬ b = 9)) : IT T g (pU G a b v) := ⟨TI_w h.1 (by omega), TF_pU h.2 (by omega)⟩
theorem pU_y (h : ¬ y = b) : pU g a b v x y = g x y := by
  unfold pU
  rw [if_neg (fun z => h z.2)]
/-- the supervisors are the same -/
def SS (T : Int) (g G : gH) : Prop := G T 5 = g T 5 ∧ ∀ k, 0 ≤ k → k < 40 → G (pc T k) 2 = g (pc T k) 2
theorem SS_r : SS T g g := ⟨rfl, fun _ _ _ => rfl⟩
theorem SS_t (h1 : SS T g G) (h2 : SS T G H) : SS T g H := ⟨h2.1.trans h1.1, fun k k0 k1 => (h2.2 k k0 k1).trans (h1.2 k k0 k1)⟩
theorem SS_w (h : SS T g G) (h2 : ¬ b = 2 ∨ a = T + 3) (h5 : ¬ b = 5 ∨ ¬ a = T) : SS T g (pU G a b v) := by
  refine ⟨?_, fun k k0 k1 => ?_⟩
  · rw [← h.1]
    unfold pU
    rw [if_neg (by omega)]
  · rw [← h.2 k k0 k1]
    have := pc_b (T := T) ⟨k0, k1⟩
    unfold pU
    rw [if_neg (by omega)]
theorem tT_giveDuty (h : TI g T) (hT : isT T) (hp : Pa T c) : WN (fun _ G => IT T g G ∧ SS T g G) (fT_giveDuty g T d c) := by
  have hs := h.1
  rw [fT_giveDuty]
  refine W_ite (fun _ => WN_i ⟨IT_r h, SS_r⟩) (fun _ => W_ite (fun _ => ?_) (fun _ => WN_i ⟨IT_r h, SS_r⟩))
  rw [if_pos (Pa_kd hT hp), TS_2 hs, if_pos ⟨kdT3 hT, by omega, by rw [szT3 hT]; omega⟩, bnd_s]
  exact WN_i ⟨IT_w (IT_r h) (by omega), SS_w SS_r (by omega) (by omega)⟩
theorem tP_become : WN (fun _ G => (∀ x, ¬ x = c → G x = g x) ∧ G c 0 = g c 0 ∧ G c 2 = -1 ∧ G c 1 = a) (fP_become g c a b d w) := by
  rw [fP_become]
  simp only [bnd_s]
  refine WN_i ⟨fun x hx => by simp only [pU_n hx], ?_, ?_, ?_⟩
  · simp (disch := omega) only [pU_y]
  · simp (disch := omega) only [pU_y]
    rw [pU_s, u1_s]
  · simp (disch := omega) only [pU_y]
    rw [pU_s, u1_s]
theorem TI_st (h : TI g T) (hp : Pa T c) (hv : ¬ v = 1) : TI (pU g c 1 v) T := by
  have bc := Pa_b hp
  have eT : pU g c 1 v T = g T := pU_n (by omega)
  refine TI_eq h (fun k _ _ => by rw [eT]) (by rw [eT]) (pU_n (by omega)) (fun i i0 i1 => ⟨pU_y (by omega), pU_y (by omega)⟩) (fun i i0 i1 => ?_)
  rw [pU_y (y := 9) (by omega)]
  by_cases e : pc T i = c
  · rw [e, pU_s, u1_s]
    exact fun z => absurd z hv
  · rw [pU_n e]
    exact h.2.2.2.2.2.2 i i0 i1
theorem TI_ex (h : TI g T) (hp : Pa T c) (hd : 0 ≤ d ∧ d < 2147483648) : TI (pU (pU g c 1 1) c 9 d) T := by
  have bc := Pa_b hp
  have eT : pU (pU g c 1 1) c 9 d T = g T := by rw [pU_n (by omega), pU_n (by omega)]
  refine TI_eq h (fun k _ _ => by rw [eT]) (by rw [eT]) (by rw [pU_n (by omega), pU_n (by omega)]) (fun i i0 i1 => ⟨by rw [pU_y (by omega), pU_y (by omega)], by rw [pU_y (by omega), pU_y (by omega)]⟩) (fun i i0 i1 => ?_)
  by_cases e : pc T i = c
  · intro _
    rw [e, pU_s, u1_s]
    exact hd
  · rw [pU_n e, pU_n e]
    exact h.2.2.2.2.2.2 i i0 i1
theorem TI_sup (h : TI g T) (hi : 0 < i ∧ i < g T 5) (hj : 0 ≤ j ∧ j < g T 5) (hij : ¬ j = i) (ho : OV (sp g T) i j = false) : TI (pU g (pc T i) 2 (pc T j)) T := by
  have hc := h.2.1
  have hb := pc_b (T := T) (i := i) ⟨by omega, by omega⟩
  have v2 : ∀ k, 0 ≤ k → pU g (pc T i) 2 (pc T j) (pc T k) 2 = if k = i then pc T j else g (pc T k) 2 := by
    intro k k0
    by_cases e : k = i
    · rw [e, pU_s, u1_s, if_pos rfl]
    · rw [pU_n (pc_ne k0 (by omega) e), if_neg e]
  have eT : pU g (pc T i) 2 (pc T j) T = g T := pU_n (by omega)
  refine ⟨TS_eq h.1 (fun k _ _ => by rw [eT]) (pU_n (by omega)) (fun k k0 k1 => pU_y (by omega)), by rw [eT]; exact hc, ?_, fun k k0 k1 => ?_, fun k k0 k1 => ?_, ?_, fun k k0 k1 => by rw [pU_y (by omega), pU_y (by omega)]; exact h.2.2.2.2.2.2 k k0 k1⟩
  · rw [v2 0 (by omega), if_neg (by omega)]; exact h.2.2.1
  · rw [eT] at k0
    rw [v2 k (by omega), if_neg (by omega)]; exact h.2.2.2.1 k k0 k1
  · rw [eT] at k1
    rw [v2 k (by omega), eT]
    by_cases e : k = i
    · rw [if_pos e]; exact ⟨j, hj.1, hj.2, rfl⟩
    · rw [if_neg e]; exact h.2.2.2.2.1 k k0 k1
  · rw [eT]
    have ha := acy_u1 h.2.2.2.2.2.1 hc.2 hi hj hij ho
    refine acy_ext ha (fun k k0 k1 => ?_) (fun k k0 k1 => ?_)
    · by_cases e : k = i
      · rw [e, u1_s]; exact hj
      · rw [u1_n e]; exact (sp_rg h (by omega) k1).1
    · show ix T (pU g (pc T i) 2 (pc T j) (pc T k) 2) = _
      rw [v2 k (by omega)]
      by_cases e : k = i
      · rw [if_pos e, ix_pc hj.1, e, u1_s]
      · rw [if_neg e, u1_n e]
        rfl
theorem sp_w (hb : ¬ b = 2) : sp (pU g a b v) T = sp g T := by
  funext k
  unfold sp
  rw [pU_y (by omega)]
theorem tP_putUnder (h : TI g T) (hT : isT T) (hi : 0 < i ∧ i < g T 5) (hj : 0 ≤ j ∧ j < g T 5) (hij : ¬ j = i) (ho : OV (sp g T) i j = false) : WN (fun _ G => IT T g G ∧ G T 5 = g T 5 ∧ ∀ k, 0 ≤ k → k < 40 → G (pc T k) 2 = if k = i then pc T j else g (pc T k) 2) (fP_putUnder g (pc T i) (pc T j)) := by
  have hc := h.2.1
  have hs := sp_rg h (by omega) hi.2
  have bi := pc_b (T := T) (i := i) ⟨by omega, by omega⟩
  have bj := pc_b (T := T) (i := j) ⟨by omega, by omega⟩
  have bs := pc_b (T := T) (i := sp g T i) ⟨by omega, by omega⟩
  rw [fP_putUnder, hs.2, if_neg (pc_pos hT (by omega)), if_pos (kdp hT (by omega)), bnd_s, bnd_s, if_pos (kdp hT (by omega)), bnd_s]
  have hA : IT T g (pU g (pc T (sp g T i)) 3 (w32 (g (pc T (sp g T i)) 3 - 1))) := IT_w (IT_r h) (by omega)
  have eA : pU g (pc T (sp g T i)) 3 (w32 (g (pc T (sp g T i)) 3 - 1)) T 5 = g T 5 := by rw [pU_n (by omega)]
  have sA : sp (pU g (pc T (sp g T i)) 3 (w32 (g (pc T (sp g T i)) 3 - 1))) T = sp g T := sp_w (by omega)
  have rA : ∀ k, pU g (pc T (sp g T i)) 3 (w32 (g (pc T (sp g T i)) 3 - 1)) (pc T k) 2 = g (pc T k) 2 := fun k => pU_y (by omega)
  generalize pU g (pc T (sp g T i)) 3 (w32 (g (pc T (sp g T i)) 3 - 1)) = A at *
  have hB : IT T g (pU A (pc T i) 2 (pc T j)) := ⟨TI_sup hA.1 (by rw [eA]; exact hi) (by rw [eA]; exact hj) hij (by rw [sA]; exact ho), TF_pU hA.2 (by omega)⟩
  refine WN_i ⟨IT_w hB (by omega), ?_, fun k k0 k1 => ?_⟩
  · rw [pU_n (by omega), pU_n (by omega)]; exact eA
  · rw [pU_y (by omega)]
    by_cases e : k = i
    · rw [e, pU_s, u1_s, if_pos rfl]
    · rw [pU_n (pc_ne k0 (by omega) e), if_neg e]; exact rA k
/-- a process comes -/
theorem tT_arrive (h : TI g T) (hT : isT T) (hj : 0 ≤ j ∧ j < g T 5) : WN (fun v G => IT T g G ∧ ((v = -1 ∧ G = g) ∨ (v = pc T (g T 5) ∧ G T 5 = g T 5 + 1 ∧ G v 2 = pc T j ∧ ∀ k, 0 ≤ k → k < g T 5 → G (pc T k) 2 = g (pc T k) 2))) (fT_arrive g T (pc T j) a b d) := by
  have hc := h.2.1
  have hs := h.1
  rw [fT_arrive, TS_1 hs]
  refine W_ite (fun _ => WN_i ⟨IT_r h, Or.inl ⟨rfl, rfl⟩⟩) (fun _ => W_ite (fun hl => ?_) (fun _ => WN_i ⟨IT_r h, Or.inl ⟨rfl, rfl⟩⟩))
  have bn := pc_b (T := T) (i := g T 5) ⟨by omega, hl⟩
  have bj := pc_b (T := T) (i := j) ⟨by omega, by omega⟩
  rw [if_pos ⟨kdT2 hT, by omega, by rw [szT2 hT]; exact hl⟩, bnd_s, TS_p hs ⟨by omega, hl⟩, if_pos (kdp hT ⟨by omega, hl⟩), w32_r (by omega)]
  generalize hn : g T 5 = n at *
  refine W_bdN tP_become (fun _ B hB => ?_)
  obtain ⟨b1, b2, b3, b4⟩ := hB
  rw [fP_putUnder, b3, if_pos (by omega), bnd_s, if_pos (kdp hT (by omega)), bnd_s, bdN_s]
  have jn : ¬ pc T j = pc T n := pc_ne hj.1 (by omega) (by omega)
  have eT : ∀ y, ¬ y = 5 → pU (pU B (pc T n) 2 (pc T j)) (pc T j) 3 (w32 (pU B (pc T n) 2 (pc T j) (pc T j) 3 + 1)) T y = g T y := by
    intro y hy
    rw [pU_n (by omega), pU_n (by omega), b1 T (by omega), pU_y hy]
  have e5 : pU (pU B (pc T n) 2 (pc T j)) (pc T j) 3 (w32 (pU B (pc T n) 2 (pc T j) (pc T j) 3 + 1)) T 5 = n + 1 := by
    rw [pU_n (by omega), pU_n (by omega), b1 T (by omega), pU_s, u1_s]
  have e2 : pU (pU B (pc T n) 2 (pc T j)) (pc T j) 3 (w32 (pU B (pc T n) 2 (pc T j) (pc T j) 3 + 1)) (T + 2) = g (T + 2) := by
    rw [pU_n (by omega), pU_n (by omega), b1 (T + 2) (by omega), pU_n (by omega)]
  have e0 : ∀ k, 0 ≤ k → k < 40 → pU (pU B (pc T n) 2 (pc T j)) (pc T j) 3 (w32 (pU B (pc T n) 2 (pc T j) (pc T j) 3 + 1)) (pc T k) 0 = g (pc T k) 0 := by
    intro k k0 k1
    have bk := pc_b (T := T) (i := k) ⟨k0, k1⟩
    rw [pU_y (by omega), pU_y (by omega)]
    by_cases e : k = n
    · rw [e, b2, pU_n (by omega)]
    · rw [b1 _ (pc_ne k0 (by omega) e), pU_n (by omega)]
  have r2 : ∀ k, 0 ≤ k → k < 40 → pU (pU B (pc T n) 2 (pc T j)) (pc T j) 3 (w32 (pU B (pc T n) 2 (pc T j) (pc T j) 3 + 1)) (pc T k) 2 = if k = n then pc T j else g (pc T k) 2 := by
    intro k k0 k1
    have bk := pc_b (T := T) (i := k) ⟨k0, k1⟩
    rw [pU_y (by omega)]
    by_cases e : k = n
    · rw [e, pU_s, u1_s, if_pos rfl]
    · rw [pU_n (pc_ne k0 (by omega) e), if_neg e, b1 _ (pc_ne k0 (by omega) e), pU_n (by omega)]
  have eZ : ZI (pU (pU B (pc T n) 2 (pc T j)) (pc T j) 3 (w32 (pU B (pc T n) 2 (pc T j) (pc T j) 3 + 1))) T := by
    intro k k0 k1
    rw [pU_y (by omega), pU_y (by omega), pU_y (by omega), pU_y (by omega)]
    by_cases e : k = n
    · rw [e, b4]
      exact fun z => absurd z (by omega)
    · have bk := pc_b (T := T) (i := k) ⟨k0, k1⟩
      rw [b1 _ (pc_ne k0 (by omega) e), pU_n (by omega)]
      exact h.2.2.2.2.2.2 k k0 k1
  have eF : TF T g (pU (pU B (pc T n) 2 (pc T j)) (pc T j) 3 (w32 (pU B (pc T n) 2 (pc T j) (pc T j) 3 + 1))) := by
    refine TF_pU (TF_pU (fun x hx => ?_) (by omega)) (by omega)
    rw [b1 x (by omega), pU_n (by omega)]
  generalize pU (pU B (pc T n) 2 (pc T j)) (pc T j) 3 (w32 (pU B (pc T n) 2 (pc T j) (pc T j) 3 + 1)) = C at *
  refine WN_i ⟨⟨⟨TS_eq hs (fun k _ _ => eT k (by omega)) e2 e0, by rw [e5]; omega, ?_, fun k k0 k1 => ?_, fun k k0 k1 => ?_, ?_, eZ⟩, eF⟩, Or.inr ⟨rfl, e5, ?_, fun k k0 k1 => ?_⟩⟩
  · rw [r2 0 (by omega) (by omega), if_neg (by omega)]; exact h.2.2.1
  · rw [e5] at k0
    rw [r2 k (by omega) k1, if_neg (by omega)]; exact h.2.2.2.1 k (by omega) k1
  · rw [e5] at k1 ⊢
    rw [r2 k (by omega) (by omega)]
    by_cases e : k = n
    · rw [if_pos e]; exact ⟨j, by omega, by omega, rfl⟩
    · rw [if_neg e]
      obtain ⟨j', a1, a2, a3⟩ := h.2.2.2.2.1 k k0 (by omega)
      exact ⟨j', a1, by omega, a3⟩
  · rw [e5]
    have hcl : ∀ k, 0 < k → k < n → 0 ≤ sp g T k ∧ sp g T k < n := fun k k0 k1 => by
      have := (sp_rg h (i := k) (by omega) (by omega)).1
      rw [hn] at this
      exact this
    have ha := h.2.2.2.2.2.1
    rw [hn] at ha
    have ha := acy_new ha (by omega) hj hcl
    refine acy_ext ha (fun k k0 k1 => ?_) (fun k k0 k1 => ?_)
    · by_cases e : k = n
      · rw [e, u1_s]; omega
      · rw [u1_n e]
        have := hcl k k0 (by omega)
        omega
    · show ix T (C (pc T k) 2) = _
      rw [r2 k (by omega) (by omega)]
      by_cases e : k = n
      · rw [if_pos e, ix_pc hj.1, e, u1_s]
      · rw [if_neg e, u1_n e]
        rfl
  · rw [r2 n (by omega) hl, if_pos rfl]
  · rw [r2 k k0 (by omega), if_neg (by omega)]
end CLS5
