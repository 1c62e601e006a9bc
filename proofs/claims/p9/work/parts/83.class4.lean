/-! ===== the class's trees: who adopts, who inherits (own work) ===== -/
section CLS4
variable {g g' G H K : gH} {T S i j k a b c v w d o p q s m x y : Int}
/-- how far a chain goes -/
def cl (g : gH) (T c : Int) : Nat := if c < 0 then 0 else (1 + DP (sp g T) (ix T c)).toNat
theorem cl_41 : cl g T c ≤ 41 := by
  unfold cl DP
  have := dp_bd (sp g T) 40 (ix T c)
  split <;> omega
theorem cl_up (h : TI g T) (hT : isT T) (hp : Pa T c) : cl g T (g c 2) < cl g T c := by
  obtain ⟨i, hi, rfl⟩ := hp
  have hpos := pc_pos hT hi
  have hd := dp_bd (sp g T) 40 i
  have e1 : cl g T (pc T i) = (1 + DP (sp g T) i).toNat := by
    unfold cl
    rw [if_neg hpos, ix_pc hi.1]
  have nn : cl g T (-1) = 0 := rfl
  rw [e1]
  unfold DP at *
  by_cases h0 : i = 0
  · subst h0
    rw [h.2.2.1, nn]
    omega
  · by_cases h1 : i < g T 5
    · have hs := sp_rg h (by omega) h1
      have hc := h.2.1
      rw [hs.2]
      have e2 : cl g T (pc T (sp g T i)) = (1 + dp (sp g T) 40 (sp g T i)).toNat := by
        unfold cl
        rw [if_neg (pc_pos hT (by omega)), ix_pc hs.1.1]
      have := DP_s (h.2.2.2.2.2.1 i (by omega) h1) h0
      unfold DP at this
      have := dp_bd (sp g T) 40 (sp g T i)
      rw [e2]
      omega
    · rw [h.2.2.2.1 i (by omega) hi.2, nn]
      omega
theorem sup_a (h : TI g T) (hp : Pa T c) : g c 2 = -1 ∨ Pa T (g c 2) := by
  rcases sup_ h hp with e | e
  · exact Or.inl e
  · exact Or.inr (Pn_a h e)
theorem tT_lowestOver (h : TI g T) (hT : isT T) (hp : Pa T a) (hq : Pa T b) : WP (Pa T) (fT_lowestOver g T a b) := by
  rw [fT_lowestOver]
  refine W_loop (W := WP (Pa T)) (fun n (c : Int) => lT_lowestOver_2 g T b n c) (fun c => cl g T c) (fun c => c = -1 ∨ Pa T c) ?_ fu a (Or.inr hp) (by have := cl_41 (g := g) (T := T) (c := a); have := fu_ge; omega)
  intro n c hc ih
  show WP _ (bT_lowestOver_2 g T b (lT_lowestOver_2 g T b n) c)
  rw [bT_lowestOver_2]
  refine W_ite (fun _ => WP_i ?_) (fun hn => ?_)
  · rw [TS_0 h.1]; exact Pn_a h (Pn_0 h)
  · have hc : Pa T c := by
      rcases hc with e | e
      · exact absurd (by omega) hn
      · exact e
    refine W_ite (fun _ => WP_i hc) (fun _ => ?_)
    rw [if_pos (Pa_kd hT hc)]
    exact W_bdP (tP_isOver h hT hc hq) (fun _ _ => W_ite (fun _ => ih _ (sup_a h hc) (cl_up h hT hc)) (fun _ => WP_i hc))
theorem tT_nextOfWalk (h : TI g T) (hT : isT T) (hp : Pa T a) : WP (fun v => v = -1 ∨ Pa T v) (fT_nextOfWalk g T a) := by
  rw [fT_nextOfWalk]
  refine W_bdP (tT_childBehind h hT) (fun x hx => ?_)
  refine W_loop (W := WP (fun v => v = -1 ∨ Pa T v)) (fun n (c : Int × Int) => lT_nextOfWalk_9 g T n c.1 c.2) (fun c => cl g T c.2) (fun c => (c.1 = -1 ∨ Pa T c.1) ∧ Pa T c.2) ?_ fu (x, a) ⟨hx, hp⟩ (by have := cl_41 (g := g) (T := T) (c := a); have := fu_ge; dsimp only; omega)
  rintro n ⟨x, c⟩ hI ih
  have hx : x = -1 ∨ Pa T x := hI.1
  have hc : Pa T c := hI.2
  show WP _ (bT_nextOfWalk_9 g T (lT_nextOfWalk_9 g T n) x c)
  rw [bT_nextOfWalk_9]
  refine W_ite (fun _ => ?_) (fun _ => WP_i hx)
  rw [if_pos (Pa_kd hT hc)]
  refine W_ite (fun _ => WP_i hx) (fun hn => ?_)
  refine W_bdP (tT_childBehind h hT) (fun x' hx' => ih (x', g c 2) ⟨hx', ?_⟩ (cl_up h hT hc))
  rcases sup_a h hc with e | e
  · exact absurd (by omega) hn
  · exact e
theorem tT_holderOf (h : TI g T) (hT : isT T) : WP (Pa T) (fT_holderOf g T d) := by
  have hs := h.1
  have r : ∀ s, (s = -1 ∨ Pn g T s) → WP (Pa T) (jT_holderOf_24 g T s) := by
    intro s hs'
    rw [jT_holderOf_24]
    refine W_ite (fun _ => WP_i ?_) (fun hn => WP_i ?_)
    · rw [TS_0 hs]; exact Pn_a h (Pn_0 h)
    · rcases hs' with e | e
      · exact absurd (by omega) hn
      · exact Pn_a h e
  rw [fT_holderOf]
  refine W_ite (fun _ => r _ (Or.inl rfl)) (fun _ => W_ite (fun _ => ?_) (fun _ => r _ (Or.inl rfl)))
  rw [TS_2 hs, if_pos ⟨kdT3 hT, by omega, by rw [szT3 hT]; omega⟩]
  exact W_bdP (tT_at h hT) (fun y hy => r y hy)
theorem tT_heirOf (h : TI g T) (hT : isT T) (hp : Pa T c) : WP (Pa T) (fT_heirOf g T c) := by
  have hs := h.1
  have hf := fu_ge
  have key : WP (Pa T) (lT_heirOf_34 g T c (T + 2) 40 fu 0) := by
    refine W_loop (W := WP (Pa T)) (fun n (i : Int) => lT_heirOf_34 g T c (T + 2) 40 n i) (fun i => (40 - i).toNat) (fun i => 0 ≤ i ∧ i ≤ 40) ?_ fu 0 (by omega) (by omega)
    intro n i hI ih
    show WP _ (bT_heirOf_34 g T c (T + 2) 40 (lT_heirOf_34 g T c (T + 2) 40 n) i)
    rw [bT_heirOf_34]
    refine W_ite (fun hi => ?_) (fun _ => ?_)
    · have hi : 0 ≤ i ∧ i < 40 := ⟨hI.1, hi⟩
      have pa : Pa T (pc T i) := ⟨i, hi, rfl⟩
      have nx : WP (Pa T) (lT_heirOf_34 g T c (T + 2) 40 n (w32 (i + 1))) := by rw [w32_r (by omega)]; exact ih (i + 1) (by omega) (by omega)
      simp only [TS_p hs hi, kdp hT hi, kdT2 hT, szT2 hT, hi.1, hi.2, if_true, true_and, and_self]
      exact W_bdP tP_isRunningChildOf (fun _ _ => W_ite (fun _ => nx) (fun _ => W_bdP tP_canInherit (fun _ _ => W_ite (fun _ => nx) (fun _ => WP_i pa))))
    · rw [jT_heirOf_73, if_pos (Pa_kd hT hp)]
      refine W_ite (fun _ => WP_i ?_) (fun hn => WP_i ?_)
      · rw [TS_0 hs]; exact Pn_a h (Pn_0 h)
      · rcases sup_a h hp with e | e
        · exact absurd (by omega) hn
        · exact e
  rw [fT_heirOf, if_pos (Pa_kd hT hp), TS_1 hs, szT2 hT, if_pos (kdT2 hT)]
  refine W_bdP (tT_at h hT) (fun y hy => W_ite (fun _ => key) (fun hn => ?_))
  have py : Pa T y := by
    rcases hy with e | e
    · exact absurd (by omega) hn
    · exact Pn_a h e
  rw [if_pos (Pa_kd hT py)]
  exact W_bdP tP_canInherit (fun _ _ => W_ite (fun _ => key) (fun _ => WP_i py))
theorem tT_inheritorOf (h : TI g T) (hT : isT T) (hp : Pa T c) : WP (Pa T) (fT_inheritorOf g T c d) := by
  rw [fT_inheritorOf, if_pos (Pa_kd hT hp)]
  have key : WP (Pa T) (bdP (fT_heirOf g T c) (fun y => some y)) := W_bdP (tT_heirOf h hT hp) (fun _ hy => WP_i hy)
  refine W_bdP tP_willFor (fun _ _ => W_bdP (tT_at h hT) (fun y hy => W_ite (fun _ => key) (fun hn => ?_)))
  have py : Pa T y := by
    rcases hy with e | e
    · exact absurd (by omega) hn
    · exact Pn_a h e
  rw [if_pos (Pa_kd hT py)]
  exact W_bdP tP_canInherit (fun _ _ => W_ite (fun _ => key) (fun _ => WP_i py))
/-- who can adopt -/
def ADc (g : gH) (T o c : Int) : Prop := c = T + 1 ∨ (Pa T c ∧ ¬ g c 2 < 0 ∧ ¬ c = o ∧ fP_isOver g o c = some 0)
theorem tT_canAdopt (h : TI g T) (hT : isT T) (hp : Pa T c) (ho : Pa T o) : WP (fun v => ¬ v = 0 → ADc g T o c) (fT_canAdopt g T c o) := by
  have z0 : WP (fun v => ¬ v = 0 → ADc g T o c) (some 0) := WP_i (fun z => absurd rfl z)
  rw [fT_canAdopt, if_pos (Pa_kd hT hp), if_pos (Pa_kd hT ho)]
  refine W_bdP tP_isMortal (fun y hy => W_ite (fun _ => z0) (fun hm => W_ite (fun _ => W_ite (fun _ => z0) (fun hn => W_bdP tP_refuses (fun _ _ => W_ite (fun _ => W_bdP tP_room (fun _ _ => W_ite (fun _ => z0) (fun _ => W_bdP (tP_countAbove h hT hp) (fun _ _ => W_ite (fun _ => ?_) (fun _ => z0))))) (fun _ => z0)))) (fun _ => z0)))
  obtain ⟨v, e, -⟩ := tP_isOver h hT ho hp
  rw [e, bdP_s]
  refine W_ite (fun hv => WP_i (fun _ => Or.inr ⟨hp, hy hm, hn, by rw [e, hv]⟩)) (fun _ => z0)
theorem ADc_a (h : TI g T) (hc : ADc g T o c) : Pa T c := by
  rcases hc with e | e
  · rw [e]; exact Pn_a h (Pn_0 h)
  · exact e.1
theorem tT_nearest (h : TI g T) (hT : isT T) (ho : Pa T o) (hf : Pa T a) : WP (fun v => v = -1 ∨ ADc g T o v) (fT_nearest g T o a) := by
  rw [fT_nearest, if_pos (Pa_kd hT hf)]
  refine W_loop (W := WP (fun v => v = -1 ∨ ADc g T o v)) (fun n (c : Int) => lT_nearest_5 g T o n c) (fun c => cl g T c) (fun c => c = -1 ∨ Pa T c) ?_ fu (g a 2) (sup_a h hf) (by have := cl_41 (g := g) (T := T) (c := g a 2); have := fu_ge; omega)
  intro n c hc ih
  show WP _ (bT_nearest_5 g T o (lT_nearest_5 g T o n) c)
  rw [bT_nearest_5]
  refine W_ite (fun _ => WP_i (Or.inl rfl)) (fun hn => ?_)
  have hc : Pa T c := by
    rcases hc with e | e
    · exact absurd (by omega) hn
    · exact e
  refine W_bdP (tT_canAdopt h hT hc ho) (fun v hv => W_ite (fun _ => ?_) (fun z => WP_i (Or.inr (hv z))))
  rw [if_pos (Pa_kd hT hc)]
  exact ih _ (sup_a h hc) (cl_up h hT hc)
theorem tT_firstKin (h : TI g T) (hT : isT T) (ho : Pa T o) (hf : Pa T a) : WP (fun v => v = -1 ∨ ADc g T o v) (fT_firstKin g T o a) := by
  have hs := h.1
  have hfu := fu_ge
  rw [fT_firstKin, if_pos (Pa_kd hT hf), TS_1 hs, if_pos (kdT2 hT), szT2 hT]
  refine W_loop (W := WP (fun v => v = -1 ∨ ADc g T o v)) (fun n (i : Int) => lT_firstKin_19 g T o a (g a 2) (T + 2) 40 n i) (fun i => (40 - i).toNat) (fun i => 0 ≤ i ∧ i ≤ 40) ?_ fu 0 (by omega) (by omega)
  intro n i hI ih
  show WP _ (bT_firstKin_19 g T o a (g a 2) (T + 2) 40 (lT_firstKin_19 g T o a (g a 2) (T + 2) 40 n) i)
  rw [bT_firstKin_19]
  refine W_ite (fun hi => ?_) (fun _ => WP_i (Or.inl rfl))
  have hi : 0 ≤ i ∧ i < 40 := ⟨hI.1, hi⟩
  have pa : Pa T (pc T i) := ⟨i, hi, rfl⟩
  have nx : WP (fun v => v = -1 ∨ ADc g T o v) (lT_firstKin_19 g T o a (g a 2) (T + 2) 40 n (w32 (i + 1))) := by rw [w32_r (by omega)]; exact ih (i + 1) (by omega) (by omega)
  simp only [TS_p hs hi, kdp hT hi, kdT2 hT, szT2 hT, hi.1, hi.2, if_true, true_and, and_self]
  exact W_ite (fun _ => nx) (fun _ => W_ite (fun _ => nx) (fun _ => W_bdP tP_isRunningChildOf (fun _ _ => W_ite (fun _ => nx) (fun _ => W_bdP (tT_canAdopt h hT pa ho) (fun v hv => W_ite (fun _ => nx) (fun z => WP_i (Or.inr (hv z))))))))
theorem tT_oldest (h : TI g T) (hT : isT T) (ho : Pa T o) : WP (fun v => v = -1 ∨ ADc g T o v) (fT_oldest g T o a) := by
  have hs := h.1
  have hfu := fu_ge
  rw [fT_oldest, TS_1 hs, if_pos (kdT2 hT), szT2 hT]
  refine W_loop (W := WP (fun v => v = -1 ∨ ADc g T o v)) (fun n (i : Int) => lT_oldest_12 g T o a (T + 2) 40 n i) (fun i => (40 - i).toNat) (fun i => 0 ≤ i ∧ i ≤ 40) ?_ fu 0 (by omega) (by omega)
  intro n i hI ih
  show WP _ (bT_oldest_12 g T o a (T + 2) 40 (lT_oldest_12 g T o a (T + 2) 40 n) i)
  rw [bT_oldest_12]
  refine W_ite (fun hi => ?_) (fun _ => WP_i (Or.inl rfl))
  have hi : 0 ≤ i ∧ i < 40 := ⟨hI.1, hi⟩
  have pa : Pa T (pc T i) := ⟨i, hi, rfl⟩
  have nx : WP (fun v => v = -1 ∨ ADc g T o v) (lT_oldest_12 g T o a (T + 2) 40 n (w32 (i + 1))) := by rw [w32_r (by omega)]; exact ih (i + 1) (by omega) (by omega)
  simp only [TS_p hs hi, kdp hT hi, kdT2 hT, szT2 hT, hi.1, hi.2, if_true, true_and, and_self]
  exact W_ite (fun _ => nx) (fun _ => W_bdP (tT_canAdopt h hT pa ho) (fun v hv => W_ite (fun _ => nx) (fun z => WP_i (Or.inr (hv z)))))
theorem tT_roomiestFor (h : TI g T) (hT : isT T) (ho : Pa T o) : WP (fun v => v = -1 ∨ ADc g T o v) (fT_roomiestFor g T o a b) := by
  have hs := h.1
  have hfu := fu_ge
  rw [fT_roomiestFor, TS_1 hs, if_pos (kdT2 hT), szT2 hT]
  refine W_loop (W := WP (fun v => v = -1 ∨ ADc g T o v)) (fun n (c : Int × Int) => lT_roomiestFor_17 g T o a b (T + 2) 40 n c.1 c.2) (fun c => (40 - c.2).toNat) (fun c => (0 ≤ c.2 ∧ c.2 ≤ 40) ∧ (c.1 = -1 ∨ ADc g T o c.1)) ?_ fu (-1, 0) ⟨by dsimp only; omega, Or.inl rfl⟩ (by dsimp only; omega)
  rintro n ⟨x, i⟩ hI ih
  have i0 : 0 ≤ i := hI.1.1
  have hx : x = -1 ∨ ADc g T o x := hI.2
  show WP _ (bT_roomiestFor_17 g T o a b (T + 2) 40 (lT_roomiestFor_17 g T o a b (T + 2) 40 n) x i)
  rw [bT_roomiestFor_17]
  refine W_ite (fun hi => ?_) (fun _ => WP_i hx)
  have hi : 0 ≤ i ∧ i < 40 := ⟨i0, hi⟩
  have pa : Pa T (pc T i) := ⟨i, hi, rfl⟩
  have nx : ∀ x', (x' = -1 ∨ ADc g T o x') → WP (fun v => v = -1 ∨ ADc g T o v) (lT_roomiestFor_17 g T o a b (T + 2) 40 n x' (w32 (i + 1))) := fun x' hx' => by rw [w32_r (by omega)]; exact ih (x', i + 1) ⟨by dsimp only; omega, hx'⟩ (by dsimp only; omega)
  have r83 : ∀ t s, WP (fun v => v = -1 ∨ ADc g T o v) (jT_roomiestFor_83 (lT_roomiestFor_17 g T o a b (T + 2) 40 n) g T o a b x (T + 2) 40 i (pc T i) t s) := by
    intro t s
    rw [jT_roomiestFor_83]
    exact W_ite (fun _ => nx x hx) (fun _ => W_ite (fun _ => nx x hx) (fun _ => W_bdP (tT_canAdopt h hT pa ho) (fun v hv => W_ite (fun _ => nx x hx) (fun z => nx _ (Or.inr (hv z))))))
  have r58 : ∀ s, WP (fun v => v = -1 ∨ ADc g T o v) (jT_roomiestFor_58 (lT_roomiestFor_17 g T o a b (T + 2) 40 n) g T o a b x (T + 2) 40 i (pc T i) s) := by
    intro s
    rw [jT_roomiestFor_58, jT_roomiestFor_78, if_pos (kdp hT hi)]
    refine W_ite (fun _ => r83 _ _) (fun hn => W_bdP tP_room (fun _ _ => ?_))
    have px : Pa T x := by
      rcases hx with e | e
      · exact absurd (by omega) hn
      · exact ADc_a h e
    rw [if_pos (Pa_kd hT px)]
    exact W_bdP tP_room (fun _ _ => W_ite (fun _ => r83 _ _) (fun _ => r83 _ _))
  simp only [TS_p hs hi, kdp hT hi, kdT2 hT, szT2 hT, hi.1, hi.2, Pa_kd hT ho, if_true, true_and, and_self, jT_roomiestFor_57, jT_roomiestFor_53]
  exact W_ite (fun _ => r58 _) (fun _ => W_ite (fun _ => r58 _) (fun _ => W_ite (fun _ => r58 _) (fun _ => r58 _)))
theorem tT_adopterOf (h : TI g T) (hT : isT T) (ho : Pa T o) : WP (ADc g T o) (fT_adopterOf g T o) := by
  have hs := h.1
  have hfu := fu_ge
  rw [fT_adopterOf, if_pos (Pa_kd hT ho), TS_0 hs]
  refine W_ite (fun _ => WP_i (Or.inl rfl)) (fun hn => ?_)
  have pf : Pa T (g o 2) := by
    rcases sup_a h ho with e | e
    · exact absurd (by omega) hn
    · exact e
  refine W_loop (W := WP (ADc g T o)) (fun n (c : Int × Int) => lT_adopterOf_19 g T o (g o 2) n c.1 c.2) (fun c => (5 - c.2).toNat) (fun c => (0 ≤ c.2 ∧ c.2 ≤ 5) ∧ (c.1 = -1 ∨ ADc g T o c.1)) ?_ fu (-1, 0) ⟨by dsimp only; omega, Or.inl rfl⟩ (by dsimp only; omega)
  rintro n ⟨x, i⟩ hI ih
  have i0 : 0 ≤ i := hI.1.1
  have hx : x = -1 ∨ ADc g T o x := hI.2
  have en : WP (ADc g T o) (jT_adopterOf_130 g T x) := by
    rw [jT_adopterOf_130, TS_0 hs]
    refine W_ite (fun _ => WP_i (Or.inl rfl)) (fun hn => WP_i ?_)
    rcases hx with e | e
    · exact absurd (by omega) hn
    · exact e
  show WP _ (bT_adopterOf_19 g T o (g o 2) (lT_adopterOf_19 g T o (g o 2) n) x i)
  rw [bT_adopterOf_19]
  refine W_ite (fun hi => W_ite (fun _ => ?_) (fun _ => en)) (fun _ => en)
  have nx : ∀ x', (x' = -1 ∨ ADc g T o x') → WP (ADc g T o) (lT_adopterOf_19 g T o (g o 2) n x' (w32 (i + 1))) := fun x' hx' => by rw [w32_r (by omega)]; exact ih (x', i + 1) ⟨by dsimp only; omega, hx'⟩ (by dsimp only; omega)
  rw [TS_3 hs, if_pos ⟨kdT4 hT, by omega, by rw [szT4 hT]; omega⟩]
  exact W_ite (fun _ => W_bdP (tT_nearest h hT ho pf) nx) (fun _ => W_ite (fun _ => W_bdP (tT_roomiestFor h hT ho) nx) (fun _ => W_ite (fun _ => W_bdP (tT_roomiestFor h hT ho) nx) (fun _ => W_ite (fun _ => W_bdP (tT_firstKin h hT ho pf) nx) (fun _ => W_ite (fun _ => W_bdP (tT_oldest h hT ho) nx) (fun _ => nx x hx)))))
end CLS4
