/-! ===== the class's trees: exits (own work) ===== -/
section CLS6
variable {g g' G H K : gH} {T S i j k a b c v w d o p q r s m x y : Int}
theorem hang_ (h : TI g T) (hi : 0 ≤ i ∧ i < 40) (e : ¬ g (pc T i) 2 < 0) : 0 < i ∧ i < g T 5 := by
  refine ⟨?_, ?_⟩
  · by_cases h0 : i = 0
    · exact absurd (by rw [h0, h.2.2.1]; omega) e
    · omega
  · by_cases h1 : i < g T 5
    · exact h1
    · exact absurd (by rw [h.2.2.2.1 i (by omega) hi.2]; omega) e
theorem ADc_f (h : TI g T) (hT : isT T) (hi : 0 < i ∧ i < g T 5) (ha : ADc g T (pc T i) c) : ∃ j, (0 ≤ j ∧ j < g T 5) ∧ c = pc T j ∧ ¬ j = i ∧ OV (sp g T) i j = false := by
  have hc := h.2.1
  rcases ha with e | ⟨⟨j, hj, rfl⟩, e1, e2, e3⟩
  · exact ⟨0, by omega, by rw [e, pc_0], by omega, OV_0⟩
  · have hj2 := hang_ h hj e1
    refine ⟨j, ⟨hj.1, hj2.2⟩, rfl, fun z => e2 (by rw [z]), ?_⟩
    rw [vP_isOver h hT (by omega) hj] at e3
    cases hh : OV (sp g T) i j with
    | false => rfl
    | true =>
      rw [if_pos ⟨hj2.2, hh⟩] at e3
      cases e3
theorem tT_adopt (h : TI g T) (hT : isT T) (hi : 0 < i ∧ i < g T 5) (hj : 0 ≤ j ∧ j < g T 5) (hij : ¬ j = i) (ho : OV (sp g T) i j = false) : WN (fun _ G => IT T g G ∧ G T 5 = g T 5 ∧ ∀ k, 0 ≤ k → k < 40 → G (pc T k) 2 = if k = i then pc T j else g (pc T k) 2) (fT_adopt g T (pc T i) (pc T j)) := by
  have hc := h.2.1
  have bi := pc_b (T := T) (i := i) ⟨by omega, by omega⟩
  rw [fT_adopt, if_pos (kdp hT (by omega))]
  refine W_bdN (tP_putUnder h hT hi hj hij ho) (fun _ A hA => ?_)
  obtain ⟨a1, a2, a3⟩ := hA
  rw [bnd_s, bnd_s]
  have w1 : IT T g (pU A (pc T i) 11 (w32 (A (pc T i) 11 + 1))) := IT_w a1 (by omega)
  have s1 : SS T A (pU A (pc T i) 11 (w32 (A (pc T i) 11 + 1))) := SS_w SS_r (by omega) (by omega)
  generalize pU A (pc T i) 11 (w32 (A (pc T i) 11 + 1)) = B at *
  have w2 : IT T g (pU B T 7 (w32 (B T 7 + 1))) := IT_w w1 (by omega)
  have s2 : SS T A (pU B T 7 (w32 (B T 7 + 1))) := SS_w s1 (by omega) (by omega)
  generalize pU B T 7 (w32 (B T 7 + 1)) = C at *
  have fin : ∀ D, IT T g D → SS T A D → WN (fun _ G => IT T g G ∧ G T 5 = g T 5 ∧ ∀ k, 0 ≤ k → k < 40 → G (pc T k) 2 = if k = i then pc T j else g (pc T k) 2) (some (0, D)) := fun D d1 d2 => WN_i ⟨d1, d2.1.trans a2, fun k k0 k1 => (d2.2 k k0 k1).trans (a3 k k0 k1)⟩
  refine W_ite (fun _ => ?_) (fun _ => fin C w2 s2)
  rw [bnd_s]
  exact fin _ (IT_w w2 (by omega)) (SS_w s2 (by omega) (by omega))
theorem tT_readZombiesOf (h : TI g T) (hT : isT T) : WN (fun _ G => IT T g G ∧ SS T g G) (fT_readZombiesOf g T c) := by
  have hfu := fu_ge
  rw [fT_readZombiesOf, TS_1 h.1, if_pos (kdT2 hT), szT2 hT]
  refine W_loop (W := WN (fun _ G => IT T g G ∧ SS T g G)) (fun n (a : Int × Int × gH) => lT_readZombiesOf_14 c (T + 2) 40 n a.1 a.2.1 a.2.2) (fun a => (40 - a.2.1).toNat) (fun a => (0 ≤ a.2.1 ∧ a.2.1 ≤ 40) ∧ IT T g a.2.2 ∧ SS T g a.2.2) ?_ fu (0, 0, g) ⟨by dsimp only; omega, IT_r h, SS_r⟩ (by dsimp only; omega)
  rintro n ⟨x, i, G⟩ hI ih
  have i0 : 0 ≤ i := hI.1.1
  have hG : IT T g G := hI.2.1
  have sG : SS T g G := hI.2.2
  show WN _ (bT_readZombiesOf_14 c (T + 2) 40 (lT_readZombiesOf_14 c (T + 2) 40 n) x i G)
  rw [bT_readZombiesOf_14]
  refine W_ite (fun hi => ?_) (fun _ => WN_i ⟨hG, sG⟩)
  have hi : 0 ≤ i ∧ i < 40 := ⟨i0, hi⟩
  have bi := pc_b (T := T) hi
  have nx : ∀ x' G', IT T g G' → SS T g G' → WN (fun _ G => IT T g G ∧ SS T g G) (lT_readZombiesOf_14 c (T + 2) 40 n x' (w32 (i + 1)) G') := fun x' G' h1 h2 => by rw [w32_r (by omega)]; exact ih (x', i + 1, G') ⟨by dsimp only; omega, h1, h2⟩ (by dsimp only; omega)
  simp only [TS_p hG.1.1 hi, kdp hT hi, kdT2 hT, szT2 hT, hi.1, hi.2, if_true, true_and, and_self, bnd_s]
  exact W_bdP tP_isZombieOf (fun _ _ => W_ite (fun _ => nx _ _ hG sG) (fun _ => nx _ _ ⟨TI_st hG.1 ⟨i, hi, rfl⟩ (by omega), TF_pU hG.2 (by omega)⟩ (SS_w sG (by omega) (by omega))))
theorem tT_passDuties (h : TI g T) (hT : isT T) (hp : Pa T p) (hr : r = -1 ∨ Pa T r) : WN (fun _ G => IT T g G ∧ SS T g G) (fT_passDuties g T p r) := by
  have hfu := fu_ge
  rw [fT_passDuties]
  refine W_loop (W := WN (fun _ G => IT T g G ∧ SS T g G)) (fun n (a : Int × gH) => lT_passDuties_2 T p r n a.1 a.2) (fun a => (8 - a.1).toNat) (fun a => (0 ≤ a.1 ∧ a.1 ≤ 8) ∧ IT T g a.2 ∧ SS T g a.2) ?_ fu (0, g) ⟨by dsimp only; omega, IT_r h, SS_r⟩ (by dsimp only; omega)
  rintro n ⟨i, G⟩ hI ih
  have i0 : 0 ≤ i := hI.1.1
  have hG : IT T g G := hI.2.1
  have sG : SS T g G := hI.2.2
  show WN _ (bT_passDuties_2 T p r (lT_passDuties_2 T p r n) i G)
  rw [bT_passDuties_2]
  refine W_ite (fun hi => ?_) (fun _ => WN_i ⟨hG, sG⟩)
  have nx : ∀ G', IT T g G' → SS T g G' → WN (fun _ G => IT T g G ∧ SS T g G) (lT_passDuties_2 T p r n (w32 (i + 1)) G') := fun G' h1 h2 => by rw [w32_r (by omega)]; exact ih (i + 1, G') ⟨by dsimp only; omega, h1, h2⟩ (by dsimp only; omega)
  have h8 : kd (T + 3) = 20 ∧ (0 : Int) ≤ i ∧ i < sz (T + 3) := ⟨kdT3 hT, i0, by rw [szT3 hT]; exact hi⟩
  have e2 := TS_2 hG.1.1
  simp only [e2]
  rw [if_pos h8, if_pos (Pa_kd hT hp)]
  refine W_ite (fun _ => W_ite (fun _ => W_bdP (tT_inheritorOf hG.1 hT hp) (fun y hy => ?_)) (fun hn => ?_)) (fun _ => nx _ hG sG)
  · rw [if_pos (Pa_kd hT hy), if_pos h8, bnd_s]
    exact nx _ (IT_w hG (by omega)) (SS_w sG (by omega) (by omega))
  · have hr : Pa T r := by
      rcases hr with e | e
      · exact absurd (by omega) hn
      · exact e
    rw [if_pos (Pa_kd hT hr), if_pos h8, bnd_s]
    exact nx _ (IT_w hG (by omega)) (SS_w sG (by omega) (by omega))
theorem tT_replace (h : TI g T) (hT : isT T) (hp : Pa T p) (hj : 0 ≤ j ∧ j < g T 5) : WN (fun v G => IT T g G ∧ g T 5 ≤ G T 5 ∧ (∀ k, 0 ≤ k → k < g T 5 → G (pc T k) 2 = g (pc T k) 2) ∧ (v = -1 ∨ ∃ k, (0 < k ∧ k < G T 5) ∧ v = pc T k ∧ G v 2 = pc T j)) (fT_replace g T p (pc T j)) := by
  have hc := h.2.1
  have bj := pc_b (T := T) (i := j) ⟨by omega, by omega⟩
  have bp := Pa_b hp
  have no : WN (fun v G => IT T g G ∧ g T 5 ≤ G T 5 ∧ (∀ k, 0 ≤ k → k < g T 5 → G (pc T k) 2 = g (pc T k) 2) ∧ (v = -1 ∨ ∃ k, (0 < k ∧ k < G T 5) ∧ v = pc T k ∧ G v 2 = pc T j)) (some (-1, g)) := WN_i ⟨IT_r h, Int.le_refl _, fun _ _ _ => rfl, Or.inl rfl⟩
  rw [fT_replace, if_pos (kdp hT (by omega)), if_pos (Pa_kd hT hp)]
  refine W_ite (fun _ => W_ite (fun _ => ?_) (fun _ => no)) (fun _ => no)
  refine W_bdN (tT_arrive h hT hj) (fun v A hA => ?_)
  obtain ⟨a1, ⟨rfl, rfl⟩ | ⟨a2, a3, a4, a5⟩⟩ := hA
  · rw [if_pos (by omega)]; exact no
  · have hn := a1.1.2.1
    have pv : Pa T v := ⟨g T 5, by omega, a2⟩
    rw [if_neg (Pa_pos hT pv), bnd_s, if_pos (Pa_kd hT pv), bnd_s, bnd_s]
    have w1 : IT T g (pU A (pc T j) 6 (w32 (A (pc T j) 6 - 1))) := IT_w a1 (by omega)
    have s1 : SS T A (pU A (pc T j) 6 (w32 (A (pc T j) 6 - 1))) := SS_w SS_r (by omega) (by omega)
    generalize pU A (pc T j) 6 (w32 (A (pc T j) 6 - 1)) = B at *
    have w2 : IT T g (pU B p 12 (B v 0)) := IT_w w1 (by omega)
    have s2 : SS T A (pU B p 12 (B v 0)) := SS_w s1 (by omega) (by omega)
    generalize pU B p 12 (B v 0) = C at *
    have w3 : IT T g (pU C T 9 (w32 (C T 9 + 1))) := IT_w w2 (by omega)
    have s3 : SS T A (pU C T 9 (w32 (C T 9 + 1))) := SS_w s2 (by omega) (by omega)
    generalize pU C T 9 (w32 (C T 9 + 1)) = D at *
    have e5 := s3.1
    refine WN_i ⟨w3, by omega, fun k k0 k1 => ?_, Or.inr ⟨g T 5, by omega, a2, ?_⟩⟩
    · rw [s3.2 k k0 (by omega)]; exact a5 k k0 k1
    · rw [a2, s3.2 _ (by omega) (by omega), ← a2]; exact a4
/-- in the midst of an exit: p stands under s, and so does who replaces it -/
def LI (T i s r : Int) (g G : gH) : Prop := IT T g G ∧ (0 < i ∧ i < G T 5) ∧ 0 ≤ s ∧ G (pc T i) 2 = pc T s ∧ (r = -1 ∨ ∃ k, (0 < k ∧ k < G T 5) ∧ r = pc T k ∧ G r 2 = pc T s)
theorem LI_s (h : LI T i s r g G) : s < G T 5 ∧ sp G T i = s ∧ DP (sp G T) i = 1 + DP (sp G T) s := by
  obtain ⟨h1, h2, h3, h4, -⟩ := h
  have e : sp G T i = s := by unfold sp; rw [h4, ix_pc h3]
  have := (sp_rg h1.1 (by omega) h2.2).1
  rw [e] at this
  refine ⟨this.2, e, ?_⟩
  rw [DP_s (h1.1.2.2.2.2.2.1 i (by omega) h2.2) (by omega), e]
theorem LI_k (h : LI T i s r g G) (hk : 0 < k ∧ k < G T 5) (e : G (pc T k) 2 = pc T i) : ¬ k = i ∧ ¬ s = k ∧ OV (sp G T) k s = false ∧ ∀ j, (0 < j ∧ j < G T 5) → G (pc T j) 2 = pc T s → ¬ j = k ∧ OV (sp G T) k j = false := by
  obtain ⟨e1, e2, e3⟩ := LI_s h
  obtain ⟨h1, h2, h3, h4, -⟩ := h
  have ay := h1.1.2.2.2.2.2.1
  have ek : sp G T k = i := by unfold sp; rw [e, ix_pc (by omega)]
  have dk : DP (sp G T) k = 1 + DP (sp G T) i := by rw [DP_s (ay k (by omega) hk.2) (by omega), ek]
  refine ⟨fun z => ?_, fun z => ?_, ?_, fun j hj ej => ⟨fun z => ?_, ?_⟩⟩
  · rw [z] at dk; omega
  · rw [z] at e3; omega
  · cases hh : OV (sp G T) k s with
    | false => rfl
    | true =>
      have := OV_dp (ay s h3 e1) hh
      omega
  · have es : sp G T j = s := by unfold sp; rw [ej, ix_pc h3]
    rw [z] at es
    rw [← es, ek] at e3
    omega
  · have es : sp G T j = s := by unfold sp; rw [ej, ix_pc h3]
    have dj : DP (sp G T) j = 1 + DP (sp G T) s := by rw [DP_s (ay j (by omega) hj.2) (by omega), es]
    cases hh : OV (sp G T) k j with
    | false => rfl
    | true =>
      have := OV_dp (ay j (by omega) hj.2) hh
      omega
/-- who stands under p is hung elsewhere -/
theorem LI_mv (h : LI T i s r g G) (hk : 0 < k ∧ k < G T 5) (e : G (pc T k) 2 = pc T i) (h1 : IT T G H) (h5 : H T 5 = G T 5) (h2 : ∀ j, 0 ≤ j → j < 40 → H (pc T j) 2 = if j = k then c else G (pc T j) 2) : LI T i s r g H := by
  have hl := LI_k h hk e
  obtain ⟨a1, a2, a3, a4, a5⟩ := h
  have hc := a1.1.2.1
  refine ⟨IT_t a1 h1, by rw [h5]; exact a2, a3, by rw [h2 i (by omega) (by omega), if_neg (fun z => hl.1 z.symm)]; exact a4, ?_⟩
  rcases a5 with z | ⟨j, j1, j2, j3⟩
  · exact Or.inl z
  · refine Or.inr ⟨j, by rw [h5]; exact j1, j2, ?_⟩
    rw [j2] at j3
    rw [j2, h2 j (by omega) (by omega), if_neg (hl.2.2.2 j j1 j3).1]; exact j3
end CLS6
