/-! ===== the class's trees: questions over all processes (own work, by program: wip/p2/gen_cls.py) ===== -/
section CLS3
variable {g g' G H K : gH} {T S j k a b c v w d p q s m y : Int}
theorem tT_countInState (h : TI g T) (hT : isT T) : WP (fun _ => True) (fT_countInState g T w) := by
  have hs := h.1
  have hf := fu_ge
  have hc := h.2.1
  rw [fT_countInState, TS_1 hs, if_pos (kdT2 hT), szT2 hT]
  refine W_loop (W := WP (fun _ => True)) (fun n (a : Int × Int) => lT_countInState_14 g w (T + 2) 40 n a.1 a.2) (fun a => (40 - a.2).toNat) (fun a => (0 ≤ a.2 ∧ a.2 ≤ 40) ∧ True) ?_ fu (0, 0) ⟨⟨by show (0 : Int) ≤ 0; omega, by show (0 : Int) ≤ 40; omega⟩, trivial⟩ (by show (40 - (0 : Int)).toNat < fu; omega)
  rintro n ⟨x, i⟩ hI ih
  have i0 : 0 ≤ i := hI.1.1
  have i1 : i ≤ 40 := hI.1.2
  show WP (fun _ => True) (bT_countInState_14 g w (T + 2) 40 (lT_countInState_14 g w (T + 2) 40 n) x i)
  rw [bT_countInState_14]
  refine W_ite (fun hi => ?_) (fun _ => WP_i trivial)
  have hi : 0 ≤ i ∧ i < 40 := ⟨i0, hi⟩
  have nx : ∀ x', WP (fun _ => True) (lT_countInState_14 g w (T + 2) 40 n x' (w32 (i + 1))) := fun x' => by rw [w32_r (by omega)]; exact ih (x', i + 1) ⟨by dsimp only; omega, trivial⟩ (by dsimp only; omega)
  have pa : Pa T (pc T i) := ⟨i, hi, rfl⟩
  simp only [TS_p hs hi, TS_n hs hi, kdp hT hi, kdT2 hT, szT2 hT, hi.1, hi.2, if_true, true_and, and_self]
  repeat' first | exact WP_i trivial | exact nx _ | refine W_bdP tP_isRunning (fun _ _ => ?_) | refine W_bdP tP_isZombieOf (fun _ _ => ?_) | refine W_bdP tP_isRunningChildOf (fun _ _ => ?_) | refine W_bdP (tP_countAbove h hT pa) (fun _ _ => ?_) | refine W_bdP (tP_isOver h hT hp pa) (fun _ _ => ?_) | refine W_bdP tP_room (fun _ _ => ?_) | refine W_ite (fun _ => ?_) (fun _ => ?_)
theorem tT_countBelow (h : TI g T) (hT : isT T) (hp : Pa T c) : WP (fun _ => True) (fT_countBelow g T c w) := by
  have hs := h.1
  have hf := fu_ge
  have hc := h.2.1
  rw [fT_countBelow, TS_1 hs, if_pos (kdT2 hT), szT2 hT]
  refine W_loop (W := WP (fun _ => True)) (fun n (a : Int × Int) => lT_countBelow_16 g c w (T + 2) 40 n a.1 a.2) (fun a => (40 - a.2).toNat) (fun a => (0 ≤ a.2 ∧ a.2 ≤ 40) ∧ True) ?_ fu (0, 0) ⟨⟨by show (0 : Int) ≤ 0; omega, by show (0 : Int) ≤ 40; omega⟩, trivial⟩ (by show (40 - (0 : Int)).toNat < fu; omega)
  rintro n ⟨x, i⟩ hI ih
  have i0 : 0 ≤ i := hI.1.1
  have i1 : i ≤ 40 := hI.1.2
  show WP (fun _ => True) (bT_countBelow_16 g c w (T + 2) 40 (lT_countBelow_16 g c w (T + 2) 40 n) x i)
  rw [bT_countBelow_16]
  refine W_ite (fun hi => ?_) (fun _ => WP_i trivial)
  have hi : 0 ≤ i ∧ i < 40 := ⟨i0, hi⟩
  have nx : ∀ x', WP (fun _ => True) (lT_countBelow_16 g c w (T + 2) 40 n x' (w32 (i + 1))) := fun x' => by rw [w32_r (by omega)]; exact ih (x', i + 1) ⟨by dsimp only; omega, trivial⟩ (by dsimp only; omega)
  have pa : Pa T (pc T i) := ⟨i, hi, rfl⟩
  simp only [TS_p hs hi, TS_n hs hi, kdp hT hi, kdT2 hT, szT2 hT, hi.1, hi.2, if_true, true_and, and_self]
  simp only [Pa_kd hT hp, if_true]
  repeat' first | exact WP_i trivial | exact nx _ | refine W_bdP tP_isRunning (fun _ _ => ?_) | refine W_bdP tP_isZombieOf (fun _ _ => ?_) | refine W_bdP tP_isRunningChildOf (fun _ _ => ?_) | refine W_bdP (tP_countAbove h hT pa) (fun _ _ => ?_) | refine W_bdP (tP_isOver h hT hp pa) (fun _ _ => ?_) | refine W_bdP tP_room (fun _ _ => ?_) | refine W_ite (fun _ => ?_) (fun _ => ?_)
theorem tT_countZombiesOf (h : TI g T) (hT : isT T) : WP (fun _ => True) (fT_countZombiesOf g T c) := by
  have hs := h.1
  have hf := fu_ge
  have hc := h.2.1
  rw [fT_countZombiesOf, TS_1 hs, if_pos (kdT2 hT), szT2 hT]
  refine W_loop (W := WP (fun _ => True)) (fun n (a : Int × Int) => lT_countZombiesOf_14 g c (T + 2) 40 n a.1 a.2) (fun a => (40 - a.2).toNat) (fun a => (0 ≤ a.2 ∧ a.2 ≤ 40) ∧ True) ?_ fu (0, 0) ⟨⟨by show (0 : Int) ≤ 0; omega, by show (0 : Int) ≤ 40; omega⟩, trivial⟩ (by show (40 - (0 : Int)).toNat < fu; omega)
  rintro n ⟨x, i⟩ hI ih
  have i0 : 0 ≤ i := hI.1.1
  have i1 : i ≤ 40 := hI.1.2
  show WP (fun _ => True) (bT_countZombiesOf_14 g c (T + 2) 40 (lT_countZombiesOf_14 g c (T + 2) 40 n) x i)
  rw [bT_countZombiesOf_14]
  refine W_ite (fun hi => ?_) (fun _ => WP_i trivial)
  have hi : 0 ≤ i ∧ i < 40 := ⟨i0, hi⟩
  have nx : ∀ x', WP (fun _ => True) (lT_countZombiesOf_14 g c (T + 2) 40 n x' (w32 (i + 1))) := fun x' => by rw [w32_r (by omega)]; exact ih (x', i + 1) ⟨by dsimp only; omega, trivial⟩ (by dsimp only; omega)
  have pa : Pa T (pc T i) := ⟨i, hi, rfl⟩
  simp only [TS_p hs hi, TS_n hs hi, kdp hT hi, kdT2 hT, szT2 hT, hi.1, hi.2, if_true, true_and, and_self]
  repeat' first | exact WP_i trivial | exact nx _ | refine W_bdP tP_isRunning (fun _ _ => ?_) | refine W_bdP tP_isZombieOf (fun _ _ => ?_) | refine W_bdP tP_isRunningChildOf (fun _ _ => ?_) | refine W_bdP (tP_countAbove h hT pa) (fun _ _ => ?_) | refine W_bdP (tP_isOver h hT hp pa) (fun _ _ => ?_) | refine W_bdP tP_room (fun _ _ => ?_) | refine W_ite (fun _ => ?_) (fun _ => ?_)
theorem tT_greatestDepth (h : TI g T) (hT : isT T) : WP (fun _ => True) (fT_greatestDepth g T) := by
  have hs := h.1
  have hf := fu_ge
  have hc := h.2.1
  rw [fT_greatestDepth, TS_1 hs, if_pos (kdT2 hT), szT2 hT]
  refine W_loop (W := WP (fun _ => True)) (fun n (a : Int × Int) => lT_greatestDepth_13 g (T + 2) 40 n a.1 a.2) (fun a => (40 - a.2).toNat) (fun a => (0 ≤ a.2 ∧ a.2 ≤ 40) ∧ True) ?_ fu (0, 0) ⟨⟨by show (0 : Int) ≤ 0; omega, by show (0 : Int) ≤ 40; omega⟩, trivial⟩ (by show (40 - (0 : Int)).toNat < fu; omega)
  rintro n ⟨x, i⟩ hI ih
  have i0 : 0 ≤ i := hI.1.1
  have i1 : i ≤ 40 := hI.1.2
  show WP (fun _ => True) (bT_greatestDepth_13 g (T + 2) 40 (lT_greatestDepth_13 g (T + 2) 40 n) x i)
  rw [bT_greatestDepth_13]
  refine W_ite (fun hi => ?_) (fun _ => WP_i trivial)
  have hi : 0 ≤ i ∧ i < 40 := ⟨i0, hi⟩
  have nx : ∀ x', WP (fun _ => True) (lT_greatestDepth_13 g (T + 2) 40 n x' (w32 (i + 1))) := fun x' => by rw [w32_r (by omega)]; exact ih (x', i + 1) ⟨by dsimp only; omega, trivial⟩ (by dsimp only; omega)
  have pa : Pa T (pc T i) := ⟨i, hi, rfl⟩
  simp only [TS_p hs hi, TS_n hs hi, kdp hT hi, kdT2 hT, szT2 hT, hi.1, hi.2, if_true, true_and, and_self]
  repeat' first | exact WP_i trivial | exact nx _ | refine W_bdP tP_isRunning (fun _ _ => ?_) | refine W_bdP tP_isZombieOf (fun _ _ => ?_) | refine W_bdP tP_isRunningChildOf (fun _ _ => ?_) | refine W_bdP (tP_countAbove h hT pa) (fun _ _ => ?_) | refine W_bdP (tP_isOver h hT hp pa) (fun _ _ => ?_) | refine W_bdP tP_room (fun _ _ => ?_) | refine W_ite (fun _ => ?_) (fun _ => ?_)
theorem tT_childBehind (h : TI g T) (hT : isT T) : WP (fun v => v = -1 ∨ Pa T v) (fT_childBehind g T c w) := by
  have hs := h.1
  have hf := fu_ge
  have hc := h.2.1
  rw [fT_childBehind, TS_1 hs, if_pos (kdT2 hT), szT2 hT]
  refine W_loop (W := WP (fun v => v = -1 ∨ Pa T v)) (fun n (a : Int) => lT_childBehind_12 g c w (T + 2) 40 n a) (fun a => (40 - a).toNat) (fun a => (0 ≤ a ∧ a ≤ 40) ∧ True) ?_ fu 0 ⟨⟨by show (0 : Int) ≤ 0; omega, by show (0 : Int) ≤ 40; omega⟩, trivial⟩ (by show (40 - (0 : Int)).toNat < fu; omega)
  intro n i hI ih
  have i0 : 0 ≤ i := hI.1.1
  have i1 : i ≤ 40 := hI.1.2
  show WP (fun v => v = -1 ∨ Pa T v) (bT_childBehind_12 g c w (T + 2) 40 (lT_childBehind_12 g c w (T + 2) 40 n)  i)
  rw [bT_childBehind_12]
  refine W_ite (fun hi => ?_) (fun _ => WP_i (Or.inl rfl))
  have hi : 0 ≤ i ∧ i < 40 := ⟨i0, hi⟩
  have nx : ∀ _u : Int, WP (fun v => v = -1 ∨ Pa T v) (lT_childBehind_12 g c w (T + 2) 40 n  (w32 (i + 1))) := fun _u => by rw [w32_r (by omega)]; exact ih (i + 1) ⟨by omega, trivial⟩ (by omega)
  have pa : Pa T (pc T i) := ⟨i, hi, rfl⟩
  simp only [TS_p hs hi, TS_n hs hi, kdp hT hi, kdT2 hT, szT2 hT, hi.1, hi.2, if_true, true_and, and_self]
  refine W_ite (fun _ => W_bdP tP_isRunningChildOf (fun _ _ => W_ite (fun _ => nx 0) (fun _ => WP_i (Or.inr pa)))) (fun _ => nx 0)
theorem tT_zombieBehind (h : TI g T) (hT : isT T) : WP (fun v => v = -1 ∨ (Pa T v ∧ g v 1 = 1)) (fT_zombieBehind g T c w) := by
  have hs := h.1
  have hf := fu_ge
  have hc := h.2.1
  rw [fT_zombieBehind, TS_1 hs, if_pos (kdT2 hT), szT2 hT]
  refine W_loop (W := WP (fun v => v = -1 ∨ (Pa T v ∧ g v 1 = 1))) (fun n (a : Int × Int) => lT_zombieBehind_16 g c w (T + 2) 40 n a.1 a.2) (fun a => (40 - a.2).toNat) (fun a => (0 ≤ a.2 ∧ a.2 ≤ 40) ∧ (a.1 = -1 ∨ (Pa T a.1 ∧ g a.1 1 = 1))) ?_ fu (-1, 0) ⟨⟨by show (0 : Int) ≤ 0; omega, by show (0 : Int) ≤ 40; omega⟩, Or.inl rfl⟩ (by show (40 - (0 : Int)).toNat < fu; omega)
  rintro n ⟨x, i⟩ hI ih
  have i0 : 0 ≤ i := hI.1.1
  have i1 : i ≤ 40 := hI.1.2
  have hv : (x = -1 ∨ (Pa T x ∧ g x 1 = 1)) := hI.2
  show WP (fun v => v = -1 ∨ (Pa T v ∧ g v 1 = 1)) (bT_zombieBehind_16 g c w (T + 2) 40 (lT_zombieBehind_16 g c w (T + 2) 40 n) x i)
  rw [bT_zombieBehind_16]
  refine W_ite (fun hi => ?_) (fun _ => WP_i hv)
  have hi : 0 ≤ i ∧ i < 40 := ⟨i0, hi⟩
  have nx : ∀ x', (x' = -1 ∨ (Pa T x' ∧ g x' 1 = 1)) → WP (fun v => v = -1 ∨ (Pa T v ∧ g v 1 = 1)) (lT_zombieBehind_16 g c w (T + 2) 40 n x' (w32 (i + 1))) := fun x' hv' => by rw [w32_r (by omega)]; exact ih (x', i + 1) ⟨by dsimp only; omega, hv'⟩ (by dsimp only; omega)
  have pa : Pa T (pc T i) := ⟨i, hi, rfl⟩
  simp only [TS_p hs hi, TS_n hs hi, kdp hT hi, kdT2 hT, szT2 hT, hi.1, hi.2, if_true, true_and, and_self]
  refine W_bdP tP_isZombieOf1 (fun y hy => W_ite (fun _ => nx x hv) (fun hz => W_ite (fun _ => W_ite (fun _ => nx _ (Or.inr ⟨pa, hy hz⟩)) (fun h3 => ?_)) (fun _ => nx x hv)))
  rcases hv with hv | hv
  · exact absurd (by omega) h3
  · rw [if_pos (Pa_kd hT hv.1)]
    exact W_ite (fun _ => nx _ (Or.inr ⟨pa, hy hz⟩)) (fun _ => nx x (Or.inr hv))
theorem tT_deepestBelow (h : TI g T) (hT : isT T) (hp : Pa T c) : WP (fun v => v = -1 ∨ Pa T v) (fT_deepestBelow g T c) := by
  have hs := h.1
  have hf := fu_ge
  have hc := h.2.1
  rw [fT_deepestBelow, TS_1 hs, if_pos (kdT2 hT), szT2 hT]
  refine W_loop (W := WP (fun v => v = -1 ∨ Pa T v)) (fun n (a : Int × Int) => lT_deepestBelow_14 g c (T + 2) 40 n a.1 a.2) (fun a => (40 - a.2).toNat) (fun a => (0 ≤ a.2 ∧ a.2 ≤ 40) ∧ (a.1 = -1 ∨ Pa T a.1)) ?_ fu (-1, 0) ⟨⟨by show (0 : Int) ≤ 0; omega, by show (0 : Int) ≤ 40; omega⟩, Or.inl rfl⟩ (by show (40 - (0 : Int)).toNat < fu; omega)
  rintro n ⟨x, i⟩ hI ih
  have i0 : 0 ≤ i := hI.1.1
  have i1 : i ≤ 40 := hI.1.2
  have hv : (x = -1 ∨ Pa T x) := hI.2
  show WP (fun v => v = -1 ∨ Pa T v) (bT_deepestBelow_14 g c (T + 2) 40 (lT_deepestBelow_14 g c (T + 2) 40 n) x i)
  rw [bT_deepestBelow_14]
  refine W_ite (fun hi => ?_) (fun _ => WP_i hv)
  have hi : 0 ≤ i ∧ i < 40 := ⟨i0, hi⟩
  have nx : ∀ x', (x' = -1 ∨ Pa T x') → WP (fun v => v = -1 ∨ Pa T v) (lT_deepestBelow_14 g c (T + 2) 40 n x' (w32 (i + 1))) := fun x' hv' => by rw [w32_r (by omega)]; exact ih (x', i + 1) ⟨by dsimp only; omega, hv'⟩ (by dsimp only; omega)
  have pa : Pa T (pc T i) := ⟨i, hi, rfl⟩
  simp only [TS_p hs hi, TS_n hs hi, kdp hT hi, kdT2 hT, szT2 hT, hi.1, hi.2, if_true, true_and, and_self]
  simp only [Pa_kd hT hp, if_true]
  refine W_bdP tP_isRunning (fun _ _ => W_ite (fun _ => nx x hv) (fun _ => W_bdP (tP_isOver h hT hp pa) (fun _ _ => W_ite (fun _ => nx x hv) (fun _ => W_ite (fun _ => nx _ (Or.inr pa)) (fun h3 => W_bdP (tP_countAbove h hT pa) (fun _ _ => ?_))))))
  rcases hv with hv | hv
  · exact absurd (by omega) h3
  · rw [if_pos (Pa_kd hT hv)]
    exact W_bdP (tP_countAbove h hT hv) (fun _ _ => W_ite (fun _ => nx x (Or.inr hv)) (fun _ => nx _ (Or.inr pa)))
end CLS3
/-! ===== the class's trees: who adopts, who inherits (own work) ===== -/
section CLS4
variable {g g' G H K : gH} {T S i j k a b c v w d o p q s m x y : Int}
/-- how far a chain goes -/
def cl (g : gH) (T c : Int) : Nat := if c < 0 then 0 else (1 + DP (sp g T) (ix T c)).toNat
theorem cl_41 : cl g T c ≤ 41 := by
  unfold cl DP
  have := dp_bd (sp g T) 40 (ix T c)
  split <;> omega
theorem cl_up (h : TI g T) (hT : isT T) (hp : Pa T c) : cl g T (g c 2) < cl g T c := by
  obtain ⟨i, hi, rfl⟩ := hp
  have hpos := pc_pos hT hi
  have hd := dp_bd (sp g T) 40 i
  have e1 : cl g T (pc T i) = (1 + DP (sp g T) i).toNat := by
    unfold cl
    rw [if_neg hpos, ix_pc hi.1]
  have nn : cl g T (-1) = 0 := rfl
  rw [e1]
  unfold DP at *
  by_cases h0 : i = 0
  · subst h0
    rw [h.2.2.1, nn]
    omega
  · by_cases h1 : i < g T 5
    · have hs := sp_rg h (by omega) h1
      have hc := h.2.1
      rw [hs.2]
      have e2 : cl g T (pc T (sp g T i)) = (1 + dp (sp g T) 40 (sp g T i)).toNat := by
        unfold cl
        rw [if_neg (pc_pos hT (by omega)), ix_pc hs.1.1]
      have := DP_s (h.2.2.2.2.2.1 i (by omega) h1) h0
      unfold DP at this
      have := dp_bd (sp g T) 40 (sp g T i)
      rw [e2]
      omega
    · rw [h.2.2.2.1 i (by omega) hi.2, nn]
      omega
theorem sup_a (h : TI g T) (hp : Pa T c) : g c 2 = -1 ∨ Pa T (g c 2) := by
  rcases sup_ h hp with e | e
  · exact Or.inl e
  · exact Or.inr (Pn_a h e)
theorem tT_lowestOver (h : TI g T) (hT : isT T) (hp : Pa T a) (hq : Pa T b) : WP (Pa T) (fT_lowestOver g T a b) := by
  rw [fT_lowestOver]
  refine W_loop (W := WP (Pa T)) (fun n (c : Int) => lT_lowestOver_2 g T b n c) (fun c => cl g T c) (fun c => c = -1 ∨ Pa T c) ?_ fu a (Or.inr hp) (by have := cl_41 (g := g) (T := T) (c := a); have := fu_ge; omega)
  intro n c hc ih
  show WP _ (bT_lowestOver_2 g T b (lT_lowestOver_2 g T b n) c)
  rw [bT_lowestOver_2]
  refine W_ite (fun _ => WP_i ?_) (fun hn => ?_)
  · rw [TS_0 h.1]; exact Pn_a h (Pn_0 h)
  · have hc : Pa T c := by
      rcases hc with e | e
      · exact absurd (by omega) hn
      · exact e
    refine W_ite (fun _ => WP_i hc) (fun _ => ?_)
    rw [if_pos (Pa_kd hT hc)]
    exact W_bdP (tP_isOver h hT hc hq) (fun _ _ => W_ite (fun _ => ih _ (sup_a h hc) (cl_up h hT hc)) (fun _ => WP_i hc))
theorem tT_nextOfWalk (h : TI g T) (hT : isT T) (hp : Pa T a) : WP (fun v => v = -1 ∨ Pa T v) (fT_nextOfWalk g T a) := by
  rw [fT_nextOfWalk]
  refine W_bdP (tT_childBehind h hT) (fun x hx => ?_)
  refine W_loop (W := WP (fun v => v = -1 ∨ Pa T v)) (fun n (c : Int × Int) => lT_nextOfWalk_9 g T n c.1 c.2) (fun c => cl g T c.2) (fun c => (c.1 = -1 ∨ Pa T c.1) ∧ Pa T c.2) ?_ fu (x, a) ⟨hx, hp⟩ (by have := cl_41 (g := g) (T := T) (c := a); have := fu_ge; dsimp only; omega)
  rintro n ⟨x, c⟩ hI ih
  have hx : x = -1 ∨ Pa T x := hI.1
  have hc : Pa T c := hI.2
  show WP _ (bT_nextOfWalk_9 g T (lT_nextOfWalk_9 g T n) x c)
  rw [bT_nextOfWalk_9]
  refine W_ite (fun _ => ?_) (fun _ => WP_i hx)
  rw [if_pos (Pa_kd hT hc)]
  refine W_ite (fun _ => WP_i hx) (fun hn => ?_)
  refine W_bdP (tT_childBehind h hT) (fun x' hx' => ih (x', g c 2) ⟨hx', ?_⟩ (cl_up h hT hc))
  rcases sup_a h hc with e | e
  · exact absurd (by omega) hn
  · exact e
theorem tT_holderOf (h : TI g T) (hT : isT T) : WP (Pa T) (fT_holderOf g T d) := by
  have hs := h.1
  have r : ∀ s, (s = -1 ∨ Pn g T s) → WP (Pa T) (jT_holderOf_24 g T s) := by
    intro s hs'
    rw [jT_holderOf_24]
    refine W_ite (fun _ => WP_i ?_) (fun hn => WP_i ?_)
    · rw [TS_0 hs]; exact Pn_a h (Pn_0 h)
    · rcases hs' with e | e
      · exact absurd (by omega) hn
      · exact Pn_a h e
  rw [fT_holderOf]
  refine W_ite (fun _ => r _ (Or.inl rfl)) (fun _ => W_ite (fun _ => ?_) (fun _ => r _ (Or.inl rfl)))
  rw [TS_2 hs, if_pos ⟨kdT3 hT, by omega, by rw [szT3 hT]; omega⟩]
  exact W_bdP (tT_at h hT) (fun y hy => r y hy)
theorem tT_heirOf (h : TI g T) (hT : isT T) (hp : Pa T c) : WP (Pa T) (fT_heirOf g T c) := by
  have hs := h.1
  have hf := fu_ge
  have key : WP (Pa T) (lT_heirOf_34 g T c (T + 2) 40 fu 0) := by
    refine W_loop (W := WP (Pa T)) (fun n (i : Int) => lT_heirOf_34 g T c (T + 2) 40 n i) (fun i => (40 - i).toNat) (fun i => 0 ≤ i ∧ i ≤ 40) ?_ fu 0 (by omega) (by omega)
    intro n i hI ih
    show WP _ (bT_heirOf_34 g T c (T + 2) 40 (lT_heirOf_34 g T c (T + 2) 40 n) i)
    rw [bT_heirOf_34]
    refine W_ite (fun hi => ?_) (fun _ => ?_)
    · have hi : 0 ≤ i ∧ i < 40 := ⟨hI.1, hi⟩
      have pa : Pa T (pc T i) := ⟨i, hi, rfl⟩
      have nx : WP (Pa T) (lT_heirOf_34 g T c (T + 2) 40 n (w32 (i + 1))) := by rw [w32_r (by omega)]; exact ih (i + 1) (by omega) (by omega)
      simp only [TS_p hs hi, kdp hT hi, kdT2 hT, szT2 hT, hi.1, hi.2, if_true, true_and, and_self]
      exact W_bdP tP_isRunningChildOf (fun _ _ => W_ite (fun _ => nx) (fun _ => W_bdP tP_canInherit (fun _ _ => W_ite (fun _ => nx) (fun _ => WP_i pa))))
    · rw [jT_heirOf_73, if_pos (Pa_kd hT hp)]
      refine W_ite (fun _ => WP_i ?_) (fun hn => WP_i ?_)
      · rw [TS_0 hs]; exact Pn_a h (Pn_0 h)
      · rcases sup_a h hp with e | e
        · exact absurd (by omega) hn
        · exact e
  rw [fT_heirOf, if_pos (Pa_kd hT hp), TS_1 hs, szT2 hT, if_pos (kdT2 hT)]
  refine W_bdP (tT_at h hT) (fun y hy => W_ite (fun _ => key) (fun hn => ?_))
  have py : Pa T y := by
    rcases hy with e | e
    · exact absurd (by omega) hn
    · exact Pn_a h e
  rw [if_pos (Pa_kd hT py)]
  exact W_bdP tP_canInherit (fun _ _ => W_ite (fun _ => key) (fun _ => WP_i py))
theorem tT_inheritorOf (h : TI g T) (hT : isT T) (hp : Pa T c) : WP (Pa T) (fT_inheritorOf g T c d) := by
  rw [fT_inheritorOf, if_pos (Pa_kd hT hp)]
  have key : WP (Pa T) (bdP (fT_heirOf g T c) (fun y => some y)) := W_bdP (tT_heirOf h hT hp) (fun _ hy => WP_i hy)
  refine W_bdP tP_willFor (fun _ _ => W_bdP (tT_at h hT) (fun y hy => W_ite (fun _ => key) (fun hn => ?_)))
  have py : Pa T y := by
    rcases hy with e | e
    · exact absurd (by omega) hn
    · exact Pn_a h e
  rw [if_pos (Pa_kd hT py)]
  exact W_bdP tP_canInherit (fun _ _ => W_ite (fun _ => key) (fun _ => WP_i py))
/-- who can adopt -/
def ADc (g : gH) (T o c : Int) : Prop := c = T + 1 ∨ (Pa T c ∧ ¬ g c 2 < 0 ∧ ¬ c = o ∧ fP_isOver g o c = some 0)
theorem tT_canAdopt (h : TI g T) (hT : isT T) (hp : Pa T c) (ho : Pa T o) : WP (fun v => ¬ v = 0 → ADc g T o c) (fT_canAdopt g T c o) := by
  have z0 : WP (fun v => ¬ v = 0 → ADc g T o c) (some 0) := WP_i (fun z => absurd rfl z)
  rw [fT_canAdopt, if_pos (Pa_kd hT hp), if_pos (Pa_kd hT ho)]
  refine W_bdP tP_isMortal (fun y hy => W_ite (fun _ => z0) (fun hm => W_ite (fun _ => W_ite (fun _ => z0) (fun hn => W_bdP tP_refuses (fun _ _ => W_ite (fun _ => W_bdP tP_room (fun _ _ => W_ite (fun _ => z0) (fun _ => W_bdP (tP_countAbove h hT hp) (fun _ _ => W_ite (fun _ => ?_) (fun _ => z0))))) (fun _ => z0)))) (fun _ => z0)))
  obtain ⟨v, e, -⟩ := tP_isOver h hT ho hp
  rw [e, bdP_s]
  refine W_ite (fun hv => WP_i (fun _ => Or.inr ⟨hp, hy hm, hn, by rw [e, hv]⟩)) (fun _ => z0)
theorem ADc_a (h : TI g T) (hc : ADc g T o c) : Pa T c := by
  rcases hc with e | e
  · rw [e]; exact Pn_a h (Pn_0 h)
  · exact e.1
theorem tT_nearest (h : TI g T) (hT : isT T) (ho : Pa T o) (hf : Pa T a) : WP (fun v => v = -1 ∨ ADc g T o v) (fT_nearest g T o a) := by
  rw [fT_nearest, if_pos (Pa_kd hT hf)]
  refine W_loop (W := WP (fun v => v = -1 ∨ ADc g T o v)) (fun n (c : Int) => lT_nearest_5 g T o n c) (fun c => cl g T c) (fun c => c = -1 ∨ Pa T c) ?_ fu (g a 2) (sup_a h hf) (by have := cl_41 (g := g) (T := T) (c := g a 2); have := fu_ge; omega)
  intro n c hc ih
  show WP _ (bT_nearest_5 g T o (lT_nearest_5 g T o n) c)
  rw [bT_nearest_5]
  refine W_ite (fun _ => WP_i (Or.inl rfl)) (fun hn => ?_)
  have hc : Pa T c := by
    rcases hc with e | e
    · exact absurd (by omega) hn
    · exact e
  refine W_bdP (tT_canAdopt h hT hc ho) (fun v hv => W_ite (fun _ => ?_) (fun z => WP_i (Or.inr (hv z))))
  rw [if_pos (Pa_kd hT hc)]
  exact ih _ (sup_a h hc) (cl_up h hT hc)
theorem tT_firstKin (h : TI g T) (hT : isT T) (ho : Pa T o) (hf : Pa T a) : WP (fun v => v = -1 ∨ ADc g T o v) (fT_firstKin g T o a) := by
  have hs := h.1
  have hfu := fu_ge
  rw [fT_firstKin, if_pos (Pa_kd hT hf), TS_1 hs, if_pos (kdT2 hT), szT2 hT]
  refine W_loop (W := WP (fun v => v = -1 ∨ ADc g T o v)) (fun n (i : Int) => lT_firstKin_19 g T o a (g a 2) (T + 2) 40 n i) (fun i => (40 - i).toNat) (fun i => 0 ≤ i ∧ i ≤ 40) ?_ fu 0 (by omega) (by omega)
  intro n i hI ih
  show WP _ (bT_firstKin_19 g T o a (g a 2) (T + 2) 40 (lT_firstKin_19 g T o a (g a 2) (T + 2) 40 n) i)
  rw [bT_firstKin_19]
  refine W_ite (fun hi => ?_) (fun _ => WP_i (Or.inl rfl))
  have hi : 0 ≤ i ∧ i < 40 := ⟨hI.1, hi⟩
  have pa : Pa T (pc T i) := ⟨i, hi, rfl⟩
  have nx : WP (fun v => v = -1 ∨ ADc g T o v) (lT_firstKin_19 g T o a (g a 2) (T + 2) 40 n (w32 (i + 1))) := by rw [w32_r (by omega)]; exact ih (i + 1) (by omega) (by omega)
  simp only [TS_p hs hi, kdp hT hi, kdT2 hT, szT2 hT, hi.1, hi.2, if_true, true_and, and_self]
  exact W_ite (fun _ => nx) (fun _ => W_ite (fun _ => nx) (fun _ => W_bdP tP_isRunningChildOf (fun _ _ => W_ite (fun _ => nx) (fun _ => W_bdP (tT_canAdopt h hT pa ho) (fun v hv => W_ite (fun _ => nx) (fun z => WP_i (Or.inr (hv z))))))))
theorem tT_oldest (h : TI g T) (hT : isT T) (ho : Pa T o) : WP (fun v => v = -1 ∨ ADc g T o v) (fT_oldest g T o a) := by
  have hs := h.1
  have hfu := fu_ge
  rw [fT_oldest, TS_1 hs, if_pos (kdT2 hT), szT2 hT]
  refine W_loop (W := WP (fun v => v = -1 ∨ ADc g T o v)) (fun n (i : Int) => lT_oldest_12 g T o a (T + 2) 40 n i) (fun i => (40 - i).toNat) (fun i => 0 ≤ i ∧ i ≤ 40) ?_ fu 0 (by omega) (by omega)
  intro n i hI ih
  show WP _ (bT_oldest_12 g T o a (T + 2) 40 (lT_oldest_12 g T o a (T + 2) 40 n) i)
  rw [bT_oldest_12]
  refine W_ite (fun hi => ?_) (fun _ => WP_i (Or.inl rfl))
  have hi : 0 ≤ i ∧ i < 40 := ⟨hI.1, hi⟩
  have pa : Pa T (pc T i) := ⟨i, hi, rfl⟩
  have nx : WP (fun v => v = -1 ∨ ADc g T o v) (lT_oldest_12 g T o a (T + 2) 40 n (w32 (i + 1))) := by rw [w32_r (by omega)]; exact ih (i + 1) (by omega) (by omega)
  simp only [TS_p hs hi, kdp hT hi, kdT2 hT, szT2 hT, hi.1, hi.2, if_true, true_and, and_self]
  exact W_ite (fun _ => nx) (fun _ => W_bdP (tT_canAdopt h hT pa ho) (fun v hv => W_ite (fun _ => nx) (fun z => WP_i (Or.inr (hv z)))))
theorem tT_roomiestFor (h : TI g T) (hT : isT T) (ho : Pa T o) : WP (fun v => v = -1 ∨ ADc g T o v) (fT_roomiestFor g T o a b) := by
  have hs := h.1
  have hfu := fu_ge
  rw [fT_roomiestFor, TS_1 hs, if_pos (kdT2 hT), szT2 hT]
  refine W_loop (W := WP (fun v => v = -1 ∨ ADc g T o v)) (fun n (c : Int × Int) => lT_roomiestFor_17 g T o a b (T + 2) 40 n c.1 c.2) (fun c => (40 - c.2).toNat) (fun c => (0 ≤ c.2 ∧ c.2 ≤ 40) ∧ (c.1 = -1 ∨ ADc g T o c.1)) ?_ fu (-1, 0) ⟨by dsimp only; omega, Or.inl rfl⟩ (by dsimp only; omega)
  rintro n ⟨x, i⟩ hI ih
  have i0 : 0 ≤ i := hI.1.1
  have hx : x = -1 ∨ ADc g T o x := hI.2
  show WP _ (bT_roomiestFor_17 g T o a b (T + 2) 40 (lT_roomiestFor_17 g T o a b (T + 2) 40 n) x i)
  rw [bT_roomiestFor_17]
  refine W_ite (fun hi => ?_) (fun _ => WP_i hx)
  have hi : 0 ≤ i ∧ i < 40 := ⟨i0, hi⟩
  have pa : Pa T (pc T i) := ⟨i, hi, rfl⟩
  have nx : ∀ x', (x' = -1 ∨ ADc g T o x') → WP (fun v => v = -1 ∨ ADc g T o v) (lT_roomiestFor_17 g T o a b (T + 2) 40 n x' (w32 (i + 1))) := fun x' hx' => by rw [w32_r (by omega)]; exact ih (x', i + 1) ⟨by dsimp only; omega, hx'⟩ (by dsimp only; omega)
  have r83 : ∀ t s, WP (fun v => v = -1 ∨ ADc g T o v) (jT_roomiestFor_83 (lT_roomiestFor_17 g T o a b (T + 2) 40 n) g T o a b x (T + 2) 40 i (pc T i) t s) := by
    intro t s
    rw [jT_roomiestFor_83]
    exact W_ite (fun _ => nx x hx) (fun _ => W_ite (fun _ => nx x hx) (fun _ => W_bdP (tT_canAdopt h hT pa ho) (fun v hv => W_ite (fun _ => nx x hx) (fun z => nx _ (Or.inr (hv z))))))
  have r58 : ∀ s, WP (fun v => v = -1 ∨ ADc g T o v) (jT_roomiestFor_58 (lT_roomiestFor_17 g T o a b (T + 2) 40 n) g T o a b x (T + 2) 40 i (pc T i) s) := by
    intro s
    rw [jT_roomiestFor_58, jT_roomiestFor_78, if_pos (kdp hT hi)]
    refine W_ite (fun _ => r83 _ _) (fun hn => W_bdP tP_room (fun _ _ => ?_))
    have px : Pa T x := by
      rcases hx with e | e
      · exact absurd (by omega) hn
      · exact ADc_a h e
    rw [if_pos (Pa_kd hT px)]
    exact W_bdP tP_room (fun _ _ => W_ite (fun _ => r83 _ _) (fun _ => r83 _ _))
  simp only [TS_p hs hi, kdp hT hi, kdT2 hT, szT2 hT, hi.1, hi.2, Pa_kd hT ho, if_true, true_and, and_self, jT_roomiestFor_57, jT_roomiestFor_53]
  exact W_ite (fun _ => r58 _) (fun _ => W_ite (fun _ => r58 _) (fun _ => W_ite (fun _ => r58 _) (fun _ => r58 _)))
theorem tT_adopterOf (h : TI g T) (hT : isT T) (ho : Pa T o) : WP (ADc g T o) (fT_adopterOf g T o) := by
  have hs := h.1
  have hfu := fu_ge
  rw [fT_adopterOf, if_pos (Pa_kd hT ho), TS_0 hs]
  refine W_ite (fun _ => WP_i (Or.inl rfl)) (fun hn => ?_)
  have pf : Pa T (g o 2) := by
    rcases sup_a h ho with e | e
    · exact absurd (by omega) hn
    · exact e
  refine W_loop (W := WP (ADc g T o)) (fun n (c : Int × Int) => lT_adopterOf_19 g T o (g o 2) n c.1 c.2) (fun c => (5 - c.2).toNat) (fun c => (0 ≤ c.2 ∧ c.2 ≤ 5) ∧ (c.1 = -1 ∨ ADc g T o c.1)) ?_ fu (-1, 0) ⟨by dsimp only; omega, Or.inl rfl⟩ (by dsimp only; omega)
  rintro n ⟨x, i⟩ hI ih
  have i0 : 0 ≤ i := hI.1.1
  have hx : x = -1 ∨ ADc g T o x := hI.2
  have en : WP (ADc g T o) (jT_adopterOf_130 g T x) := by
    rw [jT_adopterOf_130, TS_0 hs]
    refine W_ite (fun _ => WP_i (Or.inl rfl)) (fun hn => WP_i ?_)
    rcases hx with e | e
    · exact absurd (by omega) hn
    · exact e
  show WP _ (bT_adopterOf_19 g T o (g o 2) (lT_adopterOf_19 g T o (g o 2) n) x i)
  rw [bT_adopterOf_19]
  refine W_ite (fun hi => W_ite (fun _ => ?_) (fun _ => en)) (fun _ => en)
  have nx : ∀ x', (x' = -1 ∨ ADc g T o x') → WP (ADc g T o) (lT_adopterOf_19 g T o (g o 2) n x' (w32 (i + 1))) := fun x' hx' => by rw [w32_r (by omega)]; exact ih (x', i + 1) ⟨by dsimp only; omega, hx'⟩ (by dsimp only; omega)
  rw [TS_3 hs, if_pos ⟨kdT4 hT, by omega, by rw [szT4 hT]; omega⟩]
  exact W_ite (fun _ => W_bdP (tT_nearest h hT ho pf) nx) (fun _ => W_ite (fun _ => W_bdP (tT_roomiestFor h hT ho) nx) (fun _ => W_ite (fun _ => W_bdP (tT_roomiestFor h hT ho) nx) (fun _ => W_ite (fun _ => W_bdP (tT_firstKin h hT ho pf) nx) (fun _ => W_ite (fun _ => W_bdP (tT_oldest h hT ho) nx) (fun _ => nx x hx)))))
end CLS4
/-! ===== the class's trees: coming, hanging under, adopting (own work) ===== -/
section CLS5
variable {g g' G H K : gH} {T S i j k a b c v w d o p q s m x y : Int}
/-- G came from g by work on the tree T, which stands whole -/
def IT (T : Int) (g G : gH) : Prop := TI G T ∧ TF T g G
theorem IT_r (h : TI g T) : IT T g g := ⟨h, TF_r⟩
theorem IT_t (h1 : IT T g G) (h2 : IT T G H) : IT T g H := ⟨h2.1, TF_t h1.2 h2.2⟩
theorem IT_w (h : IT T g G) (hab : a = T + 3 ∨ a = T + 4 ∨ (a = T ∧ (b = 4 ∨ 5 < b)) ∨ (T < a ∧ a < T + 44 ∧ ¬ a = T + 2 ∧ ¬ b = 0 ∧ ¬ b = 2 ∧ ¬ b = 1 ∧ ¬ b = 9)) : IT T g (pU G a b v) := ⟨TI_w h.1 (by omega), TF_pU h.2 (by omega)⟩
theorem pU_y (h : ¬ y = b) : pU g a b v x y = g x y := by
  unfold pU
  rw [if_neg (fun z => h z.2)]
/-- the supervisors are the same -/
def SS (T : Int) (g G : gH) : Prop := G T 5 = g T 5 ∧ ∀ k, 0 ≤ k → k < 40 → G (pc T k) 2 = g (pc T k) 2
theorem SS_r : SS T g g := ⟨rfl, fun _ _ _ => rfl⟩
theorem SS_t (h1 : SS T g G) (h2 : SS T G H) : SS T g H := ⟨h2.1.trans h1.1, fun k k0 k1 => (h2.2 k k0 k1).trans (h1.2 k k0 k1)⟩
theorem SS_w (h : SS T g G) (h2 : ¬ b = 2 ∨ a = T + 3) (h5 : ¬ b = 5 ∨ ¬ a = T) : SS T g (pU G a b v) := by
  refine ⟨?_, fun k k0 k1 => ?_⟩
  · rw [← h.1]
    unfold pU
    rw [if_neg (by omega)]
  · rw [← h.2 k k0 k1]
    have := pc_b (T := T) ⟨k0, k1⟩
    unfold pU
    rw [if_neg (by omega)]
theorem tT_giveDuty (h : TI g T) (hT : isT T) (hp : Pa T c) : WN (fun _ G => IT T g G ∧ SS T g G) (fT_giveDuty g T d c) := by
  have hs := h.1
  rw [fT_giveDuty]
  refine W_ite (fun _ => WN_i ⟨IT_r h, SS_r⟩) (fun _ => W_ite (fun _ => ?_) (fun _ => WN_i ⟨IT_r h, SS_r⟩))
  rw [if_pos (Pa_kd hT hp), TS_2 hs, if_pos ⟨kdT3 hT, by omega, by rw [szT3 hT]; omega⟩, bnd_s]
  exact WN_i ⟨IT_w (IT_r h) (by omega), SS_w SS_r (by omega) (by omega)⟩
theorem tP_become : WN (fun _ G => (∀ x, ¬ x = c → G x = g x) ∧ G c 0 = g c 0 ∧ G c 2 = -1 ∧ G c 1 = a) (fP_become g c a b d w) := by
  rw [fP_become]
  simp only [bnd_s]
  refine WN_i ⟨fun x hx => by simp only [pU_n hx], ?_, ?_, ?_⟩
  · simp (disch := omega) only [pU_y]
  · simp (disch := omega) only [pU_y]
    rw [pU_s, u1_s]
  · simp (disch := omega) only [pU_y]
    rw [pU_s, u1_s]
theorem TI_st (h : TI g T) (hp : Pa T c) (hv : ¬ v = 1) : TI (pU g c 1 v) T := by
  have bc := Pa_b hp
  have eT : pU g c 1 v T = g T := pU_n (by omega)
  refine TI_eq h (fun k _ _ => by rw [eT]) (by rw [eT]) (pU_n (by omega)) (fun i i0 i1 => ⟨pU_y (by omega), pU_y (by omega)⟩) (fun i i0 i1 => ?_)
  rw [pU_y (y := 9) (by omega)]
  by_cases e : pc T i = c
  · rw [e, pU_s, u1_s]
    exact fun z => absurd z hv
  · rw [pU_n e]
    exact h.2.2.2.2.2.2 i i0 i1
theorem TI_ex (h : TI g T) (hp : Pa T c) (hd : 0 ≤ d ∧ d < 2147483648) : TI (pU (pU g c 1 1) c 9 d) T := by
  have bc := Pa_b hp
  have eT : pU (pU g c 1 1) c 9 d T = g T := by rw [pU_n (by omega), pU_n (by omega)]
  refine TI_eq h (fun k _ _ => by rw [eT]) (by rw [eT]) (by rw [pU_n (by omega), pU_n (by omega)]) (fun i i0 i1 => ⟨by rw [pU_y (by omega), pU_y (by omega)], by rw [pU_y (by omega), pU_y (by omega)]⟩) (fun i i0 i1 => ?_)
  by_cases e : pc T i = c
  · intro _
    rw [e, pU_s, u1_s]
    exact hd
  · rw [pU_n e, pU_n e]
    exact h.2.2.2.2.2.2 i i0 i1
theorem TI_sup (h : TI g T) (hi : 0 < i ∧ i < g T 5) (hj : 0 ≤ j ∧ j < g T 5) (hij : ¬ j = i) (ho : OV (sp g T) i j = false) : TI (pU g (pc T i) 2 (pc T j)) T := by
  have hc := h.2.1
  have hb := pc_b (T := T) (i := i) ⟨by omega, by omega⟩
  have v2 : ∀ k, 0 ≤ k → pU g (pc T i) 2 (pc T j) (pc T k) 2 = if k = i then pc T j else g (pc T k) 2 := by
    intro k k0
    by_cases e : k = i
    · rw [e, pU_s, u1_s, if_pos rfl]
    · rw [pU_n (pc_ne k0 (by omega) e), if_neg e]
  have eT : pU g (pc T i) 2 (pc T j) T = g T := pU_n (by omega)
  refine ⟨TS_eq h.1 (fun k _ _ => by rw [eT]) (pU_n (by omega)) (fun k k0 k1 => pU_y (by omega)), by rw [eT]; exact hc, ?_, fun k k0 k1 => ?_, fun k k0 k1 => ?_, ?_, fun k k0 k1 => by rw [pU_y (by omega), pU_y (by omega)]; exact h.2.2.2.2.2.2 k k0 k1⟩
  · rw [v2 0 (by omega), if_neg (by omega)]; exact h.2.2.1
  · rw [eT] at k0
    rw [v2 k (by omega), if_neg (by omega)]; exact h.2.2.2.1 k k0 k1
  · rw [eT] at k1
    rw [v2 k (by omega), eT]
    by_cases e : k = i
    · rw [if_pos e]; exact ⟨j, hj.1, hj.2, rfl⟩
    · rw [if_neg e]; exact h.2.2.2.2.1 k k0 k1
  · rw [eT]
    have ha := acy_u1 h.2.2.2.2.2.1 hc.2 hi hj hij ho
    refine acy_ext ha (fun k k0 k1 => ?_) (fun k k0 k1 => ?_)
    · by_cases e : k = i
      · rw [e, u1_s]; exact hj
      · rw [u1_n e]; exact (sp_rg h (by omega) k1).1
    · show ix T (pU g (pc T i) 2 (pc T j) (pc T k) 2) = _
      rw [v2 k (by omega)]
      by_cases e : k = i
      · rw [if_pos e, ix_pc hj.1, e, u1_s]
      · rw [if_neg e, u1_n e]
        rfl
theorem sp_w (hb : ¬ b = 2) : sp (pU g a b v) T = sp g T := by
  funext k
  unfold sp
  rw [pU_y (by omega)]
theorem tP_putUnder (h : TI g T) (hT : isT T) (hi : 0 < i ∧ i < g T 5) (hj : 0 ≤ j ∧ j < g T 5) (hij : ¬ j = i) (ho : OV (sp g T) i j = false) : WN (fun _ G => IT T g G ∧ G T 5 = g T 5 ∧ ∀ k, 0 ≤ k → k < 40 → G (pc T k) 2 = if k = i then pc T j else g (pc T k) 2) (fP_putUnder g (pc T i) (pc T j)) := by
  have hc := h.2.1
  have hs := sp_rg h (by omega) hi.2
  have bi := pc_b (T := T) (i := i) ⟨by omega, by omega⟩
  have bj := pc_b (T := T) (i := j) ⟨by omega, by omega⟩
  have bs := pc_b (T := T) (i := sp g T i) ⟨by omega, by omega⟩
  rw [fP_putUnder, hs.2, if_neg (pc_pos hT (by omega)), if_pos (kdp hT (by omega)), bnd_s, bnd_s, if_pos (kdp hT (by omega)), bnd_s]
  have hA : IT T g (pU g (pc T (sp g T i)) 3 (w32 (g (pc T (sp g T i)) 3 - 1))) := IT_w (IT_r h) (by omega)
  have eA : pU g (pc T (sp g T i)) 3 (w32 (g (pc T (sp g T i)) 3 - 1)) T 5 = g T 5 := by rw [pU_n (by omega)]
  have sA : sp (pU g (pc T (sp g T i)) 3 (w32 (g (pc T (sp g T i)) 3 - 1))) T = sp g T := sp_w (by omega)
  have rA : ∀ k, pU g (pc T (sp g T i)) 3 (w32 (g (pc T (sp g T i)) 3 - 1)) (pc T k) 2 = g (pc T k) 2 := fun k => pU_y (by omega)
  generalize pU g (pc T (sp g T i)) 3 (w32 (g (pc T (sp g T i)) 3 - 1)) = A at *
  have hB : IT T g (pU A (pc T i) 2 (pc T j)) := ⟨TI_sup hA.1 (by rw [eA]; exact hi) (by rw [eA]; exact hj) hij (by rw [sA]; exact ho), TF_pU hA.2 (by omega)⟩
  refine WN_i ⟨IT_w hB (by omega), ?_, fun k k0 k1 => ?_⟩
  · rw [pU_n (by omega), pU_n (by omega)]; exact eA
  · rw [pU_y (by omega)]
    by_cases e : k = i
    · rw [e, pU_s, u1_s, if_pos rfl]
    · rw [pU_n (pc_ne k0 (by omega) e), if_neg e]; exact rA k
/-- a process comes -/
theorem tT_arrive (h : TI g T) (hT : isT T) (hj : 0 ≤ j ∧ j < g T 5) : WN (fun v G => IT T g G ∧ ((v = -1 ∧ G = g) ∨ (v = pc T (g T 5) ∧ G T 5 = g T 5 + 1 ∧ G v 2 = pc T j ∧ ∀ k, 0 ≤ k → k < g T 5 → G (pc T k) 2 = g (pc T k) 2))) (fT_arrive g T (pc T j) a b d) := by
  have hc := h.2.1
  have hs := h.1
  rw [fT_arrive, TS_1 hs]
  refine W_ite (fun _ => WN_i ⟨IT_r h, Or.inl ⟨rfl, rfl⟩⟩) (fun _ => W_ite (fun hl => ?_) (fun _ => WN_i ⟨IT_r h, Or.inl ⟨rfl, rfl⟩⟩))
  have bn := pc_b (T := T) (i := g T 5) ⟨by omega, hl⟩
  have bj := pc_b (T := T) (i := j) ⟨by omega, by omega⟩
  rw [if_pos ⟨kdT2 hT, by omega, by rw [szT2 hT]; exact hl⟩, bnd_s, TS_p hs ⟨by omega, hl⟩, if_pos (kdp hT ⟨by omega, hl⟩), w32_r (by omega)]
  generalize hn : g T 5 = n at *
  refine W_bdN tP_become (fun _ B hB => ?_)
  obtain ⟨b1, b2, b3, b4⟩ := hB
  rw [fP_putUnder, b3, if_pos (by omega), bnd_s, if_pos (kdp hT (by omega)), bnd_s, bdN_s]
  have jn : ¬ pc T j = pc T n := pc_ne hj.1 (by omega) (by omega)
  have eT : ∀ y, ¬ y = 5 → pU (pU B (pc T n) 2 (pc T j)) (pc T j) 3 (w32 (pU B (pc T n) 2 (pc T j) (pc T j) 3 + 1)) T y = g T y := by
    intro y hy
    rw [pU_n (by omega), pU_n (by omega), b1 T (by omega), pU_y hy]
  have e5 : pU (pU B (pc T n) 2 (pc T j)) (pc T j) 3 (w32 (pU B (pc T n) 2 (pc T j) (pc T j) 3 + 1)) T 5 = n + 1 := by
    rw [pU_n (by omega), pU_n (by omega), b1 T (by omega), pU_s, u1_s]
  have e2 : pU (pU B (pc T n) 2 (pc T j)) (pc T j) 3 (w32 (pU B (pc T n) 2 (pc T j) (pc T j) 3 + 1)) (T + 2) = g (T + 2) := by
    rw [pU_n (by omega), pU_n (by omega), b1 (T + 2) (by omega), pU_n (by omega)]
  have e0 : ∀ k, 0 ≤ k → k < 40 → pU (pU B (pc T n) 2 (pc T j)) (pc T j) 3 (w32 (pU B (pc T n) 2 (pc T j) (pc T j) 3 + 1)) (pc T k) 0 = g (pc T k) 0 := by
    intro k k0 k1
    have bk := pc_b (T := T) (i := k) ⟨k0, k1⟩
    rw [pU_y (by omega), pU_y (by omega)]
    by_cases e : k = n
    · rw [e, b2, pU_n (by omega)]
    · rw [b1 _ (pc_ne k0 (by omega) e), pU_n (by omega)]
  have r2 : ∀ k, 0 ≤ k → k < 40 → pU (pU B (pc T n) 2 (pc T j)) (pc T j) 3 (w32 (pU B (pc T n) 2 (pc T j) (pc T j) 3 + 1)) (pc T k) 2 = if k = n then pc T j else g (pc T k) 2 := by
    intro k k0 k1
    have bk := pc_b (T := T) (i := k) ⟨k0, k1⟩
    rw [pU_y (by omega)]
    by_cases e : k = n
    · rw [e, pU_s, u1_s, if_pos rfl]
    · rw [pU_n (pc_ne k0 (by omega) e), if_neg e, b1 _ (pc_ne k0 (by omega) e), pU_n (by omega)]
  have eZ : ZI (pU (pU B (pc T n) 2 (pc T j)) (pc T j) 3 (w32 (pU B (pc T n) 2 (pc T j) (pc T j) 3 + 1))) T := by
    intro k k0 k1
    rw [pU_y (by omega), pU_y (by omega), pU_y (by omega), pU_y (by omega)]
    by_cases e : k = n
    · rw [e, b4]
      exact fun z => absurd z (by omega)
    · have bk := pc_b (T := T) (i := k) ⟨k0, k1⟩
      rw [b1 _ (pc_ne k0 (by omega) e), pU_n (by omega)]
      exact h.2.2.2.2.2.2 k k0 k1
  have eF : TF T g (pU (pU B (pc T n) 2 (pc T j)) (pc T j) 3 (w32 (pU B (pc T n) 2 (pc T j) (pc T j) 3 + 1))) := by
    refine TF_pU (TF_pU (fun x hx => ?_) (by omega)) (by omega)
    rw [b1 x (by omega), pU_n (by omega)]
  generalize pU (pU B (pc T n) 2 (pc T j)) (pc T j) 3 (w32 (pU B (pc T n) 2 (pc T j) (pc T j) 3 + 1)) = C at *
  refine WN_i ⟨⟨⟨TS_eq hs (fun k _ _ => eT k (by omega)) e2 e0, by rw [e5]; omega, ?_, fun k k0 k1 => ?_, fun k k0 k1 => ?_, ?_, eZ⟩, eF⟩, Or.inr ⟨rfl, e5, ?_, fun k k0 k1 => ?_⟩⟩
  · rw [r2 0 (by omega) (by omega), if_neg (by omega)]; exact h.2.2.1
  · rw [e5] at k0
    rw [r2 k (by omega) k1, if_neg (by omega)]; exact h.2.2.2.1 k (by omega) k1
  · rw [e5] at k1 ⊢
    rw [r2 k (by omega) (by omega)]
    by_cases e : k = n
    · rw [if_pos e]; exact ⟨j, by omega, by omega, rfl⟩
    · rw [if_neg e]
      obtain ⟨j', a1, a2, a3⟩ := h.2.2.2.2.1 k k0 (by omega)
      exact ⟨j', a1, by omega, a3⟩
  · rw [e5]
    have hcl : ∀ k, 0 < k → k < n → 0 ≤ sp g T k ∧ sp g T k < n := fun k k0 k1 => by
      have := (sp_rg h (i := k) (by omega) (by omega)).1
      rw [hn] at this
      exact this
    have ha := h.2.2.2.2.2.1
    rw [hn] at ha
    have ha := acy_new ha (by omega) hj hcl
    refine acy_ext ha (fun k k0 k1 => ?_) (fun k k0 k1 => ?_)
    · by_cases e : k = n
      · rw [e, u1_s]; omega
      · rw [u1_n e]
        have := hcl k k0 (by omega)
        omega
    · show ix T (C (pc T k) 2) = _
      rw [r2 k (by omega) (by omega)]
      by_cases e : k = n
      · rw [if_pos e, ix_pc hj.1, e, u1_s]
      · rw [if_neg e, u1_n e]
        rfl
  · rw [r2 n (by omega) hl, if_pos rfl]
  · rw [r2 k k0 (by omega), if_neg (by omega)]
end CLS5
/-! ===== the class's trees: exits (own work) ===== -/
section CLS6
variable {g g' G H K : gH} {T S i j k a b c v w d o p q r s m x y : Int}
theorem hang_ (h : TI g T) (hi : 0 ≤ i ∧ i < 40) (e : ¬ g (pc T i) 2 < 0) : 0 < i ∧ i < g T 5 := by
  refine ⟨?_, ?_⟩
  · by_cases h0 : i = 0
    · exact absurd (by rw [h0, h.2.2.1]; omega) e
    · omega
  · by_cases h1 : i < g T 5
    · exact h1
    · exact absurd (by rw [h.2.2.2.1 i (by omega) hi.2]; omega) e
theorem ADc_f (h : TI g T) (hT : isT T) (hi : 0 < i ∧ i < g T 5) (ha : ADc g T (pc T i) c) : ∃ j, (0 ≤ j ∧ j < g T 5) ∧ c = pc T j ∧ ¬ j = i ∧ OV (sp g T) i j = false := by
  have hc := h.2.1
  rcases ha with e | ⟨⟨j, hj, rfl⟩, e1, e2, e3⟩
  · exact ⟨0, by omega, by rw [e, pc_0], by omega, OV_0⟩
  · have hj2 := hang_ h hj e1
    refine ⟨j, ⟨hj.1, hj2.2⟩, rfl, fun z => e2 (by rw [z]), ?_⟩
    rw [vP_isOver h hT (by omega) hj] at e3
    cases hh : OV (sp g T) i j with
    | false => rfl
    | true =>
      rw [if_pos ⟨hj2.2, hh⟩] at e3
      cases e3
theorem tT_adopt (h : TI g T) (hT : isT T) (hi : 0 < i ∧ i < g T 5) (hj : 0 ≤ j ∧ j < g T 5) (hij : ¬ j = i) (ho : OV (sp g T) i j = false) : WN (fun _ G => IT T g G ∧ G T 5 = g T 5 ∧ ∀ k, 0 ≤ k → k < 40 → G (pc T k) 2 = if k = i then pc T j else g (pc T k) 2) (fT_adopt g T (pc T i) (pc T j)) := by
  have hc := h.2.1
  have bi := pc_b (T := T) (i := i) ⟨by omega, by omega⟩
  rw [fT_adopt, if_pos (kdp hT (by omega))]
  refine W_bdN (tP_putUnder h hT hi hj hij ho) (fun _ A hA => ?_)
  obtain ⟨a1, a2, a3⟩ := hA
  rw [bnd_s, bnd_s]
  have w1 : IT T g (pU A (pc T i) 11 (w32 (A (pc T i) 11 + 1))) := IT_w a1 (by omega)
  have s1 : SS T A (pU A (pc T i) 11 (w32 (A (pc T i) 11 + 1))) := SS_w SS_r (by omega) (by omega)
  generalize pU A (pc T i) 11 (w32 (A (pc T i) 11 + 1)) = B at *
  have w2 : IT T g (pU B T 7 (w32 (B T 7 + 1))) := IT_w w1 (by omega)
  have s2 : SS T A (pU B T 7 (w32 (B T 7 + 1))) := SS_w s1 (by omega) (by omega)
  generalize pU B T 7 (w32 (B T 7 + 1)) = C at *
  have fin : ∀ D, IT T g D → SS T A D → WN (fun _ G => IT T g G ∧ G T 5 = g T 5 ∧ ∀ k, 0 ≤ k → k < 40 → G (pc T k) 2 = if k = i then pc T j else g (pc T k) 2) (some (0, D)) := fun D d1 d2 => WN_i ⟨d1, d2.1.trans a2, fun k k0 k1 => (d2.2 k k0 k1).trans (a3 k k0 k1)⟩
  refine W_ite (fun _ => ?_) (fun _ => fin C w2 s2)
  rw [bnd_s]
  exact fin _ (IT_w w2 (by omega)) (SS_w s2 (by omega) (by omega))
theorem tT_readZombiesOf (h : TI g T) (hT : isT T) : WN (fun _ G => IT T g G ∧ SS T g G) (fT_readZombiesOf g T c) := by
  have hfu := fu_ge
  rw [fT_readZombiesOf, TS_1 h.1, if_pos (kdT2 hT), szT2 hT]
  refine W_loop (W := WN (fun _ G => IT T g G ∧ SS T g G)) (fun n (a : Int × Int × gH) => lT_readZombiesOf_14 c (T + 2) 40 n a.1 a.2.1 a.2.2) (fun a => (40 - a.2.1).toNat) (fun a => (0 ≤ a.2.1 ∧ a.2.1 ≤ 40) ∧ IT T g a.2.2 ∧ SS T g a.2.2) ?_ fu (0, 0, g) ⟨by dsimp only; omega, IT_r h, SS_r⟩ (by dsimp only; omega)
  rintro n ⟨x, i, G⟩ hI ih
  have i0 : 0 ≤ i := hI.1.1
  have hG : IT T g G := hI.2.1
  have sG : SS T g G := hI.2.2
  show WN _ (bT_readZombiesOf_14 c (T + 2) 40 (lT_readZombiesOf_14 c (T + 2) 40 n) x i G)
  rw [bT_readZombiesOf_14]
  refine W_ite (fun hi => ?_) (fun _ => WN_i ⟨hG, sG⟩)
  have hi : 0 ≤ i ∧ i < 40 := ⟨i0, hi⟩
  have bi := pc_b (T := T) hi
  have nx : ∀ x' G', IT T g G' → SS T g G' → WN (fun _ G => IT T g G ∧ SS T g G) (lT_readZombiesOf_14 c (T + 2) 40 n x' (w32 (i + 1)) G') := fun x' G' h1 h2 => by rw [w32_r (by omega)]; exact ih (x', i + 1, G') ⟨by dsimp only; omega, h1, h2⟩ (by dsimp only; omega)
  simp only [TS_p hG.1.1 hi, kdp hT hi, kdT2 hT, szT2 hT, hi.1, hi.2, if_true, true_and, and_self, bnd_s]
  exact W_bdP tP_isZombieOf (fun _ _ => W_ite (fun _ => nx _ _ hG sG) (fun _ => nx _ _ ⟨TI_st hG.1 ⟨i, hi, rfl⟩ (by omega), TF_pU hG.2 (by omega)⟩ (SS_w sG (by omega) (by omega))))
theorem tT_passDuties (h : TI g T) (hT : isT T) (hp : Pa T p) (hr : r = -1 ∨ Pa T r) : WN (fun _ G => IT T g G ∧ SS T g G) (fT_passDuties g T p r) := by
  have hfu := fu_ge
  rw [fT_passDuties]
  refine W_loop (W := WN (fun _ G => IT T g G ∧ SS T g G)) (fun n (a : Int × gH) => lT_passDuties_2 T p r n a.1 a.2) (fun a => (8 - a.1).toNat) (fun a => (0 ≤ a.1 ∧ a.1 ≤ 8) ∧ IT T g a.2 ∧ SS T g a.2) ?_ fu (0, g) ⟨by dsimp only; omega, IT_r h, SS_r⟩ (by dsimp only; omega)
  rintro n ⟨i, G⟩ hI ih
  have i0 : 0 ≤ i := hI.1.1
  have hG : IT T g G := hI.2.1
  have sG : SS T g G := hI.2.2
  show WN _ (bT_passDuties_2 T p r (lT_passDuties_2 T p r n) i G)
  rw [bT_passDuties_2]
  refine W_ite (fun hi => ?_) (fun _ => WN_i ⟨hG, sG⟩)
  have nx : ∀ G', IT T g G' → SS T g G' → WN (fun _ G => IT T g G ∧ SS T g G) (lT_passDuties_2 T p r n (w32 (i + 1)) G') := fun G' h1 h2 => by rw [w32_r (by omega)]; exact ih (i + 1, G') ⟨by dsimp only; omega, h1, h2⟩ (by dsimp only; omega)
  have h8 : kd (T + 3) = 20 ∧ (0 : Int) ≤ i ∧ i < sz (T + 3) := ⟨kdT3 hT, i0, by rw [szT3 hT]; exact hi⟩
  have e2 := TS_2 hG.1.1
  simp only [e2]
  rw [if_pos h8, if_pos (Pa_kd hT hp)]
  refine W_ite (fun _ => W_ite (fun _ => W_bdP (tT_inheritorOf hG.1 hT hp) (fun y hy => ?_)) (fun hn => ?_)) (fun _ => nx _ hG sG)
  · rw [if_pos (Pa_kd hT hy), if_pos h8, bnd_s]
    exact nx _ (IT_w hG (by omega)) (SS_w sG (by omega) (by omega))
  · have hr : Pa T r := by
      rcases hr with e | e
      · exact absurd (by omega) hn
      · exact e
    rw [if_pos (Pa_kd hT hr), if_pos h8, bnd_s]
    exact nx _ (IT_w hG (by omega)) (SS_w sG (by omega) (by omega))
theorem tT_replace (h : TI g T) (hT : isT T) (hp : Pa T p) (hj : 0 ≤ j ∧ j < g T 5) : WN (fun v G => IT T g G ∧ g T 5 ≤ G T 5 ∧ (∀ k, 0 ≤ k → k < g T 5 → G (pc T k) 2 = g (pc T k) 2) ∧ (v = -1 ∨ ∃ k, (0 < k ∧ k < G T 5) ∧ v = pc T k ∧ G v 2 = pc T j)) (fT_replace g T p (pc T j)) := by
  have hc := h.2.1
  have bj := pc_b (T := T) (i := j) ⟨by omega, by omega⟩
  have bp := Pa_b hp
  have no : WN (fun v G => IT T g G ∧ g T 5 ≤ G T 5 ∧ (∀ k, 0 ≤ k → k < g T 5 → G (pc T k) 2 = g (pc T k) 2) ∧ (v = -1 ∨ ∃ k, (0 < k ∧ k < G T 5) ∧ v = pc T k ∧ G v 2 = pc T j)) (some (-1, g)) := WN_i ⟨IT_r h, Int.le_refl _, fun _ _ _ => rfl, Or.inl rfl⟩
  rw [fT_replace, if_pos (kdp hT (by omega)), if_pos (Pa_kd hT hp)]
  refine W_ite (fun _ => W_ite (fun _ => ?_) (fun _ => no)) (fun _ => no)
  refine W_bdN (tT_arrive h hT hj) (fun v A hA => ?_)
  obtain ⟨a1, ⟨rfl, rfl⟩ | ⟨a2, a3, a4, a5⟩⟩ := hA
  · rw [if_pos (by omega)]; exact no
  · have hn := a1.1.2.1
    have pv : Pa T v := ⟨g T 5, by omega, a2⟩
    rw [if_neg (Pa_pos hT pv), bnd_s, if_pos (Pa_kd hT pv), bnd_s, bnd_s]
    have w1 : IT T g (pU A (pc T j) 6 (w32 (A (pc T j) 6 - 1))) := IT_w a1 (by omega)
    have s1 : SS T A (pU A (pc T j) 6 (w32 (A (pc T j) 6 - 1))) := SS_w SS_r (by omega) (by omega)
    generalize pU A (pc T j) 6 (w32 (A (pc T j) 6 - 1)) = B at *
    have w2 : IT T g (pU B p 12 (B v 0)) := IT_w w1 (by omega)
    have s2 : SS T A (pU B p 12 (B v 0)) := SS_w s1 (by omega) (by omega)
    generalize pU B p 12 (B v 0) = C at *
    have w3 : IT T g (pU C T 9 (w32 (C T 9 + 1))) := IT_w w2 (by omega)
    have s3 : SS T A (pU C T 9 (w32 (C T 9 + 1))) := SS_w s2 (by omega) (by omega)
    generalize pU C T 9 (w32 (C T 9 + 1)) = D at *
    have e5 := s3.1
    refine WN_i ⟨w3, by omega, fun k k0 k1 => ?_, Or.inr ⟨g T 5, by omega, a2, ?_⟩⟩
    · rw [s3.2 k k0 (by omega)]; exact a5 k k0 k1
    · rw [a2, s3.2 _ (by omega) (by omega), ← a2]; exact a4
/-- in the midst of an exit: p stands under s, and so does who replaces it -/
def LI (T i s r : Int) (g G : gH) : Prop := IT T g G ∧ (0 < i ∧ i < G T 5) ∧ 0 ≤ s ∧ G (pc T i) 2 = pc T s ∧ (r = -1 ∨ ∃ k, (0 < k ∧ k < G T 5) ∧ r = pc T k ∧ G r 2 = pc T s)
theorem LI_s (h : LI T i s r g G) : s < G T 5 ∧ sp G T i = s ∧ DP (sp G T) i = 1 + DP (sp G T) s := by
  obtain ⟨h1, h2, h3, h4, -⟩ := h
  have e : sp G T i = s := by unfold sp; rw [h4, ix_pc h3]
  have := (sp_rg h1.1 (by omega) h2.2).1
  rw [e] at this
  refine ⟨this.2, e, ?_⟩
  rw [DP_s (h1.1.2.2.2.2.2.1 i (by omega) h2.2) (by omega), e]
theorem LI_k (h : LI T i s r g G) (hk : 0 < k ∧ k < G T 5) (e : G (pc T k) 2 = pc T i) : ¬ k = i ∧ ¬ s = k ∧ OV (sp G T) k s = false ∧ ∀ j, (0 < j ∧ j < G T 5) → G (pc T j) 2 = pc T s → ¬ j = k ∧ OV (sp G T) k j = false := by
  obtain ⟨e1, e2, e3⟩ := LI_s h
  obtain ⟨h1, h2, h3, h4, -⟩ := h
  have ay := h1.1.2.2.2.2.2.1
  have ek : sp G T k = i := by unfold sp; rw [e, ix_pc (by omega)]
  have dk : DP (sp G T) k = 1 + DP (sp G T) i := by rw [DP_s (ay k (by omega) hk.2) (by omega), ek]
  refine ⟨fun z => ?_, fun z => ?_, ?_, fun j hj ej => ⟨fun z => ?_, ?_⟩⟩
  · rw [z] at dk; omega
  · rw [z] at e3; omega
  · cases hh : OV (sp G T) k s with
    | false => rfl
    | true =>
      have := OV_dp (ay s h3 e1) hh
      omega
  · have es : sp G T j = s := by unfold sp; rw [ej, ix_pc h3]
    rw [z] at es
    rw [← es, ek] at e3
    omega
  · have es : sp G T j = s := by unfold sp; rw [ej, ix_pc h3]
    have dj : DP (sp G T) j = 1 + DP (sp G T) s := by rw [DP_s (ay j (by omega) hj.2) (by omega), es]
    cases hh : OV (sp G T) k j with
    | false => rfl
    | true =>
      have := OV_dp (ay j (by omega) hj.2) hh
      omega
/-- who stands under p is hung elsewhere -/
theorem LI_mv (h : LI T i s r g G) (hk : 0 < k ∧ k < G T 5) (e : G (pc T k) 2 = pc T i) (h1 : IT T G H) (h5 : H T 5 = G T 5) (h2 : ∀ j, 0 ≤ j → j < 40 → H (pc T j) 2 = if j = k then c else G (pc T j) 2) : LI T i s r g H := by
  have hl := LI_k h hk e
  obtain ⟨a1, a2, a3, a4, a5⟩ := h
  have hc := a1.1.2.1
  refine ⟨IT_t a1 h1, by rw [h5]; exact a2, a3, by rw [h2 i (by omega) (by omega), if_neg (fun z => hl.1 z.symm)]; exact a4, ?_⟩
  rcases a5 with z | ⟨j, j1, j2, j3⟩
  · exact Or.inl z
  · refine Or.inr ⟨j, by rw [h5]; exact j1, j2, ?_⟩
    rw [j2] at j3
    rw [j2, h2 j (by omega) (by omega), if_neg (hl.2.2.2 j j1 j3).1]; exact j3
end CLS6
/-! ===== the class's trees: letExit and what uses it (own work) ===== -/
section CLS7
variable {g g' G H K : gH} {T S i j k a b c v w d o p q r s m x y : Int}
theorem lx_212 (h : IT T g G) (hT : isT T) : WN (fun _ H => IT T g H) (jT_letExit_212 G T c d) := by
  rw [jT_letExit_212]
  refine W_ite (fun _ => ?_) (fun _ => WN_i h)
  refine W_bdN (tT_readZombiesOf h.1 hT) (fun _ H hH => WN_i (IT_t h hH.1))
theorem lx_163 (h : LI T i s r g G) (hT : isT T) : WN (fun _ H => IT T g H) (jT_letExit_163 G T (pc T i) (pc T s) d) := by
  have hfu := fu_ge
  have hs := h.1.1.1
  rw [jT_letExit_163, TS_1 hs, if_pos (kdT2 hT), szT2 hT]
  refine W_loop (W := WN (fun _ H => IT T g H)) (fun n (a : Int × gH) => lT_letExit_177 T (pc T i) (pc T s) d (T + 2) 40 n a.1 a.2) (fun a => (40 - a.1).toNat) (fun a => (0 ≤ a.1 ∧ a.1 ≤ 40) ∧ LI T i s r g a.2) ?_ fu (0, G) ⟨by dsimp only; omega, h⟩ (by dsimp only; omega)
  clear hs h
  rintro n ⟨k, G⟩ hI ih
  have k0 : 0 ≤ k := hI.1.1
  have h : LI T i s r g G := hI.2
  show WN _ (bT_letExit_177 T (pc T i) (pc T s) d (T + 2) 40 (lT_letExit_177 T (pc T i) (pc T s) d (T + 2) 40 n) k G)
  rw [bT_letExit_177]
  refine W_ite (fun hk => ?_) (fun _ => lx_212 h.1 hT)
  have hk : 0 ≤ k ∧ k < 40 := ⟨k0, hk⟩
  have bk := pc_b (T := T) hk
  have nx : ∀ G', LI T i s r g G' → WN (fun _ H => IT T g H) (lT_letExit_177 T (pc T i) (pc T s) d (T + 2) 40 n (w32 (k + 1)) G') := fun G' h1 => by rw [w32_r (by omega)]; exact ih (k + 1, G') ⟨by dsimp only; omega, h1⟩ (by dsimp only; omega)
  have hc := h.1.1.2.1
  simp only [TS_p h.1.1.1 hk, kdp hT hk, kdT2 hT, szT2 hT, hk.1, hk.2, if_true, true_and, and_self, bnd_s]
  refine W_bdP tP_isZombieOf (fun y hy => W_ite (fun _ => nx _ h) (fun hz => nx _ ?_))
  have e := hy hz
  have hi2 := h.2.1
  have hk2 := hang_ h.1.1 hk (by rw [e]; exact pc_pos hT (by omega))
  have hl := LI_k h hk2 e
  have hss := LI_s h
  have t := TI_sup h.1.1 hk2 ⟨h.2.2.1, hss.1⟩ hl.2.1 hl.2.2.1
  refine LI_mv (c := pc T s) h hk2 e ⟨t, TF_pU TF_r (by omega)⟩ (by rw [pU_n (by omega)]) (fun j j0 j1 => ?_)
  by_cases z : j = k
  · rw [z, pU_s, u1_s, if_pos rfl]
  · rw [pU_n (pc_ne j0 (by omega) z), if_neg z]
theorem lx_69 (h : LI T i s r g G) (hT : isT T) : WN (fun _ H => IT T g H) (jT_letExit_69 G T (pc T i) (pc T s) d r) := by
  have hfu := fu_ge
  have hc := h.1.1.2.1
  have hi2 := h.2.1
  have pr : r = -1 ∨ Pa T r := by
    rcases h.2.2.2.2 with z | ⟨j, j1, j2, -⟩
    · exact Or.inl z
    · exact Or.inr ⟨j, by omega, j2⟩
  rw [jT_letExit_69]
  refine W_bdN (tT_passDuties h.1.1 hT ⟨i, by omega, rfl⟩ pr) (fun _ A hA => ?_)
  have hL : LI T i s r g A := by
    obtain ⟨a1, a2⟩ := hA
    refine ⟨IT_t h.1 a1, by rw [a2.1]; exact h.2.1, h.2.2.1, by rw [a2.2 i (by omega) (by omega)]; exact h.2.2.2.1, ?_⟩
    rcases h.2.2.2.2 with z | ⟨j, j1, j2, j3⟩
    · exact Or.inl z
    · rw [j2] at j3
      exact Or.inr ⟨j, by rw [a2.1]; exact j1, j2, by rw [j2, a2.2 j (by omega) (by omega)]; exact j3⟩
  clear hA hi2 hc h
  rw [TS_1 hL.1.1.1, if_pos (kdT2 hT), szT2 hT]
  refine W_loop (W := WN (fun _ H => IT T g H)) (fun n (a : Int × gH) => lT_letExit_92 T (pc T i) (pc T s) d r (T + 2) 40 n a.1 a.2) (fun a => (40 - a.1).toNat) (fun a => (0 ≤ a.1 ∧ a.1 ≤ 40) ∧ LI T i s r g a.2) ?_ fu (0, A) ⟨by dsimp only; omega, hL⟩ (by dsimp only; omega)
  clear hL A
  rintro n ⟨k, G⟩ hI ih
  have k0 : 0 ≤ k := hI.1.1
  have h : LI T i s r g G := hI.2
  show WN _ (bT_letExit_92 T (pc T i) (pc T s) d r (T + 2) 40 (lT_letExit_92 T (pc T i) (pc T s) d r (T + 2) 40 n) k G)
  rw [bT_letExit_92]
  refine W_ite (fun hk => ?_) (fun _ => lx_163 h hT)
  have hk : 0 ≤ k ∧ k < 40 := ⟨k0, hk⟩
  have bk := pc_b (T := T) hk
  have nx : ∀ G', LI T i s r g G' → WN (fun _ H => IT T g H) (lT_letExit_92 T (pc T i) (pc T s) d r (T + 2) 40 n (w32 (k + 1)) G') := fun G' h1 => by rw [w32_r (by omega)]; exact ih (k + 1, G') ⟨by dsimp only; omega, h1⟩ (by dsimp only; omega)
  have hc := h.1.1.2.1
  have hi2 := h.2.1
  simp only [TS_p h.1.1.1 hk, kdp hT hk, kdT2 hT, szT2 hT, hk.1, hk.2, if_true, true_and, and_self]
  refine W_bdP tP_isRunningChildOf (fun y hy => W_ite (fun _ => nx _ h) (fun hz => ?_))
  have e := hy hz
  have hk2 := hang_ h.1.1 hk (by rw [e]; exact pc_pos hT (by omega))
  have hl := LI_k h hk2 e
  have ad : WN (fun _ H => IT T g H) (jT_letExit_132 (lT_letExit_92 T (pc T i) (pc T s) d r (T + 2) 40 n) G T (pc T i) (pc T s) d r (T + 2) 40 k (pc T k)) := by
    rw [jT_letExit_132, jT_letExit_133, if_pos rfl]
    refine W_bdP (tT_adopterOf h.1.1 hT ⟨k, hk, rfl⟩) (fun c hcc => ?_)
    obtain ⟨j, j1, rfl, j3, j4⟩ := ADc_f h.1.1 hT hk2 hcc
    exact W_bdN (tT_adopt h.1.1 hT hk2 j1 j3 j4) (fun _ A hA => nx A (LI_mv h hk2 e hA.1 hA.2.1 hA.2.2))
  refine W_ite (fun _ => ad) (fun hn => ?_)
  rcases h.2.2.2.2 with z | ⟨j, j1, j2, j3⟩
  · exact absurd (by omega) hn
  · subst j2
    rw [if_pos (kdp hT (by omega))]
    refine W_bdP tP_room (fun _ _ => W_ite (fun _ => ?_) (fun _ => ad))
    rw [jT_letExit_133, if_neg f0]
    have hj := hl.2.2.2 j j1 j3
    exact W_bdN (tT_adopt h.1.1 hT hk2 ⟨by omega, j1.2⟩ hj.1 hj.2) (fun _ A hA => nx A (LI_mv h hk2 e hA.1 hA.2.1 hA.2.2))
theorem tT_letExit (h : TI g T) (hT : isT T) (hp : Pa T p) (hd : 0 ≤ d ∧ d < 2147483648) : WN (fun _ G => IT T g G) (fT_letExit g T p d) := by
  have hc := h.2.1
  obtain ⟨i, hi, rfl⟩ := hp
  rw [fT_letExit, if_pos (kdp hT hi)]
  refine W_ite (fun _ => WN_i (IT_r h)) (fun hn => ?_)
  have hi2 := hang_ h hi hn
  have hs := sp_rg h (by omega) hi2.2
  have bi := pc_b (T := T) hi
  have bs := pc_b (T := T) (i := sp g T i) ⟨by omega, by omega⟩
  rw [hs.2]
  generalize hsp : sp g T i = s at *
  rw [bnd_s, bnd_s, bnd_s, bnd_s, if_pos (kdp hT (by omega)), bnd_s]
  have w2 : IT T g (pU (pU g (pc T i) 1 1) (pc T i) 9 d) := ⟨TI_ex h ⟨i, hi, rfl⟩ hd, TF_pU (TF_pU TF_r (by omega)) (by omega)⟩
  have s2 : SS T g (pU (pU g (pc T i) 1 1) (pc T i) 9 d) := SS_w (SS_w SS_r (by omega) (by omega)) (by omega) (by omega)
  generalize pU (pU g (pc T i) 1 1) (pc T i) 9 d = B at *
  have w3 : IT T g (pU B (pc T i) 10 (B T 6)) := IT_w w2 (by omega)
  have s3 : SS T g (pU B (pc T i) 10 (B T 6)) := SS_w s2 (by omega) (by omega)
  generalize pU B (pc T i) 10 (B T 6) = C at *
  have w4 : IT T g (pU C T 6 (w32 (C T 6 + 1))) := IT_w w3 (by omega)
  have s4 : SS T g (pU C T 6 (w32 (C T 6 + 1))) := SS_w s3 (by omega) (by omega)
  generalize pU C T 6 (w32 (C T 6 + 1)) = D at *
  have w5 : IT T g (pU D (pc T s) 3 (w32 (D (pc T s) 3 - 1))) := IT_w w4 (by omega)
  have s5 : SS T g (pU D (pc T s) 3 (w32 (D (pc T s) 3 - 1))) := SS_w s4 (by omega) (by omega)
  generalize pU D (pc T s) 3 (w32 (D (pc T s) 3 - 1)) = E at *
  clear s2 s3 s4 w2 w3 w4
  have hL : LI T i s (-1) g E := ⟨w5, by rw [s5.1]; exact hi2, hs.1.1, by rw [s5.2 i hi.1 hi.2]; exact hs.2, Or.inl rfl⟩
  refine W_ite (fun _ => lx_69 hL hT) (fun _ => ?_)
  refine W_bdN (tT_replace w5.1 hT ⟨i, hi, rfl⟩ (by rw [s5.1]; exact hs.1)) (fun v F hF => lx_69 (r := v) (T := T) (i := i) (s := s) (g := g) ?_ hT)
  obtain ⟨f1, f2, f3, f4⟩ := hF
  rw [s5.1] at f2 f3
  exact ⟨IT_t w5 f1, by omega, hs.1.1, by rw [f3 i hi.1 hi2.2, s5.2 i hi.1 hi.2]; exact hs.2, f4⟩
theorem tT_killGroup (h : TI g T) (hT : isT T) (hb : 0 ≤ b ∧ b < 2147483648) : WN (fun _ G => IT T g G) (fT_killGroup g T a b) := by
  have hfu := fu_ge
  have l127 : ∀ x G, IT T g G → WN (fun _ G => IT T g G) (lT_killGroup_127 x (T + 2) 40 fu 0 G) := by
    intro x G h
    refine W_loop (W := WN (fun _ G => IT T g G)) (fun n (a : Int × gH) => lT_killGroup_127 x (T + 2) 40 n a.1 a.2) (fun a => (40 - a.1).toNat) (fun a => (0 ≤ a.1 ∧ a.1 ≤ 40) ∧ IT T g a.2) ?_ fu (0, G) ⟨by dsimp only; omega, h⟩ (by dsimp only; omega)
    clear h G
    rintro n ⟨k, G⟩ hI ih
    have k0 : 0 ≤ k := hI.1.1
    have h : IT T g G := hI.2
    show WN _ (bT_killGroup_127 x (T + 2) 40 (lT_killGroup_127 x (T + 2) 40 n) k G)
    rw [bT_killGroup_127]
    refine W_ite (fun hk => ?_) (fun _ => WN_i h)
    have hk : 0 ≤ k ∧ k < 40 := ⟨k0, hk⟩
    have bk := pc_b (T := T) hk
    simp only [TS_p h.1.1 hk, kdp hT hk, kdT2 hT, szT2 hT, hk.1, hk.2, if_true, true_and, and_self, bnd_s]
    rw [w32_r (by omega)]
    exact ih (k + 1, _) ⟨by dsimp only; omega, IT_w h (by omega)⟩ (by dsimp only; omega)
  have l74 : ∀ G, IT T g G → WN (fun _ G => IT T g G) (lT_killGroup_74 T b (T + 2) 40 fu 0 0 G) := by
    intro G h
    refine W_loop (W := WN (fun _ G => IT T g G)) (fun n (a : Int × Int × gH) => lT_killGroup_74 T b (T + 2) 40 n a.1 a.2.1 a.2.2) (fun a => (40 - a.2.1).toNat) (fun a => (0 ≤ a.2.1 ∧ a.2.1 ≤ 40) ∧ IT T g a.2.2) ?_ fu (0, 0, G) ⟨by dsimp only; omega, h⟩ (by dsimp only; omega)
    clear h G
    rintro n ⟨x, k, G⟩ hI ih
    have k0 : 0 ≤ k := hI.1.1
    have h : IT T g G := hI.2
    show WN _ (bT_killGroup_74 T b (T + 2) 40 (lT_killGroup_74 T b (T + 2) 40 n) x k G)
    rw [bT_killGroup_74]
    refine W_ite (fun hk => ?_) (fun _ => ?_)
    · have hk : 0 ≤ k ∧ k < 40 := ⟨k0, hk⟩
      have nx : ∀ x' G', IT T g G' → WN (fun _ G => IT T g G) (lT_killGroup_74 T b (T + 2) 40 n x' (w32 (k + 1)) G') := fun x' G' h1 => by rw [w32_r (by omega)]; exact ih (x', k + 1, G') ⟨by dsimp only; omega, h1⟩ (by dsimp only; omega)
      simp only [TS_p h.1.1 hk, kdp hT hk, kdT2 hT, szT2 hT, hk.1, hk.2, if_true, true_and, and_self]
      exact W_ite (fun _ => nx _ _ h) (fun _ => W_bdN (tT_letExit h.1 hT ⟨k, hk, rfl⟩ hb) (fun _ A hA => nx _ _ (IT_t h hA)))
    · rw [jT_killGroup_113, TS_1 h.1.1, if_pos (kdT2 hT), szT2 hT]
      exact l127 x G h
  rw [fT_killGroup, TS_1 h.1, if_pos (kdT2 hT), szT2 hT]
  refine W_loop (W := WN (fun _ G => IT T g G)) (fun n (c : Int × gH) => lT_killGroup_12 T a b (T + 2) 40 n c.1 c.2) (fun c => (40 - c.1).toNat) (fun c => (0 ≤ c.1 ∧ c.1 ≤ 40) ∧ IT T g c.2) ?_ fu (0, g) ⟨by dsimp only; omega, IT_r h⟩ (by dsimp only; omega)
  rintro n ⟨k, G⟩ hI ih
  have k0 : 0 ≤ k := hI.1.1
  have h : IT T g G := hI.2
  show WN _ (bT_killGroup_12 T a b (T + 2) 40 (lT_killGroup_12 T a b (T + 2) 40 n) k G)
  rw [bT_killGroup_12]
  refine W_ite (fun hk => ?_) (fun _ => ?_)
  · have hk : 0 ≤ k ∧ k < 40 := ⟨k0, hk⟩
    have bk := pc_b (T := T) hk
    have nx : ∀ G', IT T g G' → WN (fun _ G => IT T g G) (lT_killGroup_12 T a b (T + 2) 40 n (w32 (k + 1)) G') := fun G' h1 => by rw [w32_r (by omega)]; exact ih (k + 1, G') ⟨by dsimp only; omega, h1⟩ (by dsimp only; omega)
    simp only [TS_p h.1.1 hk, kdp hT hk, kdT2 hT, szT2 hT, hk.1, hk.2, if_true, true_and, and_self, bnd_s]
    exact W_bdP tP_isMortal (fun _ _ => W_ite (fun _ => nx _ (IT_w h (by omega))) (fun _ => W_ite (fun _ => nx _ (IT_w h (by omega))) (fun _ => nx _ (IT_w h (by omega)))))
  · rw [jT_killGroup_58, TS_1 h.1.1, if_pos (kdT2 hT), szT2 hT]
    exact l74 G h
/-- a running child is handed on -/
theorem lx_hand (h : IT T g G) (hT : isT T) (hk : 0 ≤ k ∧ k < 40) (hc : Pa T c) (e : G (pc T k) 2 = c) {β : Type} {W : Option β → Prop} {X : gH → Option β} (hX : ∀ H, IT T g H → W (X H)) : W (bdP (fT_adopterOf G T (pc T k)) (fun y => bdN (fT_adopt G T (pc T k) y) (fun _ H => X H))) := by
  have hk2 := hang_ h.1 hk (by rw [e]; exact Pa_pos hT hc)
  refine W_bdP (tT_adopterOf h.1 hT ⟨k, hk, rfl⟩) (fun y hy => ?_)
  obtain ⟨j, j1, rfl, j3, j4⟩ := ADc_f h.1 hT hk2 hy
  exact W_bdN (tT_adopt h.1 hT hk2 j1 j3 j4) (fun _ A hA => hX A (IT_t h hA.1))
theorem tT_loseGroup (h : TI g T) (hT : isT T) (hp : Pa T c) : WN (fun _ G => IT T g G) (fT_loseGroup g T c b) := by
  have hfu := fu_ge
  rw [fT_loseGroup, TS_1 h.1, if_pos (kdT2 hT), szT2 hT]
  refine W_loop (W := WN (fun _ G => IT T g G)) (fun n (a : Int × Int × gH) => lT_loseGroup_16 T c b (T + 2) 40 n a.1 a.2.1 a.2.2) (fun a => (40 - a.2.1).toNat) (fun a => (0 ≤ a.2.1 ∧ a.2.1 ≤ 40) ∧ IT T g a.2.2) ?_ fu (0, 0, g) ⟨by dsimp only; omega, IT_r h⟩ (by dsimp only; omega)
  rintro n ⟨x, k, G⟩ hI ih
  have k0 : 0 ≤ k := hI.1.1
  have h : IT T g G := hI.2
  show WN _ (bT_loseGroup_16 T c b (T + 2) 40 (lT_loseGroup_16 T c b (T + 2) 40 n) x k G)
  rw [bT_loseGroup_16]
  refine W_ite (fun hk => ?_) (fun _ => WN_i h)
  have hk : 0 ≤ k ∧ k < 40 := ⟨k0, hk⟩
  have nx : ∀ x' G', IT T g G' → WN (fun _ G => IT T g G) (lT_loseGroup_16 T c b (T + 2) 40 n x' (w32 (k + 1)) G') := fun x' G' h1 => by rw [w32_r (by omega)]; exact ih (x', k + 1, G') ⟨by dsimp only; omega, h1⟩ (by dsimp only; omega)
  simp only [TS_p h.1.1 hk, kdp hT hk, kdT2 hT, szT2 hT, hk.1, hk.2, if_true, true_and, and_self]
  exact W_bdP tP_isRunningChildOf (fun y hy => W_ite (fun _ => nx _ _ h) (fun hz => W_ite (fun _ => lx_hand h hT hk hp (hy hz) (fun H hH => nx _ _ hH)) (fun _ => nx _ _ h)))
theorem tT_loseSurplus (h : TI g T) (hT : isT T) (hp : Pa T c) : WN (fun _ G => IT T g G) (fT_loseSurplus g T c) := by
  have hfu := fu_ge
  rw [fT_loseSurplus]
  refine W_loop (W := WN (fun _ G => IT T g G)) (fun n (a : Int × Int × gH) => lT_loseSurplus_5 T c n a.1 a.2.1 a.2.2) (fun a => (a.2.1 + 1).toNat) (fun a => (-1 ≤ a.2.1 ∧ a.2.1 < 40) ∧ IT T g a.2.2) ?_ fu (0, 39, g) ⟨by dsimp only; omega, IT_r h⟩ (by dsimp only; omega)
  rintro n ⟨x, k, G⟩ hI ih
  have k0 : k < 40 := hI.1.2
  have h : IT T g G := hI.2
  show WN _ (bT_loseSurplus_5 T c (lT_loseSurplus_5 T c n) x k G)
  rw [bT_loseSurplus_5]
  refine W_ite (fun _ => WN_i h) (fun hk => ?_)
  have hk : 0 ≤ k ∧ k < 40 := ⟨by omega, k0⟩
  have nx : ∀ x' G', IT T g G' → WN (fun _ G => IT T g G) (lT_loseSurplus_5 T c n x' (w32 (k + (-1))) G') := fun x' G' h1 => by rw [w32_r (by omega)]; exact ih (x', k + (-1), G') ⟨by dsimp only; omega, h1⟩ (by dsimp only; omega)
  simp only [TS_1 h.1.1, TS_p h.1.1 hk, kdp hT hk, kdT2 hT, szT2 hT, hk.1, hk.2, Pa_kd hT hp, if_true, true_and, and_self]
  exact W_ite (fun _ => W_bdP tP_isRunningChildOf (fun y hy => W_ite (fun _ => nx _ _ h) (fun hz => lx_hand h hT hk hp (hy hz) (fun H hH => nx _ _ hH)))) (fun _ => nx _ _ h)
theorem tT_pruneBelow (h : TI g T) (hT : isT T) (hp : Pa T c) (hb : 0 ≤ b ∧ b < 2147483648) : WN (fun _ G => IT T g G) (fT_pruneBelow g T c b) := by
  have hfu := fu_ge
  rw [fT_pruneBelow]
  refine W_bdP (tT_deepestBelow h hT hp) (fun y hy => ?_)
  refine W_loop (W := WN (fun _ G => IT T g G)) (fun n (a : Int × Int × gH) => lT_pruneBelow_9 T c b n a.1 a.2.1 a.2.2) (fun a => (40 - a.1).toNat) (fun a => (0 ≤ a.1 ∧ a.1 ≤ 40) ∧ (a.2.1 = -1 ∨ Pa T a.2.1) ∧ IT T g a.2.2) ?_ fu (0, y, g) ⟨by dsimp only; omega, hy, IT_r h⟩ (by dsimp only; omega)
  rintro n ⟨k, z, G⟩ hI ih
  have k0 : 0 ≤ k := hI.1.1
  have hz : z = -1 ∨ Pa T z := hI.2.1
  have h : IT T g G := hI.2.2
  show WN _ (bT_pruneBelow_9 T c b (lT_pruneBelow_9 T c b n) k z G)
  rw [bT_pruneBelow_9]
  refine W_ite (fun _ => WN_i h) (fun hn => W_ite (fun hk => ?_) (fun _ => WN_i h))
  have hz : Pa T z := by
    rcases hz with e | e
    · exact absurd (by omega) hn
    · exact e
  refine W_bdN (tT_letExit h.1 hT hz hb) (fun _ A hA => W_bdP (tT_deepestBelow hA.1 hT hp) (fun v hv => ?_))
  rw [w32_r (by omega)]
  exact ih (k + 1, v, A) ⟨by dsimp only; omega, hv, IT_t h hA⟩ (by dsimp only; omega)
end CLS7
/-! ===== the class's trees: one taken from another, a new one (own work) ===== -/
section CLS8
variable {g g' G H K : gH} {T S i j k a b c v w d o p q r s m x y : Int}
theorem vT_atS (hs : TS g T) (hT : isT T) (hc : g T 5 ≤ 40) : fT_at g T v = some (if 0 ≤ v ∧ v < g T 5 then pc T v else -1) := by
  rw [fT_at, TS_1 hs]
  by_cases h0 : v < 0
  · rw [if_pos h0, if_neg (by omega)]
  · rw [if_neg h0]
    by_cases h1 : v < g T 5
    · rw [if_pos h1, if_pos (by omega), if_pos ⟨kdT2 hT, by omega, by rw [szT2 hT]; omega⟩, TS_p hs (by omega), if_pos (by omega)]
    · rw [if_neg h1, if_neg (by omega)]
theorem tP_take (hd : kd d = 3) (hn : ¬ d = c) : WN (fun _ G => (∀ x, ¬ x = c → G x = g x) ∧ G c 0 = g c 0 ∧ G c 2 = g c 2 ∧ G c 1 = g d 1 ∧ G c 9 = g d 9) (fP_take g c d) := by
  rw [fP_take, if_pos hd]
  simp only [bnd_s]
  refine WN_i ⟨fun x hx => by simp only [pU_n hx], ?_, ?_, ?_, ?_⟩
  · simp (disch := omega) only [pU_y]
  · simp (disch := omega) only [pU_y]
  · simp (disch := omega) only [pU_y]
    rw [pU_s, u1_s]
  · simp (disch := omega) only [pU_y]
    rw [pU_s, u1_s]
theorem cpyG_n (h : ¬ x = p) : cpyG g q p m x = g x := by
  funext y
  unfold cpyG
  rw [if_neg (fun z => h z.1)]
theorem IT_cp (h : IT T g G) (hp : p = T + 3 ∨ p = T + 4) : IT T g (cpyG G q p m) := by
  have e : ∀ x, ¬ x = p → cpyG G q p m x = G x := fun x hx => cpyG_n hx
  refine ⟨TI_eq h.1 (fun k _ _ => by rw [e T (by omega)]) (by rw [e T (by omega)]) (e _ (by omega)) (fun i i0 i1 => ?_) (fun i i0 i1 => ?_), fun x hx => (e x (by omega)).trans (h.2 x hx)⟩
  · have := pc_b (T := T) ⟨i0, i1⟩
    rw [e _ (by omega)]; exact ⟨rfl, rfl⟩
  · have := pc_b (T := T) ⟨i0, i1⟩
    rw [e _ (by omega)]; exact h.1.2.2.2.2.2.2 i i0 i1
theorem tT_take (hs : TS g T) (hT : isT T) (hS : isT S) (h : TI g S) (hn : ¬ T = S) : WN (fun _ G => IT T g G) (fT_take g T S) := by
  have hfu := fu_ge
  have hdis := dis_Ts T hT S hS
  have hc := h.2.1
  rw [fT_take, if_pos (kdT hS), bnd_s]
  have z1 : TF T g (pU g T 5 (g S 5)) := TF_pU TF_r (by omega)
  have z2 : TS (pU g T 5 (g S 5)) T := TS_eq hs (fun k _ _ => pU_y (by omega)) (pU_n (by omega)) (fun i i0 i1 => by have := pc_b (T := T) ⟨i0, i1⟩; rw [pU_n (by omega)])
  have z3 : pU g T 5 (g S 5) T 5 = g S 5 := by rw [pU_s, u1_s]
  refine W_loop (W := WN (fun _ G => IT T g G)) (fun n (a : Int × gH) => lT_take_10 T S n a.1 a.2) (fun a => (40 - a.1).toNat) (fun a => (0 ≤ a.1 ∧ a.1 ≤ 40) ∧ TF T g a.2 ∧ TS a.2 T ∧ a.2 T 5 = g S 5 ∧ ∀ k, 0 ≤ k → k < a.1 → a.2 (pc T k) 2 = (if g (pc S k) 2 < 0 then -1 else pc T (sp g S k)) ∧ a.2 (pc T k) 1 = g (pc S k) 1 ∧ a.2 (pc T k) 9 = g (pc S k) 9) ?_ fu (0, _) ⟨by dsimp only; omega, z1, z2, z3, fun k k0 k1 => absurd k0 (by dsimp only at k1; omega)⟩ (by dsimp only; omega)
  clear z1 z2 z3
  rintro n ⟨i, G⟩ hI ih
  have i0 : 0 ≤ i := hI.1.1
  have i1 : i ≤ 40 := hI.1.2
  have gF : TF T g G := hI.2.1
  have gS : TS G T := hI.2.2.1
  have g5 : G T 5 = g S 5 := hI.2.2.2.1
  have gk : ∀ k, 0 ≤ k → k < i → G (pc T k) 2 = (if g (pc S k) 2 < 0 then -1 else pc T (sp g S k)) ∧ G (pc T k) 1 = g (pc S k) 1 ∧ G (pc T k) 9 = g (pc S k) 9 := hI.2.2.2.2
  clear hI
  have eS : ∀ x, S ≤ x → x < S + 44 → G x = g x := fun x x0 x1 => gF x (by omega)
  show WN _ (bT_take_10 T S (lT_take_10 T S n) i G)
  rw [bT_take_10]
  refine W_ite (fun hi => ?_) (fun hi => ?_)
  · have hi : 0 ≤ i ∧ i < 40 := ⟨i0, hi⟩
    have bi := pc_b (T := T) hi
    have bs := pc_b (T := S) hi
    have e1 : G S 1 = S + 2 := by rw [eS S (by omega) (by omega)]; exact TS_1 h.1
    have e2 : G (S + 2) i = pc S i := by rw [eS _ (by omega) (by omega)]; exact TS_p h.1 hi
    have e3 := TS_1 gS
    have e4 := TS_p gS hi
    have h24 : ∀ {U : Int}, isT U → kd (U + 2) = 24 ∧ (0 : Int) ≤ i ∧ i < sz (U + 2) := fun hU => ⟨kdT2 hU, i0, by rw [szT2 hU]; exact hi.2⟩
    rw [e1, e3, if_pos (kdT hS), if_pos (h24 hS), if_pos (h24 hT), e2, e4, if_pos (kdp hT hi)]
    refine W_bdN (tP_take (kdp hS hi) (by omega)) (fun _ A hA => ?_)
    obtain ⟨a1, a2, a3, a4, a5⟩ := hA
    have aT : A T = G T := a1 T (by omega)
    have a2T : A (T + 2) = G (T + 2) := a1 _ (by omega)
    have aS : ∀ x, S ≤ x → x < S + 44 → A x = g x := fun x x0 x1 => by rw [a1 x (by omega)]; exact eS x x0 x1
    have sA : TS A T := TS_eq gS (fun k _ _ => by rw [aT]) a2T (fun k k0 k1 => by
      by_cases e : k = i
      · rw [e]; exact a2
      · rw [a1 _ (pc_ne k0 i0 e)])
    have nx : ∀ z, z = (if g (pc S i) 2 < 0 then -1 else pc T (sp g S i)) → WN (fun _ G => IT T g G) (lT_take_10 T S n (w32 (i + 1)) (pU A (pc T i) 2 z)) := by
      intro z hz
      rw [w32_r (by omega)]
      refine ih (i + 1, pU A (pc T i) 2 z) ⟨by dsimp only; omega, ?_, ?_, ?_, fun k k0 k1 => ?_⟩ (by dsimp only; omega)
      · exact TF_pU (fun x hx => (a1 x (by omega)).trans (gF x hx)) (by omega)
      · exact TS_eq sA (fun k _ _ => by show pU A (pc T i) 2 z T k = _; rw [pU_n (by omega)]) (pU_n (by omega)) (fun k k0 k1 => pU_y (by omega))
      · show pU A (pc T i) 2 z T 5 = _
        rw [pU_n (by omega), aT]; exact g5
      · have k1 : k < i + 1 := k1
        show pU A (pc T i) 2 z (pc T k) 2 = _ ∧ pU A (pc T i) 2 z (pc T k) 1 = _ ∧ pU A (pc T i) 2 z (pc T k) 9 = _
        by_cases e : k = i
        · rw [e, pU_s, u1_s, u1_n (by omega), u1_n (by omega), a4, a5, eS _ (by omega) (by omega)]
          exact ⟨hz, rfl, rfl⟩
        · rw [pU_n (pc_ne k0 i0 e), a1 _ (pc_ne k0 i0 e)]
          exact gk k k0 (by omega)
    rw [aT, e3, if_pos (h24 hT), if_pos (kdp hS hi), aS (pc S i) (by omega) (by omega), a2T, e4, if_pos (kdp hT hi)]
    refine W_ite (fun hneg => ?_) (fun hpos => ?_)
    · rw [bnd_s]
      exact nx _ (by rw [if_pos hneg])
    · have hi2 := hang_ h hi hpos
      have hs2 := sp_rg h (by omega) hi2.2
      have bj := pc_b (T := S) (i := sp g S i) ⟨by omega, by omega⟩
      rw [if_pos (by rw [hs2.2]; exact kdp hS (by omega)), hs2.2, aS _ (by omega) (by omega), TS_n h.1 (by omega), vT_atS sA hT (by rw [aT, g5]; exact hc.2), bdP_s, aT, g5, if_pos hs2.1, if_pos (kdp hT hi), bnd_s]
      exact nx _ (by rw [if_neg hpos])
  · have e40 : i = 40 := by omega
    subst e40
    have hI : IT T g G := by
      refine ⟨⟨gS, by rw [g5]; exact hc, ?_, fun k k0 k1 => ?_, fun k k0 k1 => ?_, ?_, fun k k0 k1 => ?_⟩, gF⟩
      · rw [(gk 0 (by omega) (by omega)).1, if_pos (by rw [h.2.2.1]; omega)]
      · rw [g5] at k0
        rw [(gk k (by omega) k1).1, if_pos (by rw [h.2.2.2.1 k k0 k1]; omega)]
      · rw [g5] at k1 ⊢
        have hs2 := sp_rg h k0 k1
        exact ⟨sp g S k, hs2.1.1, hs2.1.2, by rw [(gk k (by omega) (by omega)).1, if_neg (by rw [hs2.2]; exact pc_pos hS (by omega))]⟩
      · rw [g5]
        refine acy_ext h.2.2.2.2.2.1 (fun k k0 k1 => (sp_rg h (by omega) k1).1) (fun k k0 k1 => ?_)
        have hs2 := sp_rg h (i := k) (by omega) k1
        show ix T (G (pc T k) 2) = _
        rw [(gk k (by omega) (by omega)).1, if_neg (by rw [hs2.2]; exact pc_pos hS (by omega)), ix_pc hs2.1.1]
      · rw [(gk k k0 k1).2.1, (gk k k0 k1).2.2]
        exact h.2.2.2.2.2.2 k k0 k1
    have e2 : G S 2 = S + 3 := by rw [eS S (by omega) (by omega)]; exact TS_2 h.1
    have e3 : G S 3 = S + 4 := by rw [eS S (by omega) (by omega)]; exact TS_3 h.1
    have t2 := TS_2 gS
    have t3 := TS_3 gS
    rw [jT_take_70, if_pos (kdT hS), e2, t2, if_pos ⟨⟨kdT3 hS, kdT3 hT⟩, by omega, by rw [szT3 hS]; omega, by rw [szT3 hT]; omega⟩, bnd_s]
    have w1 : IT T g (cpyG G (S + 3) (T + 3) 8) := IT_cp hI (Or.inl rfl)
    have c3 : cpyG G (S + 3) (T + 3) 8 S 3 = S + 4 := by rw [cpyG_n (by omega)]; exact e3
    have c4 : cpyG G (S + 3) (T + 3) 8 T 3 = T + 4 := by rw [cpyG_n (by omega)]; exact t3
    generalize cpyG G (S + 3) (T + 3) 8 = C at *
    rw [c3, c4, if_pos ⟨⟨kdT4 hS, kdT4 hT⟩, by omega, by rw [szT4 hS]; omega, by rw [szT4 hT]; omega⟩]
    simp only [bnd_s]
    exact WN_i (IT_w (IT_w (IT_w (IT_w (IT_w (IT_cp w1 (Or.inr rfl)) (by omega)) (by omega)) (by omega)) (by omega)) (by omega))
theorem tT_clearRules (h : TS g T) (hT : isT T) : WN (fun _ G => (∀ x, ¬ x = T + 4 → G x = g x)) (fT_clearRules g T) := by
  have hfu := fu_ge
  rw [fT_clearRules]
  refine W_loop (W := WN (fun _ G => (∀ x, ¬ x = T + 4 → G x = g x))) (fun n (a : Int × gH) => lT_clearRules_2 T n a.1 a.2) (fun a => (5 - a.1).toNat) (fun a => (0 ≤ a.1 ∧ a.1 ≤ 5) ∧ (∀ x, ¬ x = T + 4 → a.2 x = g x)) ?_ fu (0, g) ⟨by dsimp only; omega, fun _ _ => rfl⟩ (by dsimp only; omega)
  rintro n ⟨i, G⟩ hI ih
  have i0 : 0 ≤ i := hI.1.1
  have hG : ∀ x, ¬ x = T + 4 → G x = g x := hI.2
  show WN _ (bT_clearRules_2 T (lT_clearRules_2 T n) i G)
  rw [bT_clearRules_2]
  refine W_ite (fun hi => ?_) (fun _ => WN_i hG)
  rw [hG T (by omega), TS_3 h, if_pos ⟨kdT4 hT, i0, by rw [szT4 hT]; exact hi⟩, bnd_s, w32_r (by omega)]
  exact ih (i + 1, pU G (T + 4) i (-1)) ⟨by dsimp only; omega, fun x hx => by show pU G (T + 4) i (-1) x = _; rw [pU_n hx]; exact hG x hx⟩ (by dsimp only; omega)
end CLS8
/-! ===== the class: a new tree, the whole object, its past (own work) ===== -/
section CLS9
variable {g g' G H K : gH} {T S i j k a b c v w d o p q r s m x y : Int}
/-- nobody hangs under anybody -/
def RZ (T : Int) (g G : gH) : Prop := TF T g G ∧ TS G T ∧ ∀ k, 0 ≤ k → k < 40 → G (pc T k) 2 = -1 ∧ ¬ G (pc T k) 1 = 1
theorem RZ_w (h : RZ T g G) (hab : a = T + 3 ∨ a = T + 4 ∨ (a = T ∧ 4 ≤ b)) : RZ T g (pU G a b v) := by
  obtain ⟨h1, h2, h3⟩ := h
  refine ⟨TF_pU h1 (by omega), TS_eq h2 (fun k _ _ => ?_) (pU_n (by omega)) (fun k k0 k1 => ?_), fun k k0 k1 => ?_⟩
  · unfold pU
    rw [if_neg (by omega)]
  · have := pc_b (T := T) ⟨k0, k1⟩
    rw [pU_n (by omega)]
  · have := pc_b (T := T) ⟨k0, k1⟩
    rw [pU_n (by omega)]; exact h3 k k0 k1
theorem RZ_e (h : RZ T g G) (hab : ∀ x, ¬ x = T + 4 → H x = G x) : RZ T g H := by
  obtain ⟨h1, h2, h3⟩ := h
  refine ⟨fun x hx => (hab x (by omega)).trans (h1 x hx), TS_eq h2 (fun k _ _ => ?_) (hab _ (by omega)) (fun k k0 k1 => ?_), fun k k0 k1 => ?_⟩
  · rw [hab T (by omega)]
  · have := pc_b (T := T) ⟨k0, k1⟩
    rw [hab _ (by omega)]
  · have := pc_b (T := T) ⟨k0, k1⟩
    rw [hab _ (by omega)]; exact h3 k k0 k1
theorem RZ_I (h : RZ T g G) (h5 : G T 5 = 1) : IT T g G := by
  obtain ⟨h1, h2, h3⟩ := h
  refine ⟨⟨h2, by rw [h5]; omega, (h3 0 (by omega) (by omega)).1, fun k k0 k1 => (h3 k (by rw [h5] at k0; omega) k1).1, fun k k0 k1 => absurd k0 (by rw [h5] at k1; omega), fun k k0 k1 => ?_, fun k k0 k1 z => absurd z (h3 k k0 k1).2⟩, h1⟩
  rw [h5] at k1
  rw [show k = 0 by omega]
  exact en_0
theorem lx_68 (h : RZ T g G) (hT : isT T) : WN (fun _ H => IT T g H) (jT_reset_68 G T) := by
  rw [jT_reset_68]
  refine W_bdN (tT_clearRules h.2.1 hT) (fun _ A hA => ?_)
  have hA := RZ_e h hA
  rw [TS_3 hA.2.1, if_pos ⟨kdT4 hT, by omega, by rw [szT4 hT]; omega⟩, bnd_s]
  have w1 : RZ T g (pU A (T + 4) 0 0) := RZ_w hA (by omega)
  generalize pU A (T + 4) 0 0 = B at *
  rw [TS_3 w1.2.1, if_pos ⟨kdT4 hT, by omega, by rw [szT4 hT]; omega⟩, bnd_s]
  have w2 : RZ T g (pU B (T + 4) 1 1) := RZ_w w1 (by omega)
  generalize pU B (T + 4) 1 1 = C at *
  rw [TS_3 w2.2.1, if_pos ⟨kdT4 hT, by omega, by rw [szT4 hT]; omega⟩]
  simp only [bnd_s]
  have w3 : RZ T g (pU (pU (pU C (T + 4) 2 2) T 4 20) T 5 1) := RZ_w (RZ_w (RZ_w w2 (by omega)) (by omega)) (by omega)
  have w4 := RZ_I w3 (by rw [pU_s, u1_s])
  exact WN_i (IT_w (IT_w (IT_w (IT_w w4 (by omega)) (by omega)) (by omega)) (by omega))
theorem lx_49 (h : RZ T g G) (hT : isT T) : WN (fun _ H => IT T g H) (lT_reset_49 T fu 0 G) := by
  have hfu := fu_ge
  refine W_loop (W := WN (fun _ G => IT T g G)) (fun n (a : Int × gH) => lT_reset_49 T n a.1 a.2) (fun a => (8 - a.1).toNat) (fun a => (0 ≤ a.1 ∧ a.1 ≤ 8) ∧ RZ T g a.2) ?_ fu (0, G) ⟨by dsimp only; omega, h⟩ (by dsimp only; omega)
  clear h
  rintro n ⟨i, G⟩ hI ih
  have i0 : 0 ≤ i := hI.1.1
  have h : RZ T g G := hI.2
  show WN _ (bT_reset_49 T (lT_reset_49 T n) i G)
  rw [bT_reset_49]
  refine W_ite (fun hi => ?_) (fun _ => lx_68 h hT)
  rw [TS_2 h.2.1, if_pos ⟨kdT3 hT, i0, by rw [szT3 hT]; exact hi⟩, bnd_s, w32_r (by omega)]
  exact ih (i + 1, pU G (T + 3) i 0) ⟨by dsimp only; omega, RZ_w h (by omega)⟩ (by dsimp only; omega)
theorem tT_reset (h : TS g T) (hT : isT T) : WN (fun _ G => IT T g G) (fT_reset g T) := by
  have hfu := fu_ge
  rw [fT_reset, TS_1 h, if_pos (kdT2 hT), szT2 hT]
  refine W_loop (W := WN (fun _ G => IT T g G)) (fun n (a : Int × gH) => lT_reset_10 T (T + 2) 40 n a.1 a.2) (fun a => (40 - a.1).toNat) (fun a => (0 ≤ a.1 ∧ a.1 ≤ 40) ∧ TF T g a.2 ∧ TS a.2 T ∧ ∀ k, 0 ≤ k → k < a.1 → a.2 (pc T k) 2 = -1 ∧ ¬ a.2 (pc T k) 1 = 1) ?_ fu (0, g) ⟨by dsimp only; omega, TF_r, h, fun k k0 k1 => absurd k0 (by dsimp only at k1; omega)⟩ (by dsimp only; omega)
  clear h
  rintro n ⟨i, G⟩ hI ih
  have i0 : 0 ≤ i := hI.1.1
  have i1 : i ≤ 40 := hI.1.2
  have h1 : TF T g G := hI.2.1
  have h2 : TS G T := hI.2.2.1
  have h3 : ∀ k, 0 ≤ k → k < i → G (pc T k) 2 = -1 ∧ ¬ G (pc T k) 1 = 1 := hI.2.2.2
  show WN _ (bT_reset_10 T (T + 2) 40 (lT_reset_10 T (T + 2) 40 n) i G)
  rw [bT_reset_10]
  refine W_ite (fun hi => ?_) (fun hi => ?_)
  · have hi : 0 ≤ i ∧ i < 40 := ⟨i0, hi⟩
    have bi := pc_b (T := T) hi
    simp only [TS_p h2 hi, kdp hT hi, kdT2 hT, szT2 hT, hi.1, hi.2, if_true, true_and, and_self]
    refine W_bdN tP_become (fun _ A hA => ?_)
    obtain ⟨a1, a2, a3, a4⟩ := hA
    rw [w32_r (by omega)]
    refine ih (i + 1, A) ⟨by dsimp only; omega, fun x hx => (a1 x (by omega)).trans (h1 x hx), ?_, fun k k0 k1 => ?_⟩ (by dsimp only; omega)
    · refine TS_eq h2 (fun k _ _ => ?_) (a1 _ (by omega)) (fun k k0 k1 => ?_)
      · show A T k = _
        rw [a1 T (by omega)]
      · show A (pc T k) 0 = _
        by_cases e : k = i
        · rw [e]; exact a2
        · rw [a1 _ (pc_ne k0 i0 e)]
    · have k1 : k < i + 1 := k1
      show A (pc T k) 2 = -1 ∧ ¬ A (pc T k) 1 = 1
      by_cases e : k = i
      · rw [e, a3, a4]; omega
      · rw [a1 _ (pc_ne k0 i0 e)]; exact h3 k k0 (by omega)
  · rw [jT_reset_35, TS_0 h2, ← pc_0, if_pos (kdp hT (by omega))]
    have b0 := pc_b (T := T) (i := 0) (by omega)
    refine W_bdN tP_become (fun _ A hA => ?_)
    obtain ⟨a1, a2, a3, a4⟩ := hA
    refine lx_49 ⟨fun x hx => (a1 x (by omega)).trans (h1 x hx), TS_eq h2 (fun k _ _ => by rw [a1 T (by omega)]) (a1 _ (by omega)) (fun k k0 k1 => ?_), fun k k0 k1 => ?_⟩ hT
    · by_cases e : k = 0
      · rw [e]; exact a2
      · rw [a1 _ (pc_ne k0 (by omega) e)]
    · by_cases e : k = 0
      · rw [e, a3, a4]; omega
      · rw [a1 _ (pc_ne k0 (by omega) e)]; exact h3 k k0 (by omega)
/-- the object -/
def CS (g : gH) : Prop := (g 0 0 = 1 ∧ g 0 1 = 45 ∧ g 0 2 = 89 ∧ g 0 3 = 133 ∧ g 0 4 = 575 ∧ g 0 5 = 622) ∧ g 133 0 = 134 ∧ (∀ k, 0 ≤ k → k < 10 → g 134 k = 135 + 44 * k) ∧ g 575 0 = 576 ∧ g 575 1 = 578 ∧ g 576 0 = 577 ∧ g 622 0 = 623
def CInv (g : gH) : Prop := CS g ∧ (∀ T, isT T → TI g T) ∧ (0 ≤ g 576 1 ∧ g 576 1 ≤ 500)
/-- a call of the class that leaves the input's length alone -/
def CR (g G : gH) : Prop := CInv G ∧ (∀ x, 624 ≤ x → G x = g x) ∧ G 576 1 = g 576 1
theorem CR_r (h : CInv g) : CR g g := ⟨h, fun _ _ => rfl, rfl⟩
theorem CR_t (h1 : CR g G) (h2 : CR G H) : CR g H := ⟨h2.1, fun x hx => (h2.2.1 x hx).trans (h1.2.1 x hx), h2.2.2.trans h1.2.2⟩
theorem CR_IT (h : CR g G) (hT : isT T) (hi : IT T G H) : CR g H := by
  have o := out_Ts T hT
  have b := isT_b hT
  have b2 := (kd_Ts T hT).1.2.2.2.2.2.2.2.2.2
  obtain ⟨⟨⟨h1, h2, h3, h4, h5, h6, h7⟩, ht, hl⟩, hx, h8⟩ := h
  have e : ∀ x, ¬ (T ≤ x ∧ x < T + 44) → H x = G x := hi.2
  have e0 := e 0 (by omega)
  have e133 := e 133 (by omega)
  have e134 := e 134 (by omega)
  have e575 := e 575 (by omega)
  have e576 := e 576 (by omega)
  have e622 := e 622 (by omega)
  refine ⟨⟨⟨by rw [e0]; exact h1, by rw [e133]; exact h2, by rw [e134]; exact h3, by rw [e575]; exact h4, by rw [e575]; exact h5, by rw [e576]; exact h6, by rw [e622]; exact h7⟩, fun S hS => ?_, by rw [e576]; exact hl⟩, fun x x0 => (e x (by omega)).trans (hx x x0), by rw [e576]; exact h8⟩
  rcases dis_Ts T hT S hS with z | z
  · rw [← z]; exact hi.1
  · exact TI_F (ht S hS) (fun x x0 x1 => e x (by omega))
theorem CR_w (h : CR g G) (hab : (a = 0 ∧ b = 6) ∨ (a = 133 ∧ 1 ≤ b) ∨ (a = 622 ∧ 1 ≤ b) ∨ a = 623 ∨ a = 577 ∨ (a = 575 ∧ 2 ≤ b)) : CR g (pU G a b v) := by
  obtain ⟨⟨⟨h1, h2, h3, h4, h5, h6, h7⟩, ht, hl⟩, hx, h8⟩ := h
  have e : ∀ x y, ¬ (x = a ∧ y = b) → pU G a b v x y = G x y := fun x y z => by
    unfold pU
    rw [if_neg z]
  refine ⟨⟨⟨?_, ?_, fun k k0 k1 => ?_, ?_, ?_, ?_, ?_⟩, fun S hS => ?_, ?_⟩, fun x x0 => ?_, ?_⟩
  · rw [e 0 0 (by omega), e 0 1 (by omega), e 0 2 (by omega), e 0 3 (by omega), e 0 4 (by omega), e 0 5 (by omega)]; exact h1
  · rw [e _ _ (by omega)]; exact h2
  · rw [e _ _ (by omega)]; exact h3 k k0 k1
  · rw [e _ _ (by omega)]; exact h4
  · rw [e _ _ (by omega)]; exact h5
  · rw [e _ _ (by omega)]; exact h6
  · rw [e _ _ (by omega)]; exact h7
  · have o := out_Ts S hS
    have b := isT_b hS
    have b2 := (kd_Ts S hS).1.2.2.2.2.2.2.2.2.2
    exact TI_F (ht S hS) (fun x x0 x1 => pU_n (by omega))
  · rw [e _ _ (by omega)]; exact hl
  · rw [pU_n (by omega)]; exact hx x x0
  · rw [e _ _ (by omega)]; exact h8
theorem CR_T (h : CR g G) (hT : isT T) : TI G T := h.1.2.1 T hT
/-- a call of the class that leaves the input alone -/
def CO (g G : gH) : Prop := CInv G ∧ (∀ x, (575 ≤ x ∧ x ≤ 577) ∨ 624 ≤ x → G x = g x) ∧ G 576 1 = g 576 1
theorem CO_r (h : CInv g) : CO g g := ⟨h, fun _ _ => rfl, rfl⟩
theorem CO_t (h1 : CO g G) (h2 : CO G H) : CO g H := ⟨h2.1, fun x hx => (h2.2.1 x hx).trans (h1.2.1 x hx), h2.2.2.trans h1.2.2⟩
theorem CO_IT (h : CO g G) (hT : isT T) (hi : IT T G H) (hn : ¬ T = 578 := by omega) : CO g H := by
  have o := out_Ts T hT
  have b := isT_b hT
  have b2 := (kd_Ts T hT).1.2.2.2.2.2.2.2.2.2
  obtain ⟨⟨⟨h1, h2, h3, h4, h5, h6, h7⟩, ht, hl⟩, hx, h8⟩ := h
  have e : ∀ x, ¬ (T ≤ x ∧ x < T + 44) → H x = G x := hi.2
  have e0 := e 0 (by omega)
  have e133 := e 133 (by omega)
  have e134 := e 134 (by omega)
  have e575 := e 575 (by omega)
  have e576 := e 576 (by omega)
  have e622 := e 622 (by omega)
  refine ⟨⟨⟨by rw [e0]; exact h1, by rw [e133]; exact h2, by rw [e134]; exact h3, by rw [e575]; exact h4, by rw [e575]; exact h5, by rw [e576]; exact h6, by rw [e622]; exact h7⟩, fun S hS => ?_, by rw [e576]; exact hl⟩, fun x x0 => (e x (by omega)).trans (hx x x0), by rw [e576]; exact h8⟩
  rcases dis_Ts T hT S hS with z | z
  · rw [← z]; exact hi.1
  · exact TI_F (ht S hS) (fun x x0 x1 => e x (by omega))
theorem CO_w (h : CO g G) (hab : (a = 0 ∧ b = 6) ∨ (a = 133 ∧ 1 ≤ b) ∨ (a = 622 ∧ 1 ≤ b) ∨ a = 623) : CO g (pU G a b v) := by
  obtain ⟨⟨⟨h1, h2, h3, h4, h5, h6, h7⟩, ht, hl⟩, hx, h8⟩ := h
  have e : ∀ x y, ¬ (x = a ∧ y = b) → pU G a b v x y = G x y := fun x y z => by
    unfold pU
    rw [if_neg z]
  refine ⟨⟨⟨?_, ?_, fun k k0 k1 => ?_, ?_, ?_, ?_, ?_⟩, fun S hS => ?_, ?_⟩, fun x x0 => ?_, ?_⟩
  · rw [e 0 0 (by omega), e 0 1 (by omega), e 0 2 (by omega), e 0 3 (by omega), e 0 4 (by omega), e 0 5 (by omega)]; exact h1
  · rw [e _ _ (by omega)]; exact h2
  · rw [e _ _ (by omega)]; exact h3 k k0 k1
  · rw [e _ _ (by omega)]; exact h4
  · rw [e _ _ (by omega)]; exact h5
  · rw [e _ _ (by omega)]; exact h6
  · rw [e _ _ (by omega)]; exact h7
  · have o := out_Ts S hS
    have b := isT_b hS
    have b2 := (kd_Ts S hS).1.2.2.2.2.2.2.2.2.2
    exact TI_F (ht S hS) (fun x x0 x1 => pU_n (by omega))
  · rw [e _ _ (by omega)]; exact hl
  · rw [pU_n (by omega)]; exact hx x x0
  · rw [e _ _ (by omega)]; exact h8
theorem CO_T (h : CO g G) (hT : isT T) : TI G T := h.1.2.1 T hT
theorem CO_R (h : CO g G) : CR g G := ⟨h.1, fun x x0 => h.2.1 x (Or.inr x0), h.2.2⟩
theorem kd_133 : kd 133 = 0 := by decide +kernel
theorem kd_134 : kd 134 = 25 := by decide +kernel
theorem sz_134 : sz 134 = 10 := by decide +kernel
theorem tH_push (h : CO g G) : WN (fun _ H => CO g H ∧ ∀ x, x < 133 → H x = G x) (fH_push G 133 1) := by
  have l21 : ∀ K, CO g K → (∀ x, x < 133 → K x = G x) → 0 ≤ K 133 2 ∧ K 133 2 < 10 → WN (fun _ H => CO g H ∧ ∀ x, x < 133 → H x = G x) (jH_push_21 K 133 1) := by
    intro K h hx hk
    obtain ⟨⟨hs, -⟩, -⟩ := id h
    have hT := Tk hk
    rw [jH_push_21, hs.2.1, if_pos ⟨kd_134, hk.1, by rw [sz_134]; exact hk.2⟩, hs.2.2.1 _ hk.1 hk.2, if_pos (kdT hT)]
    refine W_bdN (tT_take (CO_T h hT).1 hT T1 (CO_T h T1) (by omega)) (fun _ A hA => ?_)
    have w := CO_IT h hT hA
    have e : ∀ x, x < 133 → A x = G x := fun x x1 => (hA.2 x (by omega)).trans (hx x x1)
    rw [bnd_s]
    refine W_ite (fun _ => ?_) (fun _ => WN_i ⟨CO_w w (by omega), fun x x1 => (pU_n (by omega)).trans (e x x1)⟩)
    rw [bnd_s]
    exact WN_i ⟨CO_w (CO_w w (by omega)) (by omega), fun x x1 => (pU_n (by omega)).trans ((pU_n (by omega)).trans (e x x1))⟩
  have l16 : WN (fun _ H => CO g H ∧ ∀ x, x < 133 → H x = G x) (jH_push_16 G 133 1) := by
    rw [jH_push_16, bnd_s]
    exact l21 _ (CO_w h (by omega)) (fun x x1 => pU_n (by omega)) (by rw [pU_s, u1_s]; omega)
  rw [fH_push]
  exact W_ite (fun _ => l16) (fun _ => W_ite (fun _ => l21 G h (fun _ _ => rfl) (by omega)) (fun _ => l16))
theorem tH_pop (h : CO g G) : WN (fun _ H => CO g H) (fH_pop G 133 1) := by
  have l31 : ∀ G, CO g G → 1 ≤ G 133 2 ∧ G 133 2 ≤ 10 → WN (fun _ H => CO g H) (jH_pop_31 G 133 1) := by
    intro G h hk
    rw [jH_pop_31, bnd_s, bnd_s, w32_r (by omega)]
    have w := CO_w (a := 133) (b := 1) (v := w32 (pU G 133 2 (G 133 2 - 1) 133 1 - 1)) (CO_w (a := 133) (b := 2) (v := G 133 2 - 1) h (by omega)) (by omega)
    have e : pU (pU G 133 2 (G 133 2 - 1)) 133 1 (w32 (pU G 133 2 (G 133 2 - 1) 133 1 - 1)) 133 2 = G 133 2 - 1 := by rw [pU_y (by omega), pU_s, u1_s]
    generalize pU (pU G 133 2 (G 133 2 - 1)) 133 1 (w32 (pU G 133 2 (G 133 2 - 1) 133 1 - 1)) = A at *
    obtain ⟨⟨hs, -⟩, -⟩ := id w
    have hT := Tk (k := G 133 2 - 1) (by omega)
    rw [hs.2.1, e, if_pos ⟨kd_134, by omega, by rw [sz_134]; omega⟩, hs.2.2.1 _ (by omega) (by omega), if_pos (kdT T1)]
    exact W_bdN (tT_take (CO_T w T1).1 T1 hT (CO_T w hT) (by omega)) (fun _ B hB => WN_i (CO_IT w T1 hB))
  have l25 : WN (fun _ H => CO g H) (jH_pop_25 G 133 1) := by
    rw [jH_pop_25, bnd_s]
    exact l31 _ (CO_w h (by omega)) (by rw [pU_s, u1_s]; omega)
  rw [fH_pop]
  exact W_ite (fun _ => WN_i h) (fun _ => W_ite (fun _ => W_ite (fun _ => l25) (fun _ => l31 G h (by omega))) (fun _ => l25))
end CLS9
/-! ===== the class: its output (own work) ===== -/
section CLS10
variable {g g' G H K : gH} {T S i j k a b c v w d o p q r s m x y : Int}
/-- only the output is written -/
def OO (g G : gH) : Prop := (∀ x, ¬ (x = 622 ∨ x = 623) → G x = g x) ∧ G 622 0 = 623
theorem OO_t (h1 : OO g G) (h2 : OO G H) : OO g H := ⟨fun x hx => (h2.1 x hx).trans (h1.1 x hx), h2.2⟩
theorem OO_w (h : OO g G) (hab : (a = 622 ∧ ¬ b = 0) ∨ a = 623) : OO g (pU G a b v) := by
  refine ⟨fun x hx => (pU_n (by omega)).trans (h.1 x hx), ?_⟩
  unfold pU
  rw [if_neg (by omega)]
  exact h.2
theorem OO_T (h : OO g G) (hT : isT T) (ht : TI g T) : TI G T := by
  have o := out_Ts T hT
  exact TI_F ht (fun x x0 x1 => h.1 x (by omega))
theorem OO_p (h : OO g G) (hT : isT T) (hp : Pa T c) : G c = g c := by
  have o := out_Ts T hT
  have b := Pa_b hp
  exact h.1 c (by omega)
theorem CO_OO (h : CO g G) (ho : OO G H) : CO g H := by
  obtain ⟨⟨⟨h1, h2, h3, h4, h5, h6, h7⟩, ht, hl⟩, hx, h8⟩ := h
  have e := ho.1
  have e0 := e 0 (by omega)
  have e133 := e 133 (by omega)
  have e134 := e 134 (by omega)
  have e575 := e 575 (by omega)
  have e576 := e 576 (by omega)
  refine ⟨⟨⟨by rw [e0]; exact h1, by rw [e133]; exact h2, by rw [e134]; exact h3, by rw [e575]; exact h4, by rw [e575]; exact h5, by rw [e576]; exact h6, ho.2⟩, fun S hS => OO_T ho hS (ht S hS), by rw [e576]; exact hl⟩, fun x x0 => (e x (by omega)).trans (hx x x0), by rw [e576]; exact h8⟩
theorem kd_622 : kd 622 = 2 := by decide +kernel
theorem kd_623 : kd 623 = 21 := by decide +kernel
theorem sz_623 : sz 623 = 300 := by decide +kernel
theorem tO_putSign (h : OO g G) : WN (fun _ H => OO g H) (fO_putSign G 622 v) := by
  rw [fO_putSign, h.2]
  refine W_ite (fun _ => WN_i h) (fun _ => W_ite (fun _ => ?_) (fun _ => WN_i h))
  rw [if_pos ⟨kd_623, by omega, by rw [sz_623]; omega⟩, bnd_s, bnd_s]
  exact WN_i (OO_w (OO_w h (by omega)) (by omega))
theorem tO_putNumber (h : OO g G) (hv : 0 ≤ v ∧ v < 2147483648) : WN (fun _ H => OO g H) (fO_putNumber G 622 v) := by
  have l : ∀ G, OO g G → WN (fun _ H => OO g H) (jO_putNumber_18 G 622 v) := by
    intro G h
    have dv : 0 ≤ v / 10 ∧ v / 10 < 2147483648 := by omega
    rw [jO_putNumber_18]
    simp only [show ((1 : Int) ≤ 10 ∧ (10 : Int) < 2147483648 ∧ 0 ≤ v ∧ v < 2147483648) = True by simp; omega, show ((1 : Int) ≤ 10 ∧ (10 : Int) < 2147483648 ∧ 0 ≤ v / 10 ∧ v / 10 < 2147483648) = True by simp; omega, if_true]
    exact W_ite (fun _ => W_bdN (tO_putSign h) (fun _ A hA => WN_i hA)) (fun _ => W_bdN (tO_putSign h) (fun _ A hA => W_bdN (tO_putSign hA) (fun _ B hB => WN_i hB)))
  rw [fO_putNumber]
  refine W_ite (fun _ => l G h) (fun _ => ?_)
  rw [if_pos (by omega)]
  exact W_bdN (tO_putSign h) (fun _ A hA => l A hA)
theorem tO_putComma (h : OO g G) : WN (fun _ H => OO g H) (fO_putComma G 622) := by
  rw [fO_putComma]
  exact W_ite (fun _ => W_bdN (tO_putSign h) (fun _ A hA => WN_i hA)) (fun _ => WN_i h)
theorem num_ (ht : TI g T) (hp : Pa T c) : 0 ≤ g c 0 ∧ g c 0 < 2147483648 := by
  obtain ⟨i, hi, rfl⟩ := hp
  rw [TS_n ht.1 hi]
  omega
theorem tO_putPath (ht : TI g T) (hT : isT T) (h : OO g G) (hp : Pa T c) : WN (fun _ H => OO g H) (fO_putPath G 622 c) := by
  have hfu := fu_ge
  rw [fO_putPath, if_pos (Pa_kd hT hp)]
  refine W_bdP (tP_countAbove (OO_T h hT ht) hT hp) (fun v hv => ?_)
  refine W_loop (W := WN (fun _ G => OO g G)) (fun n (a : Int × gH) => lO_putPath_5 622 c n a.1 a.2) (fun a => a.1.toNat) (fun a => (0 ≤ a.1 ∧ a.1 ≤ 40) ∧ OO g a.2) ?_ fu (v, G) ⟨by dsimp only; omega, h⟩ (by dsimp only; omega)
  clear h
  rintro n ⟨u, G⟩ hI ih
  have u0 : 0 ≤ u := hI.1.1
  have u1 : u ≤ 40 := hI.1.2
  have h : OO g G := hI.2
  have hg := OO_T h hT ht
  show WN _ (bO_putPath_5 622 c (lO_putPath_5 622 c n) u G)
  rw [bO_putPath_5]
  refine W_ite (fun hu => ?_) (fun _ => ?_)
  · have l38 : ∀ e, Pa T e → WN (fun _ H => OO g H) (jO_putPath_38 (lO_putPath_5 622 c n) G 622 c u e) := by
      intro e he
      rw [jO_putPath_38, if_pos (Pa_kd hT he)]
      refine W_bdN (tO_putNumber h (num_ hg he)) (fun _ A hA => W_bdN (tO_putSign hA) (fun _ B hB => ?_))
      rw [w32_r (by omega)]
      exact ih (u + (-1), B) ⟨by dsimp only; omega, hB⟩ (by dsimp only; omega)
    refine W_loop (W := WN (fun _ G => OO g G)) (fun m (a : Int × Int) => lO_putPath_14 (lO_putPath_5 622 c n) G 622 c u m a.1 a.2) (fun a => (u - a.2).toNat) (fun a => Pa T a.1 ∧ 0 ≤ a.2) ?_ fu (c, 0) ⟨hp, by dsimp only; omega⟩ (by dsimp only; omega)
    rintro m ⟨e, j⟩ hJ jh
    have he : Pa T e := hJ.1
    have j0 : 0 ≤ j := hJ.2
    show WN _ (bO_putPath_14 (lO_putPath_5 622 c n) G 622 c u (lO_putPath_14 (lO_putPath_5 622 c n) G 622 c u m) e j)
    rw [bO_putPath_14]
    refine W_ite (fun hj => ?_) (fun _ => l38 e he)
    rw [if_pos (Pa_kd hT he)]
    refine W_ite (fun _ => l38 e he) (fun hn => ?_)
    rw [w32_r (by omega)]
    refine jh (G e 2, j + 1) ⟨?_, by dsimp only; omega⟩ (by dsimp only; omega)
    rcases sup_a hg he with z | z
    · exact absurd (by omega) hn
    · exact z
  · rw [if_pos (Pa_kd hT hp)]
    exact W_bdN (tO_putNumber h (num_ hg hp)) (fun _ A hA => WN_i hA)
theorem tO_putChildren (ht : TI g T) (hT : isT T) (h : OO g G) : WN (fun _ H => OO g H) (fO_putChildren G 622 T c) := by
  have hfu := fu_ge
  rw [fO_putChildren, if_pos (kdT hT), TS_1 (OO_T h hT ht).1, if_pos (kdT2 hT), szT2 hT]
  refine W_loop (W := WN (fun _ G => OO g G)) (fun n (a : Int × gH) => lO_putChildren_12 622 c (T + 2) 40 n a.1 a.2) (fun a => (40 - a.1).toNat) (fun a => (0 ≤ a.1 ∧ a.1 ≤ 40) ∧ OO g a.2) ?_ fu (0, G) ⟨by dsimp only; omega, h⟩ (by dsimp only; omega)
  clear h
  rintro n ⟨k, G⟩ hI ih
  have k0 : 0 ≤ k := hI.1.1
  have h : OO g G := hI.2
  have hg := OO_T h hT ht
  show WN _ (bO_putChildren_12 622 c (T + 2) 40 (lO_putChildren_12 622 c (T + 2) 40 n) k G)
  rw [bO_putChildren_12]
  refine W_ite (fun hk => ?_) (fun _ => WN_i h)
  have hk : 0 ≤ k ∧ k < 40 := ⟨k0, hk⟩
  have pa : Pa T (pc T k) := ⟨k, hk, rfl⟩
  have nx : ∀ G', OO g G' → WN (fun _ G => OO g G) (lO_putChildren_12 622 c (T + 2) 40 n (w32 (k + 1)) G') := fun G' h1 => by rw [w32_r (by omega)]; exact ih (k + 1, G') ⟨by dsimp only; omega, h1⟩ (by dsimp only; omega)
  simp only [TS_p hg.1 hk, kdp hT hk, kdT2 hT, szT2 hT, hk.1, hk.2, if_true, true_and, and_self]
  exact W_bdP tP_isRunningChildOf (fun _ _ => W_ite (fun _ => nx _ h) (fun _ => W_bdN (tO_putComma h) (fun _ A hA => W_bdN (tO_putNumber hA (num_ (OO_T hA hT ht) pa)) (fun _ B hB => nx B hB))))
theorem tT_dutiesOf (h : TI g T) (hT : isT T) (hp : Pa T c) : WP (fun _ => True) (fT_dutiesOf g T c) := by
  have hfu := fu_ge
  rw [fT_dutiesOf]
  refine W_loop (W := WP (fun _ => True)) (fun n (a : Int × Int) => lT_dutiesOf_4 g T c n a.1 a.2) (fun a => (8 - a.2).toNat) (fun a => (0 ≤ a.2 ∧ a.2 ≤ 8)) ?_ fu (0, 0) (by dsimp only; omega) (by dsimp only; omega)
  rintro n ⟨x, i⟩ hI ih
  have i0 : 0 ≤ i := hI.1
  show WP _ (bT_dutiesOf_4 g T c (lT_dutiesOf_4 g T c n) x i)
  rw [bT_dutiesOf_4]
  refine W_ite (fun hi => ?_) (fun _ => WP_i trivial)
  have nx : ∀ x', WP (fun _ => True) (lT_dutiesOf_4 g T c n x' (w32 (i + 1))) := fun x' => by rw [w32_r (by omega)]; exact ih (x', i + 1) (by dsimp only; omega) (by dsimp only; omega)
  rw [TS_2 h.1, if_pos ⟨kdT3 hT, i0, by rw [szT3 hT]; exact hi⟩, if_pos (Pa_kd hT hp)]
  exact W_ite (fun _ => nx _) (fun _ => nx _)
theorem tP_willMask : WP (fun _ => True) (fP_willMask g c) := by
  have hfu := fu_ge
  rw [fP_willMask]
  refine W_loop (W := WP (fun _ => True)) (fun n (a : Int × Int) => lP_willMask_4 g c n a.1 a.2) (fun a => (8 - a.2).toNat) (fun a => (0 ≤ a.2 ∧ a.2 ≤ 8)) ?_ fu (0, 0) (by dsimp only; omega) (by dsimp only; omega)
  rintro n ⟨x, i⟩ hI ih
  have i0 : 0 ≤ i := hI.1
  show WP _ (bP_willMask_4 g c (lP_willMask_4 g c n) x i)
  rw [bP_willMask_4]
  refine W_ite (fun hi => ?_) (fun _ => WP_i trivial)
  have nx : ∀ x', WP (fun _ => True) (lP_willMask_4 g c n x' (w32 (i + 1))) := fun x' => by rw [w32_r (by omega)]; exact ih (x', i + 1) (by dsimp only; omega) (by dsimp only; omega)
  exact W_bdP tP_willFor (fun _ _ => W_ite (fun _ => nx _) (fun _ => nx _))
theorem tO_putDuties (ht : TI g T) (hT : isT T) (h : OO g G) (hp : Pa T c) : WN (fun _ H => OO g H) (fO_putDuties G 622 T c) := by
  have hfu := fu_ge
  rw [fO_putDuties, if_pos (kdT hT)]
  refine W_bdP (tT_dutiesOf (OO_T h hT ht) hT hp) (fun y _ => ?_)
  refine W_loop (W := WN (fun _ G => OO g G)) (fun n (a : Int × gH) => lO_putDuties_9 622 y n a.1 a.2) (fun a => (8 - a.1).toNat) (fun a => (0 ≤ a.1 ∧ a.1 ≤ 8) ∧ OO g a.2) ?_ fu (0, G) ⟨by dsimp only; omega, h⟩ (by dsimp only; omega)
  clear h
  rintro n ⟨k, G⟩ hI ih
  have k0 : 0 ≤ k := hI.1.1
  have h : OO g G := hI.2
  show WN _ (bO_putDuties_9 622 y (lO_putDuties_9 622 y n) k G)
  rw [bO_putDuties_9]
  refine W_ite (fun hk => ?_) (fun _ => WN_i h)
  have nx : ∀ G', OO g G' → WN (fun _ G => OO g G) (lO_putDuties_9 622 y n (w32 (k + 1)) G') := fun G' h1 => by rw [w32_r (by omega)]; exact ih (k + 1, G') ⟨by dsimp only; omega, h1⟩ (by dsimp only; omega)
  exact W_ite (fun _ => nx _ h) (fun _ => W_bdN (tO_putNumber h (by omega)) (fun _ A hA => nx _ hA))
theorem tO_putZombies (ht : TI g T) (hT : isT T) (h : OO g G) : WN (fun _ H => OO g H) (fO_putZombies G 622 T c) := by
  have hfu := fu_ge
  rw [fO_putZombies, if_pos (kdT hT)]
  refine W_bdP (tT_zombieBehind (OO_T h hT ht) hT) (fun y hy => ?_)
  refine W_loop (W := WN (fun _ G => OO g G)) (fun n (a : Int × Int × gH) => lO_putZombies_10 622 T c n a.1 a.2.1 a.2.2) (fun a => (40 - a.2.1).toNat) (fun a => (0 ≤ a.2.1 ∧ a.2.1 ≤ 40) ∧ OO g a.2.2 ∧ (a.1 = -1 ∨ (Pa T a.1 ∧ a.2.2 a.1 1 = 1))) ?_ fu (y, 0, G) ⟨by dsimp only; omega, h, hy⟩ (by dsimp only; omega)
  clear h hy
  rintro n ⟨z, k, G⟩ hI ih
  have k0 : 0 ≤ k := hI.1.1
  have h : OO g G := hI.2.1
  have hz : z = -1 ∨ (Pa T z ∧ G z 1 = 1) := hI.2.2
  show WN _ (bO_putZombies_10 622 T c (lO_putZombies_10 622 T c n) z k G)
  rw [bO_putZombies_10]
  refine W_ite (fun hk => W_ite (fun _ => WN_i h) (fun hn => ?_)) (fun _ => WN_i h)
  have hz : Pa T z ∧ G z 1 = 1 := by
    rcases hz with e | e
    · exact absurd (by omega) hn
    · exact e
  refine W_bdN (tO_putComma h) (fun _ A hA => ?_)
  rw [if_pos (Pa_kd hT hz.1)]
  refine W_bdN (tO_putNumber hA (num_ (OO_T hA hT ht) hz.1)) (fun _ B hB => W_bdN (tO_putSign hB) (fun _ C hC => ?_))
  have hc : 0 ≤ C z 9 ∧ C z 9 < 2147483648 := by
    rw [OO_p hC hT hz.1, ← OO_p h hT hz.1]
    obtain ⟨⟨i, hi, e⟩, z1⟩ := hz
    rw [e] at z1 ⊢
    exact (OO_T h hT ht).2.2.2.2.2.2 i hi.1 hi.2 z1
  refine W_bdN (tO_putNumber hC hc) (fun _ D hD => ?_)
  rw [if_pos (kdT hT)]
  refine W_bdP (tT_zombieBehind (OO_T hD hT ht) hT) (fun y hy => ?_)
  rw [w32_r (by omega)]
  exact ih (y, k + 1, D) ⟨by dsimp only; omega, hD, hy⟩ (by dsimp only; omega)
theorem tC_putBranch (ht : TI g T) (hT : isT T) : ∀ (n : Nat) (l c : Int) (G : gH), OO g G → Pa T c → 0 ≤ l → (41 - l).toNat < n → WN (fun _ H => OO g H) (fC_putBranch n G 622 T c l) := by
  have hfu := fu_ge
  intro n
  induction n with
  | zero => intro l c G _ _ _ h; exact absurd h (by omega)
  | succ n ih0 =>
    intro l c G h hp hl hn
    show WN _ (fbC_putBranch (fC_putBranch n) G 622 T c l)
    rw [fbC_putBranch, if_pos (Pa_kd hT hp), if_pos kd_622]
    refine W_bdN (tO_putNumber h (num_ (OO_T h hT ht) hp)) (fun _ A hA => W_ite (fun _ => WN_i hA) (fun _ => W_ite (fun hl2 => ?_) (fun _ => WN_i hA)))
    rw [if_pos (kdT hT), TS_1 (OO_T hA hT ht).1, if_pos (kdT2 hT), szT2 hT]
    refine W_loop (W := WN (fun _ G => OO g G)) (fun m (a : Int × Int × gH) => lC_putBranch_40 (fC_putBranch n) 622 T c l (T + 2) 40 m a.1 a.2.1 a.2.2) (fun a => (40 - a.2.1).toNat) (fun a => (0 ≤ a.2.1 ∧ a.2.1 ≤ 40) ∧ OO g a.2.2) ?_ fu (40, 0, A) ⟨by dsimp only; omega, hA⟩ (by dsimp only; omega)
    clear h hA
    rintro m ⟨x, k, G⟩ hI ih
    have k0 : 0 ≤ k := hI.1.1
    have h : OO g G := hI.2
    have hg := OO_T h hT ht
    show WN _ (bC_putBranch_40 (fC_putBranch n) 622 T c l (T + 2) 40 (lC_putBranch_40 (fC_putBranch n) 622 T c l (T + 2) 40 m) x k G)
    rw [bC_putBranch_40]
    simp only [kd_622, if_true]
    refine W_ite (fun hk => ?_) (fun hk => ?_)
    case' refine_2 =>
      obtain ⟨v', A, e, hA⟩ := tO_putSign (v := 41) h
      rw [e, bdN_s]
      exact WN_i hA
    have hk : 0 ≤ k ∧ k < 40 := ⟨k0, hk⟩
    have pa : Pa T (pc T k) := ⟨k, hk, rfl⟩
    have nx : ∀ x' G', OO g G' → WN (fun _ G => OO g G) (lC_putBranch_40 (fC_putBranch n) 622 T c l (T + 2) 40 m x' (w32 (k + 1)) G') := fun x' G' h1 => by rw [w32_r (by omega)]; exact ih (x', k + 1, G') ⟨by dsimp only; omega, h1⟩ (by dsimp only; omega)
    simp only [TS_p hg.1 hk, kdp hT hk, kdT2 hT, szT2 hT, hk.1, hk.2, kd_622, if_true, true_and, and_self]
    refine W_bdP tP_isRunningChildOf (fun _ _ => W_ite (fun _ => nx _ _ h) (fun _ => ?_))
    refine W_bdN (tO_putSign h) (fun _ B hB => ?_)
    rw [w32_r (x := l + 1) (by omega)]
    exact W_bdN (ih0 (l + 1) _ B hB pa (by omega) (by omega)) (fun _ C hC => nx _ _ hC)
end CLS10
