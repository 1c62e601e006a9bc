/-! ===== the class's trees: questions over all processes (own work, by program: wip/p2/gen_cls.py) ===== -/
section CLS3
variable {g g' G H K : gH} {T S j k a b c v w d p q s m y : Int}
theorem tT_countInState (h : TI g T) (hT : isT T) : WP (fun _ => True) (fT_countInState g T w) := by
  have hs := h.1
  have hf := fu_ge
  have hc := h.2.1
  rw [fT_countInState, TS_1 hs, if_pos (kdT2 hT), szT2 hT]
  refine W_loop (W := WP (fun _ => True)) (fun n (a : Int × Int) => lT_countInState_14 g w (T + 2) 40 n a.1 a.2) (fun a => (40 - a.2).toNat) (fun a => (0 ≤ a.2 ∧ a.2 ≤ 40) ∧ True) ?_ fu (0, 0) ⟨⟨by show (0 : Int) ≤ 0; omega, by show (0 : Int) ≤ 40; omega⟩, trivial⟩ (by show (40 - (0 : Int)).toNat < fu; omega)
  rintro n ⟨x, i⟩ hI ih
  have i0 : 0 ≤ i := hI.1.1
  have i1 : i ≤ 40 := hI.1.2
  show WP (fun _ => True) (bT_countInState_14 g w (T + 2) 40 (lT_countInState_14 g w (T + 2) 40 n) x i)
  rw [bT_countInState_14]
  refine W_ite (fun hi => ?_) (fun _ => WP_i trivial)
  have hi : 0 ≤ i ∧ i < 40 := ⟨i0, hi⟩
  have nx : ∀ x', WP (fun _ => True) (lT_countInState_14 g w (T + 2) 40 n x' (w32 (i + 1))) := fun x' => by rw [w32_r (by omega)]; exact ih (x', i + 1) ⟨by dsimp only; omega, trivial⟩ (by dsimp only; omega)
  have pa : Pa T (pc T i) := ⟨i, hi, rfl⟩
  simp only [TS_p hs hi, TS_n hs hi, kdp hT hi, kdT2 hT, szT2 hT, hi.1, hi.2, if_true, true_and, and_self]
  repeat' first | exact WP_i trivial | exact nx _ | refine W_bdP tP_isRunning (fun _ _ => ?_) | refine W_bdP tP_isZombieOf (fun _ _ => ?_) | refine W_bdP tP_isRunningChildOf (fun _ _ => ?_) | refine W_bdP (tP_countAbove h hT pa) (fun _ _ => ?_) | refine W_bdP (tP_isOver h hT hp pa) (fun _ _ => ?_) | refine W_bdP tP_room (fun _ _ => ?_) | refine W_ite (fun _ => ?_) (fun _ => ?_)
theorem tT_countBelow (h : TI g T) (hT : isT T) (hp : Pa T c) : WP (fun _ => True) (fT_countBelow g T c w) := by
  have hs := h.1
  have hf := fu_ge
  have hc := h.2.1
  rw [fT_countBelow, TS_1 hs, if_pos (kdT2 hT), szT2 hT]
  refine W_loop (W := WP (fun _ => True)) (fun n (a : Int × Int) => lT_countBelow_16 g c w (T + 2) 40 n a.1 a.2) (fun a => (40 - a.2).toNat) (fun a => (0 ≤ a.2 ∧ a.2 ≤ 40) ∧ True) ?_ fu (0, 0) ⟨⟨by show (0 : Int) ≤ 0; omega, by show (0 : Int) ≤ 40; omega⟩, trivial⟩ (by show (40 - (0 : Int)).toNat < fu; omega)
  rintro n ⟨x, i⟩ hI ih
  have i0 : 0 ≤ i := hI.1.1
  have i1 : i ≤ 40 := hI.1.2
  show WP (fun _ => True) (bT_countBelow_16 g c w (T + 2) 40 (lT_countBelow_16 g c w (T + 2) 40 n) x i)
  rw [bT_countBelow_16]
  refine W_ite (fun hi => ?_) (fun _ => WP_i trivial)
  have hi : 0 ≤ i ∧ i < 40 := ⟨i0, hi⟩
  have nx : ∀ x', WP (fun _ => True) (lT_countBelow_16 g c w (T + 2) 40 n x' (w32 (i + 1))) := fun x' => by rw [w32_r (by omega)]; exact ih (x', i + 1) ⟨by dsimp only; omega, trivial⟩ (by dsimp only; omega)
  have pa : Pa T (pc T i) := ⟨i, hi, rfl⟩
  simp only [TS_p hs hi, TS_n hs hi, kdp hT hi, kdT2 hT, szT2 hT, hi.1, hi.2, if_true, true_and, and_self]
  simp only [Pa_kd hT hp, if_true]
  repeat' first | exact WP_i trivial | exact nx _ | refine W_bdP tP_isRunning (fun _ _ => ?_) | refine W_bdP tP_isZombieOf (fun _ _ => ?_) | refine W_bdP tP_isRunningChildOf (fun _ _ => ?_) | refine W_bdP (tP_countAbove h hT pa) (fun _ _ => ?_) | refine W_bdP (tP_isOver h hT hp pa) (fun _ _ => ?_) | refine W_bdP tP_room (fun _ _ => ?_) | refine W_ite (fun _ => ?_) (fun _ => ?_)
theorem tT_countZombiesOf (h : TI g T) (hT : isT T) : WP (fun _ => True) (fT_countZombiesOf g T c) := by
  have hs := h.1
  have hf := fu_ge
  have hc := h.2.1
  rw [fT_countZombiesOf, TS_1 hs, if_pos (kdT2 hT), szT2 hT]
  refine W_loop (W := WP (fun _ => True)) (fun n (a : Int × Int) => lT_countZombiesOf_14 g c (T + 2) 40 n a.1 a.2) (fun a => (40 - a.2).toNat) (fun a => (0 ≤ a.2 ∧ a.2 ≤ 40) ∧ True) ?_ fu (0, 0) ⟨⟨by show (0 : Int) ≤ 0; omega, by show (0 : Int) ≤ 40; omega⟩, trivial⟩ (by show (40 - (0 : Int)).toNat < fu; omega)
  rintro n ⟨x, i⟩ hI ih
  have i0 : 0 ≤ i := hI.1.1
  have i1 : i ≤ 40 := hI.1.2
  show WP (fun _ => True) (bT_countZombiesOf_14 g c (T + 2) 40 (lT_countZombiesOf_14 g c (T + 2) 40 n) x i)
  rw [bT_countZombiesOf_14]
  refine W_ite (fun hi => ?_) (fun _ => WP_i trivial)
  have hi : 0 ≤ i ∧ i < 40 := ⟨i0, hi⟩
  have nx : ∀ x', WP (fun _ => True) (lT_countZombiesOf_14 g c (T + 2) 40 n x' (w32 (i + 1))) := fun x' => by rw [w32_r (by omega)]; exact ih (x', i + 1) ⟨by dsimp only; omega, trivial⟩ (by dsimp only; omega)
  have pa : Pa T (pc T i) := ⟨i, hi, rfl⟩
  simp only [TS_p hs hi, TS_n hs hi, kdp hT hi, kdT2 hT, szT2 hT, hi.1, hi.2, if_true, true_and, and_self]
  repeat' first | exact WP_i trivial | exact nx _ | refine W_bdP tP_isRunning (fun _ _ => ?_) | refine W_bdP tP_isZombieOf (fun _ _ => ?_) | refine W_bdP tP_isRunningChildOf (fun _ _ => ?_) | refine W_bdP (tP_countAbove h hT pa) (fun _ _ => ?_) | refine W_bdP (tP_isOver h hT hp pa) (fun _ _ => ?_) | refine W_bdP tP_room (fun _ _ => ?_) | refine W_ite (fun _ => ?_) (fun _ => ?_)
theorem tT_greatestDepth (h : TI g T) (hT : isT T) : WP (fun _ => True) (fT_greatestDepth g T) := by
  have hs := h.1
  have hf := fu_ge
  have hc := h.2.1
  rw [fT_greatestDepth, TS_1 hs, if_pos (kdT2 hT), szT2 hT]
  refine W_loop (W := WP (fun _ => True)) (fun n (a : Int × Int) => lT_greatestDepth_13 g (T + 2) 40 n a.1 a.2) (fun a => (40 - a.2).toNat) (fun a => (0 ≤ a.2 ∧ a.2 ≤ 40) ∧ True) ?_ fu (0, 0) ⟨⟨by show (0 : Int) ≤ 0; omega, by show (0 : Int) ≤ 40; omega⟩, trivial⟩ (by show (40 - (0 : Int)).toNat < fu; omega)
  rintro n ⟨x, i⟩ hI ih
  have i0 : 0 ≤ i := hI.1.1
  have i1 : i ≤ 40 := hI.1.2
  show WP (fun _ => True) (bT_greatestDepth_13 g (T + 2) 40 (lT_greatestDepth_13 g (T + 2) 40 n) x i)
  rw [bT_greatestDepth_13]
  refine W_ite (fun hi => ?_) (fun _ => WP_i trivial)
  have hi : 0 ≤ i ∧ i < 40 := ⟨i0, hi⟩
  have nx : ∀ x', WP (fun _ => True) (lT_greatestDepth_13 g (T + 2) 40 n x' (w32 (i + 1))) := fun x' => by rw [w32_r (by omega)]; exact ih (x', i + 1) ⟨by dsimp only; omega, trivial⟩ (by dsimp only; omega)
  have pa : Pa T (pc T i) := ⟨i, hi, rfl⟩
  simp only [TS_p hs hi, TS_n hs hi, kdp hT hi, kdT2 hT, szT2 hT, hi.1, hi.2, if_true, true_and, and_self]
  repeat' first | exact WP_i trivial | exact nx _ | refine W_bdP tP_isRunning (fun _ _ => ?_) | refine W_bdP tP_isZombieOf (fun _ _ => ?_) | refine W_bdP tP_isRunningChildOf (fun _ _ => ?_) | refine W_bdP (tP_countAbove h hT pa) (fun _ _ => ?_) | refine W_bdP (tP_isOver h hT hp pa) (fun _ _ => ?_) | refine W_bdP tP_room (fun _ _ => ?_) | refine W_ite (fun _ => ?_) (fun _ => ?_)
theorem tT_childBehind (h : TI g T) (hT : isT T) : WP (fun v => v = -1 ∨ Pa T v) (fT_childBehind g T c w) := by
  have hs := h.1
  have hf := fu_ge
  have hc := h.2.1
  rw [fT_childBehind, TS_1 hs, if_pos (kdT2 hT), szT2 hT]
  refine W_loop (W := WP (fun v => v = -1 ∨ Pa T v)) (fun n (a : Int) => lT_childBehind_12 g c w (T + 2) 40 n a) (fun a => (40 - a).toNat) (fun a => (0 ≤ a ∧ a ≤ 40) ∧ True) ?_ fu 0 ⟨⟨by show (0 : Int) ≤ 0; omega, by show (0 : Int) ≤ 40; omega⟩, trivial⟩ (by show (40 - (0 : Int)).toNat < fu; omega)
  intro n i hI ih
  have i0 : 0 ≤ i := hI.1.1
  have i1 : i ≤ 40 := hI.1.2
  show WP (fun v => v = -1 ∨ Pa T v) (bT_childBehind_12 g c w (T + 2) 40 (lT_childBehind_12 g c w (T + 2) 40 n)  i)
  rw [bT_childBehind_12]
  refine W_ite (fun hi => ?_) (fun _ => WP_i (Or.inl rfl))
  have hi : 0 ≤ i ∧ i < 40 := ⟨i0, hi⟩
  have nx : ∀ _u : Int, WP (fun v => v = -1 ∨ Pa T v) (lT_childBehind_12 g c w (T + 2) 40 n  (w32 (i + 1))) := fun _u => by rw [w32_r (by omega)]; exact ih (i + 1) ⟨by omega, trivial⟩ (by omega)
  have pa : Pa T (pc T i) := ⟨i, hi, rfl⟩
  simp only [TS_p hs hi, TS_n hs hi, kdp hT hi, kdT2 hT, szT2 hT, hi.1, hi.2, if_true, true_and, and_self]
  refine W_ite (fun _ => W_bdP tP_isRunningChildOf (fun _ _ => W_ite (fun _ => nx 0) (fun _ => WP_i (Or.inr pa)))) (fun _ => nx 0)
theorem tT_zombieBehind (h : TI g T) (hT : isT T) : WP (fun v => v = -1 ∨ (Pa T v ∧ g v 1 = 1)) (fT_zombieBehind g T c w) := by
  have hs := h.1
  have hf := fu_ge
  have hc := h.2.1
  rw [fT_zombieBehind, TS_1 hs, if_pos (kdT2 hT), szT2 hT]
  refine W_loop (W := WP (fun v => v = -1 ∨ (Pa T v ∧ g v 1 = 1))) (fun n (a : Int × Int) => lT_zombieBehind_16 g c w (T + 2) 40 n a.1 a.2) (fun a => (40 - a.2).toNat) (fun a => (0 ≤ a.2 ∧ a.2 ≤ 40) ∧ (a.1 = -1 ∨ (Pa T a.1 ∧ g a.1 1 = 1))) ?_ fu (-1, 0) ⟨⟨by show (0 : Int) ≤ 0; omega, by show (0 : Int) ≤ 40; omega⟩, Or.inl rfl⟩ (by show (40 - (0 : Int)).toNat < fu; omega)
  rintro n ⟨x, i⟩ hI ih
  have i0 : 0 ≤ i := hI.1.1
  have i1 : i ≤ 40 := hI.1.2
  have hv : (x = -1 ∨ (Pa T x ∧ g x 1 = 1)) := hI.2
  show WP (fun v => v = -1 ∨ (Pa T v ∧ g v 1 = 1)) (bT_zombieBehind_16 g c w (T + 2) 40 (lT_zombieBehind_16 g c w (T + 2) 40 n) x i)
  rw [bT_zombieBehind_16]
  refine W_ite (fun hi => ?_) (fun _ => WP_i hv)
  have hi : 0 ≤ i ∧ i < 40 := ⟨i0, hi⟩
  have nx : ∀ x', (x' = -1 ∨ (Pa T x' ∧ g x' 1 = 1)) → WP (fun v => v = -1 ∨ (Pa T v ∧ g v 1 = 1)) (lT_zombieBehind_16 g c w (T + 2) 40 n x' (w32 (i + 1))) := fun x' hv' => by rw [w32_r (by omega)]; exact ih (x', i + 1) ⟨by dsimp only; omega, hv'⟩ (by dsimp only; omega)
  have pa : Pa T (pc T i) := ⟨i, hi, rfl⟩
  simp only [TS_p hs hi, TS_n hs hi, kdp hT hi, kdT2 hT, szT2 hT, hi.1, hi.2, if_true, true_and, and_self]
  refine W_bdP tP_isZombieOf1 (fun y hy => W_ite (fun _ => nx x hv) (fun hz => W_ite (fun _ => W_ite (fun _ => nx _ (Or.inr ⟨pa, hy hz⟩)) (fun h3 => ?_)) (fun _ => nx x hv)))
  rcases hv with hv | hv
  · exact absurd (by omega) h3
  · rw [if_pos (Pa_kd hT hv.1)]
    exact W_ite (fun _ => nx _ (Or.inr ⟨pa, hy hz⟩)) (fun _ => nx x (Or.inr hv))
theorem tT_deepestBelow (h : TI g T) (hT : isT T) (hp : Pa T c) : WP (fun v => v = -1 ∨ Pa T v) (fT_deepestBelow g T c) := by
  have hs := h.1
  have hf := fu_ge
  have hc := h.2.1
  rw [fT_deepestBelow, TS_1 hs, if_pos (kdT2 hT), szT2 hT]
  refine W_loop (W := WP (fun v => v = -1 ∨ Pa T v)) (fun n (a : Int × Int) => lT_deepestBelow_14 g c (T + 2) 40 n a.1 a.2) (fun a => (40 - a.2).toNat) (fun a => (0 ≤ a.2 ∧ a.2 ≤ 40) ∧ (a.1 = -1 ∨ Pa T a.1)) ?_ fu (-1, 0) ⟨⟨by show (0 : Int) ≤ 0; omega, by show (0 : Int) ≤ 40; omega⟩, Or.inl rfl⟩ (by show (40 - (0 : Int)).toNat < fu; omega)
  rintro n ⟨x, i⟩ hI ih
  have i0 : 0 ≤ i := hI.1.1
  have i1 : i ≤ 40 := hI.1.2
  have hv : (x = -1 ∨ Pa T x) := hI.2
  show WP (fun v => v = -1 ∨ Pa T v) (bT_deepestBelow_14 g c (T + 2) 40 (lT_deepestBelow_14 g c (T + 2) 40 n) x i)
  rw [bT_deepestBelow_14]
  refine W_ite (fun hi => ?_) (fun _ => WP_i hv)
  have hi : 0 ≤ i ∧ i < 40 := ⟨i0, hi⟩
  have nx : ∀ x', (x' = -1 ∨ Pa T x') → WP (fun v => v = -1 ∨ Pa T v) (lT_deepestBelow_14 g c (T + 2) 40 n x' (w32 (i + 1))) := fun x' hv' => by rw [w32_r (by omega)]; exact ih (x', i + 1) ⟨by dsimp only; omega, hv'⟩ (by dsimp only; omega)
  have pa : Pa T (pc T i) := ⟨i, hi, rfl⟩
  simp only [TS_p hs hi, TS_n hs hi, kdp hT hi, kdT2 hT, szT2 hT, hi.1, hi.2, if_true, true_and, and_self]
  simp only [Pa_kd hT hp, if_true]
  refine W_bdP tP_isRunning (fun _ _ => W_ite (fun _ => nx x hv) (fun _ => W_bdP (tP_isOver h hT hp pa) (fun _ _ => W_ite (fun _ => nx x hv) (fun _ => W_ite (fun _ => nx _ (Or.inr pa)) (fun h3 => W_bdP (tP_countAbove h hT pa) (fun _ _ => ?_))))))
  rcases hv with hv | hv
  · exact absurd (by omega) h3
  · rw [if_pos (Pa_kd hT hv)]
    exact W_bdP (tP_countAbove h hT hv) (fun _ _ => W_ite (fun _ => nx x (Or.inr hv)) (fun _ => nx _ (Or.inr pa)))
end CLS3
