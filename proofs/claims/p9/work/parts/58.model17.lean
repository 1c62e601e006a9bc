/-! ===== the reference's questions: their loops end (own work; rows alike by program: wip/p2/gen_q.py) ===== -/
theorem for_any {S R : Type} {L : Nat → Int → S → Option R} {E : S → Option R} (lo hi : Int) (hstep : ∀ n k s, lo ≤ k → k < hi → ∃ s', L (n + 1) k s = L n (k + 1) s') (hend : ∀ n k s, lo ≤ k → ¬ k < hi → L (n + 1) k s = E s) : ∀ (k : Int) (s : S) (n : Nat), lo ≤ k → (hi - k).toNat < n → ∃ s', L n k s = E s' := by
  intro k s n hl hn
  obtain ⟨s', h, -⟩ := for_some (L := L) (E := E) hi (fun k _ => lo ≤ k) (fun n k s hk hI => by
    obtain ⟨s', h⟩ := hstep n k s hI hk
    exact ⟨s', h, by omega⟩) (fun n k s hk hI => hend n k s hI hk) (hi - k).toNat k s n rfl hn hl
  exact ⟨s', h⟩
theorem ex_ite {S R : Type} {c : Prop} [Decidable c] {A B : R} {f : S → R} (h1 : c → ∃ s, A = f s) (h2 : ¬ c → ∃ s, B = f s) : ∃ s, (if c then A else B) = f s := by
  split
  · next h => exact h1 h
  · next h => exact h2 h
section MODEL17
variable {g G : gH} {p code t c a b k q gp d : Int}
theorem q_inState (h : OKg g G) : ∃ v, lM_inState_4 G 624 a fu 0 0 = some v := by
  have hs := h.1.1
  have h0 := hs.1
  have w := h.1.2.1.1
  have hM := w.1
  exact for_any (L := fun n k v => lM_inState_4 G 624 a n v k) (E := some) 0 (G 625 0) (fun n k v hl hk => by
    have f1 := vM_runs (g := G) (p := k) hs (by omega)
    have f5 := fun a st => vM_isChild (g := G) (p := k) (a := a) (st := st) hs (by omega)
    have f6 := fun a st => vM_childrenOf (g := G) (a := a) (st := st) hs hM
    have hA := w.2.2.1 k (by omega) hk
    have f2 := vM_deep (g := G) (x := k) hs hA
    have f3 := fun p => vM_isOver (g := G) (p := p) (x := k) hs hA
    have f4 := vM_roomOf (g := G) (p := k) hs w (by omega)
    show ∃ s', bM_inState_4 G 624 a (lM_inState_4 G 624 a n) v k = _
    rw [bM_inState_4]
    simp (disch := omega) only [f1, f2, f3, f4, f5, f6, opI_mul, bdP_s, h0, kd_625, sz_625, w32_r, true_and, le_t, lt_t, and_true, ↓reduceIte]
    repeat' (first | exact ⟨_, rfl⟩ | refine ex_ite (fun _ => ?_) (fun _ => ?_))) (fun n k v hl hk => by
    show bM_inState_4 G 624 a (lM_inState_4 G 624 a n) v k = _
    rw [bM_inState_4]
    simp (disch := omega) only [h0, kd_625, sz_625, true_and, le_t, lt_t, lt_f, and_true, ↓reduceIte]) 0 0 fu (by omega) (by have := fu_ge; omega)
theorem q_dutiesOf (h : OKg g G) : ∃ v, lM_dutiesOf_4 G 624 p fu 0 0 = some v := by
  have hs := h.1.1
  have h0 := hs.1
  have w := h.1.2.1.1
  have hM := w.1
  exact for_any (L := fun n k v => lM_dutiesOf_4 G 624 p n v k) (E := some) 0 8 (fun n k v hl hk => by
    have f1 := vM_runs (g := G) (p := k) hs (by omega)
    have f5 := fun a st => vM_isChild (g := G) (p := k) (a := a) (st := st) hs (by omega)
    have f6 := fun a st => vM_childrenOf (g := G) (a := a) (st := st) hs hM
    show ∃ s', bM_dutiesOf_4 G 624 p (lM_dutiesOf_4 G 624 p n) v k = _
    rw [bM_dutiesOf_4]
    simp (disch := omega) only [f1, f5, f6, opI_mul, bdP_s, h0, kd_625, sz_625, w32_r, true_and, le_t, lt_t, and_true, ↓reduceIte]
    repeat' (first | exact ⟨_, rfl⟩ | refine ex_ite (fun _ => ?_) (fun _ => ?_))) (fun n k v hl hk => by
    show bM_dutiesOf_4 G 624 p (lM_dutiesOf_4 G 624 p n) v k = _
    rw [bM_dutiesOf_4]
    simp (disch := omega) only [h0, kd_625, sz_625, true_and, le_t, lt_t, lt_f, and_true, ↓reduceIte]) 0 0 fu (by omega) (by have := fu_ge; omega)
theorem q_willsOf (h : OKg g G) (hp : 0 ≤ p ∧ p < G 625 0) : ∃ v, lM_willsOf_4 G 624 p fu 0 0 = some v := by
  have hs := h.1.1
  have h0 := hs.1
  have w := h.1.2.1.1
  have hM := w.1
  exact for_any (L := fun n k v => lM_willsOf_4 G 624 p n v k) (E := some) 0 8 (fun n k v hl hk => by
    have f1 := vM_runs (g := G) (p := k) hs (by omega)
    have f5 := fun a st => vM_isChild (g := G) (p := k) (a := a) (st := st) hs (by omega)
    have f6 := fun a st => vM_childrenOf (g := G) (a := a) (st := st) hs hM
    show ∃ s', bM_willsOf_4 G 624 p (lM_willsOf_4 G 624 p n) v k = _
    rw [bM_willsOf_4]
    simp (disch := omega) only [f1, f5, f6, opI_mul, bdP_s, h0, kd_625, sz_625, w32_r, true_and, le_t, lt_t, and_true, ↓reduceIte]
    repeat' (first | exact ⟨_, rfl⟩ | refine ex_ite (fun _ => ?_) (fun _ => ?_))) (fun n k v hl hk => by
    show bM_willsOf_4 G 624 p (lM_willsOf_4 G 624 p n) v k = _
    rw [bM_willsOf_4]
    simp (disch := omega) only [h0, kd_625, sz_625, true_and, le_t, lt_t, lt_f, and_true, ↓reduceIte]) 0 0 fu (by omega) (by have := fu_ge; omega)
theorem q_belowOf (h : OKg g G) : ∃ v, lM_belowOf_4 G 624 p fu 0 1 = some v := by
  have hs := h.1.1
  have h0 := hs.1
  have w := h.1.2.1.1
  have hM := w.1
  exact for_any (L := fun n k v => lM_belowOf_4 G 624 p n v k) (E := some) 1 (G 625 0) (fun n k v hl hk => by
    have f1 := vM_runs (g := G) (p := k) hs (by omega)
    have f5 := fun a st => vM_isChild (g := G) (p := k) (a := a) (st := st) hs (by omega)
    have f6 := fun a st => vM_childrenOf (g := G) (a := a) (st := st) hs hM
    have hA := w.2.2.1 k (by omega) hk
    have f2 := vM_deep (g := G) (x := k) hs hA
    have f3 := fun p => vM_isOver (g := G) (p := p) (x := k) hs hA
    have f4 := vM_roomOf (g := G) (p := k) hs w (by omega)
    show ∃ s', bM_belowOf_4 G 624 p (lM_belowOf_4 G 624 p n) v k = _
    rw [bM_belowOf_4]
    simp (disch := omega) only [f1, f2, f3, f4, f5, f6, opI_mul, bdP_s, h0, kd_625, sz_625, w32_r, true_and, le_t, lt_t, and_true, ↓reduceIte]
    repeat' (first | exact ⟨_, rfl⟩ | refine ex_ite (fun _ => ?_) (fun _ => ?_))) (fun n k v hl hk => by
    show bM_belowOf_4 G 624 p (lM_belowOf_4 G 624 p n) v k = _
    rw [bM_belowOf_4]
    simp (disch := omega) only [h0, kd_625, sz_625, true_and, le_t, lt_t, lt_f, and_true, ↓reduceIte]) 1 0 fu (by omega) (by have := fu_ge; omega)
theorem q_highest (h : OKg g G) : ∃ v, lM_highest_4 G 624 fu 0 0 = some v := by
  have hs := h.1.1
  have h0 := hs.1
  have w := h.1.2.1.1
  have hM := w.1
  exact for_any (L := fun n k v => lM_highest_4 G 624 n v k) (E := some) 0 (G 625 0) (fun n k v hl hk => by
    have f1 := vM_runs (g := G) (p := k) hs (by omega)
    have f5 := fun a st => vM_isChild (g := G) (p := k) (a := a) (st := st) hs (by omega)
    have f6 := fun a st => vM_childrenOf (g := G) (a := a) (st := st) hs hM
    have hA := w.2.2.1 k (by omega) hk
    have f2 := vM_deep (g := G) (x := k) hs hA
    have f3 := fun p => vM_isOver (g := G) (p := p) (x := k) hs hA
    have f4 := vM_roomOf (g := G) (p := k) hs w (by omega)
    show ∃ s', bM_highest_4 G 624 (lM_highest_4 G 624 n) v k = _
    rw [bM_highest_4]
    simp (disch := omega) only [f1, f2, f3, f4, f5, f6, opI_mul, bdP_s, h0, kd_625, sz_625, w32_r, true_and, le_t, lt_t, and_true, ↓reduceIte]
    repeat' (first | exact ⟨_, rfl⟩ | refine ex_ite (fun _ => ?_) (fun _ => ?_))) (fun n k v hl hk => by
    show bM_highest_4 G 624 (lM_highest_4 G 624 n) v k = _
    rw [bM_highest_4]
    simp (disch := omega) only [h0, kd_625, sz_625, true_and, le_t, lt_t, lt_f, and_true, ↓reduceIte]) 0 0 fu (by omega) (by have := fu_ge; omega)
theorem q_atDepth (h : OKg g G) : ∃ v, lM_atDepth_9 G 624 d fu 0 0 = some (v, G) := by
  have hs := h.1.1
  have h0 := hs.1
  have w := h.1.2.1.1
  have hM := w.1
  exact for_any (L := fun n k v => lM_atDepth_9 G 624 d n v k) (E := fun v => some (v, G)) 0 (G 625 0) (fun n k v hl hk => by
    have f1 := vM_runs (g := G) (p := k) hs (by omega)
    have f5 := fun a st => vM_isChild (g := G) (p := k) (a := a) (st := st) hs (by omega)
    have f6 := fun a st => vM_childrenOf (g := G) (a := a) (st := st) hs hM
    have hA := w.2.2.1 k (by omega) hk
    have f2 := vM_deep (g := G) (x := k) hs hA
    have f3 := fun p => vM_isOver (g := G) (p := p) (x := k) hs hA
    have f4 := vM_roomOf (g := G) (p := k) hs w (by omega)
    show ∃ s', bM_atDepth_9 G 624 d (lM_atDepth_9 G 624 d n) v k = _
    rw [bM_atDepth_9]
    simp (disch := omega) only [f1, f2, f3, f4, f5, f6, opI_mul, bdP_s, h0, kd_625, sz_625, w32_r, true_and, le_t, lt_t, and_true, ↓reduceIte]
    repeat' (first | exact ⟨_, rfl⟩ | refine ex_ite (fun _ => ?_) (fun _ => ?_))) (fun n k v hl hk => by
    show bM_atDepth_9 G 624 d (lM_atDepth_9 G 624 d n) v k = _
    rw [bM_atDepth_9]
    simp (disch := omega) only [h0, kd_625, sz_625, true_and, le_t, lt_t, lt_f, and_true, ↓reduceIte]) 0 0 fu (by omega) (by have := fu_ge; omega)
theorem q_adopters (h : OKg g G) (hp : 0 ≤ p ∧ p < G 625 0) : ∃ v, lM_adopters_15 G 624 p fu 0 1 = some (v, G) := by
  have hs := h.1.1
  have h0 := hs.1
  have w := h.1.2.1.1
  have hM := w.1
  exact for_any (L := fun n k v => lM_adopters_15 G 624 p n v k) (E := fun v => some (v, G)) 1 (G 625 0) (fun n k v hl hk => by
    have f1 := vM_runs (g := G) (p := k) hs (by omega)
    have f5 := fun a st => vM_isChild (g := G) (p := k) (a := a) (st := st) hs (by omega)
    have f6 := fun a st => vM_childrenOf (g := G) (a := a) (st := st) hs hM
    have hA := w.2.2.1 k (by omega) hk
    have f2 := vM_deep (g := G) (x := k) hs hA
    have f3 := fun p => vM_isOver (g := G) (p := p) (x := k) hs hA
    have f4 := vM_roomOf (g := G) (p := k) hs w (by omega)
    have f7 := vM_canAdopt (g := G) (p := k) (o := p) hs w (by omega) hp
    show ∃ s', bM_adopters_15 G 624 p (lM_adopters_15 G 624 p n) v k = _
    rw [bM_adopters_15]
    simp (disch := omega) only [f1, f2, f3, f4, f5, f6, f7, opI_mul, bdP_s, h0, kd_625, sz_625, w32_r, true_and, le_t, lt_t, and_true, ↓reduceIte]
    repeat' (first | exact ⟨_, rfl⟩ | refine ex_ite (fun _ => ?_) (fun _ => ?_))) (fun n k v hl hk => by
    show bM_adopters_15 G 624 p (lM_adopters_15 G 624 p n) v k = _
    rw [bM_adopters_15]
    simp (disch := omega) only [h0, kd_625, sz_625, true_and, le_t, lt_t, lt_f, and_true, ↓reduceIte]) 1 0 fu (by omega) (by have := fu_ge; omega)
theorem q_allRoom (h : OKg g G) : ∃ v, lM_allRoom_9 G 624 fu 0 0 = some (v, G) := by
  have hs := h.1.1
  have h0 := hs.1
  have w := h.1.2.1.1
  have hM := w.1
  exact for_any (L := fun n k v => lM_allRoom_9 G 624 n v k) (E := fun v => some (v, G)) 0 (G 625 0) (fun n k v hl hk => by
    have f1 := vM_runs (g := G) (p := k) hs (by omega)
    have f5 := fun a st => vM_isChild (g := G) (p := k) (a := a) (st := st) hs (by omega)
    have f6 := fun a st => vM_childrenOf (g := G) (a := a) (st := st) hs hM
    have hA := w.2.2.1 k (by omega) hk
    have f2 := vM_deep (g := G) (x := k) hs hA
    have f3 := fun p => vM_isOver (g := G) (p := p) (x := k) hs hA
    have f4 := vM_roomOf (g := G) (p := k) hs w (by omega)
    show ∃ s', bM_allRoom_9 G 624 (lM_allRoom_9 G 624 n) v k = _
    rw [bM_allRoom_9]
    simp (disch := omega) only [f1, f2, f3, f4, f5, f6, opI_mul, bdP_s, h0, kd_625, sz_625, w32_r, true_and, le_t, lt_t, and_true, ↓reduceIte]
    repeat' (first | exact ⟨_, rfl⟩ | refine ex_ite (fun _ => ?_) (fun _ => ?_))) (fun n k v hl hk => by
    show bM_allRoom_9 G 624 (lM_allRoom_9 G 624 n) v k = _
    rw [bM_allRoom_9]
    simp (disch := omega) only [h0, kd_625, sz_625, true_and, le_t, lt_t, lt_f, and_true, ↓reduceIte]) 0 0 fu (by omega) (by have := fu_ge; omega)
theorem q_overfull (h : OKg g G) : ∃ v, lM_overfull_9 G 624 fu 0 0 = some (v, G) := by
  have hs := h.1.1
  have h0 := hs.1
  have w := h.1.2.1.1
  have hM := w.1
  exact for_any (L := fun n k v => lM_overfull_9 G 624 n v k) (E := fun v => some (v, G)) 0 (G 625 0) (fun n k v hl hk => by
    have f1 := vM_runs (g := G) (p := k) hs (by omega)
    have f5 := fun a st => vM_isChild (g := G) (p := k) (a := a) (st := st) hs (by omega)
    have f6 := fun a st => vM_childrenOf (g := G) (a := a) (st := st) hs hM
    have hA := w.2.2.1 k (by omega) hk
    have f2 := vM_deep (g := G) (x := k) hs hA
    have f3 := fun p => vM_isOver (g := G) (p := p) (x := k) hs hA
    have f4 := vM_roomOf (g := G) (p := k) hs w (by omega)
    show ∃ s', bM_overfull_9 G 624 (lM_overfull_9 G 624 n) v k = _
    rw [bM_overfull_9]
    simp (disch := omega) only [f1, f2, f3, f4, f5, f6, opI_mul, bdP_s, h0, kd_625, sz_625, w32_r, true_and, le_t, lt_t, and_true, ↓reduceIte]
    repeat' (first | exact ⟨_, rfl⟩ | refine ex_ite (fun _ => ?_) (fun _ => ?_))) (fun n k v hl hk => by
    show bM_overfull_9 G 624 (lM_overfull_9 G 624 n) v k = _
    rw [bM_overfull_9]
    simp (disch := omega) only [h0, kd_625, sz_625, true_and, le_t, lt_t, lt_f, and_true, ↓reduceIte]) 0 0 fu (by omega) (by have := fu_ge; omega)
theorem q_ofGroup (h : OKg g G) : ∃ v, lM_ofGroup_31 G 624 gp fu 0 0 = some (v, G) := by
  have hs := h.1.1
  have h0 := hs.1
  have w := h.1.2.1.1
  have hM := w.1
  exact for_any (L := fun n k v => lM_ofGroup_31 G 624 gp n v k) (E := fun v => some (v, G)) 0 (G 625 0) (fun n k v hl hk => by
    have f1 := vM_runs (g := G) (p := k) hs (by omega)
    have f5 := fun a st => vM_isChild (g := G) (p := k) (a := a) (st := st) hs (by omega)
    have f6 := fun a st => vM_childrenOf (g := G) (a := a) (st := st) hs hM
    have hA := w.2.2.1 k (by omega) hk
    have f2 := vM_deep (g := G) (x := k) hs hA
    have f3 := fun p => vM_isOver (g := G) (p := p) (x := k) hs hA
    have f4 := vM_roomOf (g := G) (p := k) hs w (by omega)
    show ∃ s', bM_ofGroup_31 G 624 gp (lM_ofGroup_31 G 624 gp n) v k = _
    rw [bM_ofGroup_31]
    simp (disch := omega) only [f1, f2, f3, f4, f5, f6, opI_mul, bdP_s, h0, kd_625, sz_625, w32_r, true_and, le_t, lt_t, and_true, ↓reduceIte]
    repeat' (first | exact ⟨_, rfl⟩ | refine ex_ite (fun _ => ?_) (fun _ => ?_))) (fun n k v hl hk => by
    show bM_ofGroup_31 G 624 gp (lM_ofGroup_31 G 624 gp n) v k = _
    rw [bM_ofGroup_31]
    simp (disch := omega) only [h0, kd_625, sz_625, true_and, le_t, lt_t, lt_f, and_true, ↓reduceIte]) 0 0 fu (by omega) (by have := fu_ge; omega)
theorem q_testBelow (h : OKg g G) : ∃ v, lM_testamentsBelow_22 G 624 p fu 0 1 = some (v, G) := by
  have hs := h.1.1
  have h0 := hs.1
  have w := h.1.2.1.1
  have hM := w.1
  exact for_any (L := fun n k v => lM_testamentsBelow_22 G 624 p n v k) (E := fun v => some (v, G)) 1 (G 625 0) (fun n k v hl hk => by
    have f1 := vM_runs (g := G) (p := k) hs (by omega)
    have f5 := fun a st => vM_isChild (g := G) (p := k) (a := a) (st := st) hs (by omega)
    have f6 := fun a st => vM_childrenOf (g := G) (a := a) (st := st) hs hM
    have hA := w.2.2.1 k (by omega) hk
    have f2 := vM_deep (g := G) (x := k) hs hA
    have f3 := fun p => vM_isOver (g := G) (p := p) (x := k) hs hA
    have f4 := vM_roomOf (g := G) (p := k) hs w (by omega)
    show ∃ s', bM_testamentsBelow_22 G 624 p (lM_testamentsBelow_22 G 624 p n) v k = _
    rw [bM_testamentsBelow_22]
    simp (disch := omega) only [f1, f2, f3, f4, f5, f6, opI_mul, bdP_s, h0, kd_625, sz_625, w32_r, true_and, le_t, lt_t, and_true, ↓reduceIte]
    repeat' (first | exact ⟨_, rfl⟩ | refine ex_ite (fun _ => ?_) (fun _ => ?_))) (fun n k v hl hk => by
    show bM_testamentsBelow_22 G 624 p (lM_testamentsBelow_22 G 624 p n) v k = _
    rw [bM_testamentsBelow_22]
    simp (disch := omega) only [h0, kd_625, sz_625, true_and, le_t, lt_t, lt_f, and_true, ↓reduceIte]) 1 0 fu (by omega) (by have := fu_ge; omega)
theorem q_roomBelow (h : OKg g G) : ∃ v, lM_roomBelow_22 G 624 p fu 0 1 = some (v, G) := by
  have hs := h.1.1
  have h0 := hs.1
  have w := h.1.2.1.1
  have hM := w.1
  exact for_any (L := fun n k v => lM_roomBelow_22 G 624 p n v k) (E := fun v => some (v, G)) 1 (G 625 0) (fun n k v hl hk => by
    have f1 := vM_runs (g := G) (p := k) hs (by omega)
    have f5 := fun a st => vM_isChild (g := G) (p := k) (a := a) (st := st) hs (by omega)
    have f6 := fun a st => vM_childrenOf (g := G) (a := a) (st := st) hs hM
    have hA := w.2.2.1 k (by omega) hk
    have f2 := vM_deep (g := G) (x := k) hs hA
    have f3 := fun p => vM_isOver (g := G) (p := p) (x := k) hs hA
    have f4 := vM_roomOf (g := G) (p := k) hs w (by omega)
    show ∃ s', bM_roomBelow_22 G 624 p (lM_roomBelow_22 G 624 p n) v k = _
    rw [bM_roomBelow_22]
    simp (disch := omega) only [f1, f2, f3, f4, f5, f6, opI_mul, bdP_s, h0, kd_625, sz_625, w32_r, true_and, le_t, lt_t, and_true, ↓reduceIte]
    repeat' (first | exact ⟨_, rfl⟩ | refine ex_ite (fun _ => ?_) (fun _ => ?_))) (fun n k v hl hk => by
    show bM_roomBelow_22 G 624 p (lM_roomBelow_22 G 624 p n) v k = _
    rw [bM_roomBelow_22]
    simp (disch := omega) only [h0, kd_625, sz_625, true_and, le_t, lt_t, lt_f, and_true, ↓reduceIte]) 1 0 fu (by omega) (by have := fu_ge; omega)
theorem q_groupsBelow (h : OKg g G) : ∃ v, lM_groupsBelow_22 G 624 p fu 0 1 = some (v, G) := by
  have hs := h.1.1
  have h0 := hs.1
  have w := h.1.2.1.1
  have hM := w.1
  exact for_any (L := fun n k v => lM_groupsBelow_22 G 624 p n v k) (E := fun v => some (v, G)) 1 (G 625 0) (fun n k v hl hk => by
    have f1 := vM_runs (g := G) (p := k) hs (by omega)
    have f5 := fun a st => vM_isChild (g := G) (p := k) (a := a) (st := st) hs (by omega)
    have f6 := fun a st => vM_childrenOf (g := G) (a := a) (st := st) hs hM
    have hA := w.2.2.1 k (by omega) hk
    have f2 := vM_deep (g := G) (x := k) hs hA
    have f3 := fun p => vM_isOver (g := G) (p := p) (x := k) hs hA
    have f4 := vM_roomOf (g := G) (p := k) hs w (by omega)
    show ∃ s', bM_groupsBelow_22 G 624 p (lM_groupsBelow_22 G 624 p n) v k = _
    rw [bM_groupsBelow_22]
    simp (disch := omega) only [f1, f2, f3, f4, f5, f6, opI_mul, bdP_s, h0, kd_625, sz_625, w32_r, true_and, le_t, lt_t, and_true, ↓reduceIte]
    repeat' (first | exact ⟨_, rfl⟩ | refine ex_ite (fun _ => ?_) (fun _ => ?_))) (fun n k v hl hk => by
    show bM_groupsBelow_22 G 624 p (lM_groupsBelow_22 G 624 p n) v k = _
    rw [bM_groupsBelow_22]
    simp (disch := omega) only [h0, kd_625, sz_625, true_and, le_t, lt_t, lt_f, and_true, ↓reduceIte]) 1 0 fu (by omega) (by have := fu_ge; omega)
theorem q_strangers (h : OKg g G) (hp : 0 ≤ p ∧ p < G 625 0) : ∃ v, lM_strangers_14 G 624 p fu 0 1 = some (v, G) := by
  have hs := h.1.1
  have h0 := hs.1
  have w := h.1.2.1.1
  have hM := w.1
  exact for_any (L := fun n k v => lM_strangers_14 G 624 p n v k) (E := fun v => some (v, G)) 1 (G 625 0) (fun n k v hl hk => by
    have f1 := vM_runs (g := G) (p := k) hs (by omega)
    have f5 := fun a st => vM_isChild (g := G) (p := k) (a := a) (st := st) hs (by omega)
    have f6 := fun a st => vM_childrenOf (g := G) (a := a) (st := st) hs hM
    have hA := w.2.2.1 k (by omega) hk
    have f2 := vM_deep (g := G) (x := k) hs hA
    have f3 := fun p => vM_isOver (g := G) (p := p) (x := k) hs hA
    have f4 := vM_roomOf (g := G) (p := k) hs w (by omega)
    show ∃ s', bM_strangers_14 G 624 p (lM_strangers_14 G 624 p n) v k = _
    rw [bM_strangers_14]
    simp (disch := omega) only [f1, f2, f3, f4, f5, f6, opI_mul, bdP_s, h0, kd_625, sz_625, w32_r, true_and, le_t, lt_t, and_true, ↓reduceIte]
    repeat' (first | exact ⟨_, rfl⟩ | refine ex_ite (fun _ => ?_) (fun _ => ?_))) (fun n k v hl hk => by
    show bM_strangers_14 G 624 p (lM_strangers_14 G 624 p n) v k = _
    rw [bM_strangers_14]
    simp (disch := omega) only [h0, kd_625, sz_625, true_and, le_t, lt_t, lt_f, and_true, ↓reduceIte]) 1 0 fu (by omega) (by have := fu_ge; omega)
end MODEL17
