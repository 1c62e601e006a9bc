/-! ===== the reference's questions, more (own work) ===== -/
section MODEL19
variable {g G : gH} {p code t c a b k q gp d : Int}
theorem o8 (hi : MInv g) : pU g 624 8 0 = th g 0 := rfl
theorem ok_p (h : 0 ≤ p ∧ p < g 625 0) : 0 ≤ p ∧ p < (th g 0) 625 0 := by rw [th_n (by omega)]; exact h
theorem oM_adopter (hi : MInv g) : PO g (fM_adopter g 624 p) := by
  refine po_ne hi (fun hp _ => ?_)
  have o1 := o0 hi
  have w := o1.1.2.1.1
  have hM := hi.2.1.1.1
  have h0 := o1.1.1.1
  have hp' := ok_p (g := g) (p := p) ⟨by omega, hp.2⟩
  have hc := w.2.1 p hp.1 hp'.2
  simp (disch := omega) only [h0, kd_625, sz_625, w32_r, true_and, le_t, lt_t, and_true, ↓reduceIte]
  rw [(vM_adopterOf o1.1.1 w hp' hc).1, bdP_s]
  exact PO_i rfl o1
theorem oM_adopters (hi : MInv g) : PO g (fM_adopters g 624 p) := by
  refine po_ne hi (fun hp _ => ?_)
  obtain ⟨v, e⟩ := q_adopters (o0 hi) (ok_p (g := g) (p := p) ⟨by omega, hp.2⟩)
  exact PO_i e (o0 hi)
theorem oM_heirNow (hi : MInv g) : PO g (fM_heirNow g 624 p) := by
  refine po_ne hi (fun hp _ => ?_)
  have o1 := o0 hi
  rw [vM_inheritor o1.1.1 o1.1.2.1.1 (ok_p (g := g) (p := p) ⟨by omega, hp.2⟩), bdP_s]
  exact PO_i rfl o1
theorem oM_below (hi : MInv g) : PO g (fM_below g 624 p) := by
  refine po_np hi (fun hp => ?_)
  have hM := hi.2.1.1.1
  have o1 := o0 hi
  rw [vM_runs o1.1.1 (by omega), bdP_s]
  obtain ⟨v, e⟩ := q_belowOf o1 (p := p)
  have e : fM_belowOf (th g 0) 624 p = some v := e
  refine po_ite (fun _ => PO_i rfl o1) (fun _ => ?_)
  rw [e, bdP_s]; exact PO_i rfl o1
theorem oM_atDepth (hi : MInv g) : PO g (fM_atDepth g 624 d) := by
  obtain ⟨v, e⟩ := q_atDepth (o0 hi) (d := d)
  rw [fM_atDepth, bnd_s, o8 hi]; exact PO_i e (o0 hi)
theorem oM_height (hi : MInv g) : PO g (fM_height g 624) := by
  obtain ⟨v, e⟩ := q_highest (o0 hi)
  have e : fM_highest (th g 0) 624 = some v := e
  rw [fM_height, bnd_s, o8 hi, e, bdP_s]; exact PO_i rfl (o0 hi)
theorem oM_allRoom (hi : MInv g) : PO g (fM_allRoom g 624) := by
  obtain ⟨v, e⟩ := q_allRoom (o0 hi)
  rw [fM_allRoom, bnd_s, o8 hi]; exact PO_i e (o0 hi)
theorem oM_overfull (hi : MInv g) : PO g (fM_overfull g 624) := by
  obtain ⟨v, e⟩ := q_overfull (o0 hi)
  rw [fM_overfull, bnd_s, o8 hi]; exact PO_i e (o0 hi)
theorem oM_ofGroup (hi : MInv g) : PO g (fM_ofGroup g 624 gp) := by
  obtain ⟨v, e⟩ := q_ofGroup (o0 hi) (gp := gp)
  rw [fM_ofGroup, bnd_s, o8 hi, vM_isSmall, bdP_s]
  by_cases h : 0 ≤ gp ∧ gp ≤ 9
  · simp only [if_pos h, f0, if_false, jM_ofGroup_18, kd_c624, if_true, vM_fails (Or.inl rfl), bdN_s]
    exact PO_i e (o0 hi)
  · simp only [if_neg h, if_true, jM_ofGroup_18, kd_c624, vM_fails (Or.inr rfl), bdN_s, f0, if_false]
    exact PO_i rfl (OK_th (o0 hi))
theorem oM_nextTestament (hi : MInv g) : PO g (fM_nextTestament g 624 p) := by
  refine po_np hi (fun hp => ?_)
  have o1 := o0 hi
  rw [vM_firstZombie o1.1.1 o1.1.2.1.1.1.2 o1.1.2.1.2.2.2.1, bdP_s]
  exact PO_i rfl o1
theorem oM_testamentsBelow (hi : MInv g) : PO g (fM_testamentsBelow g 624 p) := by
  refine po_np hi (fun hp => ?_)
  have hM := hi.2.1.1.1
  have o1 := o0 hi
  rw [vM_runs o1.1.1 (by omega), bdP_s]
  obtain ⟨v, e⟩ := q_testBelow o1 (p := p)
  exact po_ite (fun _ => PO_i rfl o1) (fun _ => PO_i e o1)
theorem oM_roomBelow (hi : MInv g) : PO g (fM_roomBelow g 624 p) := by
  refine po_np hi (fun hp => ?_)
  have hM := hi.2.1.1.1
  have o1 := o0 hi
  rw [vM_runs o1.1.1 (by omega), bdP_s]
  obtain ⟨v, e⟩ := q_roomBelow o1 (p := p)
  exact po_ite (fun _ => PO_i rfl o1) (fun _ => PO_i e o1)
theorem oM_groupsBelow (hi : MInv g) : PO g (fM_groupsBelow g 624 p) := by
  refine po_np hi (fun hp => ?_)
  have hM := hi.2.1.1.1
  have o1 := o0 hi
  rw [vM_runs o1.1.1 (by omega), bdP_s]
  obtain ⟨v, e⟩ := q_groupsBelow o1 (p := p)
  exact po_ite (fun _ => PO_i rfl o1) (fun _ => PO_i e o1)
theorem oM_strangers (hi : MInv g) : PO g (fM_strangers g 624 p) := by
  refine po_np hi (fun hp => ?_)
  obtain ⟨v, e⟩ := q_strangers (o0 hi) (ok_p (g := g) (p := p) hp)
  exact PO_i e (o0 hi)
theorem oM_outputByte (hi : MInv g) : PO g (fM_outputByte g 624 a) := by
  have o1 := o0 hi
  have h0 : (th g 0) 624 22 = 634 := o1.1.1.2.2.2.2.2.2.2.2.1
  have hm := o1.1.2.2.2.2.2.2
  rw [fM_outputByte, bnd_s, o8 hi, vM_inRange, bdP_s]
  by_cases h : 0 ≤ a ∧ a ≤ w32 ((th g 0) 624 23 - 1)
  · have h' := h.2
    rw [w32_r (by omega)] at h'
    rw [if_pos h, if_neg f0]
    simp (disch := omega) only [h0, kd_634, sz_634, true_and, le_t, lt_t, and_true, ↓reduceIte]
    exact PO_i rfl o1
  · rw [if_neg h, if_pos rfl]; exact PO_i rfl o1
/-- loops whose sum is a process or −1 -/
theorem for_pr {L : Nat → Int → Int → Option (Int × gH)} (M : Int) (hM : 1 ≤ M ∧ M ≤ 40) (hstep : ∀ n k v, 1 ≤ k → k < M → (v = -1 ∨ (0 ≤ v ∧ v < M)) → L (n + 1) k v = L n (k + 1) v ∨ L (n + 1) k v = L n (k + 1) k) (hend : ∀ n k v, ¬ k < M → L (n + 1) k v = some (v, G)) : ∃ v, L fu 1 (-1) = some (v, G) := by
  have hf := fu_ge
  obtain ⟨v, e, -⟩ := for_some (L := L) (E := fun v => some (v, G)) M (fun k v => 1 ≤ k ∧ (v = -1 ∨ (0 ≤ v ∧ v < M))) (fun n k v hk hI => by
    rcases hstep n k v hI.1 hk hI.2 with e | e
    · exact ⟨v, e, by omega, hI.2⟩
    · exact ⟨k, e, by omega, Or.inr ⟨by omega, hk⟩⟩) (fun n k v hk _ => hend n k v hk) (M - 1).toNat 1 (-1) fu rfl (by omega) ⟨by omega, Or.inl rfl⟩
  exact ⟨v, e⟩
theorem or_ite {R : Type} {c : Prop} [Decidable c] {A B X Y : R} (h1 : c → A = X ∨ A = Y) (h2 : ¬ c → B = X ∨ B = Y) : (if c then A else B) = X ∨ (if c then A else B) = Y := by
  split
  · next h => exact h1 h
  · next h => exact h2 h
theorem q_roomiest (h : OKg g G) : ∃ v, lM_roomiest_31 G 624 gp fu (-1) 1 = some (v, G) := by
  have hs := h.1.1
  have h0 := hs.1
  have w := h.1.2.1.1
  have hM := w.1
  refine for_pr (L := fun n k v => lM_roomiest_31 G 624 gp n v k) (G 625 0) hM (fun n k v hl hk hv => ?_) (fun n k v hk => ?_)
  · have f1 := vM_roomOf (g := G) (p := k) hs w (by omega)
    have f2 := vM_refuses (g := G) (p := k) (a := gp) hs (by omega)
    show bM_roomiest_31 G 624 gp (lM_roomiest_31 G 624 gp n) v k = _ ∨ bM_roomiest_31 G 624 gp (lM_roomiest_31 G 624 gp n) v k = _
    rw [bM_roomiest_31]
    rcases hv with hv | hv
    · subst hv
      simp (disch := omega) only [f1, f2, bdP_s, h0, kd_625, sz_625, w32_r, true_and, le_t, lt_t, and_true, ↓reduceIte]
      repeat' (first | exact Or.inl rfl | exact Or.inr rfl | refine or_ite (fun _ => ?_) (fun _ => ?_))
    · have f3 := vM_roomOf (g := G) (p := v) hs w (by omega)
      simp (disch := omega) only [f1, f2, f3, bdP_s, h0, kd_625, sz_625, w32_r, true_and, le_t, lt_t, and_true, ↓reduceIte]
      rw [if_neg (by omega : ¬ v = -1)]
      repeat' (first | exact Or.inl rfl | exact Or.inr rfl | refine or_ite (fun _ => ?_) (fun _ => ?_))
  · show bM_roomiest_31 G 624 gp (lM_roomiest_31 G 624 gp n) v k = _
    rw [bM_roomiest_31]
    simp (disch := omega) only [h0, kd_625, sz_625, true_and, le_t, lt_t, and_true, ↓reduceIte, if_neg hk]
theorem oM_roomiest (hi : MInv g) : PO g (fM_roomiest g 624 gp) := by
  obtain ⟨v, e⟩ := q_roomiest (o0 hi) (gp := gp)
  rw [fM_roomiest, bnd_s, o8 hi, vM_isSmall, bdP_s]
  by_cases h : 0 ≤ gp ∧ gp ≤ 9
  · simp only [if_pos h, f0, if_false, jM_roomiest_18, kd_c624, if_true, vM_fails (Or.inl rfl), bdN_s]
    exact PO_i e (o0 hi)
  · simp only [if_neg h, if_true, jM_roomiest_18, kd_c624, vM_fails (Or.inr rfl), bdN_s, f0, if_false]
    exact PO_i rfl (OK_th (o0 hi))
theorem q_mostAdopted (h : OKg g G) : ∃ v, lM_mostAdopted_9 G 624 fu (-1) 1 = some (v, G) := by
  have hs := h.1.1
  have h0 := hs.1
  have w := h.1.2.1.1
  have hM := w.1
  refine for_pr (L := fun n k v => lM_mostAdopted_9 G 624 n v k) (G 625 0) hM (fun n k v hl hk hv => ?_) (fun n k v hk => ?_)
  · have f1 := vM_runs (g := G) (p := k) hs (by omega)
    show bM_mostAdopted_9 G 624 (lM_mostAdopted_9 G 624 n) v k = _ ∨ bM_mostAdopted_9 G 624 (lM_mostAdopted_9 G 624 n) v k = _
    rw [bM_mostAdopted_9]
    rcases hv with hv | hv
    · subst hv
      simp (disch := omega) only [f1, bdP_s, h0, kd_625, sz_625, w32_r, true_and, le_t, lt_t, and_true, ↓reduceIte, jM_mostAdopted_56]
      repeat' (first | exact Or.inl rfl | exact Or.inr rfl | refine or_ite (fun _ => ?_) (fun _ => ?_))
    · have hv1 : ¬ v = -1 := by omega
      simp (disch := omega) only [f1, bdP_s, h0, kd_625, sz_625, w32_r, true_and, le_t, lt_t, and_true, ↓reduceIte, jM_mostAdopted_56, hv1]
      repeat' (first | exact Or.inl rfl | exact Or.inr rfl | refine or_ite (fun _ => ?_) (fun _ => ?_))
  · show bM_mostAdopted_9 G 624 (lM_mostAdopted_9 G 624 n) v k = _
    rw [bM_mostAdopted_9]
    simp (disch := omega) only [h0, kd_625, sz_625, true_and, le_t, lt_t, and_true, ↓reduceIte, if_neg hk]
theorem oM_mostAdopted (hi : MInv g) : PO g (fM_mostAdopted g 624) := by
  obtain ⟨v, e⟩ := q_mostAdopted (o0 hi)
  rw [fM_mostAdopted, bnd_s, o8 hi]; exact PO_i e (o0 hi)
theorem q_heaviest (h : OKg g G) : ∃ v, lM_heaviest_14 G 624 p fu (-1) 1 = some (v, G) := by
  have hs := h.1.1
  have h0 := hs.1
  have w := h.1.2.1.1
  have hM := w.1
  refine for_pr (L := fun n k v => lM_heaviest_14 G 624 p n v k) (G 625 0) hM (fun n k v hl hk hv => ?_) (fun n k v hk => ?_)
  · have f1 := vM_isChild (g := G) (p := k) (a := p) (st := 0) hs (by omega)
    obtain ⟨x, f2⟩ := q_belowOf h (p := k)
    obtain ⟨y, f3⟩ := q_belowOf h (p := v)
    have f2 : fM_belowOf G 624 k = some x := f2
    have f3 : fM_belowOf G 624 v = some y := f3
    show bM_heaviest_14 G 624 p (lM_heaviest_14 G 624 p n) v k = _ ∨ bM_heaviest_14 G 624 p (lM_heaviest_14 G 624 p n) v k = _
    rw [bM_heaviest_14]
    simp (disch := omega) only [f1, f2, f3, bdP_s, h0, kd_625, sz_625, w32_r, true_and, le_t, lt_t, and_true, ↓reduceIte]
    repeat' (first | exact Or.inl rfl | exact Or.inr rfl | refine or_ite (fun _ => ?_) (fun _ => ?_))
  · show bM_heaviest_14 G 624 p (lM_heaviest_14 G 624 p n) v k = _
    rw [bM_heaviest_14]
    simp (disch := omega) only [h0, kd_625, sz_625, true_and, le_t, lt_t, and_true, ↓reduceIte, if_neg hk]
theorem oM_heaviest (hi : MInv g) : PO g (fM_heaviest g 624 p) := by
  refine po_np hi (fun hp => ?_)
  obtain ⟨v, e⟩ := q_heaviest (o0 hi) (p := p)
  exact PO_i e (o0 hi)
end MODEL19
