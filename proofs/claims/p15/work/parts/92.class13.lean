/-! ===== the class's acts: move, exchange, and what loops (own work) ===== -/
section CLS13
variable {g g' G H K : gH} {T S i j k a b c v w d o p q r s m x y z : Int}
theorem sp_x (e : ∀ x, x < 133 → H x = G x) (hk : 0 ≤ k ∧ k < 40) : sp H 1 k = sp G 1 k := by
  have := pc_b (T := 1) hk
  unfold sp
  rw [e _ (by omega)]
theorem OV_x (ht : TI G 1) (e : ∀ x, x < 133 → H x = G x) (hi : 0 ≤ i ∧ i < G 1 5) : OV (sp H 1) k i = OV (sp G 1) k i := by
  have hc := ht.2.1
  exact ov_ext (m := G 1 5) (fun j j0 j1 => (sp_rg ht (by omega) j1).1) (fun j j0 j1 => sp_x e (by omega)) 40 i hi.1 hi.2
/-- what a question about chains tells -/
theorem OV_q (ht : TI G T) (hT : isT T) (hi : 0 ≤ i) (hj : 0 ≤ j ∧ j < G T 5) (e : fP_isOver G (pc T i) (pc T j) = some y) (hy : y = 0) : OV (sp G T) i j = false := by
  have hc := ht.2.1
  rw [vP_isOver ht hT hi (by omega)] at e
  cases hh : OV (sp G T) i j with
  | false => rfl
  | true =>
    rw [if_pos ⟨hj.2, hh⟩] at e
    injection e with e
    omega
theorem tC_move (h : CO g G) : WC (fun e => e = 2 ∨ e = 1) g (fC_move G 0 v w) := by
  rw [fC_move]
  refine W_bdQ (tC_namedP h) (fun c hc => W_bdQ (tC_namedP h) (fun d hd => ?_) (fun e he => WC_e (by subst he; simp) h)) (fun e he => WC_e (by subst he; simp) h)
  have ht := CO_T h T1
  have hcm := ht.2.1
  have pa := Pn_a ht hc
  have pd := Pn_a ht hd
  have l59 : WC (fun e => e = 2 ∨ e = 1) g (jC_move_59 G 0 c d) := by
    rw [jC_move_59, jC_move_60]
    exact W_bdQ tC_checkState (fun _ hn => absurd rfl hn) (fun e he => WC_e (by subst he; simp) h)
  obtain ⟨i, hi, rfl⟩ := hc
  obtain ⟨j, hj, rfl⟩ := hd
  rw [if_pos (Pa_kd T1 pa), if_pos (Pa_kd T1 pd)]
  refine W_bdP tP_isMortal (fun y hy => W_ite (fun _ => l59) (fun hm => W_bdP tP_room (fun _ _ => W_ite (fun _ => W_ite (fun _ => l59) (fun hn => ?_)) (fun _ => l59))))
  obtain ⟨u, eu, -⟩ := tP_isOver ht T1 pa pd
  rw [eu, bdP_s]
  refine W_ite (fun hu => W_bdP tP_refuses (fun _ _ => W_ite (fun _ => ?_) (fun _ => l59))) (fun _ => l59)
  have i2 := hang_ ht ⟨hi.1, by omega⟩ (hy hm)
  have ho := OV_q ht T1 hi.1 hj eu hu
  rw [jC_move_60]
  refine W_bdQ tC_checkState (fun _ _ => W_push h (fun _ A hA eA => ?_)) (fun e he => WC_e (by subst he; simp) h)
  have e5 : A 1 5 = G 1 5 := by rw [eA 1 (by omega)]
  rw [if_pos (Pa_kd T1 pa)]
  refine W_bdP (tC_numberOf T1 (sup_a (CO_T hA T1) pa)) (fun _ _ => ?_)
  exact W_bdN (tP_putUnder (CO_T hA T1) T1 (by rw [e5]; exact i2) (by rw [e5]; exact hj) (fun e => hn (by rw [e])) (by rw [OV_x ht eA hj]; exact ho)) (fun _ B hB => WC_i (CO_IT hA T1 hB.1))
theorem lx_88 (h : CO g G) (hi : 0 < i ∧ i < G 1 5) (hj : 0 < j ∧ j < G 1 5) (hn : ¬ i = j) (h1 : OV (sp G 1) i j = false) (h2 : OV (sp G 1) j i = false) : WC (fun e => e = 2 ∨ e = 1) g (jC_exchange_88 G 0 (pc 1 i) (pc 1 j) s) := by
  have ht := CO_T h T1
  have hcm := ht.2.1
  have pi_ : Pa 1 (pc 1 i) := ⟨i, by omega, rfl⟩
  have pj : Pa 1 (pc 1 j) := ⟨j, by omega, rfl⟩
  have si := sp_rg ht (by omega) hi.2
  have sj := sp_rg ht (by omega) hj.2
  have ay := ht.2.2.2.2.2.1
  rw [jC_exchange_88, if_pos (kd1 h), co0 h]
  refine W_bdP (tT_countBelow ht T1 pi_) (fun _ _ => W_bdP (tT_countBelow ht T1 pj) (fun _ _ => ?_))
  rw [if_pos (Pa_kd T1 pi_), if_pos (Pa_kd T1 pj), si.2, sj.2]
  -- i goes under j's supervisor
  have q1 : ¬ sp G 1 j = i ∧ OV (sp G 1) i (sp G 1 j) = false := by
    rw [OV_s (ay j (by omega) hj.2) (by omega)] at h1
    by_cases e : sp G 1 j = i
    · rw [if_pos e] at h1; cases h1
    · rw [if_neg e] at h1; exact ⟨e, h1⟩
  have q2 : ¬ sp G 1 i = j ∧ OV (sp G 1) j (sp G 1 i) = false := by
    rw [OV_s (ay i (by omega) hi.2) (by omega)] at h2
    by_cases e : sp G 1 i = j
    · rw [if_pos e] at h2; cases h2
    · rw [if_neg e] at h2; exact ⟨e, h2⟩
  have di := DP_s (ay i (by omega) hi.2) (by omega)
  have q3 : ¬ sp G 1 i = i := fun e => by rw [e] at di; omega
  have q4 : OV (sp G 1) i (sp G 1 i) = false := by
    cases hh : OV (sp G 1) i (sp G 1 i) with
    | false => rfl
    | true =>
      have := OV_dp (ay _ si.1.1 si.1.2) hh
      omega
  refine W_bdN (tP_putUnder ht T1 hi sj.1 q1.1 q1.2) (fun _ A hA => ?_)
  obtain ⟨a1, a2, a3⟩ := hA
  have w := CO_IT h T1 a1
  have eA : ∀ k, 0 < k → k < G 1 5 → sp A 1 k = u1 (sp G 1) i (sp G 1 j) k := by
    intro k k0 k1
    show ix 1 (A (pc 1 k) 2) = _
    rw [a3 k (by omega) (by omega)]
    by_cases e : k = i
    · rw [if_pos e, ix_pc sj.1.1, e, u1_s]
    · rw [if_neg e, u1_n e]
      rfl
  have oA : OV (sp A 1) j (sp G 1 i) = false := by
    have e1 : OV (sp A 1) j (sp G 1 i) = OV (u1 (sp G 1) i (sp G 1 j)) j (sp G 1 i) := by
      refine ov_ext (m := G 1 5) (fun k k0 k1 => ?_) eA 40 _ si.1.1 si.1.2
      by_cases e : k = i
      · rw [e, u1_s]; exact sj.1
      · rw [u1_n e]; exact (sp_rg ht (by omega) k1).1
    rw [e1]
    show ov (u1 (sp G 1) i (sp G 1 j)) 40 j (sp G 1 i) = false
    rw [ov_keep (ay _ si.1.1 si.1.2) q3 q4]
    exact q2.2
  refine W_bdN (tP_putUnder a1.1 T1 (by rw [a2]; exact hj) (by rw [a2]; exact si.1) q2.1 oA) (fun _ B hB => ?_)
  have w2 := CO_IT w T1 hB.1
  exact W_ite (fun _ => WC_i w2) (fun _ => WC_i w2)
theorem tC_exchange (h : CO g G) : WC (fun e => e = 2 ∨ e = 1) g (fC_exchange G 0 v w) := by
  rw [fC_exchange]
  refine W_bdQ (tC_namedP h) (fun c hc => W_bdQ (tC_namedP h) (fun d hd => ?_) (fun e he => WC_e (by subst he; simp) h)) (fun e he => WC_e (by subst he; simp) h)
  have ht := CO_T h T1
  have hcm := ht.2.1
  have pa := Pn_a ht hc
  have pd := Pn_a ht hd
  have l56 : WC (fun e => e = 2 ∨ e = 1) g (jC_exchange_56 G 0 c d) := by
    rw [jC_exchange_56, jC_exchange_57]
    exact W_bdQ tC_checkState (fun _ hn => absurd rfl hn) (fun e he => WC_e (by subst he; simp) h)
  obtain ⟨i, hi, rfl⟩ := hc
  obtain ⟨j, hj, rfl⟩ := hd
  rw [if_pos (Pa_kd T1 pa), if_pos (Pa_kd T1 pd)]
  refine W_bdP tP_isMortal (fun y hy => W_ite (fun _ => l56) (fun hm => W_bdP tP_isMortal (fun y2 hy2 => W_ite (fun _ => l56) (fun hm2 => W_ite (fun _ => l56) (fun hn => ?_)))))
  obtain ⟨u, eu, -⟩ := tP_isOver ht T1 pa pd
  obtain ⟨u2, eu2, -⟩ := tP_isOver ht T1 pd pa
  rw [eu, bdP_s, eu2, bdP_s]
  refine W_ite (fun hu => W_ite (fun hu2 => ?_) (fun _ => l56)) (fun _ => l56)
  have i2 := hang_ ht ⟨hi.1, by omega⟩ (hy hm)
  have j2 := hang_ ht ⟨hj.1, by omega⟩ (hy2 hm2)
  have ho := OV_q ht T1 hi.1 hj eu hu
  have ho2 := OV_q ht T1 hj.1 hi eu2 hu2
  rw [jC_exchange_57]
  refine W_bdQ tC_checkState (fun _ _ => W_push h (fun _ A hA eA => ?_)) (fun e he => WC_e (by subst he; simp) h)
  have e5 : A 1 5 = G 1 5 := by rw [eA 1 (by omega)]
  have l88 : ∀ s, WC (fun e => e = 2 ∨ e = 1) g (jC_exchange_88 A 0 (pc 1 i) (pc 1 j) s) := fun s => lx_88 hA (by rw [e5]; exact i2) (by rw [e5]; exact j2) (fun e => hn (by rw [e])) (by rw [OV_x ht eA hj]; exact ho) (by rw [OV_x ht eA hi]; exact ho2)
  rw [if_pos (Pa_kd T1 pa)]
  exact W_bdP (tP_countAbove (CO_T hA T1) T1 pa) (fun _ _ => W_g (Pa_kd T1 pd) (W_bdP (tP_countAbove (CO_T hA T1) T1 pd) (fun _ _ => W_ite (fun _ => l88 1) (fun _ => l88 0))))
theorem tC_weakest (h : CO g G) : WC (fun e => e = 0) g (fC_weakest G 0 w) := by
  have hfu := fu_ge
  rw [fC_weakest]
  refine W_bdQ tC_checkRange (fun _ hw => ?_) (fun e he => WC_e he h)
  obtain ⟨T, hT, e0, ht⟩ : ∃ T, isT T ∧ G 0 0 = T ∧ T = 1 := ⟨1, T1, co0 h, rfl⟩
  rw [e0, if_pos (kdT hT), TS_1 (CO_T h hT).1, if_pos (kdT2 hT), szT2 hT]
  refine W_loop (W := WC (fun e => e = 0) g) (fun n (a : Int × Int × Int × gH) => lC_weakest_28 0 w (T + 2) 40 n a.1 a.2.1 a.2.2.1 a.2.2.2) (fun a => (40 - a.2.2.1).toNat) (fun a => (0 ≤ a.2.2.1 ∧ a.2.2.1 ≤ 40) ∧ CO g a.2.2.2) ?_ fu (-1, -1, 0, G) ⟨by dsimp only; omega, h⟩ (by dsimp only; omega)
  clear h e0
  rintro n ⟨x, y, i, G⟩ hI ih
  have i0 : 0 ≤ i := hI.1.1
  have h : CO g G := hI.2
  have hg := CO_T h hT
  show WC _ g (bC_weakest_28 0 w (T + 2) 40 (lC_weakest_28 0 w (T + 2) 40 n) x y i G)
  rw [bC_weakest_28]
  refine W_ite (fun hi => ?_) (fun _ => WC_i h)
  have hi : 0 ≤ i ∧ i < 40 := ⟨i0, hi⟩
  have nx : ∀ x' y' G', CO g G' → WC (fun e => e = 0) g (lC_weakest_28 0 w (T + 2) 40 n x' y' (w32 (i + 1)) G') := fun x' y' G' h' => by rw [w32_r (by omega)]; exact ih (x', y', i + 1, G') ⟨by dsimp only; omega, h'⟩ (by dsimp only; omega)
  have l64 : ∀ s G', CO g G' → WC (fun e => e = 0) g (jC_weakest_64 (lC_weakest_28 0 w (T + 2) 40 n) G' 0 w x y (T + 2) 40 i (pc T i) s) := by
    intro s G' h'
    rw [jC_weakest_64]
    exact W_ite (fun _ => W_g (kdp hT hi) (nx _ _ _ h')) (fun _ => nx _ _ _ h')
  simp only [TS_p hg.1 hi, kdp hT hi, kdT2 hT, szT2 hT, hi.1, hi.2, if_true, true_and, and_self]
  exact W_bdP tP_isMortal (fun _ _ => W_ite (fun _ => l64 _ _ h) (fun _ => W_bdN (tC_exitOfCopy h hw) (fun _ A hA => l64 _ _ hA.1)))
theorem tC_dutyLife (h : CO g G) : WC (fun e => e = 0) g (fC_dutyLife G 0 v) := by
  have hfu := fu_ge
  rw [fC_dutyLife]
  refine W_bdQ tC_checkRange (fun _ hw => W_g (kd45 h) ?_) (fun e he => WC_e he h)
  rw [co0 h, co1 h]
  refine W_bdN (tT_take (CO_T h T45).1 T45 T1 (CO_T h T1) (by omega)) (fun _ A hA => ?_)
  have wA := CO_IT h T45 hA
  refine W_loop (W := WC (fun e => e = 0) g) (fun n (a : Int × gH) => lC_dutyLife_19 0 v n a.1 a.2) (fun a => (40 - a.1).toNat) (fun a => (0 ≤ a.1 ∧ a.1 ≤ 40) ∧ CO g a.2) ?_ fu (0, A) ⟨by dsimp only; omega, wA⟩ (by dsimp only; omega)
  clear h hA wA
  rintro n ⟨i, G⟩ hI ih
  have i0 : 0 ≤ i := hI.1.1
  have h : CO g G := hI.2
  have hg := CO_T h T45
  show WC _ g (bC_dutyLife_19 0 v (lC_dutyLife_19 0 v n) i G)
  rw [bC_dutyLife_19]
  refine W_ite (fun hi => W_g (kd45 h) ?_) (fun _ => WC_i h)
  rw [co1 h]
  refine W_bdP (tT_holderOf hg T45) (fun _ _ => W_ite (fun _ => WC_i h) (fun _ => W_bdP (tT_holderOf hg T45) (fun y hy => W_bdN (tT_letExit hg T45 hy (by omega)) (fun _ B hB => ?_))))
  rw [w32_r (by omega)]
  exact ih (i + 1, B) ⟨by dsimp only; omega, CO_IT h T45 hB⟩ (by dsimp only; omega)
theorem tC_print (h : CO g G) : WC (fun e => e = 2 ∨ e = 0 ∨ e = 1) g (fC_print G 0 v w) := by
  rw [fC_print]
  refine W_bdQ (tC_namedP h) (fun c hc => W_bdQ tC_checkRange (fun _ _ => ?_) (fun e he => WC_e (by subst he; simp) h)) (fun e he => WC_e (by subst he; simp) h)
  have ht := CO_T h T1
  have pa := Pn_a ht hc
  have l137 : ∀ A, CO g A → WC (fun e => e = 2 ∨ e = 0 ∨ e = 1) g (jC_print_137 A 0) := by
    intro A hA
    rw [jC_print_137, co5 hA, if_pos kd_622]
    refine W_ite (fun _ => W_bdN (tO_putSign (g := A) ⟨fun _ _ => rfl, hA.1.1.2.2.2.2.2.2⟩) (fun _ B hB => ?_)) (fun _ => WC_i hA)
    have wB := CO_OO hA hB
    rw [co5 wB, if_pos kd_622]
    exact WC_i wB
  have l24 : ∀ s, WC (fun e => e = 2 ∨ e = 0 ∨ e = 1) g (jC_print_24 G 0 w c s) := by
    intro s
    rw [jC_print_24]
    refine W_bdQ tC_checkState (fun _ _ => ?_) (fun e he => WC_e (by subst he; simp) h)
    rw [co5 h, if_pos kd_622, bnd_s]
    have wA := CO_w (a := 622) (b := 1) (v := 0) h (by omega)
    have oA : OO G (pU G 622 1 0) := OO_w ⟨fun _ _ => rfl, h.1.1.2.2.2.2.2.2⟩ (by omega)
    generalize pU G 622 1 0 = A at *
    have go : ∀ B, OO G B → WC (fun e => e = 2 ∨ e = 0 ∨ e = 1) g (jC_print_137 B 0) := fun B hB => l137 B (CO_OO h hB)
    rw [co5 wA, if_pos kd_622, co0 wA, if_pos kd_622, if_pos kd_622, if_pos kd_622]
    exact W_ite (fun _ => W_bdN (tO_putPath ht T1 oA pa) (fun _ B hB => go B hB)) (fun _ => W_ite (fun _ => W_bdN (tO_putChildren ht T1 oA) (fun _ B hB => go B hB)) (fun _ => W_ite (fun _ => W_bdN (tC_putBranch ht T1 fr 0 c A oA pa (by omega) (by show (41 - (0 : Int)).toNat < 60; omega)) (fun _ B hB => go B hB)) (fun _ => W_ite (fun _ => W_bdN (tO_putDuties ht T1 oA pa) (fun _ B hB => go B hB)) (fun _ => W_bdN (tO_putZombies ht T1 oA) (fun _ B hB => go B hB)))))
  rw [if_pos (Pa_kd T1 pa)]
  exact W_ite (fun _ => l24 0) (fun _ => l24 1)
end CLS13
