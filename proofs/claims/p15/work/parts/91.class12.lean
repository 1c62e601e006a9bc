/-! ===== the class's acts (own work) ===== -/
section CLS12
variable {g g' G H K : gH} {T S i j k a b c v w d o p q r s m x y z : Int} {E : Nat → Prop}
/-- a call that may throw, and leaves the input alone -/
def WC (E : Nat → Prop) (g : gH) (X : Option (Nat × (Int × gH))) : Prop := WT (fun _ H => CO g H) (fun e H => E e ∧ CO g H) X
theorem co0 (h : CO g G) : G 0 0 = 1 := h.1.1.1.1
theorem co1 (h : CO g G) : G 0 1 = 45 := h.1.1.1.2.1
theorem co2 (h : CO g G) : G 0 2 = 89 := h.1.1.1.2.2.1
theorem co3 (h : CO g G) : G 0 3 = 133 := h.1.1.1.2.2.2.1
theorem co5 (h : CO g G) : G 0 5 = 622 := h.1.1.1.2.2.2.2.2
theorem WC_i (h : CO g G) : WC E g (some (0, (v, G))) := WT_i h
theorem WC_e {e : Nat} (he : E e) (h : CO g G) : WC E g (some (e + 1, (v, G))) := WT_e ⟨he, h⟩
theorem tC_namedP (h : CO g G) : WQ (Pn G 1) (fun e => e = 2) (fC_named G 0 v) := by
  rw [fC_named, co0 h, if_pos (kdT T1)]
  refine W_bdP (tT_at (CO_T h T1) T1) (fun y hy => W_ite (fun _ => WQ_e rfl) (fun hn => WQ_i ?_))
  rcases hy with e | e
  · exact absurd (by omega) hn
  · exact e
theorem tC_namedForExit (h : CO g G) : WQ (fun c => Pa 1 c ∧ 0 ≤ w ∧ w ≤ 255) (fun e => e = 2 ∨ e = 0 ∨ e = 1) (fC_namedForExit G 0 v w) := by
  rw [fC_namedForExit]
  refine W_bdQ (tC_namedP h) (fun c hc => W_bdQ tC_checkRange (fun _ hr => ?_) (fun _ he => WQ_e (by subst he; simp))) (fun _ he => WQ_e (by subst he; simp))
  have pa := Pn_a (CO_T h T1) hc
  rw [if_pos (Pa_kd T1 pa)]
  exact W_bdP tP_isMortal (fun _ _ => W_bdQ tC_checkState (fun _ _ => WQ_i ⟨pa, hr⟩) (fun _ he => WQ_e (by subst he; simp)))
theorem tC_checkKill : WQ (fun _ => 0 ≤ w ∧ w ≤ 255) (fun e => e = 0) (fC_checkKill g v w) := by
  rw [fC_checkKill]
  exact W_bdQ tC_checkRange (fun _ _ => W_bdQ tC_checkRange (fun _ hr => WQ_i hr) (fun _ he => WQ_e he)) (fun _ he => WQ_e he)
/-- the tree goes into the past -/
theorem W_push {β : Type} {W : Option β → Prop} {k : Int → gH → Option β} (h : CO g G) (hk : ∀ y H, CO g H → (∀ x, x < 133 → H x = G x) → W (k y H)) : W (if kd (G 0 3) = 0 then bdN (fH_push G (G 0 3) (G 0 0)) k else none) := by
  rw [co3 h, if_pos kd_133, co0 h]
  exact W_bdN (tH_push h) (fun y H hH => hk y H hH.1 hH.2)
theorem kd1 (h : CO g G) : kd (G 0 0) = 5 := by rw [co0 h]; exact kdT T1
theorem kd45 (h : CO g G) : kd (G 0 1) = 5 := by rw [co1 h]; exact kdT T45
/-- a place of a process -/
theorem CO_p (h : CO g G) (hp : Pa 1 c) (hb : ¬ b = 0 ∧ ¬ b = 2 ∧ ¬ b = 1 ∧ ¬ b = 9) : CO g (pU G c b v) := by
  have := Pa_b hp
  exact CO_IT h T1 (IT_w (IT_r (CO_T h T1)) (by omega))
theorem tC_exit (h : CO g G) : WC (fun e => e = 2 ∨ e = 0 ∨ e = 1) g (fC_exit G 0 v w) := by
  rw [fC_exit]
  refine W_bdQ (tC_namedForExit h) (fun c hc => W_push h (fun _ A hA _ => W_g (kd1 hA) ?_)) (fun e he => WC_e he h)
  rw [co0 hA]
  exact W_bdN (tT_letExit (CO_T hA T1) T1 hc.1 (by omega)) (fun _ B hB => WC_i (CO_IT hA T1 hB))
theorem tC_kill (h : CO g G) : WC (fun e => e = 0) g (fC_kill G 0 v w) := by
  rw [fC_kill]
  refine W_bdQ tC_checkKill (fun c hc => W_push h (fun _ A hA _ => W_g (kd1 hA) ?_)) (fun e he => WC_e he h)
  rw [co0 hA]
  exact W_bdN (tT_killGroup (CO_T hA T1) T1 (by omega)) (fun _ B hB => WC_i (CO_IT hA T1 hB))
theorem tC_read (h : CO g G) : WC (fun e => e = 2 ∨ e = 1 ∨ e = 3) g (fC_read G 0 v) := by
  rw [fC_read]
  refine W_bdQ (tC_namedP h) (fun c hc => ?_) (fun e he => WC_e (by subst he; simp) h)
  have pa := Pn_a (CO_T h T1) hc
  rw [if_pos (Pa_kd T1 pa)]
  refine W_bdP tP_isRunning (fun _ _ => W_bdQ tC_checkState (fun _ _ => W_g (kd1 h) ?_) (fun e he => WC_e (by subst he; simp) h))
  rw [show fT_zombieBehind G (G 0 0) c (-1) = fT_zombieBehind G 1 c (-1) by rw [co0 h]]
  refine W_bdP (tT_zombieBehind (CO_T h T1) T1) (fun z hz => W_ite (fun _ => WC_e (by simp) h) (fun hn => W_push h (fun _ A hA _ => ?_)))
  have pz : Pa 1 z := by
    rcases hz with e | e
    · exact absurd (by omega) hn
    · exact e.1
  have := Pa_b pz
  rw [if_pos (Pa_kd T1 pz), bnd_s]
  exact WC_i (CO_IT hA T1 ⟨TI_st (CO_T hA T1) pz (by omega), TF_pU TF_r (by omega)⟩)
theorem tC_refuse (h : CO g G) : WC (fun e => e = 2 ∨ e = 0 ∨ e = 1) g (fC_refuse G 0 v w) := by
  rw [fC_refuse]
  refine W_bdQ (tC_namedP h) (fun c hc => W_bdQ tC_checkRange (fun _ _ => ?_) (fun e he => WC_e (by subst he; simp) h)) (fun e he => WC_e (by subst he; simp) h)
  have pa := Pn_a (CO_T h T1) hc
  rw [if_pos (Pa_kd T1 pa)]
  refine W_bdP tP_isMortal (fun _ _ => W_bdQ tC_checkState (fun _ _ => W_push h (fun _ A hA _ => ?_)) (fun e he => WC_e (by subst he; simp) h))
  rw [bnd_s]
  have hB := CO_p (v := opI 2 (A c 8) (opI 4 1 w)) (b := 8) hA pa (by omega)
  generalize pU A c 8 (opI 2 (A c 8) (opI 4 1 w)) = B at *
  rw [if_pos (kd1 hB), co0 hB]
  exact W_bdN (tT_loseGroup (CO_T hB T1) T1 pa) (fun _ C hC => WC_i (CO_IT hB T1 hC))
theorem tC_accept (h : CO g G) : WC (fun e => e = 2 ∨ e = 0 ∨ e = 1) g (fC_accept G 0 v w) := by
  rw [fC_accept]
  refine W_bdQ (tC_namedP h) (fun c hc => W_bdQ tC_checkRange (fun _ _ => ?_) (fun e he => WC_e (by subst he; simp) h)) (fun e he => WC_e (by subst he; simp) h)
  have pa := Pn_a (CO_T h T1) hc
  rw [if_pos (Pa_kd T1 pa)]
  refine W_bdP tP_isRunning (fun _ _ => W_bdQ tC_checkState (fun _ _ => W_push h (fun _ A hA _ => W_bdP tP_refuses (fun _ _ => ?_))) (fun e he => WC_e (by subst he; simp) h))
  rw [bnd_s]
  exact WC_i (CO_p hA pa (by omega))
theorem tC_setCapacity (h : CO g G) : WC (fun e => e = 2 ∨ e = 0 ∨ e = 1) g (fC_setCapacity G 0 v w) := by
  rw [fC_setCapacity]
  refine W_bdQ (tC_namedP h) (fun c hc => W_bdQ tC_checkRange (fun _ _ => ?_) (fun e he => WC_e (by subst he; simp) h)) (fun e he => WC_e (by subst he; simp) h)
  have pa := Pn_a (CO_T h T1) hc
  rw [if_pos (Pa_kd T1 pa)]
  refine W_bdP tP_isRunning (fun _ _ => W_bdQ tC_checkState (fun _ _ => W_push h (fun _ A hA _ => ?_)) (fun e he => WC_e (by subst he; simp) h))
  rw [bnd_s]
  exact WC_i (CO_p hA pa (by omega))
theorem tC_setBudget (h : CO g G) : WC (fun e => e = 2 ∨ e = 0 ∨ e = 1) g (fC_setBudget G 0 v w) := by
  rw [fC_setBudget]
  refine W_bdQ (tC_namedP h) (fun c hc => W_bdQ tC_checkRange (fun _ _ => ?_) (fun e he => WC_e (by subst he; simp) h)) (fun e he => WC_e (by subst he; simp) h)
  have pa := Pn_a (CO_T h T1) hc
  rw [if_pos (Pa_kd T1 pa)]
  refine W_bdP tP_isRunning (fun _ _ => W_bdQ tC_checkState (fun _ _ => W_push h (fun _ A hA _ => ?_)) (fun e he => WC_e (by subst he; simp) h))
  rw [bnd_s]
  exact WC_i (CO_p hA pa (by omega))
theorem tC_setHeir (h : CO g G) : WC (fun e => e = 2 ∨ e = 0 ∨ e = 1) g (fC_setHeir G 0 v w) := by
  rw [fC_setHeir]
  refine W_bdQ (tC_namedP h) (fun c hc => ?_) (fun e he => WC_e (by subst he; simp) h)
  have pa := Pn_a (CO_T h T1) hc
  rw [if_pos (Pa_kd T1 pa)]
  refine W_ite (fun _ => ?_) (fun _ => W_bdQ (tC_namedP h) (fun _ _ => W_ite (fun _ => WC_e (by simp) h) (fun _ => ?_)) (fun e he => WC_e (by subst he; simp) h))
  · refine W_bdP tP_isMortal (fun _ _ => W_bdQ tC_checkState (fun _ _ => W_push h (fun _ A hA _ => ?_)) (fun e he => WC_e (by subst he; simp) h))
    rw [bnd_s]
    exact WC_i (CO_p hA pa (by omega))
  · refine W_bdP tP_isMortal (fun _ _ => W_bdQ tC_checkState (fun _ _ => W_push h (fun _ A hA _ => ?_)) (fun e he => WC_e (by subst he; simp) h))
    rw [bnd_s]
    exact WC_i (CO_p hA pa (by omega))
theorem tC_give (h : CO g G) : WC (fun e => e = 0 ∨ e = 2 ∨ e = 1) g (fC_give G 0 v w) := by
  rw [fC_give]
  refine W_bdQ tC_checkRange (fun _ _ => W_bdQ (tC_namedP h) (fun c hc => ?_) (fun e he => WC_e (by subst he; simp) h)) (fun e he => WC_e (by subst he; simp) h)
  have pa := Pn_a (CO_T h T1) hc
  rw [if_pos (Pa_kd T1 pa)]
  refine W_bdP tP_isRunning (fun _ _ => W_bdQ tC_checkState (fun _ _ => W_push h (fun _ A hA _ => W_g (kd1 hA) ?_)) (fun e he => WC_e (by subst he; simp) h))
  rw [co0 hA]
  refine W_bdP (tT_holderOf (CO_T hA T1) T1) (fun y hy => W_g (Pa_kd T1 hy) ?_)
  exact W_bdN (tT_giveDuty (CO_T hA T1) T1 pa) (fun _ B hB => WC_i (CO_IT hA T1 hB.1))
theorem tC_spawn (h : CO g G) : WC (fun e => e = 2 ∨ e = 0 ∨ e = 1) g (fC_spawn G 0 a b v w) := by
  rw [fC_spawn]
  refine W_bdQ (tC_namedP h) (fun c hc => W_bdQ tC_checkRange (fun _ _ => W_bdQ tC_checkRange (fun _ _ => W_bdQ tC_checkRange (fun _ _ => ?_) (fun e he => WC_e (by subst he; simp) h)) (fun e he => WC_e (by subst he; simp) h)) (fun e he => WC_e (by subst he; simp) h)) (fun e he => WC_e (by subst he; simp) h)
  have pa := Pn_a (CO_T h T1) hc
  have l51 : ∀ s, WC (fun e => e = 2 ∨ e = 0 ∨ e = 1) g (jC_spawn_51 G 0 b v w c s) := by
    intro s
    rw [jC_spawn_51]
    refine W_bdQ tC_checkState (fun _ _ => W_push h (fun _ A hA eA => W_g (kd1 hA) ?_)) (fun e he => WC_e (by subst he; simp) h)
    obtain ⟨i, hi, rfl⟩ := hc
    have e5 : A 1 5 = G 1 5 := by rw [eA 1 (by omega)]
    rw [co0 hA]
    refine W_bdN (tT_arrive (CO_T hA T1) T1 (by rw [e5]; exact hi)) (fun y B hB => W_bdP (tC_numberOf T1 ?_) (fun _ _ => WC_i (CO_IT hA T1 hB.1)))
    rcases hB.2 with z | z
    · exact Or.inl z.1
    · have := hB.1.1.2.1
      exact Or.inr ⟨A 1 5, by omega, z.1⟩
  rw [if_pos (Pa_kd T1 pa)]
  refine W_bdP tP_room (fun _ _ => W_ite (fun _ => W_g (kd1 h) (W_ite (fun _ => l51 1) (fun _ => ?_))) (fun _ => ?_))
  · rw [jC_spawn_50]; exact l51 0
  · rw [jC_spawn_50]; exact l51 0
theorem tC_readAll (h : CO g G) : WC (fun e => e = 2 ∨ e = 1) g (fC_readAll G 0 v) := by
  rw [fC_readAll]
  refine W_bdQ (tC_namedP h) (fun c hc => ?_) (fun e he => WC_e (by subst he; simp) h)
  have pa := Pn_a (CO_T h T1) hc
  rw [if_pos (Pa_kd T1 pa)]
  refine W_bdP tP_isRunning (fun _ _ => W_bdQ tC_checkState (fun _ _ => W_push h (fun _ A hA _ => W_g (kd1 hA) ?_)) (fun e he => WC_e (by subst he; simp) h))
  rw [co0 hA]
  exact W_bdN (tT_readZombiesOf (CO_T hA T1) T1) (fun _ B hB => WC_i (CO_IT hA T1 hB.1))
theorem tC_prune (h : CO g G) : WC (fun e => e = 2 ∨ e = 0 ∨ e = 1) g (fC_prune G 0 v w) := by
  rw [fC_prune]
  refine W_bdQ (tC_namedP h) (fun c hc => W_bdQ tC_checkRange (fun _ hr => ?_) (fun e he => WC_e (by subst he; simp) h)) (fun e he => WC_e (by subst he; simp) h)
  have pa := Pn_a (CO_T h T1) hc
  rw [if_pos (Pa_kd T1 pa)]
  refine W_bdP tP_isRunning (fun _ _ => W_bdQ tC_checkState (fun _ _ => W_push h (fun _ A hA _ => W_g (kd1 hA) ?_)) (fun e he => WC_e (by subst he; simp) h))
  rw [co0 hA]
  exact W_bdN (tT_pruneBelow (CO_T hA T1) T1 pa (by omega)) (fun _ B hB => WC_i (CO_IT hA T1 hB))
theorem tC_relieve (h : CO g G) : WC (fun e => e = 2 ∨ e = 1) g (fC_relieve G 0 v) := by
  rw [fC_relieve]
  refine W_bdQ (tC_namedP h) (fun c hc => ?_) (fun e he => WC_e (by subst he; simp) h)
  have pa := Pn_a (CO_T h T1) hc
  rw [if_pos (Pa_kd T1 pa)]
  refine W_bdP tP_isMortal (fun _ _ => W_bdQ tC_checkState (fun _ _ => W_push h (fun _ A hA _ => W_g (kd1 hA) ?_)) (fun e he => WC_e (by subst he; simp) h))
  rw [co0 hA]
  exact W_bdN (tT_loseSurplus (CO_T hA T1) T1 pa) (fun _ B hB => WC_i (CO_IT hA T1 hB))
theorem tC_restoreState (h : CO g G) : WC (fun e => e = 1) g (fC_restoreState G 0) := by
  rw [fC_restoreState]
  refine W_bdQ tC_checkState (fun _ _ => W_g (kd1 h) ?_) (fun e he => WC_e he h)
  rw [co0 h, co2 h]
  refine W_bdN (tT_take (CO_T h T1).1 T1 T89 (CO_T h T89) (by omega)) (fun _ A hA => ?_)
  have wA := CO_IT h T1 hA
  rw [co3 wA, if_pos kd_133, bnd_s]
  have wB := CO_w (a := 133) (b := 1) (v := 0) wA (by omega)
  generalize pU A 133 1 0 = B at *
  rw [if_pos (kd1 wB), co0 wB]
  exact W_bdP (tT_countInState (CO_T wB T1) T1) (fun _ _ => WC_i wB)
theorem tC_undo (h : CO g G) : WN (fun _ H => CO g H) (fC_undo G 0) := by
  rw [fC_undo, co3 h, if_pos kd_133, co0 h]
  refine W_bdN (tH_pop h) (fun _ A hA => W_ite (fun _ => WN_i hA) (fun _ => ?_))
  rw [co3 hA, if_pos kd_133]
  exact WN_i hA
theorem kd89 (h : CO g G) : kd (G 0 2) = 5 := by rw [co2 h]; exact kdT T89
theorem tC_saveState (h : CO g G) : WN (fun _ H => CO g H) (fC_saveState G 0) := by
  rw [fC_saveState, if_pos (kd89 h), co0 h, co2 h]
  refine W_bdN (tT_take (CO_T h T89).1 T89 T1 (CO_T h T1) (by omega)) (fun _ A hA => ?_)
  have wA := CO_IT h T89 hA
  rw [bnd_s]
  have wB := CO_w (a := 0) (b := 6) (v := 1) wA (by omega)
  generalize pU A 0 6 1 = B at *
  rw [if_pos (kd1 wB), co0 wB]
  exact W_bdP (tT_countInState (CO_T wB T1) T1) (fun _ _ => WN_i wB)
theorem tC_exitOfCopy (h : CO g G) (hw : 0 ≤ w ∧ w ≤ 255) : WN (fun _ H => CO g H ∧ ∀ x, ¬ (45 ≤ x ∧ x < 89) → H x = G x) (fC_exitOfCopy G 0 v w) := by
  rw [fC_exitOfCopy, if_pos (kd45 h), co0 h, co1 h]
  refine W_bdN (tT_take (CO_T h T45).1 T45 T1 (CO_T h T1) (by omega)) (fun _ A hA => ?_)
  have wA := CO_IT h T45 hA
  rw [if_pos (kd45 wA), co1 wA]
  refine W_bdP (tT_at hA.1 T45) (fun y hy => W_ite (fun _ => WN_i ⟨wA, fun x hx => hA.2 x (by omega)⟩) (fun hn => ?_))
  have py : Pa 45 y := by
    rcases hy with e | e
    · exact absurd (by omega) hn
    · exact Pn_a hA.1 e
  exact W_bdN (tT_letExit hA.1 T45 py (by omega)) (fun _ B hB => WN_i ⟨CO_IT wA T45 hB, fun x hx => (hB.2 x (by omega)).trans (hA.2 x (by omega))⟩)
theorem tC_wouldFall (h : CO g G) : WC (fun e => e = 2 ∨ e = 0 ∨ e = 1) g (fC_wouldFall G 0 v w) := by
  rw [fC_wouldFall]
  exact W_bdQ (tC_namedForExit h) (fun c hc => W_bdN (tC_exitOfCopy h hc.2) (fun _ A hA => WC_i hA.1)) (fun e he => WC_e he h)
theorem tC_wouldStand (h : CO g G) : WC (fun e => e = 2 ∨ e = 0 ∨ e = 1) g (fC_wouldStand G 0 v w) := by
  rw [fC_wouldStand]
  refine W_bdQ (tC_namedForExit h) (fun c hc => W_bdN (tC_exitOfCopy h hc.2) (fun _ A hA => W_g (kd45 hA.1) ?_)) (fun e he => WC_e he h)
  rw [co1 hA.1]
  exact W_bdP (tT_greatestDepth (CO_T hA.1 T45) T45) (fun _ _ => WC_i hA.1)
theorem tC_wouldHave (h : CO g G) : WC (fun e => e = 2 ∨ e = 0 ∨ e = 1) g (fC_wouldHave G 0 a v w) := by
  rw [fC_wouldHave]
  refine W_bdQ (tC_namedP h) (fun _ _ => W_bdQ (tC_namedForExit h) (fun c hc => W_bdN (tC_exitOfCopy h hc.2) (fun _ A hA => W_g (kd45 hA.1) ?_)) (fun e he => WC_e he h)) (fun e he => WC_e (by subst he; simp) h)
  rw [co1 hA.1]
  have ht := CO_T hA.1 T45
  refine W_bdP (tT_at ht T45) (fun y hy => W_ite (fun _ => WC_i hA.1) (fun hn => ?_))
  have py : Pa 45 y := by
    rcases hy with e | e
    · exact absurd (by omega) hn
    · exact Pn_a ht e
  rw [if_pos (Pa_kd T45 py)]
  exact W_bdP (tC_numberOf T45 (sup_a ht py)) (fun _ _ => WC_i hA.1)
theorem tC_wouldHold (h : CO g G) : WC (fun e => e = 2 ∨ e = 0 ∨ e = 1) g (fC_wouldHold G 0 a v w) := by
  rw [fC_wouldHold]
  refine W_bdQ (tC_namedP h) (fun _ _ => W_bdQ tC_checkRange (fun _ _ => W_bdQ (tC_namedForExit h) (fun c hc => W_bdN (tC_exitOfCopy h hc.2) (fun _ A hA => W_g (kd45 hA.1) ?_)) (fun e he => WC_e he h)) (fun e he => WC_e (by subst he; simp) h)) (fun e he => WC_e (by subst he; simp) h)
  rw [co1 hA.1]
  exact W_bdP (tT_holderOf (CO_T hA.1 T45) T45) (fun y hy => W_g (Pa_kd T45 hy) (WC_i hA.1))
theorem tC_betterCode (h : CO g G) : WC (fun e => e = 2 ∨ e = 1) g (fC_betterCode G 0 v) := by
  rw [fC_betterCode]
  refine W_bdQ (tC_namedP h) (fun c hc => W_g (Pa_kd T1 (Pn_a (CO_T h T1) hc)) (W_bdP tP_isMortal (fun _ _ => W_bdQ tC_checkState (fun _ _ => ?_) (fun e he => WC_e (by subst he; simp) h)))) (fun e he => WC_e (by subst he; simp) h)
  exact W_bdN (tC_exitOfCopy h (by omega)) (fun _ A hA => W_bdN (tC_exitOfCopy hA.1 (by omega)) (fun _ B hB => W_ite (fun _ => WC_i hB.1) (fun _ => WC_i hB.1)))
theorem tC_wouldFallBy (h : CO g G) : WC (fun e => e = 0) g (fC_wouldFallBy G 0 v w) := by
  rw [fC_wouldFallBy]
  refine W_bdQ tC_checkKill (fun _ hw => W_g (kd45 h) ?_) (fun e he => WC_e he h)
  rw [co0 h, co1 h]
  refine W_bdN (tT_take (CO_T h T45).1 T45 T1 (CO_T h T1) (by omega)) (fun _ A hA => ?_)
  have wA := CO_IT h T45 hA
  rw [if_pos (kd45 wA), co1 wA]
  refine W_bdN (tT_killGroup hA.1 T45 (by omega)) (fun _ B hB => ?_)
  have wB := CO_IT wA T45 hB
  exact W_g (kd45 wB) (W_g (kd1 wB) (WC_i wB))
theorem tC_wouldRun (h : CO g G) : WC (fun e => e = 0) g (fC_wouldRun G 0 v w) := by
  rw [fC_wouldRun]
  refine W_bdQ tC_checkKill (fun _ hw => W_g (kd45 h) ?_) (fun e he => WC_e he h)
  rw [co0 h, co1 h]
  refine W_bdN (tT_take (CO_T h T45).1 T45 T1 (CO_T h T1) (by omega)) (fun _ A hA => ?_)
  have wA := CO_IT h T45 hA
  rw [if_pos (kd45 wA), co1 wA]
  refine W_bdN (tT_killGroup hA.1 T45 (by omega)) (fun _ B hB => ?_)
  have wB := CO_IT wA T45 hB
  refine W_g (kd45 wB) ?_
  rw [co1 wB]
  exact W_bdP (tT_countInState hB.1 T45) (fun _ _ => WC_i wB)
end CLS12
