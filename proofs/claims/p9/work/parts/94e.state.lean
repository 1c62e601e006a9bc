/-! ===== the class's tree against the reference's row; both readers in step (own work) ===== -/
section PAR5
variable {C : gH → (Int → Int) → Prop} {g g' G H K A : gH} {r r' : Int → Int} {a b c d e i j k l m n p q s t u v w x y z S : Int}
/-- a duty's will as the class reads it -/
def wl (v d : Int) : Int := w32 (gl2i (opL 0 (opS 0 v (opI 0 8 d)) 255) - 1)
/-- a process's cell against its places in the row -/
def PE (f r : Int → Int) (i : Int) : Prop :=
  (f 1 = r (140 + i) ∧ f 4 = r (100 + i) ∧ f 5 = r (180 + i) ∧ f 6 = r (220 + i) ∧ f 7 = r (260 + i) ∧ f 8 = r (340 + i) ∧ f 9 = r (300 + i) ∧ f 11 = r (380 + i) ∧ f 12 = r (420 + i)) ∧
  (∀ d, 0 ≤ d → d < 8 → wl (f 14) d = r (460 + 8 * i + d)) ∧ f 3 = kids r i 0 ∧ (¬ r (140 + i) = 0 → (0 ≤ f 10 ∧ f 10 < r 1) ∧ r (19 + f 10) = i)
/-- the rules are rules -/
def RU (r : Int → Int) : Prop := ∀ i, 0 ≤ i → i < 5 → i < r 5 → 0 ≤ r (6 + i) ∧ r (6 + i) ≤ 4
theorem RU_e (h : RU r) (e : ∀ k, 5 ≤ k → k < 11 → r' k = r k) : RU r' := by
  intro i i0 i1 i2
  rw [e 5 (by omega) (by omega)] at i2
  rw [e _ (by omega) (by omega)]
  exact h i i0 i1 i2
/-- the class's tree S says what the row says -/
def CP (S : Int) (G : gH) (r : Int → Int) : Prop :=
  (G S 5 = r 0 ∧ G S 6 = r 1 ∧ G S 7 = r 2 ∧ G S 8 = r 3 ∧ G S 9 = r 4 ∧ G S 4 = r 59) ∧
  (∀ i, 0 ≤ i → i < 5 → G (S + 4) i = if i < r 5 then r (6 + i) else -1) ∧
  (∀ d, 0 ≤ d → d < 8 → G (S + 3) d = r (11 + d)) ∧
  (∀ i, 0 ≤ i → i < r 0 → PE (G (pc S i)) r i) ∧
  (∀ i, 1 ≤ i → i < r 0 → G (pc S i) 2 = pc S (r (60 + i))) ∧
  (∀ i, r 0 ≤ i → i < 40 → G (pc S i) 1 = 3) ∧ RU r
theorem CP_eq (h : CP S G r) (hr : 0 ≤ r 0 ∧ r 0 ≤ 40) (e : ∀ x, S ≤ x → x < S + 44 → H x = G x) : CP S H r := by
  have eS := e S (by omega) (by omega)
  have e3 := e (S + 3) (by omega) (by omega)
  have e4 := e (S + 4) (by omega) (by omega)
  have ep : ∀ i, 0 ≤ i → i < 40 → H (pc S i) = G (pc S i) := fun i i0 i1 => by
    have := pc_b (T := S) ⟨i0, i1⟩
    exact e _ (by omega) (by omega)
  obtain ⟨h1, h2, h3, h4, h5, h6, h7⟩ := h
  refine ⟨by rw [eS]; exact h1, by rw [e4]; exact h2, by rw [e3]; exact h3, fun i i0 i1 => ?_, fun i i0 i1 => ?_, fun i i0 i1 => ?_, h7⟩
  · rw [ep i i0 (by omega)]; exact h4 i i0 i1
  · rw [ep i (by omega) (by omega)]; exact h5 i i0 i1
  · rw [ep i (by omega) i1]; exact h6 i i0 i1
/-- it speaks of the tree that is read alone -/
def CF (C : gH → (Int → Int) → Prop) : Prop := ∀ G H r, C G r → (0 ≤ r 0 ∧ r 0 ≤ 40) → (∀ x, 578 ≤ x → x < 622 → H x = G x) → C H r
theorem CF_CP : CF (CP 578) := fun G H r h hr e => CP_eq h hr (fun x x0 x1 => e x x0 (by omega))
/-- what was told once -/
def ON (G H : gH) : Prop := ((G 575 8 = 0 ∨ G 575 8 = 1) ∧ (G 575 9 = 0 ∨ G 575 9 = 1) ∧ (G 575 10 = 0 ∨ G 575 10 = 1)) ∧ H 624 19 = G 575 8 + 2 * G 575 9 + 4 * G 575 10
/-- what the class's reader leaves alone -/
def FL (g G : gH) : Prop := ∀ x, x < 575 → G x = g x
/-- both readers read, without an error so far -/
def RLs (C : gH → (Int → Int) → Prop) (g g' G H : gH) : Prop := RI g G ∧ RD g' H ∧ BB G H ∧ (CF C ∧ C G (H 625)) ∧ (G 575 2 = 0 ∧ G 575 3 = -1) ∧ (H 624 13 = 0 ∧ H 624 14 = -1) ∧ ON G H ∧ FL g G
/-- the reference is a token ahead -/
def RA (C : gH → (Int → Int) → Prop) (g g' G H : gH) : Prop := RLs C g g' G H ∧ TA (G 575 6) H
/-- both stand at one token -/
def RT (C : gH → (Int → Int) → Prop) (g g' G H : gH) : Prop := RLs C g g' G H ∧ TQ G H
/-- both have ended with one error -/
def RE (g g' G H : gH) : Prop := RI g G ∧ RD g' H ∧ BB G H ∧ ¬ H 624 13 = 0 ∧ G 575 2 = H 624 13 ∧ G 575 3 = H 624 14 ∧ FL g G
theorem RL_M (h : RLs C g g' G H) : 0 ≤ H 625 0 ∧ H 625 0 ≤ 40 := by
  have := h.2.1.1.2.1.1.1
  omega
/-- the class takes the next token -/
theorem ra_class (h : RA C g g' G H) : WN (fun _ K => RT C g g' K H ∧ RJ g G K ∧ FBt G K) (fS_advance G 575) := by
  obtain ⟨hl, ha⟩ := h
  have hM := RL_M hl
  obtain ⟨h1, h2, h3, h4, h5, h6, h7⟩ := hl
  refine WN_m (aS_advance (RI_J h1)) (fun _ K hK => ?_)
  obtain ⟨k1, k2⟩ := hK
  have kF : FBt G K := by obtain ⟨_, _, _, _, _, f⟩ := k2; exact f
  have e6 : K 576 = G 576 := k1.1.2 576 (by omega)
  have e7 : K 577 = G 577 := k1.1.2 577 (by omega)
  have hb : BB K H := by unfold BB; rw [e6, e7]; exact h3
  refine ⟨⟨⟨RJ_I k1, h2, hb, ⟨h4.1, h4.1 _ _ _ h4.2 hM (fun x x0 x1 => k1.1.2 x (by omega))⟩, ?_, h6, ?_⟩, TQ_of hb h1.2.1 ha k2⟩, k1, kF⟩
  · rw [kF 2 (by omega), kF 3 (by omega)]; exact h5
  · refine ⟨?_, fun x hx => (k1.1.2 x (by omega)).trans (h7.2 x hx)⟩
    unfold ON
    rw [kF 8 (by omega), kF 9 (by omega), kF 10 (by omega)]
    exact h7.1
/-- the reference goes on to its next token -/
theorem rt_model (h : RT C g g' G H) : WN (fun _ K => RA C g g' G K ∧ FM H K) (fM_advanceToken H 624) := by
  obtain ⟨⟨h1, h2, h3, h4, h5, h6, h7⟩, hq⟩ := h
  obtain ⟨K, e, t⟩ := aM_advance h2.1 (TK_Ps h2.2.2.2.2.1) (BB_0 h3)
  obtain ⟨K', e', d, -⟩ := rd_advance h2
  have : K' = K := by
    have := e'.symm.trans e
    exact (Prod.mk.inj (Option.some.inj this)).2
  subst this
  have f := t.1
  refine ⟨0, K', e, ⟨⟨h1, d, ?_, ?_, h5, ?_, ?_⟩, ?_⟩, f⟩
  · unfold BB
    rw [f.2 10 (by omega), f.1 631 (by omega)]
    exact h3
  · rw [f.1 625 (by omega)]; exact h4
  · rw [f.2 13 (by omega), f.2 14 (by omega)]; exact h6
  · refine ⟨?_, h7.2⟩
    unfold ON
    rw [f.2 19 (by omega)]
    exact h7.1
  · rw [hq.1.2]; exact t.2
/-- both fail at their token -/
theorem rt_fail (h : RT C g g' G H) (hc : ¬ c = 0) : RR (fun v G w H => v = 0 ∧ w = 0 ∧ RE g g' G H) (fS_fail G 575 c) (fM_failsAt H 624 c) := by
  obtain ⟨⟨h1, h2, h3, h4, h5, h6, h7⟩, hq⟩ := h
  obtain ⟨y, K, e, k⟩ := tS_failI (v := c) h1
  obtain ⟨L, e2, l, -⟩ := rd_fails (v := c) h2
  have e0 := e
  have e20 := e2
  rw [fS_fail, bnd_s, bnd_s] at e
  rw [fM_failsAt, if_pos h6.1, bnd_s, bnd_s] at e2
  have eK := (Prod.mk.inj (Option.some.inj e)).2
  have ey := (Prod.mk.inj (Option.some.inj e)).1
  have eL := (Prod.mk.inj (Option.some.inj e2)).2
  rw [← ey] at e0
  refine ⟨0, K, 0, L, e0, e20, rfl, rfl, k, l, ?_, ?_, ?_, ?_⟩
  · subst eK eL
    unfold BB
    simp only [pU_n (show ¬ (576 : Int) = 575 by omega), pU_n (show ¬ (577 : Int) = 575 by omega), pU_n (show ¬ (631 : Int) = 624 by omega), pU_y (show ¬ (10 : Int) = 13 by omega), pU_y (show ¬ (10 : Int) = 14 by omega)]
    exact h3
  · subst eL
    rw [pU_y (by omega), pU_s, u1_s]; exact hc
  · subst eK eL
    rw [pU_y (by omega), pU_s, u1_s, pU_y (by omega), pU_s, u1_s]
  · subst eK eL
    refine ⟨?_, fun x hx => by rw [pU_n (by omega), pU_n (by omega)]; exact h7.2 x hx⟩
    rw [pU_s, u1_s, pU_y (show ¬ (5 : Int) = 2 by omega), pU_s, u1_s, pU_y (show ¬ (16 : Int) = 13 by omega)]
    exact hq.1.1
end PAR5
