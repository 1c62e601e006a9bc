/-! ===== the reference lets a process exit (own work) ===== -/
def ex1 (r : Int → Int) (p code : Int) : Int → Int := u1 (u1 (u1 (u1 r (140 + p) 1) (300 + p) code) (19 + r 1) p) 1 (r 1 + 1)
def exq (r dm : Int → Int) (p code : Int) : Int := if RPc r dm p code then r 0 else -1
def ex2 (r dm : Int → Int) (p code : Int) : Int → Int := if RPc r dm p code then rpR r p else r
def exd (r dm : Int → Int) (p code : Int) : Int → Int := if RPc r dm p code then u1 dm (r 0) 0 else dm
def dutS (dm : Int → Int) (p q k : Int) (r : Int → Int) : Int → Int := if r (11 + k) = p then u1 r (11 + k) (if q = -1 then HO r dm p k else q) else r
def orpS (dm : Int → Int) (p q c : Int) (r : Int → Int) : Int → Int := if ic r c p 0 = true then adR r (if ¬ q = -1 ∧ 0 < room r q then q else AD r dm c p) c else r
def zomS (p s c : Int) (r : Int → Int) : Int → Int := if ic r c p 1 = true then u1 r (60 + c) s else r
/-- states, supervisors, exits, holders, codes, budgets -/
def SR (r : Int → Int) : Prop := ∀ i, 0 < i → i < r 0 → ¬ r (140 + i) = 2 → r (140 + r (60 + i)) = 0
def STT (r : Int → Int) : Prop := (∀ i, 0 ≤ i → i < r 0 → r (140 + i) = 0 ∨ r (140 + i) = 1 ∨ r (140 + i) = 2) ∧ r 140 = 0
def NX (r : Int → Int) : Prop := r 1 = cn (fun i => !decide (r (140 + i) = 0)) (r 0).toNat 0
def HD (r : Int → Int) : Prop := ∀ d, 0 ≤ d → d < 8 → 0 ≤ r (11 + d) ∧ r (11 + d) < r 0 ∧ r (140 + r (11 + d)) = 0
def BU (r : Int → Int) : Prop := ∀ i, 0 ≤ i → i < r 0 → 0 ≤ r (220 + i) ∧ r (220 + i) ≤ 9
def WF (r : Int → Int) : Prop := STT r ∧ SR r ∧ EX r ∧ EXL r ∧ NX r ∧ HD r ∧ CD r ∧ BU r
/-! WB is kept by a change of other places, by an adoption, by one that comes -/
theorem WB_eq {r r' : Int → Int} (h : WB r) (he : ∀ k, k = 0 ∨ k = 5 ∨ (60 ≤ k ∧ k < 140) ∨ (260 ≤ k ∧ k < 300) ∨ (460 ≤ k ∧ k < 780) → r' k = r k) : WB r' := by
  obtain ⟨h1, h2, h3, h4, h5, h6, h7⟩ := h
  have e0 : r' 0 = r 0 := he 0 (by omega)
  refine ⟨by rw [e0]; exact h1, ?_, ?_, by rw [he 5 (by omega)]; exact h4, ?_, ?_, ?_⟩
  · intro i i0 i1
    rw [e0] at i1 ⊢
    rw [he _ (by omega)]
    exact h2 i i0 i1
  · rw [e0]
    exact acy_ext h3 h2 (fun i i0 i1 => he _ (by omega))
  · intro i i0 i1
    rw [e0] at i1 ⊢
    rw [he _ (by omega)]
    exact h5 i i0 i1
  · intro i d i0 i1 d0 d1
    rw [e0] at i1 ⊢
    rw [he _ (by omega)]
    exact h6 i d i0 i1 d0 d1
  · intro i i0 i1
    rw [e0] at i1
    rw [he _ (by omega)]
    exact h7 i i0 i1
theorem WB_sup {r r' : Int → Int} {c s : Int} (h : WB r) (hc : 0 < c ∧ c < r 0) (hs : 0 ≤ s ∧ s < r 0) (hsc : s ≠ c) (ho : OV (up r) c s = false) (hk : r' (60 + c) = s) (he : ∀ k, k = 0 ∨ k = 5 ∨ (60 ≤ k ∧ k < 140 ∧ ¬ k = 60 + c) ∨ (260 ≤ k ∧ k < 300) ∨ (460 ≤ k ∧ k < 780) → r' k = r k) : WB r' := by
  obtain ⟨h1, h2, h3, h4, h5, h6, h7⟩ := h
  have e0 : r' 0 = r 0 := he 0 (by omega)
  have hu : ∀ i, 0 < i → i < r 0 → up r' i = u1 (up r) c s i := by
    intro i i0 i1
    by_cases e : i = c
    · subst e; rw [u1_s]; exact hk
    · rw [u1_n e]; exact he _ (by omega)
  have hcl : ∀ i, 0 < i → i < r 0 → 0 ≤ u1 (up r) c s i ∧ u1 (up r) c s i < r 0 := by
    intro i i0 i1
    by_cases e : i = c
    · subst e; rw [u1_s]; exact hs
    · rw [u1_n e]; exact h2 i i0 i1
  refine ⟨by rw [e0]; exact h1, ?_, ?_, by rw [he 5 (by omega)]; exact h4, ?_, ?_, ?_⟩
  · intro i i0 i1
    rw [e0] at i1 ⊢
    have := hu i i0 i1
    have e : up r' i = r' (60 + i) := rfl
    rw [← e, this]
    exact hcl i i0 i1
  · rw [e0]
    exact acy_ext (acy_u1 h3 (by omega) hc hs hsc ho) hcl hu
  · intro i i0 i1
    rw [e0] at i1 ⊢
    rw [he _ (by omega)]
    exact h5 i i0 i1
  · intro i d i0 i1 d0 d1
    rw [e0] at i1 ⊢
    rw [he _ (by omega)]
    exact h6 i d i0 i1 d0 d1
  · intro i i0 i1
    rw [e0] at i1
    rw [he _ (by omega)]
    exact h7 i i0 i1
theorem cmR_0 {r : Int → Int} {a c gp b : Int} : cmR r a c gp b 0 = r 0 + 1 := if_pos rfl
theorem cmR_o {r : Int → Int} {a c gp b k : Int} (hM : 1 ≤ r 0 ∧ r 0 < 40) (h : ¬ k = 0 ∧ ¬ (460 + 8 * r 0 ≤ k ∧ k < 468 + 8 * r 0) ∧ ¬ k = 420 + r 0 ∧ ¬ k = 380 + r 0 ∧ ¬ k = 340 + r 0 ∧ ¬ k = 300 + r 0 ∧ ¬ k = 260 + r 0 ∧ ¬ k = 220 + r 0 ∧ ¬ k = 180 + r 0 ∧ ¬ k = 140 + r 0 ∧ ¬ k = 100 + r 0 ∧ ¬ k = 60 + r 0) : cmR r a c gp b k = r k := by
  unfold cmR
  rw [if_neg h.1, if_neg h.2.1, if_neg h.2.2.1, if_neg h.2.2.2.1, if_neg h.2.2.2.2.1, if_neg h.2.2.2.2.2.1, if_neg h.2.2.2.2.2.2.1, if_neg h.2.2.2.2.2.2.2.1, if_neg h.2.2.2.2.2.2.2.2.1, if_neg h.2.2.2.2.2.2.2.2.2.1, if_neg h.2.2.2.2.2.2.2.2.2.2.1, if_neg h.2.2.2.2.2.2.2.2.2.2.2]
theorem cmR_n {r : Int → Int} {a c gp b : Int} (hM : 1 ≤ r 0 ∧ r 0 < 40) : cmR r a c gp b (60 + r 0) = a ∧ cmR r a c gp b (100 + r 0) = c ∧ cmR r a c gp b (140 + r 0) = 0 ∧ cmR r a c gp b (180 + r 0) = gp ∧ cmR r a c gp b (220 + r 0) = b ∧ cmR r a c gp b (260 + r 0) = -1 := by
  unfold cmR
  refine ⟨?_, ?_, ?_, ?_, ?_, ?_⟩
  · simp (disch := omega) only [eq_f, le_f, false_and, ↓reduceIte]
  · simp (disch := omega) only [eq_f, le_f, false_and, ↓reduceIte]
  · simp (disch := omega) only [eq_f, le_f, false_and, ↓reduceIte]
  · simp (disch := omega) only [eq_f, le_f, false_and, ↓reduceIte]
  · simp (disch := omega) only [eq_f, le_f, false_and, ↓reduceIte]
  · simp (disch := omega) only [eq_f, le_f, false_and, ↓reduceIte]
theorem WB_cm {r : Int → Int} {a c gp b : Int} (h : WB r) (hM : r 0 < 40) (ha : 0 ≤ a ∧ a < r 0) (hc : 0 ≤ c ∧ c ≤ 9) : WB (cmR r a c gp b) := by
  obtain ⟨h1, h2, h3, h4, h5, h6, h7⟩ := h
  have hM' : 1 ≤ r 0 ∧ r 0 < 40 := ⟨h1.1, hM⟩
  obtain ⟨n1, n2, n3, n4, n5, n6⟩ := cmR_n (a := a) (c := c) (gp := gp) (b := b) hM'
  have hu : ∀ i, 0 < i → i < r 0 + 1 → up (cmR r a c gp b) i = u1 (up r) (r 0) a i := by
    intro i i0 i1
    by_cases e : i = r 0
    · rw [e, u1_s]; exact n1
    · rw [u1_n e]; exact cmR_o hM' (by omega)
  have hcl : ∀ i, 0 < i → i < r 0 + 1 → 0 ≤ u1 (up r) (r 0) a i ∧ u1 (up r) (r 0) a i < r 0 + 1 := by
    intro i i0 i1
    by_cases e : i = r 0
    · rw [e, u1_s]; omega
    · rw [u1_n e]; have := h2 i i0 (by omega); exact ⟨this.1, by have := this.2; exact Int.lt_trans this (by omega)⟩
  refine ⟨by rw [cmR_0]; omega, ?_, ?_, by rw [cmR_o hM' (by omega)]; exact h4, ?_, ?_, ?_⟩
  · intro i i0 i1
    rw [cmR_0] at i1 ⊢
    have := hu i i0 i1
    have e : up (cmR r a c gp b) i = cmR r a c gp b (60 + i) := rfl
    rw [← e, this]
    exact hcl i i0 i1
  · rw [cmR_0]
    exact acy_ext (acy_new h3 (by omega) ha h2) hcl hu
  · intro i i0 i1
    rw [cmR_0] at i1 ⊢
    by_cases e : i = r 0
    · rw [e, n6]; omega
    · rw [cmR_o hM' (by omega)]; have := h5 i i0 (by omega); omega
  · intro i d i0 i1 d0 d1
    rw [cmR_0] at i1 ⊢
    by_cases e : i = r 0
    · rw [e, show cmR r a c gp b (460 + 8 * r 0 + d) = -1 by
        unfold cmR
        rw [if_neg (by omega), if_pos (by omega)]]
      omega
    · rw [cmR_o hM' (by omega)]; have := h6 i d i0 (by omega) d0 d1; omega
  · intro i i0 i1
    rw [cmR_0] at i1
    by_cases e : i = r 0
    · rw [e, n2]; exact hc
    · rw [cmR_o hM' (by omega)]; exact h7 i i0 (by omega)
