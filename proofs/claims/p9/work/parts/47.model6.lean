/-! ===== a process on its way out (own work) ===== -/
def EP (r : Int → Int) (p s q : Int) : Prop :=
  WB r ∧ (r (140 + p) = 1 ∧ r (60 + p) = s ∧ (0 < p ∧ p < r 0) ∧ (0 ≤ s ∧ s < r 0) ∧ s ≠ p ∧ r (140 + s) = 0) ∧ STT r ∧ (∀ i, 0 < i → i < r 0 → ¬ r (140 + i) = 2 → ¬ r (60 + i) = p → r (140 + r (60 + i)) = 0) ∧ EX r ∧ EXL r ∧ NX r ∧ CD r ∧ BU r ∧ (q = -1 ∨ (0 < q ∧ q < r 0 ∧ r (140 + q) = 0 ∧ r (60 + q) = s ∧ q ≠ p))
theorem cn_eq_st {r r' : Int → Int} (h0 : r' 0 = r 0) (hM : r 0 ≤ 40) (h : ∀ k, 140 ≤ k → k < 180 → r' k = r k) : cn (fun i => !decide (r' (140 + i) = 0)) (r' 0).toNat 0 = cn (fun i => !decide (r (140 + i) = 0)) (r 0).toNat 0 := by
  rw [h0]
  exact cn_congr _ _ (fun j j0 j1 => by
    show (!decide (r' (140 + j) = 0)) = !decide (r (140 + j) = 0)
    rw [h _ (by omega) (by omega)])
theorem EP_gen {r r' : Int → Int} {p s q : Int} (h : EP r p s q) (hWB : WB r') (hsup : ∀ i, 0 < i → i < r 0 → ¬ r' (60 + i) = r (60 + i) → i ≠ p ∧ i ≠ q ∧ 0 ≤ r' (60 + i) ∧ r' (60 + i) < r 0 ∧ r (140 + r' (60 + i)) = 0)
    (he : ∀ k, ¬ k = 2 → ¬ k = 3 → ¬ (11 ≤ k ∧ k < 19) → ¬ (60 ≤ k ∧ k < 100) → ¬ (380 ≤ k ∧ k < 420) → r' k = r k) : EP r' p s q := by
  obtain ⟨h1, ⟨a1, a2, a3, a4, a5, a6⟩, ⟨b1, b2⟩, h4, ⟨c1, c2⟩, h6, h7, h8, h9, h10⟩ := h
  have hM := h1.1
  have e0 : r' 0 = r 0 := he 0 (by omega) (by omega) (by omega) (by omega) (by omega)
  have e1 : r' 1 = r 1 := he 1 (by omega) (by omega) (by omega) (by omega) (by omega)
  have est : ∀ i, 0 ≤ i → i < 40 → r' (140 + i) = r (140 + i) := fun i i0 i1 => he _ (by omega) (by omega) (by omega) (by omega) (by omega)
  have eup : ∀ i, 0 < i → i < r 0 → (i = p ∨ i = q) → r' (60 + i) = r (60 + i) := by
    intro i i0 i1 hi
    by_cases e : r' (60 + i) = r (60 + i)
    · exact e
    · have := hsup i i0 i1 e
      rcases hi with hi | hi
      · exact absurd hi this.1
      · exact absurd hi this.2.1
  have epp : r' (60 + p) = s := by rw [eup p a3.1 a3.2 (Or.inl rfl)]; exact a2
  refine ⟨hWB, ⟨by rw [est p (by omega) (by omega)]; exact a1, epp, by rw [e0]; exact a3, by rw [e0]; exact a4, a5, by rw [est s (by omega) (by omega)]; exact a6⟩, ⟨?_, by rw [he 140 (by omega) (by omega) (by omega) (by omega) (by omega)]; exact b2⟩, ?_, ⟨by rw [e1]; exact c1, ?_⟩, ?_, ?_, ?_, ?_, ?_⟩
  · intro i i0 i1
    rw [e0] at i1
    rw [est i i0 (by omega)]
    exact b1 i i0 i1
  · intro i i0 i1 i2 i3
    rw [e0] at i1
    rw [est i (by omega) (by omega)] at i2
    by_cases e : r' (60 + i) = r (60 + i)
    · rw [e] at i3 ⊢
      have := h1.2.1 i i0 i1
      rw [est _ this.1 (by omega)]
      exact h4 i i0 i1 i2 i3
    · have := hsup i i0 i1 e
      rw [est _ this.2.2.1 (by omega)]
      exact this.2.2.2.2
  · intro k k0 k1
    rw [e1] at k1
    rw [he _ (by omega) (by omega) (by omega) (by omega) (by omega), e0]
    exact c2 k k0 k1
  · intro i i0 i1 i2
    rw [e0] at i1
    rw [est i i0 (by omega)] at i2
    obtain ⟨k, k0, k1, k2⟩ := h6 i i0 i1 i2
    exact ⟨k, k0, by rw [e1]; exact k1, by rw [he _ (by omega) (by omega) (by omega) (by omega) (by omega)]; exact k2⟩
  · show r' 1 = _
    rw [e1, cn_eq_st e0 hM.2 (fun k k0 k1 => he k (by omega) (by omega) (by omega) (by omega) (by omega))]
    exact h7
  · intro i i0 i1 i2
    rw [e0] at i1
    rw [est i i0 (by omega)] at i2
    rw [he _ (by omega) (by omega) (by omega) (by omega) (by omega)]
    exact h8 i i0 i1 i2
  · intro i i0 i1
    rw [e0] at i1
    rw [he _ (by omega) (by omega) (by omega) (by omega) (by omega)]
    exact h9 i i0 i1
  · rcases h10 with h | ⟨q1, q2, q3, q4, q5⟩
    · exact Or.inl h
    · exact Or.inr ⟨q1, by rw [e0]; exact q2, by rw [est q (by omega) (by omega)]; exact q3, by rw [eup q q1 q2 (Or.inr rfl)]; exact q4, q5⟩
theorem EP_sup {r r' : Int → Int} {p s q c t : Int} (h : EP r p s q) (hc : 0 < c ∧ c < r 0) (hcp : c ≠ p) (hcq : c ≠ q) (ht : 0 ≤ t ∧ t < r 0) (htc : t ≠ c) (ho : OV (up r) c t = false) (hst : r (140 + t) = 0) (hk : r' (60 + c) = t) (he : ∀ k, ¬ k = 2 → ¬ k = 3 → ¬ (380 ≤ k ∧ k < 420) → ¬ k = 60 + c → r' k = r k) : EP r' p s q := by
  have hM := h.1.1
  refine EP_gen h (WB_sup h.1 hc ht htc ho hk (fun k hk => he k (by omega) (by omega) (by omega) (by omega))) ?_ (fun k k1 k2 k3 k4 k5 => he k k1 k2 k5 (by omega))
  intro i i0 i1 i2
  by_cases e : i = c
  · subst e
    rw [hk]
    exact ⟨hcp, hcq, ht.1, ht.2, hst⟩
  · exact absurd (he _ (by omega) (by omega) (by omega) (by omega)) i2
theorem ex1_n {r : Int → Int} {p code k : Int} (h : ¬ k = 1 ∧ ¬ k = 19 + r 1 ∧ ¬ k = 300 + p ∧ ¬ k = 140 + p) : ex1 r p code k = r k := by
  unfold ex1
  rw [u1_n h.1, u1_n h.2.1, u1_n h.2.2.1, u1_n h.2.2.2]
theorem ex1_v {r : Int → Int} {p code : Int} (hp : 0 < p ∧ p < 40) (hr : 0 ≤ r 1 ∧ r 1 ≤ 39) : ex1 r p code 1 = r 1 + 1 ∧ ex1 r p code (19 + r 1) = p ∧ ex1 r p code (300 + p) = code ∧ ex1 r p code (140 + p) = 1 := by
  unfold ex1
  refine ⟨u1_s, ?_, ?_, ?_⟩
  · rw [u1_n (by omega), u1_s]
  · rw [u1_n (by omega), u1_n (by omega), u1_s]
  · rw [u1_n (by omega), u1_n (by omega), u1_n (by omega), u1_s]
/-- at most all but the root have exited -/
theorem NX_bd {r : Int → Int} (hM : 1 ≤ r 0 ∧ r 0 ≤ 40) (h0 : r 140 = 0) (h : NX r) : 0 ≤ r 1 ∧ r 1 ≤ r 0 - 1 := by
  unfold NX at h
  obtain ⟨m, hm⟩ : ∃ m, (r 0).toNat = m + 1 := ⟨(r 0).toNat - 1, by omega⟩
  rw [hm, cn_s] at h
  have := cn_bd (fun i => !decide (r (140 + i) = 0)) m (0 + 1)
  have e : (!decide (r (140 + 0) = 0)) = false := by
    rw [show (140 : Int) + 0 = 140 by omega, h0]
    rfl
  rw [e, if_neg (by simp)] at h
  omega
/-- one more, if one is running beside the root -/
theorem NX_bd2 {r : Int → Int} {p : Int} (hM : 1 ≤ r 0 ∧ r 0 ≤ 40) (h0 : r 140 = 0) (h : NX r) (hp : 0 < p ∧ p < r 0) (hst : r (140 + p) = 0) : 0 ≤ r 1 ∧ r 1 ≤ r 0 - 2 := by
  unfold NX at h
  obtain ⟨m, hm⟩ : ∃ m, (r 0).toNat = m + 1 := ⟨(r 0).toNat - 1, by omega⟩
  rw [hm, cn_s] at h
  have h1 := cn_up (P := fun i => !decide (r (140 + i) = 0)) (Q := fun i => if i = p then true else !decide (r (140 + i) = 0)) (p := p) (by rw [hst]; rfl) (if_pos rfl) (fun j hj => (if_neg hj).symm) m (0 + 1)
  rw [if_pos (by omega)] at h1
  have h2 := cn_bd (fun i => if i = p then true else !decide (r (140 + i) = 0)) m (0 + 1)
  have e : (!decide (r (140 + 0) = 0)) = false := by
    rw [show (140 : Int) + 0 = 140 by omega, h0]
    rfl
  rw [e, if_neg (by simp)] at h
  have h3 := cn_bd (fun i => !decide (r (140 + i) = 0)) m (0 + 1)
  omega
theorem EP_ex1 {r : Int → Int} {p code : Int} (hb : WB r) (hf : WF r) (hp : 0 < p ∧ p < r 0) (hst : r (140 + p) = 0) (hc : 0 ≤ code ∧ code ≤ 255) : EP (ex1 r p code) p (r (60 + p)) (-1) ∧ (∀ d, 0 ≤ d → d < 8 → 0 ≤ ex1 r p code (11 + d) ∧ ex1 r p code (11 + d) < r 0 ∧ (ex1 r p code (140 + ex1 r p code (11 + d)) = 0 ∨ ex1 r p code (11 + d) = p)) := by
  obtain ⟨⟨s1, s2⟩, hSR, ⟨x1, x2⟩, hL, hN, hH, hC, hB⟩ := hf
  have hM := hb.1
  have hn := NX_bd2 hM s2 hN hp hst
  have hs := hb.2.1 p hp.1 hp.2
  obtain ⟨v1, v2, v3, v4⟩ := ex1_v (r := r) (p := p) (code := code) (by omega) (by omega)
  have e0 : ex1 r p code 0 = r 0 := ex1_n (by omega)
  have est : ∀ i, 0 ≤ i → i < 40 → i ≠ p → ex1 r p code (140 + i) = r (140 + i) := fun i i0 i1 i2 => ex1_n (by omega)
  have eup : ∀ i, 0 ≤ i → i < 40 → ex1 r p code (60 + i) = r (60 + i) := fun i i0 i1 => ex1_n (by omega)
  have hsp : r (60 + p) ≠ p := by
    intro e
    have h1 := DP_s (hb.2.2.1 p (by omega) hp.2) (by omega)
    have h2 : up r p = p := e
    rw [h2] at h1
    omega
  have hss : r (140 + r (60 + p)) = 0 := hSR p hp.1 hp.2 (by rw [hst]; omega)
  have hss' : ex1 r p code (140 + r (60 + p)) = 0 := by rw [est _ hs.1 (by omega) hsp]; exact hss
  refine ⟨⟨WB_eq hb (fun k hk => ex1_n (by omega)), ⟨v4, eup p (by omega) (by omega), by rw [e0]; exact hp, by rw [e0]; exact hs, hsp, hss'⟩, ⟨?_, ?_⟩, ?_, ⟨by rw [v1]; omega, ?_⟩, ?_, ?_, ?_, ?_, Or.inl rfl⟩, ?_⟩
  · intro i i0 i1
    rw [e0] at i1
    by_cases e : i = p
    · rw [e, v4]; omega
    · rw [est i i0 (by omega) e]; exact s1 i i0 i1
  · rw [show (140 : Int) = 140 + 0 by omega, est 0 (by omega) (by omega) (by omega)]
    exact s2
  · intro i i0 i1 i2 i3
    rw [e0] at i1
    rw [eup i (by omega) (by omega)] at i3 ⊢
    by_cases e : i = p
    · rw [e]; exact hss'
    · rw [est i (by omega) (by omega) e] at i2
      have := hb.2.1 i i0 i1
      rw [est _ this.1 (by omega) i3]
      exact hSR i i0 i1 i2
  · intro k k0 k1
    rw [v1] at k1
    rw [e0]
    by_cases e : k = r 1
    · rw [e, v2]; omega
    · rw [ex1_n (by omega)]
      exact x2 k k0 (by omega)
  · intro i i0 i1 i2
    rw [e0] at i1
    by_cases e : i = p
    · exact ⟨r 1, by omega, by rw [v1]; omega, by rw [v2]; exact e.symm⟩
    · rw [est i i0 (by omega) e] at i2
      obtain ⟨k, k0, k1, k2⟩ := hL i i0 i1 i2
      exact ⟨k, k0, by rw [v1]; omega, by rw [ex1_n (by omega)]; exact k2⟩
  · show ex1 r p code 1 = _
    rw [v1, e0, hN]
    have h1 := cn_up (P := fun i => !decide (r (140 + i) = 0)) (Q := fun i => if i = p then true else !decide (r (140 + i) = 0)) (p := p) (by rw [hst]; rfl) (if_pos rfl) (fun j hj => (if_neg hj).symm) (r 0).toNat 0
    rw [if_pos (by omega)] at h1
    rw [← h1]
    exact cn_congr _ _ (fun j j0 j1 => by
      show (if j = p then true else !decide (r (140 + j) = 0)) = !decide (ex1 r p code (140 + j) = 0)
      by_cases e : j = p
      · rw [if_pos e, e, v4]; rfl
      · rw [if_neg e, est j j0 (by omega) e])
  · intro i i0 i1 i2
    rw [e0] at i1
    by_cases e : i = p
    · rw [e, v3]; exact hc
    · rw [est i i0 (by omega) e] at i2
      rw [ex1_n (by omega)]
      exact hC i i0 i1 i2
  · intro i i0 i1
    rw [e0] at i1
    rw [ex1_n (by omega)]
    exact hB i i0 i1
  · intro d d0 d1
    have := hH d d0 d1
    rw [ex1_n (k := 11 + d) (by omega)]
    refine ⟨this.1, this.2.1, ?_⟩
    by_cases e : r (11 + d) = p
    · exact Or.inr e
    · rw [est _ this.1 (by omega) e]
      exact Or.inl this.2.2
