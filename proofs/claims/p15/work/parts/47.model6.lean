/-! ===== a process on its way out (own work) ===== -/
def EP (r : Int → Int) (p s q : Int) : Prop :=
  WB r ∧ (r (140 + p) = 1 ∧ r (60 + p) = s ∧ (0 < p ∧ p < r 0) ∧ (0 ≤ s ∧ s < r 0) ∧ s ≠ p ∧ r (140 + s) = 0) ∧ STT r ∧ (∀ i, 0 < i → i < r 0 → ¬ r (140 + i) = 2 → ¬ r (60 + i) = p → r (140 + r (60 + i)) = 0) ∧ EX r ∧ EXL r ∧ NX r ∧ CD r ∧ BU r ∧ (q = -1 ∨ (0 < q ∧ q < r 0 ∧ r (140 + q) = 0 ∧ r (60 + q) = s ∧ q ≠ p))
theorem cn_eq_st {r r' : Int → Int} (h0 : r' 0 = r 0) (hM : r 0 ≤ 40) (h : ∀ k, 140 ≤ k → k < 180 → r' k = r k) : cn (fun i => !decide (r' (140 + i) = 0)) (r' 0).toNat 0 = cn (fun i => !decide (r (140 + i) = 0)) (r 0).toNat 0 := by
  rw [h0]
  exact cn_congr _ _ (fun j j0 j1 => by
    show (!decide (r' (140 + j) = 0)) = !decide (r (140 + j) = 0)
    rw [h _ (by omega) (by omega)])
theorem EP_gen {r r' : Int → Int} {p s q : Int} (h : EP r p s q) (hWB : WB r') (hsup : ∀ i, 0 < i → i < r 0 → ¬ r' (60 + i) = r (60 + i) → i ≠ p ∧ i ≠ q ∧ 0 ≤ r' (60 + i) ∧ r' (60 + i) < r 0 ∧ r (140 + r' (60 + i)) = 0)
    (he : ∀ k, ¬ k = 2 → ¬ k = 3 → ¬ (11 ≤ k ∧ k < 19) → ¬ (60 ≤ k ∧ k < 100) → ¬ (380 ≤ k ∧ k < 420) → r' k = r k) : EP r' p s q := by
  obtain ⟨h1, ⟨a1, a2, a3, a4, a5, a6⟩, ⟨b1, b2⟩, h4, ⟨c1, c2⟩, h6, h7, h8, h9, h10⟩ := h
  have hM := h1.1
  have e0 : r' 0 = r 0 := he 0 (by omega) (by omega) (by omega) (by omega) (by omega)
  have e1 : r' 1 = r 1 := he 1 (by omega) (by omega) (by omega) (by omega) (by omega)
  have est : ∀ i, 0 ≤ i → i < 40 → r' (140 + i) = r (140 + i) := fun i i0 i1 => he _ (by omega) (by omega) (by omega) (by omega) (by omega)
  have eup : ∀ i, 0 < i → i < r 0 → (i = p ∨ i = q) → r' (60 + i) = r (60 + i) := by
    intro i i0 i1 hi
    by_cases e : r' (60 + i) = r (60 + i)
    · exact e
    · have := hsup i i0 i1 e
      rcases hi with hi | hi
      · exact absurd hi this.1
      · exact absurd hi this.2.1
  have epp : r' (60 + p) = s := by rw [eup p a3.1 a3.2 (Or.inl rfl)]; exact a2
  refine ⟨hWB, ⟨by rw [est p (by omega) (by omega)]; exact a1, epp, by rw [e0]; exact a3, by rw [e0]; exact a4, a5, by rw [est s (by omega) (by omega)]; exact a6⟩, ⟨?_, by rw [he 140 (by omega) (by omega) (by omega) (by omega) (by omega)]; exact b2⟩, ?_, ⟨by rw [e1]; exact c1, ?_⟩, ?_, ?_, ?_, ?_, ?_⟩
  · intro i i0 i1
    rw [e0] at i1
    rw [est i i0 (by omega)]
    exact b1 i i0 i1
  · intro i i0 i1 i2 i3
    rw [e0] at i1
    rw [est i (by omega) (by omega)] at i2
    by_cases e : r' (60 + i) = r (60 + i)
    · rw [e] at i3 ⊢
      have := h1.2.1 i i0 i1
      rw [est _ this.1 (by omega)]
      exact h4 i i0 i1 i2 i3
    · have := hsup i i0 i1 e
      rw [est _ this.2.2.1 (by omega)]
      exact this.2.2.2.2
  · intro k k0 k1
    rw [e1] at k1
    rw [he _ (by omega) (by omega) (by omega) (by omega) (by omega), e0]
    exact c2 k k0 k1
  · intro i i0 i1 i2
    rw [e0] at i1
    rw [est i i0 (by omega)] at i2
    obtain ⟨k, k0, k1, k2⟩ := h6 i i0 i1 i2
    exact ⟨k, k0, by rw [e1]; exact k1, by rw [he _ (by omega) (by omega) (by omega) (by omega) (by omega)]; exact k2⟩
  · show r' 1 = _
    rw [e1, cn_eq_st e0 hM.2 (fun k k0 k1 => he k (by omega) (by omega) (by omega) (by omega) (by omega))]
    exact h7
  · intro i i0 i1 i2
    rw [e0] at i1
    rw [est i i0 (by omega)] at i2
    rw [he _ (by omega) (by omega) (by omega) (by omega) (by omega)]
    exact h8 i i0 i1 i2
  · intro i i0 i1
    rw [e0] at i1
    rw [he _ (by omega) (by omega) (by omega) (by omega) (by omega)]
    exact h9 i i0 i1
  · rcases h10 with h | ⟨q1, q2, q3, q4, q5⟩
    · exact Or.inl h
    · exact Or.inr ⟨q1, by rw [e0]; exact q2, by rw [est q (by omega) (by omega)]; exact q3, by rw [eup q q1 q2 (Or.inr rfl)]; exact q4, q5⟩
theorem EP_sup {r r' : Int → Int} {p s q c t : Int} (h : EP r p s q) (hc : 0 < c ∧ c < r 0) (hcp : c ≠ p) (hcq : c ≠ q) (ht : 0 ≤ t ∧ t < r 0) (htc : t ≠ c) (ho : OV (up r) c t = false) (hst : r (140 + t) = 0) (hk : r' (60 + c) = t) (he : ∀ k, ¬ k = 2 → ¬ k = 3 → ¬ (380 ≤ k ∧ k < 420) → ¬ k = 60 + c → r' k = r k) : EP r' p s q := by
  have hM := h.1.1
  refine EP_gen h (WB_sup h.1 hc ht htc ho hk (fun k hk => he k (by omega) (by omega) (by omega) (by omega))) ?_ (fun k k1 k2 k3 k4 k5 => he k k1 k2 k5 (by omega))
  intro i i0 i1 i2
  by_cases e : i = c
  · subst e
    rw [hk]
    exact ⟨hcp, hcq, ht.1, ht.2, hst⟩
  · exact absurd (he _ (by omega) (by omega) (by omega) (by omega)) i2
theorem ex1_n {r : Int → Int} {p code k : Int} (h : ¬ k = 1 ∧ ¬ k = 19 + r 1 ∧ ¬ k = 300 + p ∧ ¬ k = 140 + p) : ex1 r p code k = r k := by
  unfold ex1
  rw [u1_n h.1, u1_n h.2.1, u1_n h.2.2.1, u1_n h.2.2.2]
theorem ex1_v {r : Int → Int} {p code : Int} (hp : 0 < p ∧ p < 40) (hr : 0 ≤ r 1 ∧ r 1 ≤ 39) : ex1 r p code 1 = r 1 + 1 ∧ ex1 r p code (19 + r 1) = p ∧ ex1 r p code (300 + p) = code ∧ ex1 r p code (140 + p) = 1 := by
  unfold ex1
  refine ⟨u1_s, ?_, ?_, ?_⟩
  · rw [u1_n (by omega), u1_s]
  · rw [u1_n (by omega), u1_n (by omega), u1_s]
  · rw [u1_n (by omega), u1_n (by omega), u1_n (by omega), u1_s]
/-- at most all but the root have exited -/
theorem NX_bd {r : Int → Int} (hM : 1 ≤ r 0 ∧ r 0 ≤ 40) (h0 : r 140 = 0) (h : NX r) : 0 ≤ r 1 ∧ r 1 ≤ r 0 - 1 := by
  unfold NX at h
  obtain ⟨m, hm⟩ : ∃ m, (r 0).toNat = m + 1 := ⟨(r 0).toNat - 1, by omega⟩
  rw [hm, cn_s] at h
  have := cn_bd (fun i => !decide (r (140 + i) = 0)) m (0 + 1)
  have e : (!decide (r (140 + 0) = 0)) = false := by
    rw [show (140 : Int) + 0 = 140 by omega, h0]
    rfl
  rw [e, if_neg (by simp)] at h
  omega
/-- one more, if one is running beside the root -/
theorem NX_bd2 {r : Int → Int} {p : Int} (hM : 1 ≤ r 0 ∧ r 0 ≤ 40) (h0 : r 140 = 0) (h : NX r) (hp : 0 < p ∧ p < r 0) (hst : r (140 + p) = 0) : 0 ≤ r 1 ∧ r 1 ≤ r 0 - 2 := by
  unfold NX at h
  obtain ⟨m, hm⟩ : ∃ m, (r 0).toNat = m + 1 := ⟨(r 0).toNat - 1, by omega⟩
  rw [hm, cn_s] at h
  have h1 := cn_up (P := fun i => !decide (r (140 + i) = 0)) (Q := fun i => if i = p then true else !decide (r (140 + i) = 0)) (p := p) (by rw [hst]; rfl) (if_pos rfl) (fun j hj => (if_neg hj).symm) m (0 + 1)
  rw [if_pos (by omega)] at h1
  have h2 := cn_bd (fun i => if i = p then true else !decide (r (140 + i) = 0)) m (0 + 1)
  have e : (!decide (r (140 + 0) = 0)) = false := by
    rw [show (140 : Int) + 0 = 140 by omega, h0]
    rfl
  rw [e, if_neg (by simp)] at h
  have h3 := cn_bd (fun i => !decide (r (140 + i) = 0)) m (0 + 1)
  omega
theorem EP_ex1 {r : Int → Int} {p code : Int} (hb : WB r) (hf : WF r) (hp : 0 < p ∧ p < r 0) (hst : r (140 + p) = 0) (hc : 0 ≤ code ∧ code ≤ 255) : EP (ex1 r p code) p (r (60 + p)) (-1) ∧ (∀ d, 0 ≤ d → d < 8 → 0 ≤ ex1 r p code (11 + d) ∧ ex1 r p code (11 + d) < r 0 ∧ (ex1 r p code (140 + ex1 r p code (11 + d)) = 0 ∨ ex1 r p code (11 + d) = p)) := by
  obtain ⟨⟨s1, s2⟩, hSR, ⟨x1, x2⟩, hL, hN, hH, hC, hB⟩ := hf
  have hM := hb.1
  have hn := NX_bd2 hM s2 hN hp hst
  have hs := hb.2.1 p hp.1 hp.2
  obtain ⟨v1, v2, v3, v4⟩ := ex1_v (r := r) (p := p) (code := code) (by omega) (by omega)
  have e0 : ex1 r p code 0 = r 0 := ex1_n (by omega)
  have est : ∀ i, 0 ≤ i → i < 40 → i ≠ p → ex1 r p code (140 + i) = r (140 + i) := fun i i0 i1 i2 => ex1_n (by omega)
  have eup : ∀ i, 0 ≤ i → i < 40 → ex1 r p code (60 + i) = r (60 + i) := fun i i0 i1 => ex1_n (by omega)
  have hsp : r (60 + p) ≠ p := by
    intro e
    have h1 := DP_s (hb.2.2.1 p (by omega) hp.2) (by omega)
    have h2 : up r p = p := e
    rw [h2] at h1
    omega
  have hss : r (140 + r (60 + p)) = 0 := hSR p hp.1 hp.2 (by rw [hst]; omega)
  have hss' : ex1 r p code (140 + r (60 + p)) = 0 := by rw [est _ hs.1 (by omega) hsp]; exact hss
  refine ⟨⟨WB_eq hb (fun k hk => ex1_n (by omega)), ⟨v4, eup p (by omega) (by omega), by rw [e0]; exact hp, by rw [e0]; exact hs, hsp, hss'⟩, ⟨?_, ?_⟩, ?_, ⟨by rw [v1]; omega, ?_⟩, ?_, ?_, ?_, ?_, Or.inl rfl⟩, ?_⟩
  · intro i i0 i1
    rw [e0] at i1
    by_cases e : i = p
    · rw [e, v4]; omega
    · rw [est i i0 (by omega) e]; exact s1 i i0 i1
  · rw [show (140 : Int) = 140 + 0 by omega, est 0 (by omega) (by omega) (by omega)]
    exact s2
  · intro i i0 i1 i2 i3
    rw [e0] at i1
    rw [eup i (by omega) (by omega)] at i3 ⊢
    by_cases e : i = p
    · rw [e]; exact hss'
    · rw [est i (by omega) (by omega) e] at i2
      have := hb.2.1 i i0 i1
      rw [est _ this.1 (by omega) i3]
      exact hSR i i0 i1 i2
  · intro k k0 k1
    rw [v1] at k1
    rw [e0]
    by_cases e : k = r 1
    · rw [e, v2]; omega
    · rw [ex1_n (by omega)]
      exact x2 k k0 (by omega)
  · intro i i0 i1 i2
    rw [e0] at i1
    by_cases e : i = p
    · exact ⟨r 1, by omega, by rw [v1]; omega, by rw [v2]; exact e.symm⟩
    · rw [est i i0 (by omega) e] at i2
      obtain ⟨k, k0, k1, k2⟩ := hL i i0 i1 i2
      exact ⟨k, k0, by rw [v1]; omega, by rw [ex1_n (by omega)]; exact k2⟩
  · show ex1 r p code 1 = _
    rw [v1, e0, hN]
    have h1 := cn_up (P := fun i => !decide (r (140 + i) = 0)) (Q := fun i => if i = p then true else !decide (r (140 + i) = 0)) (p := p) (by rw [hst]; rfl) (if_pos rfl) (fun j hj => (if_neg hj).symm) (r 0).toNat 0
    rw [if_pos (by omega)] at h1
    rw [← h1]
    exact cn_congr _ _ (fun j j0 j1 => by
      show (if j = p then true else !decide (r (140 + j) = 0)) = !decide (ex1 r p code (140 + j) = 0)
      by_cases e : j = p
      · rw [if_pos e, e, v4]; rfl
      · rw [if_neg e, est j j0 (by omega) e])
  · intro i i0 i1 i2
    rw [e0] at i1
    by_cases e : i = p
    · rw [e, v3]; exact hc
    · rw [est i i0 (by omega) e] at i2
      rw [ex1_n (by omega)]
      exact hC i i0 i1 i2
  · intro i i0 i1
    rw [e0] at i1
    rw [ex1_n (by omega)]
    exact hB i i0 i1
  · intro d d0 d1
    have := hH d d0 d1
    rw [ex1_n (k := 11 + d) (by omega)]
    refine ⟨this.1, this.2.1, ?_⟩
    by_cases e : r (11 + d) = p
    · exact Or.inr e
    · rw [est _ this.1 (by omega) e]
      exact Or.inl this.2.2
/-! ===== with a replacement; the loops of an exit (own work) ===== -/
theorem rpA_n {r : Int → Int} {p k : Int} (h : ¬ k = 4 ∧ ¬ k = 220 + r (60 + p)) : rpA r p k = r k := by
  unfold rpA
  rw [u1_n h.1, u1_n h.2]
theorem rpR_o {r : Int → Int} {p k : Int} (hM : 1 ≤ r 0 ∧ r 0 < 40) (hp : 0 < p ∧ p < 40) (hs : 0 ≤ r (60 + p) ∧ r (60 + p) < 40) (h : (¬ k = 0 ∧ ¬ (460 + 8 * r 0 ≤ k ∧ k < 468 + 8 * r 0) ∧ ¬ k = 420 + r 0 ∧ ¬ k = 380 + r 0 ∧ ¬ k = 340 + r 0 ∧ ¬ k = 300 + r 0 ∧ ¬ k = 260 + r 0 ∧ ¬ k = 220 + r 0 ∧ ¬ k = 180 + r 0 ∧ ¬ k = 140 + r 0 ∧ ¬ k = 100 + r 0 ∧ ¬ k = 60 + r 0) ∧ ¬ k = 420 + p ∧ ¬ k = 220 + r (60 + p) ∧ ¬ k = 4) : rpR r p k = r k := by
  obtain ⟨h1, h2, h3, h4⟩ := h
  have e0 : rpA r p 0 = r 0 := rpA_n (by omega)
  unfold rpR
  rw [u1_n h2, cmR_o (by rw [e0]; exact hM) (by rw [e0]; exact h1), rpA_n ⟨h4, h3⟩]
theorem rpR_v {r : Int → Int} {p : Int} (hM : 1 ≤ r 0 ∧ r 0 < 40) (hp : 0 < p ∧ p < r 0) (hs : 0 ≤ r (60 + p) ∧ r (60 + p) < 40) : rpR r p 0 = r 0 + 1 ∧ rpR r p (60 + r 0) = r (60 + p) ∧ rpR r p (140 + r 0) = 0 ∧ rpR r p (220 + r 0) = rpA r p (220 + p) ∧ (rpR r p (220 + r (60 + p)) = w32 (r (220 + r (60 + p)) - 1) ∨ r (60 + p) = r 0) ∧ rpR r p (420 + p) = r 0 := by
  have e0 : rpA r p 0 = r 0 := rpA_n (by omega)
  obtain ⟨n1, n2, n3, n4, n5, n6⟩ := cmR_n (r := rpA r p) (a := r (60 + p)) (c := rpA r p (100 + p)) (gp := rpA r p (180 + p)) (b := rpA r p (220 + p)) (by rw [e0]; exact hM)
  rw [e0] at n1 n3 n5
  unfold rpR
  refine ⟨by rw [u1_n (by omega), cmR_0, e0], by rw [u1_n (by omega)]; exact n1, by rw [u1_n (by omega)]; exact n3, by rw [u1_n (by omega)]; exact n5, ?_, u1_s⟩
  by_cases e : r (60 + p) = r 0
  · exact Or.inr e
  · left
    rw [u1_n (by omega), cmR_o (by rw [e0]; exact hM) (by rw [e0]; omega)]
    unfold rpA
    rw [u1_n (by omega), u1_s]
theorem EP_rp {r : Int → Int} {p s : Int} (h : EP r p s (-1)) (hM : r 0 < 40) (hb : ¬ r (220 + s) = 0) : EP (rpR r p) p s (r 0) := by
  obtain ⟨h1, ⟨a1, a2, a3, a4, a5, a6⟩, ⟨b1, b2⟩, h4, ⟨c1, c2⟩, h6, h7, h8, h9, -⟩ := h
  have hM1 := h1.1
  have hM' : 1 ≤ r 0 ∧ r 0 < 40 := ⟨hM1.1, hM⟩
  subst a2
  have ho := fun k => rpR_o (r := r) (p := p) (k := k) hM' (by omega) (by omega)
  obtain ⟨v0, v1, v2, v3, v4, v5⟩ := rpR_v (r := r) (p := p) hM' (by omega) (by omega)
  have hn1 := NX_bd hM1 b2 h7
  have est : ∀ i, 0 ≤ i → i < r 0 → rpR r p (140 + i) = r (140 + i) := fun i i0 i1 => ho _ (by omega)
  have eup : ∀ i, 0 ≤ i → i < r 0 → rpR r p (60 + i) = r (60 + i) := fun i i0 i1 => ho _ (by omega)
  have e1 : rpR r p 1 = r 1 := ho _ (by omega)
  have e0' : rpA r p 0 = r 0 := rpA_n (by omega)
  have hW : WB (rpR r p) := by
    have w1 : WB (rpA r p) := WB_eq h1 (fun k hk => rpA_n (by omega))
    have hcap := h1.2.2.2.2.2.2 p (by omega) a3.2
    have w2 : WB (cmR (rpA r p) (r (60 + p)) (rpA r p (100 + p)) (rpA r p (180 + p)) (rpA r p (220 + p))) := WB_cm w1 (by rw [e0']; exact hM) (by rw [e0']; exact a4) (by rw [rpA_n (by omega)]; exact hcap)
    exact WB_eq w2 (fun k hk => by unfold rpR; exact u1_n (by omega))
  refine ⟨hW, ⟨by rw [est p (by omega) a3.2]; exact a1, eup p (by omega) a3.2, by rw [v0]; omega, by rw [v0]; omega, a5, by rw [est _ a4.1 a4.2]; exact a6⟩, ⟨?_, ?_⟩, ?_, ⟨by rw [e1]; omega, ?_⟩, ?_, ?_, ?_, ?_, Or.inr ⟨by omega, by rw [v0]; omega, v2, v1, by omega⟩⟩
  · intro i i0 i1
    rw [v0] at i1
    by_cases e : i = r 0
    · rw [e, v2]; omega
    · rw [est i i0 (by omega)]; exact b1 i i0 (by omega)
  · rw [show (140 : Int) = 140 + 0 by omega, est 0 (by omega) (by omega)]; exact b2
  · intro i i0 i1 i2 i3
    rw [v0] at i1
    by_cases e : i = r 0
    · rw [e, v1, est _ a4.1 a4.2]; exact a6
    · rw [est i (by omega) (by omega)] at i2
      rw [eup i (by omega) (by omega)] at i3 ⊢
      have := h1.2.1 i i0 (by omega)
      rw [est _ this.1 this.2]
      exact h4 i i0 (by omega) i2 i3
  · intro k k0 k1
    rw [e1] at k1
    rw [ho _ (by omega), v0]
    have := c2 k k0 k1
    omega
  · intro i i0 i1 i2
    rw [v0] at i1
    by_cases e : i = r 0
    · rw [e, v2] at i2; exact absurd rfl i2
    · rw [est i i0 (by omega)] at i2
      obtain ⟨k, k0, k1, k2⟩ := h6 i i0 (by omega) i2
      exact ⟨k, k0, by rw [e1]; exact k1, by rw [ho _ (by omega)]; exact k2⟩
  · show rpR r p 1 = _
    rw [e1, v0, show (r 0 + 1).toNat = (r 0).toNat + 1 by omega, cn_one, show (0 : Int) + ((r 0).toNat : Int) = r 0 by omega, h7]
    have : (!decide (rpR r p (140 + r 0) = 0)) = false := by rw [v2]; rfl
    rw [this, if_neg (by simp), Int.add_zero]
    exact cn_congr _ _ (fun j j0 j1 => by
      show (!decide (r (140 + j) = 0)) = !decide (rpR r p (140 + j) = 0)
      rw [est j j0 (by omega)])
  · intro i i0 i1 i2
    rw [v0] at i1
    by_cases e : i = r 0
    · rw [e, v2] at i2; omega
    · rw [est i i0 (by omega)] at i2
      rw [ho _ (by omega)]
      exact h8 i i0 (by omega) i2
  · intro i i0 i1
    rw [v0] at i1
    have hbs := h9 _ a4.1 a4.2
    by_cases e : i = r 0
    · rw [e, v3]
      unfold rpA
      rw [u1_n (by omega)]
      by_cases e2 : p = r (60 + p)
      · exact absurd e2.symm a5
      · rw [u1_n (by omega)]
        exact h9 p (by omega) a3.2
    · by_cases e2 : i = r (60 + p)
      · rcases v4 with v4 | v4
        · rw [e2, v4, w32_r (by omega)]
          omega
        · omega
      · rw [ho _ (by omega)]
        exact h9 i i0 (by omega)
/-! the loops, as functions of the row -/
def ex3 (dm : Int → Int) (p q : Int) (r : Int → Int) : Int → Int := fd (fun k r => dutS dm p q k r) 8 0 r
def ex4 (dm : Int → Int) (p q : Int) (r : Int → Int) : Int → Int := fd (fun c r => orpS dm p q c r) (r 0 - 1).toNat 1 r
def ex5 (p s : Int) (r : Int → Int) : Int → Int := fd (fun c r => zomS p s c r) (r 0 - 1).toNat 1 r
/-- holders on the way: running, or p from the duty k on -/
def HP (r : Int → Int) (p k : Int) : Prop := ∀ d, 0 ≤ d → d < 8 → 0 ≤ r (11 + d) ∧ r (11 + d) < r 0 ∧ (r (140 + r (11 + d)) = 0 ∨ (k ≤ d ∧ r (11 + d) = p))
section MODEL7
variable {g : gH} {p s q b : Int}
theorem dut_step {r : Int → Int} {dm : Int → Int} {k : Int} (h : EP r p s q) (hh : HP r p k) (hk : 0 ≤ k ∧ k < 8) : EP (dutS dm p q k r) p s q ∧ HP (dutS dm p q k r) p (k + 1) ∧ dutS dm p q k r 0 = r 0 := by
  have hM := h.1.1
  obtain ⟨a1, a2, a3, a4, a5, a6⟩ := h.2.1
  unfold dutS
  by_cases c : r (11 + k) = p
  · rw [if_pos c]
    have hv : 0 ≤ (if q = -1 then HO r dm p k else q) ∧ (if q = -1 then HO r dm p k else q) < r 0 ∧ r (140 + (if q = -1 then HO r dm p k else q)) = 0 := by
      by_cases e : q = -1
      · rw [if_pos e]
        rcases HO_f (dm := dm) h.1 (p := p) (by omega) hk with h1 | h1
        · rw [h1]
          have : up r p = s := a2
          rw [this]
          exact ⟨a4.1, a4.2, a6⟩
        · exact h1
      · rw [if_neg e]
        rcases h.2.2.2.2.2.2.2.2.2 with h1 | h1
        · exact absurd h1 e
        · exact ⟨by omega, h1.2.1, h1.2.2.1⟩
    generalize (if q = -1 then HO r dm p k else q) = v at hv
    have e0 : u1 r (11 + k) v 0 = r 0 := u1_n (by omega)
    refine ⟨EP_gen h (WB_eq h.1 (fun j hj => u1_n (by omega))) (fun i i0 i1 i2 => absurd (u1_n (by omega)) i2) (fun j j1 j2 j3 j4 j5 => u1_n (by omega)), ?_, e0⟩
    intro d d0 d1
    rw [e0]
    by_cases e : d = k
    · rw [e, u1_s, u1_n (by omega)]
      exact ⟨hv.1, hv.2.1, Or.inl hv.2.2⟩
    · have := hh d d0 d1
      rw [u1_n (show ¬ 11 + d = 11 + k by omega), u1_n (by omega)]
      exact ⟨this.1, this.2.1, by rcases this.2.2 with h1 | h1; exact Or.inl h1; exact Or.inr ⟨by omega, h1.2⟩⟩
  · rw [if_neg c]
    refine ⟨h, ?_, rfl⟩
    intro d d0 d1
    have := hh d d0 d1
    refine ⟨this.1, this.2.1, ?_⟩
    rcases this.2.2 with h1 | h1
    · exact Or.inl h1
    · by_cases e : d = k
      · subst e; exact absurd h1.2 c
      · exact Or.inr ⟨by omega, h1.2⟩
theorem vM_ex3 {r : Int → Int} (hs : MS g) (h : EP r p s q) (hh : HP r p 0) : lM_exits_76 624 p s b q fu 0 (sw g r) = lM_exits_134 624 p s b q fu 1 (sw g (ex3 (g 630) p q r)) ∧ EP (ex3 (g 630) p q r) p s q ∧ HP (ex3 (g 630) p q r) p 8 ∧ ex3 (g 630) p q r 0 = r 0 := by
  have h0 := hs.1
  have hM := h.1.1
  have := for_loop (L := fun n k r => lM_exits_76 624 p s b q n k (sw g r)) (E := fun r => lM_exits_134 624 p s b q fu 1 (sw g r)) (fun k r => dutS (g 630) p q k r) 8 (fun k r' => 0 ≤ k ∧ k ≤ 8 ∧ EP r' p s q ∧ HP r' p k ∧ r' 0 = r 0) (fun n k r' hk hI => by
    obtain ⟨k0, k1, i1, i2, i3⟩ := hI
    have hd := i2 k k0 hk
    have hp := i1.2.1.2.2.1
    obtain ⟨d1, d2, d3⟩ := dut_step (dm := g 630) i1 i2 ⟨k0, hk⟩
    refine ⟨?_, by omega, by omega, d1, d2, d3.trans i3⟩
    show bM_exits_76 624 p s b q (lM_exits_76 624 p s b q n) k (sw g r') = lM_exits_76 624 p s b q n (k + 1) (sw g (dutS (g 630) p q k r'))
    rw [bM_exits_76, dutS]
    have hHO := vM_heirOf (g := sw g r') (p := p) (d := k) (MS_sw hs) (by rw [sw_s]; exact i1.1) (by rw [sw_s]; omega) ⟨k0, hk⟩
    rw [sw_s, sw_n (show ¬ (630 : Int) = 625 by omega)] at hHO
    by_cases c1 : r' (11 + k) = p
    · by_cases c2 : q = -1
      · simp (disch := omega) only [c1, c2, sw_n, sw_s, h0, kd_625, sz_625, w32_r, true_and, le_t, lt_t, and_true, ↓reduceIte, ↓bnd_s, pU_sw, hHO, bdP_s]
      · simp (disch := omega) only [c1, c2, sw_n, sw_s, h0, kd_625, sz_625, w32_r, true_and, le_t, lt_t, and_true, ↓reduceIte, ↓bnd_s, pU_sw]
    · simp (disch := omega) only [c1, sw_n, sw_s, h0, kd_625, sz_625, w32_r, true_and, le_t, lt_t, and_true, ↓reduceIte]) (fun n k r' hk hI => by
    show bM_exits_76 624 p s b q (lM_exits_76 624 p s b q n) k (sw g r') = _
    rw [bM_exits_76, if_neg hk]) 8 0 r fu (by omega) (by have := fu_ge; omega) ⟨by omega, by omega, h, hh, rfl⟩
  obtain ⟨e1, -, -, e2, e3, e4⟩ := this
  exact ⟨e1, e2, e3, e4⟩
end MODEL7
/-! ===== orphans and zombies of an exit; the whole exit (own work) ===== -/
theorem canA_f {r dm : Int → Int} {t c : Int} (h : canA r dm t c = true) : r (140 + t) = 0 ∧ t ≠ c ∧ OV (up r) c t = false := by
  unfold canA at h
  simp only [Bool.and_eq_true, decide_eq_true_eq, Bool.not_eq_true', decide_eq_false_iff_not] at h
  exact ⟨h.1, h.2.1, h.2.2.1⟩
theorem ic_t {r : Int → Int} {c a st : Int} : ic r c a st = true ↔ r (140 + c) = st ∧ r (60 + c) = a ∧ c ≠ 0 := by
  unfold ic
  exact decide_eq_true_iff
/-- no child of p in this state before c -/
def NC (r : Int → Int) (p st c : Int) : Prop := ∀ j, 0 < j → j < c → ¬ (r (140 + j) = st ∧ r (60 + j) = p)
theorem EP_dp {r : Int → Int} {p s q c : Int} (h : EP r p s q) (hc : 0 < c ∧ c < r 0) (hcp : r (60 + c) = p) : s ≠ c ∧ OV (up r) c s = false ∧ (q ≠ -1 → c ≠ q → OV (up r) c q = false) := by
  obtain ⟨a1, a2, a3, a4, a5, a6⟩ := h.2.1
  have hA := h.1.2.2.1
  have d1 := DP_s (hA p (by omega) a3.2) (by omega)
  have d2 := DP_s (hA c (by omega) hc.2) (by omega)
  have u1' : up r p = s := a2
  have u2 : up r c = p := hcp
  rw [u1'] at d1
  rw [u2] at d2
  have h1 : s ≠ c := by
    intro e
    rw [e] at d1
    omega
  have h2 : OV (up r) c s = false := by
    cases ho : OV (up r) c s with
    | false => rfl
    | true =>
      have := OV_dp (hA s a4.1 a4.2) ho
      omega
  refine ⟨h1, h2, fun hq hcq => ?_⟩
  rcases h.2.2.2.2.2.2.2.2.2 with e | ⟨q1, q2, q3, q4, q5⟩
  · exact absurd e hq
  · have u3 : up r q = s := q4
    rw [OV_s (hA q (by omega) q2) (by omega), u3, if_neg h1, h2]
section MODEL8
variable {g : gH} {p s q b : Int}
theorem orp_step {r : Int → Int} {c : Int} (hs : MS g) (h : EP r p s q) (hh : HP r p 8) (hn : NC r p 0 c) (hc : 0 < c ∧ c < r 0) : EP (orpS (g 630) p q c r) p s q ∧ HP (orpS (g 630) p q c r) p 8 ∧ NC (orpS (g 630) p q c r) p 0 (c + 1) ∧ orpS (g 630) p q c r 0 = r 0 := by
  have hM := h.1.1
  obtain ⟨a1, a2, a3, a4, a5, a6⟩ := h.2.1
  unfold orpS
  by_cases hi : ic r c p 0 = true
  · rw [if_pos hi]
    obtain ⟨i1, i2, i3⟩ := ic_t.mp hi
    have hcp : c ≠ p := by intro e; rw [e, a1] at i1; omega
    have hcq : c ≠ q := by
      intro e
      rcases h.2.2.2.2.2.2.2.2.2 with e2 | ⟨q1, q2, q3, q4, q5⟩
      · omega
      · rw [e, q4] at i2; exact a5 i2
    obtain ⟨d1, d2, d3⟩ := EP_dp h hc i2
    have ht : (0 ≤ (if ¬ q = -1 ∧ 0 < room r q then q else AD r (g 630) c p) ∧ (if ¬ q = -1 ∧ 0 < room r q then q else AD r (g 630) c p) < r 0) ∧ (if ¬ q = -1 ∧ 0 < room r q then q else AD r (g 630) c p) ≠ c ∧ OV (up r) c (if ¬ q = -1 ∧ 0 < room r q then q else AD r (g 630) c p) = false ∧ r (140 + (if ¬ q = -1 ∧ 0 < room r q then q else AD r (g 630) c p)) = 0 := by
      by_cases e : ¬ q = -1 ∧ 0 < room r q
      · rw [if_pos e]
        rcases h.2.2.2.2.2.2.2.2.2 with e2 | ⟨q1, q2, q3, q4, q5⟩
        · exact absurd e2 e.1
        · exact ⟨⟨by omega, q2⟩, fun z => hcq z.symm, d3 e.1 hcq, q3⟩
      · rw [if_neg e]
        have hAD := (vM_adopterOf (g := sw g r) (o := c) (wo := p) (MS_sw hs) (by rw [sw_s]; exact h.1) (by rw [sw_s]; omega) (by rw [sw_s]; omega)).2
        rw [sw_s, sw_n (show ¬ (630 : Int) = 625 by omega)] at hAD
        rcases hAD with e2 | ⟨e2, e3, e4, e5⟩
        · rw [e2]
          exact ⟨by omega, by omega, OV_0, h.2.2.1.2⟩
        · obtain ⟨f1, f2, f3⟩ := canA_f e5
          exact ⟨⟨by omega, e3⟩, f2, f3, f1⟩
    generalize (if ¬ q = -1 ∧ 0 < room r q then q else AD r (g 630) c p) = t at ht
    obtain ⟨t1, t2, t3, t4⟩ := ht
    have htp : t ≠ p := by intro e; rw [e, a1] at t4; omega
    have e0 : adR r t c 0 = r 0 := adR_n (by omega)
    refine ⟨EP_sup h hc hcp hcq t1 t2 t3 t4 (adR_s (by omega)) (fun k k1 k2 k3 k4 => adR_n (by omega)), ?_, ?_, e0⟩
    · intro d d0 d1
      have := hh d d0 d1
      rw [e0, adR_n (k := 11 + d) (by omega), adR_n (k := 140 + r (11 + d)) (by omega)]
      exact this
    · intro j j0 j1
      by_cases e : j = c
      · rw [e, adR_s (by omega)]
        exact fun z => htp z.2
      · rw [adR_n (by omega), adR_n (by omega)]
        exact hn j j0 (by omega)
  · rw [if_neg hi]
    refine ⟨h, hh, ?_, rfl⟩
    intro j j0 j1
    by_cases e : j = c
    · rw [e]
      exact fun z => hi (ic_t.mpr ⟨z.1, z.2, by omega⟩)
    · exact hn j j0 (by omega)
theorem vM_ex4 {r : Int → Int} (hs : MS g) (h : EP r p s q) (hh : HP r p 8) : lM_exits_134 624 p s b q fu 1 (sw g r) = lM_exits_201 624 p s b fu 1 (sw g (ex4 (g 630) p q r)) ∧ EP (ex4 (g 630) p q r) p s q ∧ HP (ex4 (g 630) p q r) p 8 ∧ NC (ex4 (g 630) p q r) p 0 (r 0) ∧ ex4 (g 630) p q r 0 = r 0 := by
  have h0 := hs.1
  have hM := h.1.1
  have := for_loop (L := fun n k r => lM_exits_134 624 p s b q n k (sw g r)) (E := fun r => lM_exits_201 624 p s b fu 1 (sw g r)) (fun k r => orpS (g 630) p q k r) (r 0) (fun k r' => 1 ≤ k ∧ k ≤ r 0 ∧ EP r' p s q ∧ HP r' p 8 ∧ NC r' p 0 k ∧ r' 0 = r 0) (fun n k r' hk hI => by
    obtain ⟨k0, k1, i1, i2, i3, i4⟩ := hI
    obtain ⟨d1, d2, d3, d4⟩ := orp_step (q := q) hs i1 i2 i3 ⟨by omega, by omega⟩
    refine ⟨?_, by omega, by omega, d1, d2, d3, d4.trans i4⟩
    show bM_exits_134 624 p s b q (lM_exits_134 624 p s b q n) k (sw g r') = lM_exits_134 624 p s b q n (k + 1) (sw g (orpS (g 630) p q k r'))
    have hp := i1.2.1.2.2.1
    have w1 : WB (sw g r' 625) := by rw [sw_s]; exact i1.1
    have hAD := (vM_adopterOf (g := sw g r') (o := k) (wo := p) (MS_sw hs) w1 (by rw [sw_s]; omega) (by rw [sw_s]; omega)).1
    rw [sw_s, sw_n (show ¬ (630 : Int) = 625 by omega)] at hAD
    have hic := vM_isChild (g := sw g r') (p := k) (a := p) (st := 0) (MS_sw hs) (by omega)
    rw [sw_s] at hic
    have had := fun t => vM_adopts (g := sw g r') (p := t) (o := k) (MS_sw hs) (by omega)
    simp only [sw_s, sw_sw] at had
    rw [bM_exits_134, orpS, hic]
    by_cases c1 : ic r' k p 0 = true
    · by_cases c2 : q = -1
      · simp (disch := omega) only [c1, c2, sw_n, sw_s, h0, kd_625, sz_625, w32_r, true_and, le_t, lt_t, and_true, ↓reduceIte, bdP_s, eq_f, hAD, had, bdN_s, not_true, false_and]
      · have hrq := vM_roomOf (g := sw g r') (p := q) (MS_sw hs) w1 (by
          rw [sw_s]
          rcases i1.2.2.2.2.2.2.2.2.2 with e | e
          · exact absurd e c2
          · omega)
        rw [sw_s] at hrq
        by_cases c3 : 0 < room r' q
        · simp (disch := omega) only [c1, c2, c3, sw_n, sw_s, h0, kd_625, sz_625, w32_r, true_and, le_t, lt_t, and_true, ↓reduceIte, bdP_s, eq_f, hrq, had, bdN_s, not_false_eq_true]
        · simp (disch := omega) only [c1, c2, c3, sw_n, sw_s, h0, kd_625, sz_625, w32_r, true_and, le_t, lt_t, and_true, and_false, ↓reduceIte, bdP_s, eq_f, hrq, hAD, had, bdN_s, not_false_eq_true]
    · simp (disch := omega) only [c1, sw_n, sw_s, h0, kd_625, sz_625, w32_r, true_and, le_t, lt_t, and_true, ↓reduceIte, bdP_s, Bool.false_eq_true]) (fun n k r' hk hI => by
    show bM_exits_134 624 p s b q (lM_exits_134 624 p s b q n) k (sw g r') = _
    have i4 := hI.2.2.2.2.2
    rw [bM_exits_134]
    simp (disch := omega) only [sw_n, sw_s, h0, kd_625, sz_625, true_and, le_t, lt_t, lt_f, and_true, ↓reduceIte]) (r 0 - 1).toNat 1 r fu (by omega) (by have := fu_ge; omega) ⟨by omega, by omega, h, hh, fun j j0 j1 => absurd j0 (by omega), rfl⟩
  obtain ⟨e1, -, -, e2, e3, e4, e5⟩ := this
  exact ⟨e1, e2, e3, fun j j0 j1 => e4 j j0 (by omega), e5⟩
theorem zom_step {r : Int → Int} {c : Int} (h : EP r p s q) (hh : HP r p 8) (hn0 : NC r p 0 (r 0)) (hn : NC r p 1 c) (hc : 0 < c ∧ c < r 0) : EP (zomS p s c r) p s q ∧ HP (zomS p s c r) p 8 ∧ NC (zomS p s c r) p 0 (r 0) ∧ NC (zomS p s c r) p 1 (c + 1) ∧ zomS p s c r 0 = r 0 := by
  have hM := h.1.1
  obtain ⟨a1, a2, a3, a4, a5, a6⟩ := h.2.1
  unfold zomS
  by_cases hi : ic r c p 1 = true
  · rw [if_pos hi]
    obtain ⟨i1, i2, i3⟩ := ic_t.mp hi
    have hcp : c ≠ p := by intro e; rw [e, a2] at i2; exact a5 i2
    have hcq : c ≠ q := by
      intro e
      rcases h.2.2.2.2.2.2.2.2.2 with e2 | ⟨q1, q2, q3, q4, q5⟩
      · omega
      · rw [e, q3] at i1; omega
    obtain ⟨d1, d2, -⟩ := EP_dp h hc i2
    have e0 : u1 r (60 + c) s 0 = r 0 := u1_n (by omega)
    refine ⟨EP_sup h hc hcp hcq a4 d1 d2 a6 u1_s (fun k k1 k2 k3 k4 => u1_n k4), ?_, ?_, ?_, e0⟩
    · intro d d0 d1
      have := hh d d0 d1
      rw [e0, u1_n (show ¬ 11 + d = 60 + c by omega), u1_n (by omega)]
      exact this
    · intro j j0 j1
      by_cases e : j = c
      · rw [e, u1_s]
        exact fun z => a5 z.2
      · rw [u1_n (by omega), u1_n (by omega)]
        exact hn0 j j0 j1
    · intro j j0 j1
      by_cases e : j = c
      · rw [e, u1_s]
        exact fun z => a5 z.2
      · rw [u1_n (by omega), u1_n (by omega)]
        exact hn j j0 (by omega)
  · rw [if_neg hi]
    refine ⟨h, hh, hn0, ?_, rfl⟩
    intro j j0 j1
    by_cases e : j = c
    · rw [e]
      exact fun z => hi (ic_t.mpr ⟨z.1, z.2, by omega⟩)
    · exact hn j j0 (by omega)
theorem vM_ex5 {r : Int → Int} (hs : MS g) (h : EP r p s q) (hh : HP r p 8) (hn : NC r p 0 (r 0)) : lM_exits_201 624 p s b fu 1 (sw g r) = jM_exits_240 (sw g (ex5 p s r)) 624 s b ∧ EP (ex5 p s r) p s q ∧ HP (ex5 p s r) p 8 ∧ NC (ex5 p s r) p 0 (r 0) ∧ NC (ex5 p s r) p 1 (r 0) ∧ ex5 p s r 0 = r 0 := by
  have h0 := hs.1
  have hM := h.1.1
  have := for_loop (L := fun n k r => lM_exits_201 624 p s b n k (sw g r)) (E := fun r => jM_exits_240 (sw g r) 624 s b) (fun k r => zomS p s k r) (r 0) (fun k r' => 1 ≤ k ∧ k ≤ r 0 ∧ EP r' p s q ∧ HP r' p 8 ∧ NC r' p 0 (r' 0) ∧ NC r' p 1 k ∧ r' 0 = r 0) (fun n k r' hk hI => by
    obtain ⟨k0, k1, i1, i2, i3, i4, i5⟩ := hI
    obtain ⟨d1, d2, d3, d4, d5⟩ := zom_step (q := q) i1 i2 i3 i4 ⟨by omega, by omega⟩
    refine ⟨?_, by omega, by omega, d1, d2, by rw [d5]; exact d3, d4, d5.trans i5⟩
    show bM_exits_201 624 p s b (lM_exits_201 624 p s b n) k (sw g r') = lM_exits_201 624 p s b n (k + 1) (sw g (zomS p s k r'))
    have hic := vM_isChild (g := sw g r') (p := k) (a := p) (st := 1) (MS_sw hs) (by omega)
    rw [sw_s] at hic
    rw [bM_exits_201, zomS, hic]
    by_cases c1 : ic r' k p 1 = true
    · simp (disch := omega) only [c1, sw_n, sw_s, h0, kd_625, sz_625, w32_r, true_and, le_t, lt_t, and_true, ↓reduceIte, bdP_s, eq_f, ↓bnd_s, pU_sw]
    · simp (disch := omega) only [c1, sw_n, sw_s, h0, kd_625, sz_625, w32_r, true_and, le_t, lt_t, and_true, ↓reduceIte, bdP_s, Bool.false_eq_true]) (fun n k r' hk hI => by
    show bM_exits_201 624 p s b (lM_exits_201 624 p s b n) k (sw g r') = _
    have i4 := hI.2.2.2.2.2.2
    rw [bM_exits_201]
    simp (disch := omega) only [sw_n, sw_s, h0, kd_625, sz_625, true_and, le_t, lt_t, lt_f, and_true, ↓reduceIte]) (r 0 - 1).toNat 1 r fu (by omega) (by have := fu_ge; omega) ⟨by omega, by omega, h, hh, hn, fun j j0 j1 => absurd j0 (by omega), rfl⟩
  obtain ⟨e1, -, -, e2, e3, e4, e5, e6⟩ := this
  rw [show (fd (fun k r => zomS p s k r) (r 0 - 1).toNat 1 r) = ex5 p s r from rfl] at e1 e2 e3 e4 e5 e6
  exact ⟨e1, e2, e3, by rw [e6] at e4; exact e4, fun j j0 j1 => e5 j j0 (by omega), e6⟩
end MODEL8
/-! ===== the whole exit (own work) ===== -/
theorem fd_fr {f : Int → (Int → Int) → Int → Int} {j : Int} : ∀ (m : Nat) (k : Int) (r : Int → Int), (∀ i r, k ≤ i → i < k + m → f i r j = r j) → fd f m k r j = r j := by
  intro m
  induction m with
  | zero => intro k r _; rfl
  | succ m ih =>
    intro k r h
    show fd f m (k + 1) (f k r) j = r j
    rw [ih (k + 1) (f k r) (fun i r i0 i1 => h i r (by omega) (by omega)), h k r (by omega) (by omega)]
theorem ex3_fr {dm r : Int → Int} {p q j : Int} (h : ¬ (11 ≤ j ∧ j < 19)) : ex3 dm p q r j = r j :=
  fd_fr 8 0 r (fun i r i0 i1 => by
    unfold dutS
    split
    · exact u1_n (by omega)
    · rfl)
theorem ex4_fr {dm r : Int → Int} {p q j : Int} (hM : r 0 ≤ 40) (h : ¬ j = 2 ∧ ¬ j = 3 ∧ ¬ (60 ≤ j ∧ j < 100) ∧ ¬ (380 ≤ j ∧ j < 420)) : ex4 dm p q r j = r j :=
  fd_fr _ 1 r (fun i r i0 i1 => by
    unfold orpS
    split
    · exact adR_n (by omega)
    · rfl)
theorem ex5_fr {r : Int → Int} {p s j : Int} (hM : r 0 ≤ 40) (h : ¬ (60 ≤ j ∧ j < 100)) : ex5 p s r j = r j :=
  fd_fr _ 1 r (fun i r i0 i1 => by
    unfold zomS
    split
    · exact u1_n (by omega)
    · rfl)
def ex6 (s : Int) (r : Int → Int) : Int → Int := if s = 0 then rdR r 0 else r
/-- the row behind an exit -/
def exF (r dm : Int → Int) (p code : Int) : Int → Int :=
  ex6 (r (60 + p)) (ex5 p (r (60 + p)) (ex4 (exd (ex1 r p code) dm p code) p (exq (ex1 r p code) dm p code) (ex3 (exd (ex1 r p code) dm p code) p (exq (ex1 r p code) dm p code) (ex2 (ex1 r p code) dm p code))))
def exG (g : gH) (p code : Int) : gH := if RPc (ex1 (g 625) p code) (g 630) p code then pU g 630 (g 625 0) 0 else g
theorem rdR_o {r : Int → Int} {p k : Int} (h : ¬ (140 ≤ k ∧ k < 140 + r 0)) : rdR r p k = r k := by
  unfold rdR
  rw [if_neg (fun z => h ⟨z.1, z.2.1⟩)]
theorem rdR_st {r : Int → Int} {p i : Int} (h : 0 ≤ i ∧ i < r 0) : (rdR r p (140 + i) = r (140 + i) ∧ ic r i p 1 = false) ∨ (rdR r p (140 + i) = 2 ∧ r (140 + i) = 1) := by
  unfold rdR
  have e : 140 + i - 140 = i := by omega
  rw [e]
  cases hi : ic r i p 1 with
  | false => exact Or.inl ⟨if_neg (by simp), rfl⟩
  | true => exact Or.inr ⟨if_pos ⟨by omega, by omega, rfl⟩, (ic_t.mp hi).1⟩
/-- testaments read: what holds goes on holding -/
theorem WF_rd {r : Int → Int} {p : Int} (hb : WB r) (hf : WF r) : WB (rdR r p) ∧ WF (rdR r p) := by
  have hM := hb.1
  obtain ⟨⟨s1, s2⟩, hSR, ⟨x1, x2⟩, hL, hN, hH, hC, hB⟩ := hf
  have e0 : rdR r p 0 = r 0 := rdR_o (by omega)
  have e1 : rdR r p 1 = r 1 := rdR_o (by omega)
  have run : ∀ i, 0 ≤ i → i < r 0 → r (140 + i) = 0 → rdR r p (140 + i) = 0 := by
    intro i i0 i1 i2
    rcases rdR_st (p := p) ⟨i0, i1⟩ with h | h
    · rw [h.1, i2]
    · rw [h.2] at i2; omega
  have run' : ∀ i, 0 ≤ i → i < r 0 → rdR r p (140 + i) = 0 → r (140 + i) = 0 := by
    intro i i0 i1 i2
    rcases rdR_st (p := p) ⟨i0, i1⟩ with h | h
    · rw [h.1] at i2; exact i2
    · rw [h.1] at i2; omega
  refine ⟨WB_eq hb (fun k hk => rdR_o (by omega)), ⟨?_, ?_⟩, ?_, ⟨by rw [e1]; exact x1, ?_⟩, ?_, ?_, ?_, ?_, ?_⟩
  · intro i i0 i1
    rw [e0] at i1
    rcases rdR_st (p := p) ⟨i0, i1⟩ with h | h
    · rw [h.1]; exact s1 i i0 i1
    · rw [h.1]; omega
  · have := run 0 (by omega) (by omega) s2
    exact this
  · intro i i0 i1 i2
    rw [e0] at i1
    rw [rdR_o (k := 60 + i) (by omega)]
    have hs := hb.2.1 i i0 i1
    refine run _ hs.1 hs.2 (hSR i i0 i1 ?_)
    rcases rdR_st (p := p) (i := i) ⟨by omega, i1⟩ with h | h
    · rw [h.1] at i2; exact i2
    · rw [h.2]; omega
  · intro k k0 k1
    rw [e1] at k1
    rw [rdR_o (by omega), e0]
    exact x2 k k0 k1
  · intro i i0 i1 i2
    rw [e0] at i1
    obtain ⟨k, k0, k1, k2⟩ := hL i i0 i1 (fun z => i2 (run i i0 i1 z))
    exact ⟨k, k0, by rw [e1]; exact k1, by rw [rdR_o (by omega)]; exact k2⟩
  · show rdR r p 1 = _
    rw [e1, e0, hN]
    exact cn_congr _ _ (fun j j0 j1 => by
      show (!decide (r (140 + j) = 0)) = !decide (rdR r p (140 + j) = 0)
      by_cases h : r (140 + j) = 0
      · rw [h, run j j0 (by omega) h]
      · have : ¬ rdR r p (140 + j) = 0 := fun z => h (run' j j0 (by omega) z)
        simp [h, this])
  · intro d d0 d1
    rw [rdR_o (k := 11 + d) (by omega), e0]
    have := hH d d0 d1
    exact ⟨this.1, this.2.1, run _ this.1 this.2.1 this.2.2⟩
  · intro i i0 i1 i2
    rw [e0] at i1
    rw [rdR_o (k := 300 + i) (by omega)]
    rcases rdR_st (p := p) ⟨i0, i1⟩ with h | h
    · rw [h.1] at i2; exact hC i i0 i1 i2
    · rw [h.1] at i2; omega
  · intro i i0 i1
    rw [e0] at i1
    rw [rdR_o (k := 220 + i) (by omega)]
    exact hB i i0 i1
theorem EP_WF {r : Int → Int} {p s q : Int} (h : EP r p s q) (hh : HP r p 8) (n0 : NC r p 0 (r 0)) (n1 : NC r p 1 (r 0)) : WB r ∧ WF r := by
  obtain ⟨h1, h2, h3, h4, h5, h6, h7, h8, h9, h10⟩ := h
  refine ⟨h1, h3, ?_, h5, h6, h7, ?_, h8, h9⟩
  · intro i i0 i1 i2
    refine h4 i i0 i1 i2 (fun z => ?_)
    rcases h3.1 i (by omega) i1 with e | e | e
    · exact n0 i i0 i1 ⟨e, z⟩
    · exact n1 i i0 i1 ⟨e, z⟩
    · exact i2 e
  · intro d d0 d1
    have := hh d d0 d1
    rcases this.2.2 with e | e
    · exact ⟨this.1, this.2.1, e⟩
    · omega
section MODEL9
variable {g : gH} {p code : Int}
theorem vM_exits (hs : MS g) (hb : WB (g 625)) (hf : WF (g 625)) (hp : 0 < p ∧ p < g 625 0) (hst : g 625 (140 + p) = 0) (hc : 0 ≤ code ∧ code ≤ 255) :
    fM_exits g 624 p code = some (w32 (exF (g 625) (g 630) p code 3 - g 625 3), sw (exG g p code) (exF (g 625) (g 630) p code)) ∧ WB (exF (g 625) (g 630) p code) ∧ WF (exF (g 625) (g 630) p code) ∧ exF (g 625) (g 630) p code 1 = g 625 1 + 1 ∧ (g 625 0 ≤ exF (g 625) (g 630) p code 0 ∧ exF (g 625) (g 630) p code 0 ≤ g 625 0 + 1) ∧ (∀ i, 0 ≤ i → i < g 625 0 → i ≠ p → g 625 (140 + i) = 0 → exF (g 625) (g 630) p code (140 + i) = 0) ∧ ¬ exF (g 625) (g 630) p code (140 + p) = 0 := by
  have h0 := hs.1
  have h5 := hs.2.2.2.2.1
  have hM := hb.1
  obtain ⟨E1, H1⟩ := EP_ex1 (code := code) hb hf hp hst hc
  have hn := NX_bd2 hM hf.1.2 hf.2.2.2.2.1 hp hst
  have hsr := hb.2.1 p hp.1 hp.2
  obtain ⟨v1, v2, v3, v4⟩ := ex1_v (r := g 625) (p := p) (code := code) (by omega) (by omega)
  have e10 : ex1 (g 625) p code 0 = g 625 0 := ex1_n (by omega)
  have e1s : ex1 (g 625) p code (60 + p) = g 625 (60 + p) := ex1_n (by omega)
  have H1' : HP (ex1 (g 625) p code) p 0 := by
    intro d d0 d1
    have := H1 d d0 d1
    rw [e10]
    exact ⟨this.1, this.2.1, by rcases this.2.2 with e | e; exact Or.inl e; exact Or.inr ⟨d0, e⟩⟩
  -- the replacement
  have hrep := vM_replaces (g := sw g (ex1 (g 625) p code)) (p := p) (c := code) (MS_sw hs) (by rw [sw_s, e10]; exact hM) (by rw [sw_s, e10]; omega) (by rw [sw_s, e10, e1s]; exact hsr)
  rw [sw_s, sw_n (show ¬ (630 : Int) = 625 by omega), e10] at hrep
  have key : fM_replaces (sw g (ex1 (g 625) p code)) 624 p code = some (exq (ex1 (g 625) p code) (g 630) p code, sw (exG g p code) (ex2 (ex1 (g 625) p code) (g 630) p code)) ∧ EP (ex2 (ex1 (g 625) p code) (g 630) p code) p (g 625 (60 + p)) (exq (ex1 (g 625) p code) (g 630) p code) ∧ HP (ex2 (ex1 (g 625) p code) (g 630) p code) p 0 ∧ MS (exG g p code) ∧ (exG g p code) 630 = exd (ex1 (g 625) p code) (g 630) p code ∧ (g 625 0 ≤ ex2 (ex1 (g 625) p code) (g 630) p code 0 ∧ ex2 (ex1 (g 625) p code) (g 630) p code 0 ≤ g 625 0 + 1) ∧ ex2 (ex1 (g 625) p code) (g 630) p code 1 = g 625 1 + 1 ∧ ∀ i, 0 ≤ i → i < g 625 0 → ex2 (ex1 (g 625) p code) (g 630) p code (140 + i) = ex1 (g 625) p code (140 + i) := by
    unfold exq ex2 exG exd
    by_cases hr : RPc (ex1 (g 625) p code) (g 630) p code
    · simp only [if_pos hr]
      have hM40 : g 625 0 < 40 := by have := hr.2.2.2; rw [e10] at this; omega
      have ho := fun k => rpR_o (r := ex1 (g 625) p code) (p := p) (k := k) (by rw [e10]; omega) (by omega) (by rw [e1s]; omega)
      obtain ⟨w0, w1, w2, w3, w4, w5⟩ := rpR_v (r := ex1 (g 625) p code) (p := p) (by rw [e10]; omega) (by rw [e10]; exact hp) (by rw [e1s]; omega)
      have hbud : ¬ ex1 (g 625) p code (220 + g 625 (60 + p)) = 0 := by have := hr.2.2.1; rw [e1s] at this; exact this
      have E2 := EP_rp E1 (by rw [e10]; exact hM40) hbud
      rw [e10] at E2 w0 w1 w2 ho ⊢
      refine ⟨?_, E2, ?_, MS_pU hs (by omega), pU_s, by rw [w0]; omega, by rw [ho 1 (by rw [e1s]; omega), v1], fun i i0 i1 => ho _ (by rw [e1s]; omega)⟩
      · rw [hrep.1 hr]
        congr 2
        rw [pU_sw' (by omega), sw_sw]
      · intro d d0 d1
        have := H1' d d0 d1
        rw [e10] at this
        rw [ho (11 + d) (by rw [e1s]; omega), w0, ho (140 + ex1 (g 625) p code (11 + d)) (by rw [e1s]; omega)]
        exact ⟨this.1, by omega, this.2.2⟩
    · simp only [if_neg hr]
      refine ⟨hrep.2 hr, E1, H1', hs, trivial, by rw [e10]; omega, v1, fun i i0 i1 => trivial⟩
  obtain ⟨k1, k2, k3, k4, k5, k6, k7, k8⟩ := key
  generalize hq : exq (ex1 (g 625) p code) (g 630) p code = q at k1 k2
  generalize hr2 : ex2 (ex1 (g 625) p code) (g 630) p code = r2 at k1 k2 k3 k6 k7 k8
  obtain ⟨x1, x2, x3, x4⟩ := vM_ex3 (g := exG g p code) (b := g 625 3) k4 k2 k3
  obtain ⟨y1, y2, y3, y4, y5⟩ := vM_ex4 (g := exG g p code) (b := g 625 3) k4 x2 x3
  rw [← y5] at y4
  obtain ⟨z1, z2, z3, z4, z5, z6⟩ := vM_ex5 (g := exG g p code) (b := g 625 3) k4 y2 y3 y4
  rw [k5] at x1 x4 y1 y5 z1 z2 z3 z4 z5 z6
  have hF : exF (g 625) (g 630) p code = ex6 (g 625 (60 + p)) (ex5 p (g 625 (60 + p)) (ex4 (exd (ex1 (g 625) p code) (g 630) p code) p q (ex3 (exd (ex1 (g 625) p code) (g 630) p code) p q r2))) := by
    unfold exF
    rw [hq, hr2]
  have hM4 : ex3 (exd (ex1 (g 625) p code) (g 630) p code) p q r2 0 ≤ 40 := by rw [x4]; exact k2.1.1.2
  have hM5 : ex4 (exd (ex1 (g 625) p code) (g 630) p code) p q (ex3 (exd (ex1 (g 625) p code) (g 630) p code) p q r2) 0 ≤ 40 := by rw [y5]; exact hM4
  have fr : ∀ j, (j = 1 ∨ (140 ≤ j ∧ j < 180)) → ex5 p (g 625 (60 + p)) (ex4 (exd (ex1 (g 625) p code) (g 630) p code) p q (ex3 (exd (ex1 (g 625) p code) (g 630) p code) p q r2)) j = r2 j := by
    intro j hj
    rw [ex5_fr hM5 (by omega), ex4_fr hM4 (by omega), ex3_fr (by omega)]
  rw [← z6] at z4 z5
  obtain ⟨wb5, wf5⟩ := EP_WF z2 z3 z4 z5
  rw [hF]
  have e5 : ex5 p (g 625 (60 + p)) (ex4 (exd (ex1 (g 625) p code) (g 630) p code) p q (ex3 (exd (ex1 (g 625) p code) (g 630) p code) p q r2)) 0 = r2 0 := by rw [z6, y5, x4]
  generalize ex5 p (g 625 (60 + p)) (ex4 (exd (ex1 (g 625) p code) (g 630) p code) p q (ex3 (exd (ex1 (g 625) p code) (g 630) p code) p q r2)) = r5 at z1 wb5 wf5 fr e5 ⊢
  have first : fM_exits g 624 p code = jM_exits_240 (sw (exG g p code) r5) 624 (g 625 (60 + p)) (g 625 3) := by
    rw [← z1, ← y1, ← x1]
    have e : u1 (u1 (u1 (u1 (g 625) (140 + p) 1) (300 + p) code) (19 + g 625 1) p) 1 (g 625 1 + 1) = ex1 (g 625) p code := rfl
    simp (disch := omega) only [fM_exits, h0, kd_625, sz_625, w32_r, true_and, le_t, lt_t, and_true, ↓reduceIte, ↓bnd_s, pU_625, pU_sw, sw_sw, sw_s, sw_n, u1_n, e, k1, bdN_s]
  rw [first, jM_exits_240]
  unfold ex6
  by_cases hz : g 625 (60 + p) = 0
  · obtain ⟨ra1, ra2, ra3⟩ := vM_readsAll (g := exG g p code) (r := r5) (p := 0) k4 wb5.1 wf5.2.2.1 wf5.2.2.2.1 wf5.2.2.2.2.2.2.1
    obtain ⟨wb6, wf6⟩ := WF_rd (p := 0) wb5 wf5
    simp only [if_pos hz]
    refine ⟨?_, wb6, wf6, ?_, ?_, ?_, ?_⟩
    · rw [ra1, bdN_s, jM_exits_253]
      have h04 : exG g p code 624 0 = 625 := k4.1
      simp (disch := omega) only [sw_n, sw_s, h04, kd_625, sz_625, true_and, le_t, lt_t, lt_f, and_true, ↓reduceIte]
    · rw [rdR_o (by omega), fr 1 (Or.inl rfl), k7]
    · rw [rdR_o (by omega), e5]; exact k6
    · intro i i0 i1 i2 i3
      have h9 : r5 (140 + i) = 0 := by
        rw [fr _ (Or.inr (by omega)), k8 i i0 i1, ex1_n (by omega)]; exact i3
      rcases rdR_st (r := r5) (p := 0) (i := i) ⟨i0, by rw [e5]; omega⟩ with h | h
      · rw [h.1]; exact h9
      · rw [h.2] at h9; omega
    · have h9 : r5 (140 + p) = 1 := by
        rw [fr _ (Or.inr (by omega)), k8 p (by omega) hp.2]; exact v4
      rcases rdR_st (r := r5) (p := 0) (i := p) ⟨by omega, by rw [e5]; omega⟩ with h | h
      · rw [h.1, h9]; omega
      · rw [h.1]; omega
  · simp only [if_neg hz]
    refine ⟨?_, wb5, wf5, by rw [fr 1 (Or.inl rfl), k7], by rw [e5]; exact k6, ?_, ?_⟩
    · rw [jM_exits_253]
      have h04 : exG g p code 624 0 = 625 := k4.1
      simp (disch := omega) only [sw_n, sw_s, h04, kd_625, sz_625, true_and, le_t, lt_t, lt_f, and_true, ↓reduceIte]
    · intro i i0 i1 i2 i3
      rw [fr _ (Or.inr (by omega)), k8 i i0 i1, ex1_n (by omega)]
      exact i3
    · rw [fr _ (Or.inr (by omega)), k8 p (by omega) hp.2, v4]; omega
end MODEL9
/-! ===== the reference's state as a whole (own work) ===== -/
def WBF (r : Int → Int) : Prop := WB r ∧ WF r
theorem WBF_ext {r r' : Int → Int} (h : WBF r) (he : ∀ k, 0 ≤ k → k < 780 → r' k = r k) : WBF r' := by
  obtain ⟨hb, ⟨s1, s2⟩, hSR, ⟨x1, x2⟩, hL, hN, hH, hC, hB⟩ := h
  have hM := hb.1
  have e0 : r' 0 = r 0 := he 0 (by omega) (by omega)
  have e1 : r' 1 = r 1 := he 1 (by omega) (by omega)
  have est : ∀ i, 0 ≤ i → i < r 0 → r' (140 + i) = r (140 + i) := fun i i0 i1 => he _ (by omega) (by omega)
  refine ⟨WB_eq hb (fun k hk => he k (by omega) (by omega)), ⟨?_, by rw [he 140 (by omega) (by omega)]; exact s2⟩, ?_, ⟨by rw [e1]; exact x1, ?_⟩, ?_, ?_, ?_, ?_, ?_⟩
  · intro i i0 i1
    rw [e0] at i1
    rw [est i i0 i1]
    exact s1 i i0 i1
  · intro i i0 i1 i2
    rw [e0] at i1
    rw [est i (by omega) i1] at i2
    rw [he (60 + i) (by omega) (by omega)]
    have := hb.2.1 i i0 i1
    rw [est _ this.1 this.2]
    exact hSR i i0 i1 i2
  · intro k k0 k1
    rw [e1] at k1
    rw [he _ (by omega) (by omega), e0]
    exact x2 k k0 k1
  · intro i i0 i1 i2
    rw [e0] at i1
    rw [est i i0 i1] at i2
    obtain ⟨k, k0, k1, k2⟩ := hL i i0 i1 i2
    exact ⟨k, k0, by rw [e1]; exact k1, by rw [he _ (by omega) (by omega)]; exact k2⟩
  · show r' 1 = _
    rw [e1, cn_eq_st e0 hM.2 (fun k k0 k1 => he k (by omega) (by omega))]
    exact hN
  · intro d d0 d1
    have := hH d d0 d1
    rw [he (11 + d) (by omega) (by omega), e0, est _ this.1 this.2.1]
    exact this
  · intro i i0 i1 i2
    rw [e0] at i1
    rw [est i i0 i1] at i2
    rw [he _ (by omega) (by omega)]
    exact hC i i0 i1 i2
  · intro i i0 i1
    rw [e0] at i1
    rw [he _ (by omega) (by omega)]
    exact hB i i0 i1
/-- a piece of one row copied into another -/
def cpG (g : gH) (a x b y n : Int) : gH := fun c k => if c = b ∧ y ≤ k ∧ k < y + n then g a (x + k - y) else g c k
theorem cpG_n {g : gH} {a x b y n c : Int} (h : ¬ c = b) : cpG g a x b y n c = g c := by
  funext k
  unfold cpG
  rw [if_neg (fun z => h z.1)]
theorem vM_copies {g : gH} {a x b y n : Int} (ha : kd a = 20 ∧ kd b = 20) (hx : 0 ≤ x ∧ x + n ≤ sz a) (hy : 0 ≤ y ∧ y + n ≤ sz b) (hn : 0 ≤ n) (hab : a ≠ b ∨ y ≤ x) : fM_copies g a x b y n = some (0, cpG g a x b y n) := by
  have s1 := sz_bd a
  have s2 := sz_bd b
  have h := for_some (L := fun m k G => lM_copies_3 a x b y n m k G) (E := fun G => some (0, G)) n (fun k G => 0 ≤ k ∧ k ≤ n ∧ G = cpG g a x b y k) (fun m k G hk hI => by
    obtain ⟨k0, k1, hG⟩ := hI
    refine ⟨pU G b (y + k) (G a (x + k)), ?_, by omega, by omega, ?_⟩
    · show bM_copies_3 a x b y n (lM_copies_3 a x b y n m) k G = _
      rw [bM_copies_3]
      simp (disch := omega) only [ha.1, ha.2, w32_r, true_and, le_t, lt_t, and_true, ↓reduceIte, ↓bnd_s]
    · subst hG
      funext c j
      unfold pU
      have e1 : cpG g a x b y k a (x + k) = g a (x + k) := by
        unfold cpG
        rw [if_neg (fun z => by rcases hab with h | h; exact h z.1; omega)]
      rw [e1]
      unfold cpG
      by_cases h1 : c = b ∧ j = y + k
      · rw [if_pos h1, if_pos ⟨h1.1, by omega, by omega⟩, h1.2, show x + (y + k) - y = x + k by omega]
      · rw [if_neg h1]
        by_cases h2 : c = b ∧ y ≤ j ∧ j < y + k
        · rw [if_pos h2, if_pos ⟨h2.1, h2.2.1, by omega⟩]
        · rw [if_neg h2, if_neg (fun z => h2 ⟨z.1, z.2.1, by
            by_cases e : j = y + k
            · exact absurd ⟨z.1, e⟩ h1
            · omega⟩)]) (fun m k G hk hI => by
    show bM_copies_3 a x b y n (lM_copies_3 a x b y n m) k G = _
    rw [bM_copies_3, if_neg hk]) n.toNat 0 g fu (by omega) (by have := fu_ge; omega) ⟨by omega, by omega, by
      funext c j
      unfold cpG
      rw [if_neg (by omega)]⟩
  obtain ⟨G, h1, -, -, h2⟩ := h
  rw [fM_copies, h1, h2, show max 0 n = n by omega]
/-- the reference's cells -/
def MInv (g : gH) : Prop := MS g ∧ WBF (g 625) ∧ (∀ i, 0 ≤ i → i < 40 → g 630 i = 0) ∧ ((0 ≤ g 624 6 ∧ g 624 6 ≤ 10) ∧ ∀ j, 0 ≤ j → j < g 624 6 → WBF (fun k => g 629 (780 * j + k))) ∧ (¬ g 624 7 = 0 → WBF (g 628)) ∧ (0 ≤ g 624 10 ∧ g 624 10 ≤ 500) ∧ (0 ≤ g 624 23 ∧ g 624 23 ≤ 400)
/-- what a call of it leaves alone: all cells but its own -/
def MF (g g' : gH) : Prop := ∀ x, ¬ (624 ≤ x ∧ x < 635) → g' x = g x
theorem MF_r {g : gH} : MF g g := fun _ _ => rfl
theorem MF_t {g g1 g2 : gH} (h1 : MF g g1) (h2 : MF g1 g2) : MF g g2 := fun x hx => (h2 x hx).trans (h1 x hx)
theorem MF_pU {g g1 : gH} {a b v : Int} (h : MF g g1) (ha : 624 ≤ a ∧ a < 635) : MF g (pU g1 a b v) := fun x hx => (pU_n (fun e => hx (by rw [e]; exact ha))).trans (h x hx)
theorem MF_sw {g g1 : gH} {r : Int → Int} (h : MF g g1) : MF g (sw g1 r) := fun x hx => (sw_n (fun e => hx (by omega))).trans (h x hx)
theorem MF_cp {g g1 : gH} {a x b y n : Int} (h : MF g g1) (hb : 624 ≤ b ∧ b < 635) : MF g (cpG g1 a x b y n) := fun z hz => (cpG_n (fun e => hz (by rw [e]; exact hb))).trans (h z hz)
/-- the input and the error stay -/
def KI (g G : gH) : Prop := (∀ k, 10 ≤ k → k ≤ 12 → G 624 k = g 624 k) ∧ G 631 = g 631
theorem KI_r {g : gH} : KI g g := ⟨fun _ _ _ => rfl, rfl⟩
theorem KI_t {g G H : gH} (h : KI g G) (h' : KI G H) : KI g H := ⟨fun k k0 k1 => (h'.1 k k0 k1).trans (h.1 k k0 k1), h'.2.trans h.2⟩
theorem KI_e {g G H : gH} (h : KI g G) (e : ∀ k, 10 ≤ k → k ≤ 12 → H 624 k = G 624 k) (e2 : H 631 = G 631) : KI g H := KI_t h ⟨e, e2⟩
/-- a call that leaves the input as it is -/
def PO (g : gH) (X : Option (Int × gH)) : Prop := ∃ v g', X = some (v, g') ∧ MInv g' ∧ MF g g' ∧ KI g g'
/-- the mark of a throw -/
def th (g : gH) (t : Int) : gH := pU g 624 8 t
theorem th_n {g : gH} {t x : Int} (h : ¬ x = 624) : th g t x = g x := pU_n h
theorem th_f {g : gH} {t k : Int} (h : ¬ k = 8) : th g t 624 k = g 624 k := by
  unfold th
  rw [pU_s, u1_n h]
theorem th_th {g : gH} {t u : Int} : pU (th g t) 624 8 u = th g u := by
  funext x y
  unfold th pU
  by_cases h : x = 624 ∧ y = 8
  · rw [if_pos h, if_pos h]
  · rw [if_neg h, if_neg h, if_neg h]
theorem MInv_th {g : gH} {t : Int} (h : MInv g) : MInv (th g t) := by
  obtain ⟨h1, h2, h3, ⟨h4, h5⟩, h6, h7, h8⟩ := h
  unfold MInv MS
  simp (disch := omega) only [th_n, th_f]
  exact ⟨h1, h2, h3, ⟨h4, h5⟩, h6, h7, h8⟩
theorem MF_th {g g1 : gH} {t : Int} (h : MF g g1) : MF g (th g1 t) := MF_pU h (by omega)
section MODEL10
variable {g : gH} {p code t c a b : Int}
theorem vM_fails (hc : c = 0 ∨ c = 1) : fM_fails g 624 c code = some (c, if c = 0 then g else th g code) := by
  rw [fM_fails]
  rcases hc with rfl | rfl
  · rfl
  · simp only [show ¬ (1 : Int) = 0 by omega, if_false, bnd_s]
    rfl
theorem vM_inRange : fM_inRange g c a b = some (if a ≤ c ∧ c ≤ b then 1 else 0) := by
  rw [fM_inRange]
  by_cases h1 : c < a
  · rw [if_pos h1, if_neg (by omega)]
  · by_cases h2 : b < c
    · rw [if_neg h1, if_pos h2, if_neg (by omega)]
    · rw [if_neg h1, if_neg h2, if_pos (by omega)]
theorem th_id {g : gH} : (if (0 : Int) = 0 then th g 0 else th (th g 0) t) = th g 0 := if_pos rfl
/-- is there such a process -/
theorem vM_noProcess (hi : MInv g) : fM_noProcess g 624 p = some (if 0 ≤ p ∧ p < g 625 0 then 0 else 1, if 0 ≤ p ∧ p < g 625 0 then th g 0 else th g 1) := by
  have h0 := hi.1.1
  have hM := hi.2.1.1.1
  have e : pU g 624 8 0 = th g 0 := rfl
  rw [fM_noProcess]
  simp (disch := omega) only [↓bnd_s, e, th_n, th_f, h0, kd_625, sz_625, true_and, le_t, lt_t, and_true, ↓reduceIte, w32_r, vM_inRange, bdP_s]
  by_cases h : 0 ≤ p ∧ p < g 625 0
  · rw [if_pos (show 0 ≤ p ∧ p ≤ g 625 0 - 1 by omega), if_pos h, if_pos h]
    simp only [show ¬ (1 : Int) = 0 by omega, if_false, vM_fails (Or.inl rfl), bdN_s, if_true]
  · rw [if_neg (show ¬ (0 ≤ p ∧ p ≤ g 625 0 - 1) by omega), if_neg h, if_neg h]
    simp only [if_true, vM_fails (Or.inr rfl), bdN_s, show ¬ (1 : Int) = 0 by omega, if_false]
    rw [show th (th g 0) 1 = th g 1 from th_th]
end MODEL10
/-! ===== the reference's calls: tests first, changes kept (own work) ===== -/
section MODEL11
variable {g : gH} {p code t c a b k : Int}
theorem MInv_sw {r : Int → Int} (h : MInv g) (hr : WBF r) : MInv (sw g r) := by
  obtain ⟨h1, h2, h3, ⟨h4, h5⟩, h6, h7, h8⟩ := h
  unfold MInv MS
  simp (disch := omega) only [sw_n, sw_s]
  exact ⟨h1, hr, h3, ⟨h4, h5⟩, h6, h7, h8⟩
theorem MInv_630 (h : MInv g) : MInv (pU g 630 k 0) := by
  obtain ⟨h1, h2, h3, ⟨h4, h5⟩, h6, h7, h8⟩ := h
  unfold MInv MS
  simp (disch := omega) only [pU_n, pU_s]
  refine ⟨h1, h2, fun i i0 i1 => ?_, ⟨h4, h5⟩, h6, h7, h8⟩
  unfold u1
  split
  · rfl
  · exact h3 i i0 i1
theorem exG_n {x : Int} (h : ¬ x = 630) : exG g p code x = g x := by
  unfold exG
  split
  · exact pU_n h
  · rfl
theorem MInv_exG (h : MInv g) : MInv (exG g p code) := by
  unfold exG
  split
  · exact MInv_630 h
  · exact h
theorem MF_exG {g0 : gH} (h : MF g0 g) : MF g0 (exG g p code) := by
  unfold exG
  split
  · exact MF_pU h (by omega)
  · exact h
theorem vM_notRunning (hi : MInv g) : (¬ (0 ≤ p ∧ p < g 625 0) ∧ fM_notRunning g 624 p c = some (1, th g 1)) ∨ ((0 ≤ p ∧ p < g 625 0) ∧ ¬ g 625 (140 + p) = 0 ∧ fM_notRunning g 624 p c = some (1, th g c)) ∨ ((0 ≤ p ∧ p < g 625 0) ∧ g 625 (140 + p) = 0 ∧ fM_notRunning g 624 p c = some (0, th g 0)) := by
  have hM := hi.2.1.1.1
  rw [fM_notRunning, vM_noProcess hi]
  by_cases h : 0 ≤ p ∧ p < g 625 0
  · right
    simp only [if_pos h, bdN_s, if_true]
    have hr := vM_runs (g := th g 0) (p := p) (MInv_th hi).1 (by omega)
    rw [th_n (by omega)] at hr
    by_cases h2 : g 625 (140 + p) = 0
    · right
      refine ⟨h, h2, ?_⟩
      simp only [hr, h2, bdP_s, if_true, jM_notRunning_22, kd_c624, vM_fails (Or.inl rfl), bdN_s, show ¬ (1 : Int) = 0 by omega, if_false]
    · left
      refine ⟨h, h2, ?_⟩
      simp only [hr, h2, bdP_s, if_true, if_false, jM_notRunning_22, kd_c624, vM_fails (Or.inr rfl), bdN_s, show ¬ (1 : Int) = 0 by omega]
      rw [show th (th g 0) c = th g c from th_th]
  · left
    refine ⟨h, ?_⟩
    simp only [if_neg h, bdN_s, show ¬ (1 : Int) = 0 by omega, if_false]
theorem vM_notExiting (hi : MInv g) : (¬ (0 ≤ p ∧ p < g 625 0) ∧ fM_notExiting g 624 p c = some (1, th g 1)) ∨ ((0 ≤ p ∧ p < g 625 0) ∧ ¬ (¬ p = 0 ∧ g 625 (140 + p) = 0) ∧ fM_notExiting g 624 p c = some (1, th g c)) ∨ ((0 < p ∧ p < g 625 0) ∧ g 625 (140 + p) = 0 ∧ fM_notExiting g 624 p c = some (0, th g 0)) := by
  have hM := hi.2.1.1.1
  rw [fM_notExiting, vM_noProcess hi]
  by_cases h : 0 ≤ p ∧ p < g 625 0
  · right
    simp only [if_pos h, bdN_s, if_true]
    have hr := vM_runs (g := th g 0) (p := p) (MInv_th hi).1 (by omega)
    rw [th_n (by omega)] at hr
    by_cases h3 : p = 0
    · left
      refine ⟨h, fun z => z.1 h3, ?_⟩
      simp only [h3, if_true, jM_notExiting_21, jM_notExiting_26, kd_c624, vM_fails (Or.inr rfl), bdN_s, show ¬ (1 : Int) = 0 by omega, if_false]
      rw [show th (th g 0) c = th g c from th_th]
    · by_cases h2 : g 625 (140 + p) = 0
      · right
        refine ⟨by omega, h2, ?_⟩
        simp only [hr, h2, h3, bdP_s, if_true, if_false, jM_notExiting_26, kd_c624, vM_fails (Or.inl rfl), bdN_s, show ¬ (1 : Int) = 0 by omega]
      · left
        refine ⟨h, fun z => h2 z.2, ?_⟩
        simp only [hr, h2, h3, bdP_s, if_true, if_false, jM_notExiting_21, jM_notExiting_26, kd_c624, vM_fails (Or.inr rfl), bdN_s, show ¬ (1 : Int) = 0 by omega]
        rw [show th (th g 0) c = th g c from th_th]
  · left
    refine ⟨h, ?_⟩
    simp only [if_neg h, bdN_s, show ¬ (1 : Int) = 0 by omega, if_false]
theorem vM_noExit (hi : MInv g) : (¬ (0 ≤ p ∧ p < g 625 0) ∧ fM_noExit g 624 p code = some (1, th g 1)) ∨ ((0 ≤ p ∧ p < g 625 0) ∧ ¬ (0 ≤ code ∧ code ≤ 255) ∧ fM_noExit g 624 p code = some (1, th g 2)) ∨ ((0 ≤ p ∧ p < g 625 0) ∧ (0 ≤ code ∧ code ≤ 255) ∧ ¬ (¬ p = 0 ∧ g 625 (140 + p) = 0) ∧ fM_noExit g 624 p code = some (1, th g 3)) ∨ ((0 < p ∧ p < g 625 0) ∧ (0 ≤ code ∧ code ≤ 255) ∧ g 625 (140 + p) = 0 ∧ fM_noExit g 624 p code = some (0, th g 0)) := by
  have hM := hi.2.1.1.1
  rw [fM_noExit, vM_noProcess hi]
  by_cases h : 0 ≤ p ∧ p < g 625 0
  · right
    simp only [if_pos h, bdN_s, if_true, vM_inRange, bdP_s]
    by_cases hc : 0 ≤ code ∧ code ≤ 255
    · right
      have hr := vM_runs (g := th g 0) (p := p) (MInv_th hi).1 (by omega)
      rw [th_n (by omega)] at hr
      simp only [if_pos hc, show ¬ (1 : Int) = 0 by omega, if_false, jM_noExit_25, kd_c624, if_true, vM_fails (Or.inl rfl), bdN_s]
      by_cases h3 : p = 0
      · left
        refine ⟨h, hc, fun z => z.1 h3, ?_⟩
        simp only [h3, if_true, jM_noExit_45, jM_noExit_50, kd_c624, vM_fails (Or.inr rfl), bdN_s, show ¬ (1 : Int) = 0 by omega, if_false]
        rw [show th (th g 0) 3 = th g 3 from th_th]
      · by_cases h2 : g 625 (140 + p) = 0
        · right
          refine ⟨by omega, hc, h2, ?_⟩
          simp only [hr, h2, h3, bdP_s, if_true, if_false, jM_noExit_50, kd_c624, vM_fails (Or.inl rfl), bdN_s, show ¬ (1 : Int) = 0 by omega]
        · left
          refine ⟨h, hc, fun z => h2 z.2, ?_⟩
          simp only [hr, h2, h3, bdP_s, if_true, if_false, jM_noExit_45, jM_noExit_50, kd_c624, vM_fails (Or.inr rfl), bdN_s, show ¬ (1 : Int) = 0 by omega]
          rw [show th (th g 0) 3 = th g 3 from th_th]
    · left
      refine ⟨h, hc, ?_⟩
      simp only [if_neg hc, if_true, jM_noExit_25, kd_c624, vM_fails (Or.inr rfl), bdN_s, show ¬ (1 : Int) = 0 by omega, if_false]
      rw [show th (th g 0) 2 = th g 2 from th_th]
  · left
    refine ⟨h, ?_⟩
    simp only [if_neg h, bdN_s, show ¬ (1 : Int) = 0 by omega, if_false]
theorem vM_isSmall : fM_isSmall g c = some (if 0 ≤ c ∧ c ≤ 9 then 1 else 0) := by
  rw [fM_isSmall, vM_inRange, bdP_s]
theorem vM_noKill : (¬ ((0 ≤ a ∧ a ≤ 9) ∧ 0 ≤ code ∧ code ≤ 255) ∧ fM_noKill g 624 a code = some (1, th g 1)) ∨ (((0 ≤ a ∧ a ≤ 9) ∧ 0 ≤ code ∧ code ≤ 255) ∧ fM_noKill g 624 a code = some (0, th g 0)) := by
  have e : pU g 624 8 0 = th g 0 := rfl
  rw [fM_noKill]
  simp only [bnd_s, e, vM_isSmall, bdP_s, vM_inRange]
  by_cases h1 : 0 ≤ a ∧ a ≤ 9
  · by_cases h2 : 0 ≤ code ∧ code ≤ 255
    · right
      refine ⟨⟨h1, h2⟩, ?_⟩
      simp only [if_pos h1, if_pos h2, show ¬ (1 : Int) = 0 by omega, if_false, vM_fails (Or.inl rfl), bdN_s, if_true]
    · left
      refine ⟨fun z => h2 z.2, ?_⟩
      simp only [if_pos h1, if_neg h2, show ¬ (1 : Int) = 0 by omega, if_false, vM_fails (Or.inr rfl), bdN_s, if_true]
      rw [show th (th g 0) 1 = th g 1 from th_th]
  · left
    refine ⟨fun z => h1 z.1, ?_⟩
    simp only [if_neg h1, show ¬ (1 : Int) = 0 by omega, if_false, vM_fails (Or.inr rfl), bdN_s, if_true]
    rw [show th (th g 0) 1 = th g 1 from th_th]
theorem vM_noDuty : (¬ (0 ≤ a ∧ a ≤ 7) ∧ fM_noDuty g 624 a c = some (1, th g c)) ∨ ((0 ≤ a ∧ a ≤ 7) ∧ fM_noDuty g 624 a c = some (0, g)) := by
  rw [fM_noDuty]
  simp only [bdP_s, vM_inRange]
  by_cases h1 : 0 ≤ a ∧ a ≤ 7
  · right
    refine ⟨h1, ?_⟩
    simp only [if_pos h1, show ¬ (1 : Int) = 0 by omega, if_false, vM_fails (Or.inl rfl), bdN_s, if_true]
  · left
    refine ⟨h1, ?_⟩
    simp only [if_neg h1, show ¬ (1 : Int) = 0 by omega, if_false, vM_fails (Or.inr rfl), bdN_s, if_true]
/-- the row is kept; the rest of the state stays -/
theorem vM_remembers (hi : MInv g) : ∃ g', fM_remembers g 624 = some (0, g') ∧ MInv g' ∧ MF g g' ∧ (∀ x, ¬ x = 624 → ¬ x = 629 → g' x = g x) ∧ (∀ k, ¬ k = 6 → g' 624 k = g 624 k) := by
  obtain ⟨h1, h2, h3, ⟨h4, h5⟩, h6, h7, h8⟩ := hi
  have h0 := h1.1
  have h29 := h1.2.2.2.1
  -- the kept row goes to place n
  have fin : ∀ G : gH, (∀ x, ¬ x = 624 → ¬ x = 629 → G x = g x) → (∀ k, ¬ k = 6 → G 624 k = g 624 k) → (0 ≤ G 624 6 ∧ G 624 6 ≤ 9) → (∀ j, 0 ≤ j → j < G 624 6 → WBF (fun k => G 629 (780 * j + k))) → MF g G → ∃ g', jM_remembers_37 G 624 = some (0, g') ∧ MInv g' ∧ MF g g' ∧ (∀ x, ¬ x = 624 → ¬ x = 629 → g' x = g x) ∧ (∀ k, ¬ k = 6 → g' 624 k = g 624 k) := by
    intro G G1 G2 G3 G4 G5
    have g0 : G 624 0 = 625 := by rw [G2 0 (by omega)]; exact h0
    have g4 : G 624 4 = 629 := by rw [G2 4 (by omega)]; exact h29
    have e1 : opI 0 780 (G 624 6) = 780 * G 624 6 := by rw [opI_mul, w32_r (by omega)]
    have hc := vM_copies (g := G) (a := 625) (x := 0) (b := 629) (y := 780 * G 624 6) (n := 780) ⟨kd_625, kd_629⟩ (by rw [sz_625]; omega) (by rw [sz_629]; omega) (by omega) (Or.inl (by omega))
    refine ⟨pU (cpG G 625 0 629 (780 * G 624 6) 780) 624 6 (G 624 6 + 1), ?_, ?_, ?_, ?_, ?_⟩
    · rw [jM_remembers_37, g0, g4, e1, hc, bdN_s, bnd_s, cpG_n (by omega), w32_r (by omega)]
    · unfold MInv MS
      simp (disch := omega) only [pU_n, pU_s, u1_n, u1_s, cpG_n, G1, G2]
      refine ⟨h1, h2, h3, ⟨by omega, ?_⟩, h6, h7, h8⟩
      intro j j0 j1
      by_cases e : j = G 624 6
      · refine WBF_ext h2 (fun k k0 k1 => ?_)
        unfold cpG
        rw [if_pos ⟨rfl, by omega, by omega⟩, G1 625 (by omega) (by omega), show (0 + (780 * j + k) - 780 * G 624 6 : Int) = k by omega]
      · refine WBF_ext (G4 j j0 (by omega)) (fun k k0 k1 => ?_)
        unfold cpG
        rw [if_neg (fun z => by have := z.2.1; have := z.2.2; omega)]
    · exact MF_pU (MF_cp G5 (by omega)) (by omega)
    · intro x x1 x2
      rw [pU_n x1, cpG_n x2]
      exact G1 x x1 x2
    · intro k hk
      rw [pU_s, u1_n hk, cpG_n (by omega)]
      exact G2 k hk
  rw [fM_remembers]
  by_cases c10 : g 624 6 = 10
  · have hc := vM_copies (g := g) (a := 629) (x := 780) (b := 629) (y := 0) (n := 7020) ⟨kd_629, kd_629⟩ (by rw [sz_629]; omega) (by rw [sz_629]; omega) (by omega) (Or.inr (by omega))
    rw [if_pos c10, h29, hc, bdN_s, bnd_s, cpG_n (by omega), c10]
    refine fin _ ?_ ?_ ?_ ?_ ?_
    · intro x x1 x2
      rw [pU_n x1, cpG_n x2]
    · intro k hk
      rw [pU_s, u1_n hk, cpG_n (by omega)]
    · rw [pU_s, u1_s, w32_r (by omega)]
      omega
    · intro j j0 j1
      rw [pU_s, u1_s, w32_r (by omega)] at j1
      refine WBF_ext (h5 (j + 1) (by omega) (by omega)) (fun k k0 k1 => ?_)
      rw [pU_n (by omega)]
      unfold cpG
      rw [if_pos ⟨rfl, by omega, by omega⟩, show (780 + (780 * j + k) - 0 : Int) = 780 * (j + 1) + k by omega]
    · exact MF_pU (MF_cp MF_r (by omega)) (by omega)
  · rw [if_neg c10]
    exact fin g (fun _ _ _ => rfl) (fun _ _ => rfl) (by omega) h5 MF_r
/-- a copy is gone through and comes back -/
def bgG (g : gH) : gH := cpG g 625 0 627 0 780
theorem vM_begins (hs : MS g) : fM_begins g 624 = some (0, bgG g) := by
  have hc := vM_copies (g := g) (a := 625) (x := 0) (b := 627) (y := 0) (n := 780) ⟨kd_625, kd_627⟩ (by rw [sz_625]; omega) (by rw [sz_627]; omega) (by omega) (Or.inl (by omega))
  rw [fM_begins, hs.1, hs.2.1, hc, bdN_s]
  rfl
theorem vM_ends (hs : MS g) : fM_ends g 624 = some (0, cpG g 627 0 625 0 780) := by
  have hc := vM_copies (g := g) (a := 627) (x := 0) (b := 625) (y := 0) (n := 780) ⟨kd_627, kd_625⟩ (by rw [sz_627]; omega) (by rw [sz_625]; omega) (by omega) (Or.inl (by omega))
  rw [fM_ends, hs.1, hs.2.1, hc, bdN_s]
theorem bgG_n {x : Int} (h : ¬ x = 627) : bgG g x = g x := cpG_n h
theorem bgG_s {k : Int} (h : 0 ≤ k ∧ k < 780) : bgG g 627 k = g 625 k := by
  unfold bgG cpG
  rw [if_pos ⟨rfl, by omega, by omega⟩]
  congr 1
  omega
theorem MInv_bg (hi : MInv g) : MInv (bgG g) := by
  obtain ⟨h1, h2, h3, h4, h6, h7, h8⟩ := hi
  unfold MInv MS
  simp (disch := omega) only [bgG_n]
  exact ⟨h1, h2, h3, h4, h6, h7, h8⟩
/-- behind the end of what would be: as before -/
theorem MInv_en {G : gH} (hi : MInv G) (hw : WBF (G 627)) : MInv (cpG G 627 0 625 0 780) := by
  obtain ⟨h1, h2, h3, h4, h6, h7, h8⟩ := hi
  unfold MInv MS
  simp (disch := omega) only [cpG_n]
  refine ⟨h1, WBF_ext hw (fun k k0 k1 => ?_), h3, h4, h6, h7, h8⟩
  unfold cpG
  rw [if_pos ⟨rfl, by omega, by omega⟩]
  congr 1
  omega
end MODEL11
