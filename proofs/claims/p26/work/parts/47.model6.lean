/-! ===== a process on its way out (own work) ===== -/
def EP (r : Int → Int) (p s q : Int) : Prop :=
  WB r ∧ (r (140 + p) = 1 ∧ r (60 + p) = s ∧ (0 < p ∧ p < r 0) ∧ (0 ≤ s ∧ s < r 0) ∧ s ≠ p ∧ r (140 + s) = 0) ∧ STT r ∧ (∀ i, 0 < i → i < r 0 → ¬ r (140 + i) = 2 → ¬ r (60 + i) = p → r (140 + r (60 + i)) = 0) ∧ EX r ∧ EXL r ∧ NX r ∧ CD r ∧ BU r ∧ (q = -1 ∨ (0 < q ∧ q < r 0 ∧ r (140 + q) = 0 ∧ r (60 + q) = s ∧ q ≠ p))
theorem cn_eq_st {r r' : Int → Int} (h0 : r' 0 = r 0) (hM : r 0 ≤ 40) (h : ∀ k, 140 ≤ k → k < 180 → r' k = r k) : cn (fun i => !decide (r' (140 + i) = 0)) (r' 0).toNat 0 = cn (fun i => !decide (r (140 + i) = 0)) (r 0).toNat 0 := by
  rw [h0]
  exact cn_congr _ _ (fun j j0 j1 => by
    show (!decide (r' (140 + j) = 0)) = !decide (r (140 + j) = 0)
    rw [h _ (by omega) (by omega)])
theorem EP_gen {r r' : Int → Int} {p s q : Int} (h : EP r p s q) (hWB : WB r') (hsup : ∀ i, 0 < i → i < r 0 → ¬ r' (60 + i) = r (60 + i) → i ≠ p ∧ i ≠ q ∧ 0 ≤ r' (60 + i) ∧ r' (60 + i) < r 0 ∧ r (140 + r' (60 + i)) = 0)
    (he : ∀ k, ¬ k = 2 → ¬ k = 3 → ¬ (11 ≤ k ∧ k < 19) → ¬ (60 ≤ k ∧ k < 100) → ¬ (380 ≤ k ∧ k < 420) → r' k = r k) : EP r' p s q := by
  obtain ⟨h1, ⟨a1, a2, a3, a4, a5, a6⟩, ⟨b1, b2⟩, h4, ⟨c1, c2⟩, h6, h7, h8, h9, h10⟩ := h
  have hM := h1.1
  have e0 : r' 0 = r 0 := he 0 (by omega) (by omega) (by omega) (by omega) (by omega)
  have e1 : r' 1 = r 1 := he 1 (by omega) (by omega) (by omega) (by omega) (by omega)
  have est : ∀ i, 0 ≤ i → i < 40 → r' (140 + i) = r (140 + i) := fun i i0 i1 => he _ (by omega) (by omega) (by omega) (by omega) (by omega)
  have eup : ∀ i, 0 < i → i < r 0 → (i = p ∨ i = q) → r' (60 + i) = r (60 + i) := by
    intro i i0 i1 hi
    by_cases e : r' (60 + i) = r (60 + i)
    · exact e
    · have := hsup i i0 i1 e
      rcases hi with hi | hi
      · exact absurd hi this.1
      · exact absurd hi this.2.1
  have epp : r' (60 + p) = s := by rw [eup p a3.1 a3.2 (Or.inl rfl)]; exact a2
  refine ⟨hWB, ⟨by rw [est p (by omega) (by omega)]; exact a1, epp, by rw [e0]; exact a3, by rw [e0]; exact a4, a5, by rw [est s (by omega) (by omega)]; exact a6⟩, ⟨?_, by rw [he 140 (by omega) (by omega) (by omega) (by omega) (by omega)]; exact b2⟩, ?_, ⟨by rw [e1]; exact c1, ?_⟩, ?_, ?_, ?_, ?_, ?_⟩
  · intro i i0 i1
    rw [e0] at i1
    rw [est i i0 (by omega)]
    exact b1 i i0 i1
  · intro i i0 i1 i2 i3
    rw [e0] at i1
    rw [est i (by omega) (by omega)] at i2
    by_cases e : r' (60 + i) = r (60 + i)
    · rw [e] at i3 ⊢
      have := h1.2.1 i i0 i1
      rw [est _ this.1 (by omega)]
      exact h4 i i0 i1 i2 i3
    · have := hsup i i0 i1 e
      rw [est _ this.2.2.1 (by omega)]
      exact this.2.2.2.2
  · intro k k0 k1
    rw [e1] at k1
    rw [he _ (by omega) (by omega) (by omega) (by omega) (by omega), e0]
    exact c2 k k0 k1
  · intro i i0 i1 i2
    rw [e0] at i1
    rw [est i i0 (by omega)] at i2
    obtain ⟨k, k0, k1, k2⟩ := h6 i i0 i1 i2
    exact ⟨k, k0, by rw [e1]; exact k1, by rw [he _ (by omega) (by omega) (by omega) (by omega) (by omega)]; exact k2⟩
  · show r' 1 = _
    rw [e1, cn_eq_st e0 hM.2 (fun k k0 k1 => he k (by omega) (by omega) (by omega) (by omega) (by omega))]
    exact h7
  · intro i i0 i1 i2
    rw [e0] at i1
    rw [est i i0 (by omega)] at i2
    rw [he _ (by omega) (by omega) (by omega) (by omega) (by omega)]
    exact h8 i i0 i1 i2
  · intro i i0 i1
    rw [e0] at i1
    rw [he _ (by omega) (by omega) (by omega) (by omega) (by omega)]
    exact h9 i i0 i1
  · rcases h10 with h | ⟨q1, q2, q3, q4, q5⟩
    · exact Or.inl h
    · exact Or.inr ⟨q1, by rw [e0]; exact q2, by rw [est q (by omega) (by omega)]; exact q3, by rw [eup q q1 q2 (Or.inr rfl)]; exact q4, q5⟩
theorem EP_sup {r r' : Int → Int} {p s q c t : Int} (h : EP r p s q) (hc : 0 < c ∧ c < r 0) (hcp : c ≠ p) (hcq : c ≠ q) (ht : 0 ≤ t ∧ t < r 0) (htc : t ≠ c) (ho : OV (up r) c t = false) (hst : r (140 + t) = 0) (hk : r' (60 + c) = t) (he : ∀ k, ¬ k = 2 → ¬ k = 3 → ¬ (380 ≤ k ∧ k < 420) → ¬ k = 60 + c → r' k = r k) : EP r' p s q := by
  have hM := h.1.1
  refine EP_gen h (WB_sup h.1 hc ht htc ho hk (fun k hk => he k (by omega) (by omega) (by omega) (by omega))) ?_ (fun k k1 k2 k3 k4 k5 => he k k1 k2 k5 (by omega))
  intro i i0 i1 i2
  by_cases e : i = c
  · subst e
    rw [hk]
    exact ⟨hcp, hcq, ht.1, ht.2, hst⟩
  · exact absurd (he _ (by omega) (by omega) (by omega) (by omega)) i2
theorem ex1_n {r : Int → Int} {p code k : Int} (h : ¬ k = 1 ∧ ¬ k = 19 + r 1 ∧ ¬ k = 300 + p ∧ ¬ k = 140 + p) : ex1 r p code k = r k := by
  unfold ex1
  rw [u1_n h.1, u1_n h.2.1, u1_n h.2.2.1, u1_n h.2.2.2]
theorem ex1_v {r : Int → Int} {p code : Int} (hp : 0 < p ∧ p < 40) (hr : 0 ≤ r 1 ∧ r 1 ≤ 39) : ex1 r p code 1 = r 1 + 1 ∧ ex1 r p code (19 + r 1) = p ∧ ex1 r p code (300 + p) = code ∧ ex1 r p code (140 + p) = 1 := by
  unfold ex1
  refine ⟨u1_s, ?_, ?_, ?_⟩
  · rw [u1_n (by omega), u1_s]
  · rw [u1_n (by omega), u1_n (by omega), u1_s]
  · rw [u1_n (by omega), u1_n (by omega), u1_n (by omega), u1_s]
/-- at most all but the root have exited -/
theorem NX_bd {r : Int → Int} (hM : 1 ≤ r 0 ∧ r 0 ≤ 40) (h0 : r 140 = 0) (h : NX r) : 0 ≤ r 1 ∧ r 1 ≤ r 0 - 1 := by
  unfold NX at h
  obtain ⟨m, hm⟩ : ∃ m, (r 0).toNat = m + 1 := ⟨(r 0).toNat - 1, by omega⟩
  rw [hm, cn_s] at h
  have := cn_bd (fun i => !decide (r (140 + i) = 0)) m (0 + 1)
  have e : (!decide (r (140 + 0) = 0)) = false := by
    rw [show (140 : Int) + 0 = 140 by omega, h0]
    rfl
  rw [e, if_neg (by simp)] at h
  omega
/-- one more, if one is running beside the root -/
theorem NX_bd2 {r : Int → Int} {p : Int} (hM : 1 ≤ r 0 ∧ r 0 ≤ 40) (h0 : r 140 = 0) (h : NX r) (hp : 0 < p ∧ p < r 0) (hst : r (140 + p) = 0) : 0 ≤ r 1 ∧ r 1 ≤ r 0 - 2 := by
  unfold NX at h
  obtain ⟨m, hm⟩ : ∃ m, (r 0).toNat = m + 1 := ⟨(r 0).toNat - 1, by omega⟩
  rw [hm, cn_s] at h
  have h1 := cn_up (P := fun i => !decide (r (140 + i) = 0)) (Q := fun i => if i = p then true else !decide (r (140 + i) = 0)) (p := p) (by rw [hst]; rfl) (if_pos rfl) (fun j hj => (if_neg hj).symm) m (0 + 1)
  rw [if_pos (by omega)] at h1
  have h2 := cn_bd (fun i => if i = p then true else !decide (r (140 + i) = 0)) m (0 + 1)
  have e : (!decide (r (140 + 0) = 0)) = false := by
    rw [show (140 : Int) + 0 = 140 by omega, h0]
    rfl
  rw [e, if_neg (by simp)] at h
  have h3 := cn_bd (fun i => !decide (r (140 + i) = 0)) m (0 + 1)
  omega
theorem EP_ex1 {r : Int → Int} {p code : Int} (hb : WB r) (hf : WF r) (hp : 0 < p ∧ p < r 0) (hst : r (140 + p) = 0) (hc : 0 ≤ code ∧ code ≤ 255) : EP (ex1 r p code) p (r (60 + p)) (-1) ∧ (∀ d, 0 ≤ d → d < 8 → 0 ≤ ex1 r p code (11 + d) ∧ ex1 r p code (11 + d) < r 0 ∧ (ex1 r p code (140 + ex1 r p code (11 + d)) = 0 ∨ ex1 r p code (11 + d) = p)) := by
  obtain ⟨⟨s1, s2⟩, hSR, ⟨x1, x2⟩, hL, hN, hH, hC, hB⟩ := hf
  have hM := hb.1
  have hn := NX_bd2 hM s2 hN hp hst
  have hs := hb.2.1 p hp.1 hp.2
  obtain ⟨v1, v2, v3, v4⟩ := ex1_v (r := r) (p := p) (code := code) (by omega) (by omega)
  have e0 : ex1 r p code 0 = r 0 := ex1_n (by omega)
  have est : ∀ i, 0 ≤ i → i < 40 → i ≠ p → ex1 r p code (140 + i) = r (140 + i) := fun i i0 i1 i2 => ex1_n (by omega)
  have eup : ∀ i, 0 ≤ i → i < 40 → ex1 r p code (60 + i) = r (60 + i) := fun i i0 i1 => ex1_n (by omega)
  have hsp : r (60 + p) ≠ p := by
    intro e
    have h1 := DP_s (hb.2.2.1 p (by omega) hp.2) (by omega)
    have h2 : up r p = p := e
    rw [h2] at h1
    omega
  have hss : r (140 + r (60 + p)) = 0 := hSR p hp.1 hp.2 (by rw [hst]; omega)
  have hss' : ex1 r p code (140 + r (60 + p)) = 0 := by rw [est _ hs.1 (by omega) hsp]; exact hss
  refine ⟨⟨WB_eq hb (fun k hk => ex1_n (by omega)), ⟨v4, eup p (by omega) (by omega), by rw [e0]; exact hp, by rw [e0]; exact hs, hsp, hss'⟩, ⟨?_, ?_⟩, ?_, ⟨by rw [v1]; omega, ?_⟩, ?_, ?_, ?_, ?_, Or.inl rfl⟩, ?_⟩
  · intro i i0 i1
    rw [e0] at i1
    by_cases e : i = p
    · rw [e, v4]; omega
    · rw [est i i0 (by omega) e]; exact s1 i i0 i1
  · rw [show (140 : Int) = 140 + 0 by omega, est 0 (by omega) (by omega) (by omega)]
    exact s2
  · intro i i0 i1 i2 i3
    rw [e0] at i1
    rw [eup i (by omega) (by omega)] at i3 ⊢
    by_cases e : i = p
    · rw [e]; exact hss'
    · rw [est i (by omega) (by omega) e] at i2
      have := hb.2.1 i i0 i1
      rw [est _ this.1 (by omega) i3]
      exact hSR i i0 i1 i2
  · intro k k0 k1
    rw [v1] at k1
    rw [e0]
    by_cases e : k = r 1
    · rw [e, v2]; omega
    · rw [ex1_n (by omega)]
      exact x2 k k0 (by omega)
  · intro i i0 i1 i2
    rw [e0] at i1
    by_cases e : i = p
    · exact ⟨r 1, by omega, by rw [v1]; omega, by rw [v2]; exact e.symm⟩
    · rw [est i i0 (by omega) e] at i2
      obtain ⟨k, k0, k1, k2⟩ := hL i i0 i1 i2
      exact ⟨k, k0, by rw [v1]; omega, by rw [ex1_n (by omega)]; exact k2⟩
  · show ex1 r p code 1 = _
    rw [v1, e0, hN]
    have h1 := cn_up (P := fun i => !decide (r (140 + i) = 0)) (Q := fun i => if i = p then true else !decide (r (140 + i) = 0)) (p := p) (by rw [hst]; rfl) (if_pos rfl) (fun j hj => (if_neg hj).symm) (r 0).toNat 0
    rw [if_pos (by omega)] at h1
    rw [← h1]
    exact cn_congr _ _ (fun j j0 j1 => by
      show (if j = p then true else !decide (r (140 + j) = 0)) = !decide (ex1 r p code (140 + j) = 0)
      by_cases e : j = p
      · rw [if_pos e, e, v4]; rfl
      · rw [if_neg e, est j j0 (by omega) e])
  · intro i i0 i1 i2
    rw [e0] at i1
    by_cases e : i = p
    · rw [e, v3]; exact hc
    · rw [est i i0 (by omega) e] at i2
      rw [ex1_n (by omega)]
      exact hC i i0 i1 i2
  · intro i i0 i1
    rw [e0] at i1
    rw [ex1_n (by omega)]
    exact hB i i0 i1
  · intro d d0 d1
    have := hH d d0 d1
    rw [ex1_n (k := 11 + d) (by omega)]
    refine ⟨this.1, this.2.1, ?_⟩
    by_cases e : r (11 + d) = p
    · exact Or.inr e
    · rw [est _ this.1 (by omega) e]
      exact Or.inl this.2.2
/-! ===== with a replacement; the loops of an exit (own work) ===== -/
theorem rpA_n {r : Int → Int} {p k : Int} (h : ¬ k = 4 ∧ ¬ k = 220 + r (60 + p)) : rpA r p k = r k := by
  unfold rpA
  rw [u1_n h.1, u1_n h.2]
theorem rpR_o {r : Int → Int} {p k : Int} (hM : 1 ≤ r 0 ∧ r 0 < 40) (hp : 0 < p ∧ p < 40) (hs : 0 ≤ r (60 + p) ∧ r (60 + p) < 40) (h : (¬ k = 0 ∧ ¬ (460 + 8 * r 0 ≤ k ∧ k < 468 + 8 * r 0) ∧ ¬ k = 420 + r 0 ∧ ¬ k = 380 + r 0 ∧ ¬ k = 340 + r 0 ∧ ¬ k = 300 + r 0 ∧ ¬ k = 260 + r 0 ∧ ¬ k = 220 + r 0 ∧ ¬ k = 180 + r 0 ∧ ¬ k = 140 + r 0 ∧ ¬ k = 100 + r 0 ∧ ¬ k = 60 + r 0) ∧ ¬ k = 420 + p ∧ ¬ k = 220 + r (60 + p) ∧ ¬ k = 4) : rpR r p k = r k := by
  obtain ⟨h1, h2, h3, h4⟩ := h
  have e0 : rpA r p 0 = r 0 := rpA_n (by omega)
  unfold rpR
  rw [u1_n h2, cmR_o (by rw [e0]; exact hM) (by rw [e0]; exact h1), rpA_n ⟨h4, h3⟩]
theorem rpR_v {r : Int → Int} {p : Int} (hM : 1 ≤ r 0 ∧ r 0 < 40) (hp : 0 < p ∧ p < r 0) (hs : 0 ≤ r (60 + p) ∧ r (60 + p) < 40) : rpR r p 0 = r 0 + 1 ∧ rpR r p (60 + r 0) = r (60 + p) ∧ rpR r p (140 + r 0) = 0 ∧ rpR r p (220 + r 0) = rpA r p (220 + p) ∧ (rpR r p (220 + r (60 + p)) = w32 (r (220 + r (60 + p)) - 1) ∨ r (60 + p) = r 0) ∧ rpR r p (420 + p) = r 0 := by
  have e0 : rpA r p 0 = r 0 := rpA_n (by omega)
  obtain ⟨n1, n2, n3, n4, n5, n6⟩ := cmR_n (r := rpA r p) (a := r (60 + p)) (c := rpA r p (100 + p)) (gp := rpA r p (180 + p)) (b := rpA r p (220 + p)) (by rw [e0]; exact hM)
  rw [e0] at n1 n3 n5
  unfold rpR
  refine ⟨by rw [u1_n (by omega), cmR_0, e0], by rw [u1_n (by omega)]; exact n1, by rw [u1_n (by omega)]; exact n3, by rw [u1_n (by omega)]; exact n5, ?_, u1_s⟩
  by_cases e : r (60 + p) = r 0
  · exact Or.inr e
  · left
    rw [u1_n (by omega), cmR_o (by rw [e0]; exact hM) (by rw [e0]; omega)]
    unfold rpA
    rw [u1_n (by omega), u1_s]
theorem EP_rp {r : Int → Int} {p s : Int} (h : EP r p s (-1)) (hM : r 0 < 40) (hb : ¬ r (220 + s) = 0) : EP (rpR r p) p s (r 0) := by
  obtain ⟨h1, ⟨a1, a2, a3, a4, a5, a6⟩, ⟨b1, b2⟩, h4, ⟨c1, c2⟩, h6, h7, h8, h9, -⟩ := h
  have hM1 := h1.1
  have hM' : 1 ≤ r 0 ∧ r 0 < 40 := ⟨hM1.1, hM⟩
  subst a2
  have ho := fun k => rpR_o (r := r) (p := p) (k := k) hM' (by omega) (by omega)
  obtain ⟨v0, v1, v2, v3, v4, v5⟩ := rpR_v (r := r) (p := p) hM' (by omega) (by omega)
  have hn1 := NX_bd hM1 b2 h7
  have est : ∀ i, 0 ≤ i → i < r 0 → rpR r p (140 + i) = r (140 + i) := fun i i0 i1 => ho _ (by omega)
  have eup : ∀ i, 0 ≤ i → i < r 0 → rpR r p (60 + i) = r (60 + i) := fun i i0 i1 => ho _ (by omega)
  have e1 : rpR r p 1 = r 1 := ho _ (by omega)
  have e0' : rpA r p 0 = r 0 := rpA_n (by omega)
  have hW : WB (rpR r p) := by
    have w1 : WB (rpA r p) := WB_eq h1 (fun k hk => rpA_n (by omega))
    have hcap := h1.2.2.2.2.2.2 p (by omega) a3.2
    have w2 : WB (cmR (rpA r p) (r (60 + p)) (rpA r p (100 + p)) (rpA r p (180 + p)) (rpA r p (220 + p))) := WB_cm w1 (by rw [e0']; exact hM) (by rw [e0']; exact a4) (by rw [rpA_n (by omega)]; exact hcap)
    exact WB_eq w2 (fun k hk => by unfold rpR; exact u1_n (by omega))
  refine ⟨hW, ⟨by rw [est p (by omega) a3.2]; exact a1, eup p (by omega) a3.2, by rw [v0]; omega, by rw [v0]; omega, a5, by rw [est _ a4.1 a4.2]; exact a6⟩, ⟨?_, ?_⟩, ?_, ⟨by rw [e1]; omega, ?_⟩, ?_, ?_, ?_, ?_, Or.inr ⟨by omega, by rw [v0]; omega, v2, v1, by omega⟩⟩
  · intro i i0 i1
    rw [v0] at i1
    by_cases e : i = r 0
    · rw [e, v2]; omega
    · rw [est i i0 (by omega)]; exact b1 i i0 (by omega)
  · rw [show (140 : Int) = 140 + 0 by omega, est 0 (by omega) (by omega)]; exact b2
  · intro i i0 i1 i2 i3
    rw [v0] at i1
    by_cases e : i = r 0
    · rw [e, v1, est _ a4.1 a4.2]; exact a6
    · rw [est i (by omega) (by omega)] at i2
      rw [eup i (by omega) (by omega)] at i3 ⊢
      have := h1.2.1 i i0 (by omega)
      rw [est _ this.1 this.2]
      exact h4 i i0 (by omega) i2 i3
  · intro k k0 k1
    rw [e1] at k1
    rw [ho _ (by omega), v0]
    have := c2 k k0 k1
    omega
  · intro i i0 i1 i2
    rw [v0] at i1
    by_cases e : i = r 0
    · rw [e, v2] at i2; exact absurd rfl i2
    · rw [est i i0 (by omega)] at i2
      obtain ⟨k, k0, k1, k2⟩ := h6 i i0 (by omega) i2
      exact ⟨k, k0, by rw [e1]; exact k1, by rw [ho _ (by omega)]; exact k2⟩
  · show rpR r p 1 = _
    rw [e1, v0, show (r 0 + 1).toNat = (r 0).toNat + 1 by omega, cn_one, show (0 : Int) + ((r 0).toNat : Int) = r 0 by omega, h7]
    have : (!decide (rpR r p (140 + r 0) = 0)) = false := by rw [v2]; rfl
    rw [this, if_neg (by simp), Int.add_zero]
    exact cn_congr _ _ (fun j j0 j1 => by
      show (!decide (r (140 + j) = 0)) = !decide (rpR r p (140 + j) = 0)
      rw [est j j0 (by omega)])
  · intro i i0 i1 i2
    rw [v0] at i1
    by_cases e : i = r 0
    · rw [e, v2] at i2; omega
    · rw [est i i0 (by omega)] at i2
      rw [ho _ (by omega)]
      exact h8 i i0 (by omega) i2
  · intro i i0 i1
    rw [v0] at i1
    have hbs := h9 _ a4.1 a4.2
    by_cases e : i = r 0
    · rw [e, v3]
      unfold rpA
      rw [u1_n (by omega)]
      by_cases e2 : p = r (60 + p)
      · exact absurd e2.symm a5
      · rw [u1_n (by omega)]
        exact h9 p (by omega) a3.2
    · by_cases e2 : i = r (60 + p)
      · rcases v4 with v4 | v4
        · rw [e2, v4, w32_r (by omega)]
          omega
        · omega
      · rw [ho _ (by omega)]
        exact h9 i i0 (by omega)
/-! the loops, as functions of the row -/
def ex3 (dm : Int → Int) (p q : Int) (r : Int → Int) : Int → Int := fd (fun k r => dutS dm p q k r) 8 0 r
def ex4 (dm : Int → Int) (p q : Int) (r : Int → Int) : Int → Int := fd (fun c r => orpS dm p q c r) (r 0 - 1).toNat 1 r
def ex5 (p s : Int) (r : Int → Int) : Int → Int := fd (fun c r => zomS p s c r) (r 0 - 1).toNat 1 r
/-- holders on the way: running, or p from the duty k on -/
def HP (r : Int → Int) (p k : Int) : Prop := ∀ d, 0 ≤ d → d < 8 → 0 ≤ r (11 + d) ∧ r (11 + d) < r 0 ∧ (r (140 + r (11 + d)) = 0 ∨ (k ≤ d ∧ r (11 + d) = p))
section MODEL7
variable {g : gH} {p s q b : Int}
theorem dut_step {r : Int → Int} {dm : Int → Int} {k : Int} (h : EP r p s q) (hh : HP r p k) (hk : 0 ≤ k ∧ k < 8) : EP (dutS dm p q k r) p s q ∧ HP (dutS dm p q k r) p (k + 1) ∧ dutS dm p q k r 0 = r 0 := by
  have hM := h.1.1
  obtain ⟨a1, a2, a3, a4, a5, a6⟩ := h.2.1
  unfold dutS
  by_cases c : r (11 + k) = p
  · rw [if_pos c]
    have hv : 0 ≤ (if q = -1 then HO r dm p k else q) ∧ (if q = -1 then HO r dm p k else q) < r 0 ∧ r (140 + (if q = -1 then HO r dm p k else q)) = 0 := by
      by_cases e : q = -1
      · rw [if_pos e]
        rcases HO_f (dm := dm) h.1 (p := p) (by omega) hk with h1 | h1
        · rw [h1]
          have : up r p = s := a2
          rw [this]
          exact ⟨a4.1, a4.2, a6⟩
        · exact h1
      · rw [if_neg e]
        rcases h.2.2.2.2.2.2.2.2.2 with h1 | h1
        · exact absurd h1 e
        · exact ⟨by omega, h1.2.1, h1.2.2.1⟩
    generalize (if q = -1 then HO r dm p k else q) = v at hv
    have e0 : u1 r (11 + k) v 0 = r 0 := u1_n (by omega)
    refine ⟨EP_gen h (WB_eq h.1 (fun j hj => u1_n (by omega))) (fun i i0 i1 i2 => absurd (u1_n (by omega)) i2) (fun j j1 j2 j3 j4 j5 => u1_n (by omega)), ?_, e0⟩
    intro d d0 d1
    rw [e0]
    by_cases e : d = k
    · rw [e, u1_s, u1_n (by omega)]
      exact ⟨hv.1, hv.2.1, Or.inl hv.2.2⟩
    · have := hh d d0 d1
      rw [u1_n (show ¬ 11 + d = 11 + k by omega), u1_n (by omega)]
      exact ⟨this.1, this.2.1, by rcases this.2.2 with h1 | h1; exact Or.inl h1; exact Or.inr ⟨by omega, h1.2⟩⟩
  · rw [if_neg c]
    refine ⟨h, ?_, rfl⟩
    intro d d0 d1
    have := hh d d0 d1
    refine ⟨this.1, this.2.1, ?_⟩
    rcases this.2.2 with h1 | h1
    · exact Or.inl h1
    · by_cases e : d = k
      · subst e; exact absurd h1.2 c
      · exact Or.inr ⟨by omega, h1.2⟩
theorem vM_ex3 {r : Int → Int} (hs : MS g) (h : EP r p s q) (hh : HP r p 0) : lM_exits_76 624 p s b q fu 0 (sw g r) = lM_exits_134 624 p s b q fu 1 (sw g (ex3 (g 630) p q r)) ∧ EP (ex3 (g 630) p q r) p s q ∧ HP (ex3 (g 630) p q r) p 8 ∧ ex3 (g 630) p q r 0 = r 0 := by
  have h0 := hs.1
  have hM := h.1.1
  have := for_loop (L := fun n k r => lM_exits_76 624 p s b q n k (sw g r)) (E := fun r => lM_exits_134 624 p s b q fu 1 (sw g r)) (fun k r => dutS (g 630) p q k r) 8 (fun k r' => 0 ≤ k ∧ k ≤ 8 ∧ EP r' p s q ∧ HP r' p k ∧ r' 0 = r 0) (fun n k r' hk hI => by
    obtain ⟨k0, k1, i1, i2, i3⟩ := hI
    have hd := i2 k k0 hk
    have hp := i1.2.1.2.2.1
    obtain ⟨d1, d2, d3⟩ := dut_step (dm := g 630) i1 i2 ⟨k0, hk⟩
    refine ⟨?_, by omega, by omega, d1, d2, d3.trans i3⟩
    show bM_exits_76 624 p s b q (lM_exits_76 624 p s b q n) k (sw g r') = lM_exits_76 624 p s b q n (k + 1) (sw g (dutS (g 630) p q k r'))
    rw [bM_exits_76, dutS]
    have hHO := vM_heirOf (g := sw g r') (p := p) (d := k) (MS_sw hs) (by rw [sw_s]; exact i1.1) (by rw [sw_s]; omega) ⟨k0, hk⟩
    rw [sw_s, sw_n (show ¬ (630 : Int) = 625 by omega)] at hHO
    by_cases c1 : r' (11 + k) = p
    · by_cases c2 : q = -1
      · simp (disch := omega) only [c1, c2, sw_n, sw_s, h0, kd_625, sz_625, w32_r, true_and, le_t, lt_t, and_true, ↓reduceIte, ↓bnd_s, pU_sw, hHO, bdP_s]
      · simp (disch := omega) only [c1, c2, sw_n, sw_s, h0, kd_625, sz_625, w32_r, true_and, le_t, lt_t, and_true, ↓reduceIte, ↓bnd_s, pU_sw]
    · simp (disch := omega) only [c1, sw_n, sw_s, h0, kd_625, sz_625, w32_r, true_and, le_t, lt_t, and_true, ↓reduceIte]) (fun n k r' hk hI => by
    show bM_exits_76 624 p s b q (lM_exits_76 624 p s b q n) k (sw g r') = _
    rw [bM_exits_76, if_neg hk]) 8 0 r fu (by omega) (by have := fu_ge; omega) ⟨by omega, by omega, h, hh, rfl⟩
  obtain ⟨e1, -, -, e2, e3, e4⟩ := this
  exact ⟨e1, e2, e3, e4⟩
end MODEL7
/-! ===== orphans and zombies of an exit; the whole exit (own work) ===== -/
theorem canA_f {r dm : Int → Int} {t c : Int} (h : canA r dm t c = true) : r (140 + t) = 0 ∧ t ≠ c ∧ OV (up r) c t = false := by
  unfold canA at h
  simp only [Bool.and_eq_true, decide_eq_true_eq, Bool.not_eq_true', decide_eq_false_iff_not] at h
  exact ⟨h.1, h.2.1, h.2.2.1⟩
theorem ic_t {r : Int → Int} {c a st : Int} : ic r c a st = true ↔ r (140 + c) = st ∧ r (60 + c) = a ∧ c ≠ 0 := by
  unfold ic
  exact decide_eq_true_iff
/-- no child of p in this state before c -/
def NC (r : Int → Int) (p st c : Int) : Prop := ∀ j, 0 < j → j < c → ¬ (r (140 + j) = st ∧ r (60 + j) = p)
theorem EP_dp {r : Int → Int} {p s q c : Int} (h : EP r p s q) (hc : 0 < c ∧ c < r 0) (hcp : r (60 + c) = p) : s ≠ c ∧ OV (up r) c s = false ∧ (q ≠ -1 → c ≠ q → OV (up r) c q = false) := by
  obtain ⟨a1, a2, a3, a4, a5, a6⟩ := h.2.1
  have hA := h.1.2.2.1
  have d1 := DP_s (hA p (by omega) a3.2) (by omega)
  have d2 := DP_s (hA c (by omega) hc.2) (by omega)
  have u1' : up r p = s := a2
  have u2 : up r c = p := hcp
  rw [u1'] at d1
  rw [u2] at d2
  have h1 : s ≠ c := by
    intro e
    rw [e] at d1
    omega
  have h2 : OV (up r) c s = false := by
    cases ho : OV (up r) c s with
    | false => rfl
    | true =>
      have := OV_dp (hA s a4.1 a4.2) ho
      omega
  refine ⟨h1, h2, fun hq hcq => ?_⟩
  rcases h.2.2.2.2.2.2.2.2.2 with e | ⟨q1, q2, q3, q4, q5⟩
  · exact absurd e hq
  · have u3 : up r q = s := q4
    rw [OV_s (hA q (by omega) q2) (by omega), u3, if_neg h1, h2]
section MODEL8
variable {g : gH} {p s q b : Int}
theorem orp_step {r : Int → Int} {c : Int} (hs : MS g) (h : EP r p s q) (hh : HP r p 8) (hn : NC r p 0 c) (hc : 0 < c ∧ c < r 0) : EP (orpS (g 630) p q c r) p s q ∧ HP (orpS (g 630) p q c r) p 8 ∧ NC (orpS (g 630) p q c r) p 0 (c + 1) ∧ orpS (g 630) p q c r 0 = r 0 := by
  have hM := h.1.1
  obtain ⟨a1, a2, a3, a4, a5, a6⟩ := h.2.1
  unfold orpS
  by_cases hi : ic r c p 0 = true
  · rw [if_pos hi]
    obtain ⟨i1, i2, i3⟩ := ic_t.mp hi
    have hcp : c ≠ p := by intro e; rw [e, a1] at i1; omega
    have hcq : c ≠ q := by
      intro e
      rcases h.2.2.2.2.2.2.2.2.2 with e2 | ⟨q1, q2, q3, q4, q5⟩
      · omega
      · rw [e, q4] at i2; exact a5 i2
    obtain ⟨d1, d2, d3⟩ := EP_dp h hc i2
    have ht : (0 ≤ (if ¬ q = -1 ∧ 0 < room r q then q else AD r (g 630) c p) ∧ (if ¬ q = -1 ∧ 0 < room r q then q else AD r (g 630) c p) < r 0) ∧ (if ¬ q = -1 ∧ 0 < room r q then q else AD r (g 630) c p) ≠ c ∧ OV (up r) c (if ¬ q = -1 ∧ 0 < room r q then q else AD r (g 630) c p) = false ∧ r (140 + (if ¬ q = -1 ∧ 0 < room r q then q else AD r (g 630) c p)) = 0 := by
      by_cases e : ¬ q = -1 ∧ 0 < room r q
      · rw [if_pos e]
        rcases h.2.2.2.2.2.2.2.2.2 with e2 | ⟨q1, q2, q3, q4, q5⟩
        · exact absurd e2 e.1
        · exact ⟨⟨by omega, q2⟩, fun z => hcq z.symm, d3 e.1 hcq, q3⟩
      · rw [if_neg e]
        have hAD := (vM_adopterOf (g := sw g r) (o := c) (wo := p) (MS_sw hs) (by rw [sw_s]; exact h.1) (by rw [sw_s]; omega) (by rw [sw_s]; omega)).2
        rw [sw_s, sw_n (show ¬ (630 : Int) = 625 by omega)] at hAD
        rcases hAD with e2 | ⟨e2, e3, e4, e5⟩
        · rw [e2]
          exact ⟨by omega, by omega, OV_0, h.2.2.1.2⟩
        · obtain ⟨f1, f2, f3⟩ := canA_f e5
          exact ⟨⟨by omega, e3⟩, f2, f3, f1⟩
    generalize (if ¬ q = -1 ∧ 0 < room r q then q else AD r (g 630) c p) = t at ht
    obtain ⟨t1, t2, t3, t4⟩ := ht
    have htp : t ≠ p := by intro e; rw [e, a1] at t4; omega
    have e0 : adR r t c 0 = r 0 := adR_n (by omega)
    refine ⟨EP_sup h hc hcp hcq t1 t2 t3 t4 (adR_s (by omega)) (fun k k1 k2 k3 k4 => adR_n (by omega)), ?_, ?_, e0⟩
    · intro d d0 d1
      have := hh d d0 d1
      rw [e0, adR_n (k := 11 + d) (by omega), adR_n (k := 140 + r (11 + d)) (by omega)]
      exact this
    · intro j j0 j1
      by_cases e : j = c
      · rw [e, adR_s (by omega)]
        exact fun z => htp z.2
      · rw [adR_n (by omega), adR_n (by omega)]
        exact hn j j0 (by omega)
  · rw [if_neg hi]
    refine ⟨h, hh, ?_, rfl⟩
    intro j j0 j1
    by_cases e : j = c
    · rw [e]
      exact fun z => hi (ic_t.mpr ⟨z.1, z.2, by omega⟩)
    · exact hn j j0 (by omega)
theorem vM_ex4 {r : Int → Int} (hs : MS g) (h : EP r p s q) (hh : HP r p 8) : lM_exits_134 624 p s b q fu 1 (sw g r) = lM_exits_201 624 p s b fu 1 (sw g (ex4 (g 630) p q r)) ∧ EP (ex4 (g 630) p q r) p s q ∧ HP (ex4 (g 630) p q r) p 8 ∧ NC (ex4 (g 630) p q r) p 0 (r 0) ∧ ex4 (g 630) p q r 0 = r 0 := by
  have h0 := hs.1
  have hM := h.1.1
  have := for_loop (L := fun n k r => lM_exits_134 624 p s b q n k (sw g r)) (E := fun r => lM_exits_201 624 p s b fu 1 (sw g r)) (fun k r => orpS (g 630) p q k r) (r 0) (fun k r' => 1 ≤ k ∧ k ≤ r 0 ∧ EP r' p s q ∧ HP r' p 8 ∧ NC r' p 0 k ∧ r' 0 = r 0) (fun n k r' hk hI => by
    obtain ⟨k0, k1, i1, i2, i3, i4⟩ := hI
    obtain ⟨d1, d2, d3, d4⟩ := orp_step (q := q) hs i1 i2 i3 ⟨by omega, by omega⟩
    refine ⟨?_, by omega, by omega, d1, d2, d3, d4.trans i4⟩
    show bM_exits_134 624 p s b q (lM_exits_134 624 p s b q n) k (sw g r') = lM_exits_134 624 p s b q n (k + 1) (sw g (orpS (g 630) p q k r'))
    have hp := i1.2.1.2.2.1
    have w1 : WB (sw g r' 625) := by rw [sw_s]; exact i1.1
    have hAD := (vM_adopterOf (g := sw g r') (o := k) (wo := p) (MS_sw hs) w1 (by rw [sw_s]; omega) (by rw [sw_s]; omega)).1
    rw [sw_s, sw_n (show ¬ (630 : Int) = 625 by omega)] at hAD
    have hic := vM_isChild (g := sw g r') (p := k) (a := p) (st := 0) (MS_sw hs) (by omega)
    rw [sw_s] at hic
    have had := fun t => vM_adopts (g := sw g r') (p := t) (o := k) (MS_sw hs) (by omega)
    simp only [sw_s, sw_sw] at had
    rw [bM_exits_134, orpS, hic]
    by_cases c1 : ic r' k p 0 = true
    · by_cases c2 : q = -1
      · simp (disch := omega) only [c1, c2, sw_n, sw_s, h0, kd_625, sz_625, w32_r, true_and, le_t, lt_t, and_true, ↓reduceIte, bdP_s, eq_f, hAD, had, bdN_s, not_true, false_and]
      · have hrq := vM_roomOf (g := sw g r') (p := q) (MS_sw hs) w1 (by
          rw [sw_s]
          rcases i1.2.2.2.2.2.2.2.2.2 with e | e
          · exact absurd e c2
          · omega)
        rw [sw_s] at hrq
        by_cases c3 : 0 < room r' q
        · simp (disch := omega) only [c1, c2, c3, sw_n, sw_s, h0, kd_625, sz_625, w32_r, true_and, le_t, lt_t, and_true, ↓reduceIte, bdP_s, eq_f, hrq, had, bdN_s, not_false_eq_true]
        · simp (disch := omega) only [c1, c2, c3, sw_n, sw_s, h0, kd_625, sz_625, w32_r, true_and, le_t, lt_t, and_true, and_false, ↓reduceIte, bdP_s, eq_f, hrq, hAD, had, bdN_s, not_false_eq_true]
    · simp (disch := omega) only [c1, sw_n, sw_s, h0, kd_625, sz_625, w32_r, true_and, le_t, lt_t, and_true, ↓reduceIte, bdP_s, Bool.false_eq_true]) (fun n k r' hk hI => by
    show bM_exits_134 624 p s b q (lM_exits_134 624 p s b q n) k (sw g r') = _
    have i4 := hI.2.2.2.2.2
    rw [bM_exits_134]
    simp (disch := omega) only [sw_n, sw_s, h0, kd_625, sz_625, true_and, le_t, lt_t, lt_f, and_true, ↓reduceIte]) (r 0 - 1).toNat 1 r fu (by omega) (by have := fu_ge; omega) ⟨by omega, by omega, h, hh, fun j j0 j1 => absurd j0 (by omega), rfl⟩
  obtain ⟨e1, -, -, e2, e3, e4, e5⟩ := this
  exact ⟨e1, e2, e3, fun j j0 j1 => e4 j j0 (by omega), e5⟩
theorem zom_step {r : Int → Int} {c : Int} (h : EP r p s q) (hh : HP r p 8) (hn0 : NC r p 0 (r 0)) (hn : NC r p 1 c) (hc : 0 < c ∧ c < r 0) : EP (zomS p s c r) p s q ∧ HP (zomS p s c r) p 8 ∧ NC (zomS p s c r) p 0 (r 0) ∧ NC (zomS p s c r) p 1 (c + 1) ∧ zomS p s c r 0 = r 0 := by
  have hM := h.1.1
  obtain ⟨a1, a2, a3, a4, a5, a6⟩ := h.2.1
  unfold zomS
  by_cases hi : ic r c p 1 = true
  · rw [if_pos hi]
    obtain ⟨i1, i2, i3⟩ := ic_t.mp hi
    have hcp : c ≠ p := by intro e; rw [e, a2] at i2; exact a5 i2
    have hcq : c ≠ q := by
      intro e
      rcases h.2.2.2.2.2.2.2.2.2 with e2 | ⟨q1, q2, q3, q4, q5⟩
      · omega
      · rw [e, q3] at i1; omega
    obtain ⟨d1, d2, -⟩ := EP_dp h hc i2
    have e0 : u1 r (60 + c) s 0 = r 0 := u1_n (by omega)
    refine ⟨EP_sup h hc hcp hcq a4 d1 d2 a6 u1_s (fun k k1 k2 k3 k4 => u1_n k4), ?_, ?_, ?_, e0⟩
    · intro d d0 d1
      have := hh d d0 d1
      rw [e0, u1_n (show ¬ 11 + d = 60 + c by omega), u1_n (by omega)]
      exact this
    · intro j j0 j1
      by_cases e : j = c
      · rw [e, u1_s]
        exact fun z => a5 z.2
      · rw [u1_n (by omega), u1_n (by omega)]
        exact hn0 j j0 j1
    · intro j j0 j1
      by_cases e : j = c
      · rw [e, u1_s]
        exact fun z => a5 z.2
      · rw [u1_n (by omega), u1_n (by omega)]
        exact hn j j0 (by omega)
  · rw [if_neg hi]
    refine ⟨h, hh, hn0, ?_, rfl⟩
    intro j j0 j1
    by_cases e : j = c
    · rw [e]
      exact fun z => hi (ic_t.mpr ⟨z.1, z.2, by omega⟩)
    · exact hn j j0 (by omega)
theorem vM_ex5 {r : Int → Int} (hs : MS g) (h : EP r p s q) (hh : HP r p 8) (hn : NC r p 0 (r 0)) : lM_exits_201 624 p s b fu 1 (sw g r) = jM_exits_240 (sw g (ex5 p s r)) 624 s b ∧ EP (ex5 p s r) p s q ∧ HP (ex5 p s r) p 8 ∧ NC (ex5 p s r) p 0 (r 0) ∧ NC (ex5 p s r) p 1 (r 0) ∧ ex5 p s r 0 = r 0 := by
  have h0 := hs.1
  have hM := h.1.1
  have := for_loop (L := fun n k r => lM_exits_201 624 p s b n k (sw g r)) (E := fun r => jM_exits_240 (sw g r) 624 s b) (fun k r => zomS p s k r) (r 0) (fun k r' => 1 ≤ k ∧ k ≤ r 0 ∧ EP r' p s q ∧ HP r' p 8 ∧ NC r' p 0 (r' 0) ∧ NC r' p 1 k ∧ r' 0 = r 0) (fun n k r' hk hI => by
    obtain ⟨k0, k1, i1, i2, i3, i4, i5⟩ := hI
    obtain ⟨d1, d2, d3, d4, d5⟩ := zom_step (q := q) i1 i2 i3 i4 ⟨by omega, by omega⟩
    refine ⟨?_, by omega, by omega, d1, d2, by rw [d5]; exact d3, d4, d5.trans i5⟩
    show bM_exits_201 624 p s b (lM_exits_201 624 p s b n) k (sw g r') = lM_exits_201 624 p s b n (k + 1) (sw g (zomS p s k r'))
    have hic := vM_isChild (g := sw g r') (p := k) (a := p) (st := 1) (MS_sw hs) (by omega)
    rw [sw_s] at hic
    rw [bM_exits_201, zomS, hic]
    by_cases c1 : ic r' k p 1 = true
    · simp (disch := omega) only [c1, sw_n, sw_s, h0, kd_625, sz_625, w32_r, true_and, le_t, lt_t, and_true, ↓reduceIte, bdP_s, eq_f, ↓bnd_s, pU_sw]
    · simp (disch := omega) only [c1, sw_n, sw_s, h0, kd_625, sz_625, w32_r, true_and, le_t, lt_t, and_true, ↓reduceIte, bdP_s, Bool.false_eq_true]) (fun n k r' hk hI => by
    show bM_exits_201 624 p s b (lM_exits_201 624 p s b n) k (sw g r') = _
    have i4 := hI.2.2.2.2.2.2
    rw [bM_exits_201]
    simp (disch := omega) only [sw_n, sw_s, h0, kd_625, sz_625, true_and, le_t, lt_t, lt_f, and_true, ↓reduceIte]) (r 0 - 1).toNat 1 r fu (by omega) (by have := fu_ge; omega) ⟨by omega, by omega, h, hh, hn, fun j j0 j1 => absurd j0 (by omega), rfl⟩
  obtain ⟨e1, -, -, e2, e3, e4, e5, e6⟩ := this
  rw [show (fd (fun k r => zomS p s k r) (r 0 - 1).toNat 1 r) = ex5 p s r from rfl] at e1 e2 e3 e4 e5 e6
  exact ⟨e1, e2, e3, by rw [e6] at e4; exact e4, fun j j0 j1 => e5 j j0 (by omega), e6⟩
end MODEL8
/-! ===== the whole exit (own work) ===== -/
theorem fd_fr {f : Int → (Int → Int) → Int → Int} {j : Int} : ∀ (m : Nat) (k : Int) (r : Int → Int), (∀ i r, k ≤ i → i < k + m → f i r j = r j) → fd f m k r j = r j := by
  intro m
  induction m with
  | zero => intro k r _; rfl
  | succ m ih =>
    intro k r h
    show fd f m (k + 1) (f k r) j = r j
    rw [ih (k + 1) (f k r) (fun i r i0 i1 => h i r (by omega) (by omega)), h k r (by omega) (by omega)]
theorem ex3_fr {dm r : Int → Int} {p q j : Int} (h : ¬ (11 ≤ j ∧ j < 19)) : ex3 dm p q r j = r j :=
  fd_fr 8 0 r (fun i r i0 i1 => by
    unfold dutS
    split
    · exact u1_n (by omega)
    · rfl)
theorem ex4_fr {dm r : Int → Int} {p q j : Int} (hM : r 0 ≤ 40) (h : ¬ j = 2 ∧ ¬ j = 3 ∧ ¬ (60 ≤ j ∧ j < 100) ∧ ¬ (380 ≤ j ∧ j < 420)) : ex4 dm p q r j = r j :=
  fd_fr _ 1 r (fun i r i0 i1 => by
    unfold orpS
    split
    · exact adR_n (by omega)
    · rfl)
theorem ex5_fr {r : Int → Int} {p s j : Int} (hM : r 0 ≤ 40) (h : ¬ (60 ≤ j ∧ j < 100)) : ex5 p s r j = r j :=
  fd_fr _ 1 r (fun i r i0 i1 => by
    unfold zomS
    split
    · exact u1_n (by omega)
    · rfl)
def ex6 (s : Int) (r : Int → Int) : Int → Int := if s = 0 then rdR r 0 else r
/-- the row behind an exit -/
def exF (r dm : Int → Int) (p code : Int) : Int → Int :=
  ex6 (r (60 + p)) (ex5 p (r (60 + p)) (ex4 (exd (ex1 r p code) dm p code) p (exq (ex1 r p code) dm p code) (ex3 (exd (ex1 r p code) dm p code) p (exq (ex1 r p code) dm p code) (ex2 (ex1 r p code) dm p code))))
def exG (g : gH) (p code : Int) : gH := if RPc (ex1 (g 625) p code) (g 630) p code then pU g 630 (g 625 0) 0 else g
theorem rdR_o {r : Int → Int} {p k : Int} (h : ¬ (140 ≤ k ∧ k < 140 + r 0)) : rdR r p k = r k := by
  unfold rdR
  rw [if_neg (fun z => h ⟨z.1, z.2.1⟩)]
theorem rdR_st {r : Int → Int} {p i : Int} (h : 0 ≤ i ∧ i < r 0) : (rdR r p (140 + i) = r (140 + i) ∧ ic r i p 1 = false) ∨ (rdR r p (140 + i) = 2 ∧ r (140 + i) = 1) := by
  unfold rdR
  have e : 140 + i - 140 = i := by omega
  rw [e]
  cases hi : ic r i p 1 with
  | false => exact Or.inl ⟨if_neg (by simp), rfl⟩
  | true => exact Or.inr ⟨if_pos ⟨by omega, by omega, rfl⟩, (ic_t.mp hi).1⟩
/-- testaments read: what holds goes on holding -/
theorem WF_rd {r : Int → Int} {p : Int} (hb : WB r) (hf : WF r) : WB (rdR r p) ∧ WF (rdR r p) := by
  have hM := hb.1
  obtain ⟨⟨s1, s2⟩, hSR, ⟨x1, x2⟩, hL, hN, hH, hC, hB⟩ := hf
  have e0 : rdR r p 0 = r 0 := rdR_o (by omega)
  have e1 : rdR r p 1 = r 1 := rdR_o (by omega)
  have run : ∀ i, 0 ≤ i → i < r 0 → r (140 + i) = 0 → rdR r p (140 + i) = 0 := by
    intro i i0 i1 i2
    rcases rdR_st (p := p) ⟨i0, i1⟩ with h | h
    · rw [h.1, i2]
    · rw [h.2] at i2; omega
  have run' : ∀ i, 0 ≤ i → i < r 0 → rdR r p (140 + i) = 0 → r (140 + i) = 0 := by
    intro i i0 i1 i2
    rcases rdR_st (p := p) ⟨i0, i1⟩ with h | h
    · rw [h.1] at i2; exact i2
    · rw [h.1] at i2; omega
  refine ⟨WB_eq hb (fun k hk => rdR_o (by omega)), ⟨?_, ?_⟩, ?_, ⟨by rw [e1]; exact x1, ?_⟩, ?_, ?_, ?_, ?_, ?_⟩
  · intro i i0 i1
    rw [e0] at i1
    rcases rdR_st (p := p) ⟨i0, i1⟩ with h | h
    · rw [h.1]; exact s1 i i0 i1
    · rw [h.1]; omega
  · have := run 0 (by omega) (by omega) s2
    exact this
  · intro i i0 i1 i2
    rw [e0] at i1
    rw [rdR_o (k := 60 + i) (by omega)]
    have hs := hb.2.1 i i0 i1
    refine run _ hs.1 hs.2 (hSR i i0 i1 ?_)
    rcases rdR_st (p := p) (i := i) ⟨by omega, i1⟩ with h | h
    · rw [h.1] at i2; exact i2
    · rw [h.2]; omega
  · intro k k0 k1
    rw [e1] at k1
    rw [rdR_o (by omega), e0]
    exact x2 k k0 k1
  · intro i i0 i1 i2
    rw [e0] at i1
    obtain ⟨k, k0, k1, k2⟩ := hL i i0 i1 (fun z => i2 (run i i0 i1 z))
    exact ⟨k, k0, by rw [e1]; exact k1, by rw [rdR_o (by omega)]; exact k2⟩
  · show rdR r p 1 = _
    rw [e1, e0, hN]
    exact cn_congr _ _ (fun j j0 j1 => by
      show (!decide (r (140 + j) = 0)) = !decide (rdR r p (140 + j) = 0)
      by_cases h : r (140 + j) = 0
      · rw [h, run j j0 (by omega) h]
      · have : ¬ rdR r p (140 + j) = 0 := fun z => h (run' j j0 (by omega) z)
        simp [h, this])
  · intro d d0 d1
    rw [rdR_o (k := 11 + d) (by omega), e0]
    have := hH d d0 d1
    exact ⟨this.1, this.2.1, run _ this.1 this.2.1 this.2.2⟩
  · intro i i0 i1 i2
    rw [e0] at i1
    rw [rdR_o (k := 300 + i) (by omega)]
    rcases rdR_st (p := p) ⟨i0, i1⟩ with h | h
    · rw [h.1] at i2; exact hC i i0 i1 i2
    · rw [h.1] at i2; omega
  · intro i i0 i1
    rw [e0] at i1
    rw [rdR_o (k := 220 + i) (by omega)]
    exact hB i i0 i1
theorem EP_WF {r : Int → Int} {p s q : Int} (h : EP r p s q) (hh : HP r p 8) (n0 : NC r p 0 (r 0)) (n1 : NC r p 1 (r 0)) : WB r ∧ WF r := by
  obtain ⟨h1, h2, h3, h4, h5, h6, h7, h8, h9, h10⟩ := h
  refine ⟨h1, h3, ?_, h5, h6, h7, ?_, h8, h9⟩
  · intro i i0 i1 i2
    refine h4 i i0 i1 i2 (fun z => ?_)
    rcases h3.1 i (by omega) i1 with e | e | e
    · exact n0 i i0 i1 ⟨e, z⟩
    · exact n1 i i0 i1 ⟨e, z⟩
    · exact i2 e
  · intro d d0 d1
    have := hh d d0 d1
    rcases this.2.2 with e | e
    · exact ⟨this.1, this.2.1, e⟩
    · omega
section MODEL9
variable {g : gH} {p code : Int}
theorem vM_exits (hs : MS g) (hb : WB (g 625)) (hf : WF (g 625)) (hp : 0 < p ∧ p < g 625 0) (hst : g 625 (140 + p) = 0) (hc : 0 ≤ code ∧ code ≤ 255) :
    fM_exits g 624 p code = some (w32 (exF (g 625) (g 630) p code 3 - g 625 3), sw (exG g p code) (exF (g 625) (g 630) p code)) ∧ WB (exF (g 625) (g 630) p code) ∧ WF (exF (g 625) (g 630) p code) ∧ exF (g 625) (g 630) p code 1 = g 625 1 + 1 ∧ (g 625 0 ≤ exF (g 625) (g 630) p code 0 ∧ exF (g 625) (g 630) p code 0 ≤ g 625 0 + 1) ∧ (∀ i, 0 ≤ i → i < g 625 0 → i ≠ p → g 625 (140 + i) = 0 → exF (g 625) (g 630) p code (140 + i) = 0) ∧ ¬ exF (g 625) (g 630) p code (140 + p) = 0 := by
  have h0 := hs.1
  have h5 := hs.2.2.2.2.1
  have hM := hb.1
  obtain ⟨E1, H1⟩ := EP_ex1 (code := code) hb hf hp hst hc
  have hn := NX_bd2 hM hf.1.2 hf.2.2.2.2.1 hp hst
  have hsr := hb.2.1 p hp.1 hp.2
  obtain ⟨v1, v2, v3, v4⟩ := ex1_v (r := g 625) (p := p) (code := code) (by omega) (by omega)
  have e10 : ex1 (g 625) p code 0 = g 625 0 := ex1_n (by omega)
  have e1s : ex1 (g 625) p code (60 + p) = g 625 (60 + p) := ex1_n (by omega)
  have H1' : HP (ex1 (g 625) p code) p 0 := by
    intro d d0 d1
    have := H1 d d0 d1
    rw [e10]
    exact ⟨this.1, this.2.1, by rcases this.2.2 with e | e; exact Or.inl e; exact Or.inr ⟨d0, e⟩⟩
  -- the replacement
  have hrep := vM_replaces (g := sw g (ex1 (g 625) p code)) (p := p) (c := code) (MS_sw hs) (by rw [sw_s, e10]; exact hM) (by rw [sw_s, e10]; omega) (by rw [sw_s, e10, e1s]; exact hsr)
  rw [sw_s, sw_n (show ¬ (630 : Int) = 625 by omega), e10] at hrep
  have key : fM_replaces (sw g (ex1 (g 625) p code)) 624 p code = some (exq (ex1 (g 625) p code) (g 630) p code, sw (exG g p code) (ex2 (ex1 (g 625) p code) (g 630) p code)) ∧ EP (ex2 (ex1 (g 625) p code) (g 630) p code) p (g 625 (60 + p)) (exq (ex1 (g 625) p code) (g 630) p code) ∧ HP (ex2 (ex1 (g 625) p code) (g 630) p code) p 0 ∧ MS (exG g p code) ∧ (exG g p code) 630 = exd (ex1 (g 625) p code) (g 630) p code ∧ (g 625 0 ≤ ex2 (ex1 (g 625) p code) (g 630) p code 0 ∧ ex2 (ex1 (g 625) p code) (g 630) p code 0 ≤ g 625 0 + 1) ∧ ex2 (ex1 (g 625) p code) (g 630) p code 1 = g 625 1 + 1 ∧ ∀ i, 0 ≤ i → i < g 625 0 → ex2 (ex1 (g 625) p code) (g 630) p code (140 + i) = ex1 (g 625) p code (140 + i) := by
    unfold exq ex2 exG exd
    by_cases hr : RPc (ex1 (g 625) p code) (g 630) p code
    · simp only [if_pos hr]
      have hM40 : g 625 0 < 40 := by have := hr.2.2.2; rw [e10] at this; omega
      have ho := fun k => rpR_o (r := ex1 (g 625) p code) (p := p) (k := k) (by rw [e10]; omega) (by omega) (by rw [e1s]; omega)
      obtain ⟨w0, w1, w2, w3, w4, w5⟩ := rpR_v (r := ex1 (g 625) p code) (p := p) (by rw [e10]; omega) (by rw [e10]; exact hp) (by rw [e1s]; omega)
      have hbud : ¬ ex1 (g 625) p code (220 + g 625 (60 + p)) = 0 := by have := hr.2.2.1; rw [e1s] at this; exact this
      have E2 := EP_rp E1 (by rw [e10]; exact hM40) hbud
      rw [e10] at E2 w0 w1 w2 ho ⊢
      refine ⟨?_, E2, ?_, MS_pU hs (by omega), pU_s, by rw [w0]; omega, by rw [ho 1 (by rw [e1s]; omega), v1], fun i i0 i1 => ho _ (by rw [e1s]; omega)⟩
      · rw [hrep.1 hr]
        congr 2
        rw [pU_sw' (by omega), sw_sw]
      · intro d d0 d1
        have := H1' d d0 d1
        rw [e10] at this
        rw [ho (11 + d) (by rw [e1s]; omega), w0, ho (140 + ex1 (g 625) p code (11 + d)) (by rw [e1s]; omega)]
        exact ⟨this.1, by omega, this.2.2⟩
    · simp only [if_neg hr]
      refine ⟨hrep.2 hr, E1, H1', hs, trivial, by rw [e10]; omega, v1, fun i i0 i1 => trivial⟩
  obtain ⟨k1, k2, k3, k4, k5, k6, k7, k8⟩ := key
  generalize hq : exq (ex1 (g 625) p code) (g 630) p code = q at k1 k2
  generalize hr2 : ex2 (ex1 (g 625) p code) (g 630) p code = r2 at k1 k2 k3 k6 k7 k8
  obtain ⟨x1, x2, x3, x4⟩ := vM_ex3 (g := exG g p code) (b := g 625 3) k4 k2 k3
  obtain ⟨y1, y2, y3, y4, y5⟩ := vM_ex4 (g := exG g p code) (b := g 625 3) k4 x2 x3
  rw [← y5] at y4
  obtain ⟨z1, z2, z3, z4, z5, z6⟩ := vM_ex5 (g := exG g p code) (b := g 625 3) k4 y2 y3 y4
  rw [k5] at x1 x4 y1 y5 z1 z2 z3 z4 z5 z6
  have hF : exF (g 625) (g 630) p code = ex6 (g 625 (60 + p)) (ex5 p (g 625 (60 + p)) (ex4 (exd (ex1 (g 625) p code) (g 630) p code) p q (ex3 (exd (ex1 (g 625) p code) (g 630) p code) p q r2))) := by
    unfold exF
    rw [hq, hr2]
  have hM4 : ex3 (exd (ex1 (g 625) p code) (g 630) p code) p q r2 0 ≤ 40 := by rw [x4]; exact k2.1.1.2
  have hM5 : ex4 (exd (ex1 (g 625) p code) (g 630) p code) p q (ex3 (exd (ex1 (g 625) p code) (g 630) p code) p q r2) 0 ≤ 40 := by rw [y5]; exact hM4
  have fr : ∀ j, (j = 1 ∨ (140 ≤ j ∧ j < 180)) → ex5 p (g 625 (60 + p)) (ex4 (exd (ex1 (g 625) p code) (g 630) p code) p q (ex3 (exd (ex1 (g 625) p code) (g 630) p code) p q r2)) j = r2 j := by
    intro j hj
    rw [ex5_fr hM5 (by omega), ex4_fr hM4 (by omega), ex3_fr (by omega)]
  rw [← z6] at z4 z5
  obtain ⟨wb5, wf5⟩ := EP_WF z2 z3 z4 z5
  rw [hF]
  have e5 : ex5 p (g 625 (60 + p)) (ex4 (exd (ex1 (g 625) p code) (g 630) p code) p q (ex3 (exd (ex1 (g 625) p code) (g 630) p code) p q r2)) 0 = r2 0 := by rw [z6, y5, x4]
  generalize ex5 p (g 625 (60 + p)) (ex4 (exd (ex1 (g 625) p code) (g 630) p code) p q (ex3 (exd (ex1 (g 625) p code) (g 630) p code) p q r2)) = r5 at z1 wb5 wf5 fr e5 ⊢
  have first : fM_exits g 624 p code = jM_exits_240 (sw (exG g p code) r5) 624 (g 625 (60 + p)) (g 625 3) := by
    rw [← z1, ← y1, ← x1]
    have e : u1 (u1 (u1 (u1 (g 625) (140 + p) 1) (300 + p) code) (19 + g 625 1) p) 1 (g 625 1 + 1) = ex1 (g 625) p code := rfl
    simp (disch := omega) only [fM_exits, h0, kd_625, sz_625, w32_r, true_and, le_t, lt_t, and_true, ↓reduceIte, ↓bnd_s, pU_625, pU_sw, sw_sw, sw_s, sw_n, u1_n, e, k1, bdN_s]
  rw [first, jM_exits_240]
  unfold ex6
  by_cases hz : g 625 (60 + p) = 0
  · obtain ⟨ra1, ra2, ra3⟩ := vM_readsAll (g := exG g p code) (r := r5) (p := 0) k4 wb5.1 wf5.2.2.1 wf5.2.2.2.1 wf5.2.2.2.2.2.2.1
    obtain ⟨wb6, wf6⟩ := WF_rd (p := 0) wb5 wf5
    simp only [if_pos hz]
    refine ⟨?_, wb6, wf6, ?_, ?_, ?_, ?_⟩
    · rw [ra1, bdN_s, jM_exits_253]
      have h04 : exG g p code 624 0 = 625 := k4.1
      simp (disch := omega) only [sw_n, sw_s, h04, kd_625, sz_625, true_and, le_t, lt_t, lt_f, and_true, ↓reduceIte]
    · rw [rdR_o (by omega), fr 1 (Or.inl rfl), k7]
    · rw [rdR_o (by omega), e5]; exact k6
    · intro i i0 i1 i2 i3
      have h9 : r5 (140 + i) = 0 := by
        rw [fr _ (Or.inr (by omega)), k8 i i0 i1, ex1_n (by omega)]; exact i3
      rcases rdR_st (r := r5) (p := 0) (i := i) ⟨i0, by rw [e5]; omega⟩ with h | h
      · rw [h.1]; exact h9
      · rw [h.2] at h9; omega
    · have h9 : r5 (140 + p) = 1 := by
        rw [fr _ (Or.inr (by omega)), k8 p (by omega) hp.2]; exact v4
      rcases rdR_st (r := r5) (p := 0) (i := p) ⟨by omega, by rw [e5]; omega⟩ with h | h
      · rw [h.1, h9]; omega
      · rw [h.1]; omega
  · simp only [if_neg hz]
    refine ⟨?_, wb5, wf5, by rw [fr 1 (Or.inl rfl), k7], by rw [e5]; exact k6, ?_, ?_⟩
    · rw [jM_exits_253]
      have h04 : exG g p code 624 0 = 625 := k4.1
      simp (disch := omega) only [sw_n, sw_s, h04, kd_625, sz_625, true_and, le_t, lt_t, lt_f, and_true, ↓reduceIte]
    · intro i i0 i1 i2 i3
      rw [fr _ (Or.inr (by omega)), k8 i i0 i1, ex1_n (by omega)]
      exact i3
    · rw [fr _ (Or.inr (by omega)), k8 p (by omega) hp.2, v4]; omega
end MODEL9
/-! ===== the reference's state as a whole (own work) ===== -/
def WBF (r : Int → Int) : Prop := WB r ∧ WF r
theorem WBF_ext {r r' : Int → Int} (h : WBF r) (he : ∀ k, 0 ≤ k → k < 780 → r' k = r k) : WBF r' := by
  obtain ⟨hb, ⟨s1, s2⟩, hSR, ⟨x1, x2⟩, hL, hN, hH, hC, hB⟩ := h
  have hM := hb.1
  have e0 : r' 0 = r 0 := he 0 (by omega) (by omega)
  have e1 : r' 1 = r 1 := he 1 (by omega) (by omega)
  have est : ∀ i, 0 ≤ i → i < r 0 → r' (140 + i) = r (140 + i) := fun i i0 i1 => he _ (by omega) (by omega)
  refine ⟨WB_eq hb (fun k hk => he k (by omega) (by omega)), ⟨?_, by rw [he 140 (by omega) (by omega)]; exact s2⟩, ?_, ⟨by rw [e1]; exact x1, ?_⟩, ?_, ?_, ?_, ?_, ?_⟩
  · intro i i0 i1
    rw [e0] at i1
    rw [est i i0 i1]
    exact s1 i i0 i1
  · intro i i0 i1 i2
    rw [e0] at i1
    rw [est i (by omega) i1] at i2
    rw [he (60 + i) (by omega) (by omega)]
    have := hb.2.1 i i0 i1
    rw [est _ this.1 this.2]
    exact hSR i i0 i1 i2
  · intro k k0 k1
    rw [e1] at k1
    rw [he _ (by omega) (by omega), e0]
    exact x2 k k0 k1
  · intro i i0 i1 i2
    rw [e0] at i1
    rw [est i i0 i1] at i2
    obtain ⟨k, k0, k1, k2⟩ := hL i i0 i1 i2
    exact ⟨k, k0, by rw [e1]; exact k1, by rw [he _ (by omega) (by omega)]; exact k2⟩
  · show r' 1 = _
    rw [e1, cn_eq_st e0 hM.2 (fun k k0 k1 => he k (by omega) (by omega))]
    exact hN
  · intro d d0 d1
    have := hH d d0 d1
    rw [he (11 + d) (by omega) (by omega), e0, est _ this.1 this.2.1]
    exact this
  · intro i i0 i1 i2
    rw [e0] at i1
    rw [est i i0 i1] at i2
    rw [he _ (by omega) (by omega)]
    exact hC i i0 i1 i2
  · intro i i0 i1
    rw [e0] at i1
    rw [he _ (by omega) (by omega)]
    exact hB i i0 i1
/-- a piece of one row copied into another -/
def cpG (g : gH) (a x b y n : Int) : gH := fun c k => if c = b ∧ y ≤ k ∧ k < y + n then g a (x + k - y) else g c k
theorem cpG_n {g : gH} {a x b y n c : Int} (h : ¬ c = b) : cpG g a x b y n c = g c := by
  funext k
  unfold cpG
  rw [if_neg (fun z => h z.1)]
theorem vM_copies {g : gH} {a x b y n : Int} (ha : kd a = 20 ∧ kd b = 20) (hx : 0 ≤ x ∧ x + n ≤ sz a) (hy : 0 ≤ y ∧ y + n ≤ sz b) (hn : 0 ≤ n) (hab : a ≠ b ∨ y ≤ x) : fM_copies g a x b y n = some (0, cpG g a x b y n) := by
  have s1 := sz_bd a
  have s2 := sz_bd b
  have h := for_some (L := fun m k G => lM_copies_3 a x b y n m k G) (E := fun G => some (0, G)) n (fun k G => 0 ≤ k ∧ k ≤ n ∧ G = cpG g a x b y k) (fun m k G hk hI => by
    obtain ⟨k0, k1, hG⟩ := hI
    refine ⟨pU G b (y + k) (G a (x + k)), ?_, by omega, by omega, ?_⟩
    · show bM_copies_3 a x b y n (lM_copies_3 a x b y n m) k G = _
      rw [bM_copies_3]
      simp (disch := omega) only [ha.1, ha.2, w32_r, true_and, le_t, lt_t, and_true, ↓reduceIte, ↓bnd_s]
    · subst hG
      funext c j
      unfold pU
      have e1 : cpG g a x b y k a (x + k) = g a (x + k) := by
        unfold cpG
        rw [if_neg (fun z => by rcases hab with h | h; exact h z.1; omega)]
      rw [e1]
      unfold cpG
      by_cases h1 : c = b ∧ j = y + k
      · rw [if_pos h1, if_pos ⟨h1.1, by omega, by omega⟩, h1.2, show x + (y + k) - y = x + k by omega]
      · rw [if_neg h1]
        by_cases h2 : c = b ∧ y ≤ j ∧ j < y + k
        · rw [if_pos h2, if_pos ⟨h2.1, h2.2.1, by omega⟩]
        · rw [if_neg h2, if_neg (fun z => h2 ⟨z.1, z.2.1, by
            by_cases e : j = y + k
            · exact absurd ⟨z.1, e⟩ h1
            · omega⟩)]) (fun m k G hk hI => by
    show bM_copies_3 a x b y n (lM_copies_3 a x b y n m) k G = _
    rw [bM_copies_3, if_neg hk]) n.toNat 0 g fu (by omega) (by have := fu_ge; omega) ⟨by omega, by omega, by
      funext c j
      unfold cpG
      rw [if_neg (by omega)]⟩
  obtain ⟨G, h1, -, -, h2⟩ := h
  rw [fM_copies, h1, h2, show max 0 n = n by omega]
/-- the reference's cells -/
def MInv (g : gH) : Prop := MS g ∧ WBF (g 625) ∧ (∀ i, 0 ≤ i → i < 40 → g 630 i = 0) ∧ ((0 ≤ g 624 6 ∧ g 624 6 ≤ 10) ∧ ∀ j, 0 ≤ j → j < g 624 6 → WBF (fun k => g 629 (780 * j + k))) ∧ (¬ g 624 7 = 0 → WBF (g 628)) ∧ (0 ≤ g 624 10 ∧ g 624 10 ≤ 500) ∧ (0 ≤ g 624 23 ∧ g 624 23 ≤ 400)
/-- what a call of it leaves alone: all cells but its own -/
def MF (g g' : gH) : Prop := ∀ x, ¬ (624 ≤ x ∧ x < 635) → g' x = g x
theorem MF_r {g : gH} : MF g g := fun _ _ => rfl
theorem MF_t {g g1 g2 : gH} (h1 : MF g g1) (h2 : MF g1 g2) : MF g g2 := fun x hx => (h2 x hx).trans (h1 x hx)
theorem MF_pU {g g1 : gH} {a b v : Int} (h : MF g g1) (ha : 624 ≤ a ∧ a < 635) : MF g (pU g1 a b v) := fun x hx => (pU_n (fun e => hx (by rw [e]; exact ha))).trans (h x hx)
theorem MF_sw {g g1 : gH} {r : Int → Int} (h : MF g g1) : MF g (sw g1 r) := fun x hx => (sw_n (fun e => hx (by omega))).trans (h x hx)
theorem MF_cp {g g1 : gH} {a x b y n : Int} (h : MF g g1) (hb : 624 ≤ b ∧ b < 635) : MF g (cpG g1 a x b y n) := fun z hz => (cpG_n (fun e => hz (by rw [e]; exact hb))).trans (h z hz)
/-- the input and the error stay -/
def KI (g G : gH) : Prop := (∀ k, 10 ≤ k → k ≤ 12 → G 624 k = g 624 k) ∧ G 631 = g 631
theorem KI_r {g : gH} : KI g g := ⟨fun _ _ _ => rfl, rfl⟩
theorem KI_t {g G H : gH} (h : KI g G) (h' : KI G H) : KI g H := ⟨fun k k0 k1 => (h'.1 k k0 k1).trans (h.1 k k0 k1), h'.2.trans h.2⟩
theorem KI_e {g G H : gH} (h : KI g G) (e : ∀ k, 10 ≤ k → k ≤ 12 → H 624 k = G 624 k) (e2 : H 631 = G 631) : KI g H := KI_t h ⟨e, e2⟩
/-- a call that leaves the input as it is -/
def PO (g : gH) (X : Option (Int × gH)) : Prop := ∃ v g', X = some (v, g') ∧ MInv g' ∧ MF g g' ∧ KI g g'
/-- the mark of a throw -/
def th (g : gH) (t : Int) : gH := pU g 624 8 t
theorem th_n {g : gH} {t x : Int} (h : ¬ x = 624) : th g t x = g x := pU_n h
theorem th_f {g : gH} {t k : Int} (h : ¬ k = 8) : th g t 624 k = g 624 k := by
  unfold th
  rw [pU_s, u1_n h]
theorem th_th {g : gH} {t u : Int} : pU (th g t) 624 8 u = th g u := by
  funext x y
  unfold th pU
  by_cases h : x = 624 ∧ y = 8
  · rw [if_pos h, if_pos h]
  · rw [if_neg h, if_neg h, if_neg h]
theorem MInv_th {g : gH} {t : Int} (h : MInv g) : MInv (th g t) := by
  obtain ⟨h1, h2, h3, ⟨h4, h5⟩, h6, h7, h8⟩ := h
  unfold MInv MS
  simp (disch := omega) only [th_n, th_f]
  exact ⟨h1, h2, h3, ⟨h4, h5⟩, h6, h7, h8⟩
theorem MF_th {g g1 : gH} {t : Int} (h : MF g g1) : MF g (th g1 t) := MF_pU h (by omega)
section MODEL10
variable {g : gH} {p code t c a b : Int}
theorem vM_fails (hc : c = 0 ∨ c = 1) : fM_fails g 624 c code = some (c, if c = 0 then g else th g code) := by
  rw [fM_fails]
  rcases hc with rfl | rfl
  · rfl
  · simp only [show ¬ (1 : Int) = 0 by omega, if_false, bnd_s]
    rfl
theorem vM_inRange : fM_inRange g c a b = some (if a ≤ c ∧ c ≤ b then 1 else 0) := by
  rw [fM_inRange]
  by_cases h1 : c < a
  · rw [if_pos h1, if_neg (by omega)]
  · by_cases h2 : b < c
    · rw [if_neg h1, if_pos h2, if_neg (by omega)]
    · rw [if_neg h1, if_neg h2, if_pos (by omega)]
theorem th_id {g : gH} : (if (0 : Int) = 0 then th g 0 else th (th g 0) t) = th g 0 := if_pos rfl
/-- is there such a process -/
theorem vM_noProcess (hi : MInv g) : fM_noProcess g 624 p = some (if 0 ≤ p ∧ p < g 625 0 then 0 else 1, if 0 ≤ p ∧ p < g 625 0 then th g 0 else th g 1) := by
  have h0 := hi.1.1
  have hM := hi.2.1.1.1
  have e : pU g 624 8 0 = th g 0 := rfl
  rw [fM_noProcess]
  simp (disch := omega) only [↓bnd_s, e, th_n, th_f, h0, kd_625, sz_625, true_and, le_t, lt_t, and_true, ↓reduceIte, w32_r, vM_inRange, bdP_s]
  by_cases h : 0 ≤ p ∧ p < g 625 0
  · rw [if_pos (show 0 ≤ p ∧ p ≤ g 625 0 - 1 by omega), if_pos h, if_pos h]
    simp only [show ¬ (1 : Int) = 0 by omega, if_false, vM_fails (Or.inl rfl), bdN_s, if_true]
  · rw [if_neg (show ¬ (0 ≤ p ∧ p ≤ g 625 0 - 1) by omega), if_neg h, if_neg h]
    simp only [if_true, vM_fails (Or.inr rfl), bdN_s, show ¬ (1 : Int) = 0 by omega, if_false]
    rw [show th (th g 0) 1 = th g 1 from th_th]
end MODEL10
/-! ===== the reference's calls: tests first, changes kept (own work) ===== -/
section MODEL11
variable {g : gH} {p code t c a b k : Int}
theorem MInv_sw {r : Int → Int} (h : MInv g) (hr : WBF r) : MInv (sw g r) := by
  obtain ⟨h1, h2, h3, ⟨h4, h5⟩, h6, h7, h8⟩ := h
  unfold MInv MS
  simp (disch := omega) only [sw_n, sw_s]
  exact ⟨h1, hr, h3, ⟨h4, h5⟩, h6, h7, h8⟩
theorem MInv_630 (h : MInv g) : MInv (pU g 630 k 0) := by
  obtain ⟨h1, h2, h3, ⟨h4, h5⟩, h6, h7, h8⟩ := h
  unfold MInv MS
  simp (disch := omega) only [pU_n, pU_s]
  refine ⟨h1, h2, fun i i0 i1 => ?_, ⟨h4, h5⟩, h6, h7, h8⟩
  unfold u1
  split
  · rfl
  · exact h3 i i0 i1
theorem exG_n {x : Int} (h : ¬ x = 630) : exG g p code x = g x := by
  unfold exG
  split
  · exact pU_n h
  · rfl
theorem MInv_exG (h : MInv g) : MInv (exG g p code) := by
  unfold exG
  split
  · exact MInv_630 h
  · exact h
theorem MF_exG {g0 : gH} (h : MF g0 g) : MF g0 (exG g p code) := by
  unfold exG
  split
  · exact MF_pU h (by omega)
  · exact h
theorem vM_notRunning (hi : MInv g) : (¬ (0 ≤ p ∧ p < g 625 0) ∧ fM_notRunning g 624 p c = some (1, th g 1)) ∨ ((0 ≤ p ∧ p < g 625 0) ∧ ¬ g 625 (140 + p) = 0 ∧ fM_notRunning g 624 p c = some (1, th g c)) ∨ ((0 ≤ p ∧ p < g 625 0) ∧ g 625 (140 + p) = 0 ∧ fM_notRunning g 624 p c = some (0, th g 0)) := by
  have hM := hi.2.1.1.1
  rw [fM_notRunning, vM_noProcess hi]
  by_cases h : 0 ≤ p ∧ p < g 625 0
  · right
    simp only [if_pos h, bdN_s, if_true]
    have hr := vM_runs (g := th g 0) (p := p) (MInv_th hi).1 (by omega)
    rw [th_n (by omega)] at hr
    by_cases h2 : g 625 (140 + p) = 0
    · right
      refine ⟨h, h2, ?_⟩
      simp only [hr, h2, bdP_s, if_true, jM_notRunning_22, kd_c624, vM_fails (Or.inl rfl), bdN_s, show ¬ (1 : Int) = 0 by omega, if_false]
    · left
      refine ⟨h, h2, ?_⟩
      simp only [hr, h2, bdP_s, if_true, if_false, jM_notRunning_22, kd_c624, vM_fails (Or.inr rfl), bdN_s, show ¬ (1 : Int) = 0 by omega]
      rw [show th (th g 0) c = th g c from th_th]
  · left
    refine ⟨h, ?_⟩
    simp only [if_neg h, bdN_s, show ¬ (1 : Int) = 0 by omega, if_false]
theorem vM_notExiting (hi : MInv g) : (¬ (0 ≤ p ∧ p < g 625 0) ∧ fM_notExiting g 624 p c = some (1, th g 1)) ∨ ((0 ≤ p ∧ p < g 625 0) ∧ ¬ (¬ p = 0 ∧ g 625 (140 + p) = 0) ∧ fM_notExiting g 624 p c = some (1, th g c)) ∨ ((0 < p ∧ p < g 625 0) ∧ g 625 (140 + p) = 0 ∧ fM_notExiting g 624 p c = some (0, th g 0)) := by
  have hM := hi.2.1.1.1
  rw [fM_notExiting, vM_noProcess hi]
  by_cases h : 0 ≤ p ∧ p < g 625 0
  · right
    simp only [if_pos h, bdN_s, if_true]
    have hr := vM_runs (g := th g 0) (p := p) (MInv_th hi).1 (by omega)
    rw [th_n (by omega)] at hr
    by_cases h3 : p = 0
    · left
      refine ⟨h, fun z => z.1 h3, ?_⟩
      simp only [h3, if_true, jM_notExiting_21, jM_notExiting_26, kd_c624, vM_fails (Or.inr rfl), bdN_s, show ¬ (1 : Int) = 0 by omega, if_false]
      rw [show th (th g 0) c = th g c from th_th]
    · by_cases h2 : g 625 (140 + p) = 0
      · right
        refine ⟨by omega, h2, ?_⟩
        simp only [hr, h2, h3, bdP_s, if_true, if_false, jM_notExiting_26, kd_c624, vM_fails (Or.inl rfl), bdN_s, show ¬ (1 : Int) = 0 by omega]
      · left
        refine ⟨h, fun z => h2 z.2, ?_⟩
        simp only [hr, h2, h3, bdP_s, if_true, if_false, jM_notExiting_21, jM_notExiting_26, kd_c624, vM_fails (Or.inr rfl), bdN_s, show ¬ (1 : Int) = 0 by omega]
        rw [show th (th g 0) c = th g c from th_th]
  · left
    refine ⟨h, ?_⟩
    simp only [if_neg h, bdN_s, show ¬ (1 : Int) = 0 by omega, if_false]
theorem vM_noExit (hi : MInv g) : (¬ (0 ≤ p ∧ p < g 625 0) ∧ fM_noExit g 624 p code = some (1, th g 1)) ∨ ((0 ≤ p ∧ p < g 625 0) ∧ ¬ (0 ≤ code ∧ code ≤ 255) ∧ fM_noExit g 624 p code = some (1, th g 2)) ∨ ((0 ≤ p ∧ p < g 625 0) ∧ (0 ≤ code ∧ code ≤ 255) ∧ ¬ (¬ p = 0 ∧ g 625 (140 + p) = 0) ∧ fM_noExit g 624 p code = some (1, th g 3)) ∨ ((0 < p ∧ p < g 625 0) ∧ (0 ≤ code ∧ code ≤ 255) ∧ g 625 (140 + p) = 0 ∧ fM_noExit g 624 p code = some (0, th g 0)) := by
  have hM := hi.2.1.1.1
  rw [fM_noExit, vM_noProcess hi]
  by_cases h : 0 ≤ p ∧ p < g 625 0
  · right
    simp only [if_pos h, bdN_s, if_true, vM_inRange, bdP_s]
    by_cases hc : 0 ≤ code ∧ code ≤ 255
    · right
      have hr := vM_runs (g := th g 0) (p := p) (MInv_th hi).1 (by omega)
      rw [th_n (by omega)] at hr
      simp only [if_pos hc, show ¬ (1 : Int) = 0 by omega, if_false, jM_noExit_25, kd_c624, if_true, vM_fails (Or.inl rfl), bdN_s]
      by_cases h3 : p = 0
      · left
        refine ⟨h, hc, fun z => z.1 h3, ?_⟩
        simp only [h3, if_true, jM_noExit_45, jM_noExit_50, kd_c624, vM_fails (Or.inr rfl), bdN_s, show ¬ (1 : Int) = 0 by omega, if_false]
        rw [show th (th g 0) 3 = th g 3 from th_th]
      · by_cases h2 : g 625 (140 + p) = 0
        · right
          refine ⟨by omega, hc, h2, ?_⟩
          simp only [hr, h2, h3, bdP_s, if_true, if_false, jM_noExit_50, kd_c624, vM_fails (Or.inl rfl), bdN_s, show ¬ (1 : Int) = 0 by omega]
        · left
          refine ⟨h, hc, fun z => h2 z.2, ?_⟩
          simp only [hr, h2, h3, bdP_s, if_true, if_false, jM_noExit_45, jM_noExit_50, kd_c624, vM_fails (Or.inr rfl), bdN_s, show ¬ (1 : Int) = 0 by omega]
          rw [show th (th g 0) 3 = th g 3 from th_th]
    · left
      refine ⟨h, hc, ?_⟩
      simp only [if_neg hc, if_true, jM_noExit_25, kd_c624, vM_fails (Or.inr rfl), bdN_s, show ¬ (1 : Int) = 0 by omega, if_false]
      rw [show th (th g 0) 2 = th g 2 from th_th]
  · left
    refine ⟨h, ?_⟩
    simp only [if_neg h, bdN_s, show ¬ (1 : Int) = 0 by omega, if_false]
theorem vM_isSmall : fM_isSmall g c = some (if 0 ≤ c ∧ c ≤ 9 then 1 else 0) := by
  rw [fM_isSmall, vM_inRange, bdP_s]
theorem vM_noKill : (¬ ((0 ≤ a ∧ a ≤ 9) ∧ 0 ≤ code ∧ code ≤ 255) ∧ fM_noKill g 624 a code = some (1, th g 1)) ∨ (((0 ≤ a ∧ a ≤ 9) ∧ 0 ≤ code ∧ code ≤ 255) ∧ fM_noKill g 624 a code = some (0, th g 0)) := by
  have e : pU g 624 8 0 = th g 0 := rfl
  rw [fM_noKill]
  simp only [bnd_s, e, vM_isSmall, bdP_s, vM_inRange]
  by_cases h1 : 0 ≤ a ∧ a ≤ 9
  · by_cases h2 : 0 ≤ code ∧ code ≤ 255
    · right
      refine ⟨⟨h1, h2⟩, ?_⟩
      simp only [if_pos h1, if_pos h2, show ¬ (1 : Int) = 0 by omega, if_false, vM_fails (Or.inl rfl), bdN_s, if_true]
    · left
      refine ⟨fun z => h2 z.2, ?_⟩
      simp only [if_pos h1, if_neg h2, show ¬ (1 : Int) = 0 by omega, if_false, vM_fails (Or.inr rfl), bdN_s, if_true]
      rw [show th (th g 0) 1 = th g 1 from th_th]
  · left
    refine ⟨fun z => h1 z.1, ?_⟩
    simp only [if_neg h1, show ¬ (1 : Int) = 0 by omega, if_false, vM_fails (Or.inr rfl), bdN_s, if_true]
    rw [show th (th g 0) 1 = th g 1 from th_th]
theorem vM_noDuty : (¬ (0 ≤ a ∧ a ≤ 7) ∧ fM_noDuty g 624 a c = some (1, th g c)) ∨ ((0 ≤ a ∧ a ≤ 7) ∧ fM_noDuty g 624 a c = some (0, g)) := by
  rw [fM_noDuty]
  simp only [bdP_s, vM_inRange]
  by_cases h1 : 0 ≤ a ∧ a ≤ 7
  · right
    refine ⟨h1, ?_⟩
    simp only [if_pos h1, show ¬ (1 : Int) = 0 by omega, if_false, vM_fails (Or.inl rfl), bdN_s, if_true]
  · left
    refine ⟨h1, ?_⟩
    simp only [if_neg h1, show ¬ (1 : Int) = 0 by omega, if_false, vM_fails (Or.inr rfl), bdN_s, if_true]
/-- the row is kept; the rest of the state stays -/
theorem vM_remembers (hi : MInv g) : ∃ g', fM_remembers g 624 = some (0, g') ∧ MInv g' ∧ MF g g' ∧ (∀ x, ¬ x = 624 → ¬ x = 629 → g' x = g x) ∧ (∀ k, ¬ k = 6 → g' 624 k = g 624 k) := by
  obtain ⟨h1, h2, h3, ⟨h4, h5⟩, h6, h7, h8⟩ := hi
  have h0 := h1.1
  have h29 := h1.2.2.2.1
  -- the kept row goes to place n
  have fin : ∀ G : gH, (∀ x, ¬ x = 624 → ¬ x = 629 → G x = g x) → (∀ k, ¬ k = 6 → G 624 k = g 624 k) → (0 ≤ G 624 6 ∧ G 624 6 ≤ 9) → (∀ j, 0 ≤ j → j < G 624 6 → WBF (fun k => G 629 (780 * j + k))) → MF g G → ∃ g', jM_remembers_37 G 624 = some (0, g') ∧ MInv g' ∧ MF g g' ∧ (∀ x, ¬ x = 624 → ¬ x = 629 → g' x = g x) ∧ (∀ k, ¬ k = 6 → g' 624 k = g 624 k) := by
    intro G G1 G2 G3 G4 G5
    have g0 : G 624 0 = 625 := by rw [G2 0 (by omega)]; exact h0
    have g4 : G 624 4 = 629 := by rw [G2 4 (by omega)]; exact h29
    have e1 : opI 0 780 (G 624 6) = 780 * G 624 6 := by rw [opI_mul, w32_r (by omega)]
    have hc := vM_copies (g := G) (a := 625) (x := 0) (b := 629) (y := 780 * G 624 6) (n := 780) ⟨kd_625, kd_629⟩ (by rw [sz_625]; omega) (by rw [sz_629]; omega) (by omega) (Or.inl (by omega))
    refine ⟨pU (cpG G 625 0 629 (780 * G 624 6) 780) 624 6 (G 624 6 + 1), ?_, ?_, ?_, ?_, ?_⟩
    · rw [jM_remembers_37, g0, g4, e1, hc, bdN_s, bnd_s, cpG_n (by omega), w32_r (by omega)]
    · unfold MInv MS
      simp (disch := omega) only [pU_n, pU_s, u1_n, u1_s, cpG_n, G1, G2]
      refine ⟨h1, h2, h3, ⟨by omega, ?_⟩, h6, h7, h8⟩
      intro j j0 j1
      by_cases e : j = G 624 6
      · refine WBF_ext h2 (fun k k0 k1 => ?_)
        unfold cpG
        rw [if_pos ⟨rfl, by omega, by omega⟩, G1 625 (by omega) (by omega), show (0 + (780 * j + k) - 780 * G 624 6 : Int) = k by omega]
      · refine WBF_ext (G4 j j0 (by omega)) (fun k k0 k1 => ?_)
        unfold cpG
        rw [if_neg (fun z => by have := z.2.1; have := z.2.2; omega)]
    · exact MF_pU (MF_cp G5 (by omega)) (by omega)
    · intro x x1 x2
      rw [pU_n x1, cpG_n x2]
      exact G1 x x1 x2
    · intro k hk
      rw [pU_s, u1_n hk, cpG_n (by omega)]
      exact G2 k hk
  rw [fM_remembers]
  by_cases c10 : g 624 6 = 10
  · have hc := vM_copies (g := g) (a := 629) (x := 780) (b := 629) (y := 0) (n := 7020) ⟨kd_629, kd_629⟩ (by rw [sz_629]; omega) (by rw [sz_629]; omega) (by omega) (Or.inr (by omega))
    rw [if_pos c10, h29, hc, bdN_s, bnd_s, cpG_n (by omega), c10]
    refine fin _ ?_ ?_ ?_ ?_ ?_
    · intro x x1 x2
      rw [pU_n x1, cpG_n x2]
    · intro k hk
      rw [pU_s, u1_n hk, cpG_n (by omega)]
    · rw [pU_s, u1_s, w32_r (by omega)]
      omega
    · intro j j0 j1
      rw [pU_s, u1_s, w32_r (by omega)] at j1
      refine WBF_ext (h5 (j + 1) (by omega) (by omega)) (fun k k0 k1 => ?_)
      rw [pU_n (by omega)]
      unfold cpG
      rw [if_pos ⟨rfl, by omega, by omega⟩, show (780 + (780 * j + k) - 0 : Int) = 780 * (j + 1) + k by omega]
    · exact MF_pU (MF_cp MF_r (by omega)) (by omega)
  · rw [if_neg c10]
    exact fin g (fun _ _ _ => rfl) (fun _ _ => rfl) (by omega) h5 MF_r
/-- a copy is gone through and comes back -/
def bgG (g : gH) : gH := cpG g 625 0 627 0 780
theorem vM_begins (hs : MS g) : fM_begins g 624 = some (0, bgG g) := by
  have hc := vM_copies (g := g) (a := 625) (x := 0) (b := 627) (y := 0) (n := 780) ⟨kd_625, kd_627⟩ (by rw [sz_625]; omega) (by rw [sz_627]; omega) (by omega) (Or.inl (by omega))
  rw [fM_begins, hs.1, hs.2.1, hc, bdN_s]
  rfl
theorem vM_ends (hs : MS g) : fM_ends g 624 = some (0, cpG g 627 0 625 0 780) := by
  have hc := vM_copies (g := g) (a := 627) (x := 0) (b := 625) (y := 0) (n := 780) ⟨kd_627, kd_625⟩ (by rw [sz_627]; omega) (by rw [sz_625]; omega) (by omega) (Or.inl (by omega))
  rw [fM_ends, hs.1, hs.2.1, hc, bdN_s]
theorem bgG_n {x : Int} (h : ¬ x = 627) : bgG g x = g x := cpG_n h
theorem bgG_s {k : Int} (h : 0 ≤ k ∧ k < 780) : bgG g 627 k = g 625 k := by
  unfold bgG cpG
  rw [if_pos ⟨rfl, by omega, by omega⟩]
  congr 1
  omega
theorem MInv_bg (hi : MInv g) : MInv (bgG g) := by
  obtain ⟨h1, h2, h3, h4, h6, h7, h8⟩ := hi
  unfold MInv MS
  simp (disch := omega) only [bgG_n]
  exact ⟨h1, h2, h3, h4, h6, h7, h8⟩
/-- behind the end of what would be: as before -/
theorem MInv_en {G : gH} (hi : MInv G) (hw : WBF (G 627)) : MInv (cpG G 627 0 625 0 780) := by
  obtain ⟨h1, h2, h3, h4, h6, h7, h8⟩ := hi
  unfold MInv MS
  simp (disch := omega) only [cpG_n]
  refine ⟨h1, WBF_ext hw (fun k k0 k1 => ?_), h3, h4, h6, h7, h8⟩
  unfold cpG
  rw [if_pos ⟨rfl, by omega, by omega⟩]
  congr 1
  omega
end MODEL11
/-! ===== the reference's calls that change (own work) ===== -/
def OKg (g G : gH) : Prop := MInv G ∧ MF g G ∧ KI g G
section MODEL12
variable {g G : gH} {p code t c a b k q : Int}
theorem OK_r (h : MInv g) : OKg g g := ⟨h, MF_r, KI_r⟩
theorem OK_th (h : OKg g G) : OKg g (th G t) := ⟨MInv_th h.1, MF_th h.2.1, KI_e h.2.2 (fun k k0 k1 => th_f (by omega)) (th_n (by omega))⟩
theorem OK_sw {r : Int → Int} (h : OKg g G) (hr : WBF r) : OKg g (sw G r) := ⟨MInv_sw h.1 hr, MF_sw h.2.1, KI_e h.2.2 (fun k k0 k1 => by rw [sw_n (by omega)]) (sw_n (by omega))⟩
theorem OK_exG (h : OKg g G) : OKg g (exG G p code) := ⟨MInv_exG h.1, MF_exG h.2.1, KI_e h.2.2 (fun k k0 k1 => by rw [exG_n (by omega)]) (exG_n (by omega))⟩
theorem OK_rem (h : OKg g G) : ∃ G', fM_remembers G 624 = some (0, G') ∧ OKg g G' ∧ G' 625 = G 625 ∧ G' 630 = G 630 ∧ (∀ k, ¬ k = 6 → G' 624 k = G 624 k) := by
  obtain ⟨G', h1, h2, h3, h4, h5⟩ := vM_remembers h.1
  exact ⟨G', h1, ⟨h2, MF_t h.2.1 h3, KI_e h.2.2 (fun k k0 k1 => h5 k (by omega)) (h4 631 (by omega) (by omega))⟩, h4 625 (by omega) (by omega), h4 630 (by omega) (by omega), h5⟩
theorem PO_i {X : Option (Int × gH)} {v : Int} (e : X = some (v, G)) (h : OKg g G) : PO g X := ⟨v, G, e, h.1, h.2.1, h.2.2⟩
theorem PO_1 {A : Option (Int × gH)} {x : Int} (h : OKg g G) : PO g (if (1 : Int) = 0 then A else some (x, G)) := PO_i (if_neg (by omega)) h
theorem PO_0 {A B : Option (Int × gH)} (h : PO g A) : PO g (if (0 : Int) = 0 then A else B) := by
  rw [if_pos rfl]
  exact h
theorem ex_OK (h : OKg g G) (hp : 0 < p ∧ p < G 625 0) (hst : G 625 (140 + p) = 0) (hc : 0 ≤ code ∧ code ≤ 255) : ∃ v, fM_exits G 624 p code = some (v, sw (exG G p code) (exF (G 625) (G 630) p code)) ∧ OKg g (sw (exG G p code) (exF (G 625) (G 630) p code)) ∧ exF (G 625) (G 630) p code 1 = G 625 1 + 1 ∧ (G 625 0 ≤ exF (G 625) (G 630) p code 0) ∧ (∀ i, 0 ≤ i → i < G 625 0 → i ≠ p → G 625 (140 + i) = 0 → exF (G 625) (G 630) p code (140 + i) = 0) := by
  obtain ⟨e1, e2, e3, e4, e5, e6, e7⟩ := vM_exits h.1.1 h.1.2.1.1 h.1.2.1.2 hp hst hc
  exact ⟨_, e1, OK_sw (OK_exG h) ⟨e2, e3⟩, e4, e5.1, e6⟩
theorem oM_exit (hi : MInv g) : PO g (fM_exit g 624 p code) := by
  rw [fM_exit]
  rcases vM_noExit (p := p) (code := code) hi with ⟨-, e⟩ | ⟨-, -, e⟩ | ⟨-, -, -, e⟩ | ⟨h1, h2, h3, e⟩
  · rw [e, bdN_s]; exact PO_1 (OK_th (OK_r hi))
  · rw [e, bdN_s]; exact PO_1 (OK_th (OK_r hi))
  · rw [e, bdN_s]; exact PO_1 (OK_th (OK_r hi))
  · rw [e, bdN_s]
    refine PO_0 ?_
    obtain ⟨G, r1, r2, r3, r4, -⟩ := OK_rem (OK_th (t := 0) (OK_r hi))
    rw [th_n (by omega)] at r3
    obtain ⟨v, e1, e2, -⟩ := ex_OK (code := code) r2 (p := p) (by rw [r3]; exact h1) (by rw [r3]; exact h3) h2
    rw [r1, bdN_s, e1, bdN_s]
    exact PO_i rfl e2
theorem oM_readAll (hi : MInv g) : PO g (fM_readAll g 624 p) := by
  rw [fM_readAll]
  rcases vM_notRunning (p := p) (c := 2) hi with ⟨-, e⟩ | ⟨-, -, e⟩ | ⟨h1, h2, e⟩
  · rw [e, bdN_s]; exact PO_1 (OK_th (OK_r hi))
  · rw [e, bdN_s]; exact PO_1 (OK_th (OK_r hi))
  · rw [e, bdN_s]
    refine PO_0 ?_
    obtain ⟨G, r1, r2, r3, r4, -⟩ := OK_rem (OK_th (t := 0) (OK_r hi))
    have w := r2.1.2.1
    obtain ⟨ra, -⟩ := vM_readsAll (g := G) (r := G 625) (p := p) r2.1.1 w.1.1 w.2.2.2.1 w.2.2.2.2.1 w.2.2.2.2.2.2.2.1
    rw [sw_id] at ra
    rw [r1, bdN_s, ra, bdN_s]
    obtain ⟨w1, w2⟩ := WF_rd (p := p) w.1 w.2
    exact PO_i rfl (OK_sw r2 ⟨w1, w2⟩)
/-- one testament read -/
theorem WF_one {r : Int → Int} {z : Int} (hb : WB r) (hf : WF r) (hz : 0 ≤ z ∧ z < r 0) (hs : r (140 + z) = 1) : WBF (u1 r (140 + z) 2) := by
  have hM := hb.1
  obtain ⟨⟨s1, s2⟩, hSR, ⟨x1, x2⟩, hL, hN, hH, hC, hB⟩ := hf
  have e0 : u1 r (140 + z) 2 0 = r 0 := u1_n (by omega)
  have e1 : u1 r (140 + z) 2 1 = r 1 := u1_n (by omega)
  have est : ∀ i, 0 ≤ i → i < 40 → i ≠ z → u1 r (140 + z) 2 (140 + i) = r (140 + i) := fun i i0 i1 i2 => u1_n (by omega)
  have run : ∀ i, 0 ≤ i → i < r 0 → r (140 + i) = 0 → u1 r (140 + z) 2 (140 + i) = 0 := by
    intro i i0 i1 i2
    rw [est i i0 (by omega) (by intro e; rw [e, hs] at i2; omega)]
    exact i2
  refine ⟨WB_eq hb (fun k hk => u1_n (by omega)), ⟨?_, ?_⟩, ?_, ⟨by rw [e1]; exact x1, ?_⟩, ?_, ?_, ?_, ?_, ?_⟩
  · intro i i0 i1
    rw [e0] at i1
    by_cases e : i = z
    · rw [e, u1_s]; omega
    · rw [est i i0 (by omega) e]; exact s1 i i0 i1
  · have := run 0 (by omega) (by omega) s2
    exact this
  · intro i i0 i1 i2
    rw [e0] at i1
    rw [u1_n (show ¬ 60 + i = 140 + z by omega)]
    have h := hb.2.1 i i0 i1
    refine run _ h.1 h.2 (hSR i i0 i1 ?_)
    by_cases e : i = z
    · rw [e, hs]; omega
    · rw [est i (by omega) (by omega) e] at i2; exact i2
  · intro k k0 k1
    rw [e1] at k1
    rw [u1_n (by omega), e0]
    exact x2 k k0 k1
  · intro i i0 i1 i2
    rw [e0] at i1
    obtain ⟨k, k0, k1, k2⟩ := hL i i0 i1 (fun z => i2 (run i i0 i1 z))
    exact ⟨k, k0, by rw [e1]; exact k1, by rw [u1_n (by omega)]; exact k2⟩
  · show u1 r (140 + z) 2 1 = _
    rw [e1, e0, hN]
    exact cn_congr _ _ (fun j j0 j1 => by
      show (!decide (r (140 + j) = 0)) = !decide (u1 r (140 + z) 2 (140 + j) = 0)
      by_cases e : j = z
      · rw [e, u1_s, hs]; rfl
      · rw [est j j0 (by omega) e])
  · intro d d0 d1
    rw [u1_n (show ¬ 11 + d = 140 + z by omega), e0]
    have := hH d d0 d1
    exact ⟨this.1, this.2.1, run _ this.1 this.2.1 this.2.2⟩
  · intro i i0 i1 i2
    rw [e0] at i1
    rw [u1_n (show ¬ 300 + i = 140 + z by omega)]
    by_cases e : i = z
    · rw [e, u1_s] at i2; omega
    · rw [est i i0 (by omega) e] at i2; exact hC i i0 i1 i2
  · intro i i0 i1
    rw [e0] at i1
    rw [u1_n (show ¬ 220 + i = 140 + z by omega)]
    exact hB i i0 i1
theorem oM_read (hi : MInv g) : PO g (fM_read g 624 p) := by
  rw [fM_read]
  rcases vM_notRunning (p := p) (c := 2) hi with ⟨-, e⟩ | ⟨-, -, e⟩ | ⟨h1, h2, e⟩
  · rw [e, bdN_s]; exact PO_1 (OK_th (OK_r hi))
  · rw [e, bdN_s]; exact PO_1 (OK_th (OK_r hi))
  · rw [e, bdN_s]
    refine PO_0 ?_
    have o1 := OK_th (t := 0) (OK_r hi)
    have w := o1.1.2.1
    have hz := vM_firstZombie (g := th g 0) (p := p) o1.1.1 w.1.1.2 w.2.2.2.1
    rw [hz, bdP_s]
    rcases FZ_f (p := p) w.2.2.2.1 with hz1 | ⟨z0, z1, z2⟩
    · rw [hz1, if_pos rfl]
      simp only [jM_read_28, kd_c624, if_true, vM_fails (Or.inr rfl), bdN_s, show ¬ (1 : Int) = 0 by omega, if_false]
      exact PO_i rfl (OK_th o1)
    · rw [if_neg (by omega)]
      generalize FZ (th g 0 625) p = z at z0 z1 z2
      obtain ⟨G, r1, r2, r3, r4, -⟩ := OK_rem o1
      have hM := w.1.1
      have w' := r2.1.2.1
      have h04 := r2.1.1.1
      simp only [jM_read_28, kd_c624, if_true, vM_fails (Or.inl rfl), bdN_s, r1]
      simp (disch := omega) only [h04, kd_625, sz_625, w32_r, true_and, le_t, lt_t, and_true, ↓reduceIte, ↓bnd_s, pU_625, sw_n, sw_s]
      refine PO_i rfl (OK_sw r2 (WF_one w'.1 w'.2 (by rw [r3]; exact ⟨z0, z1⟩) ?_))
      rw [r3]
      exact (ic_t.mp z2).1
/-- places that nothing here asks for -/
theorem WBF_eq {r r' : Int → Int} (h : WBF r) (hb : WB r') (he : ∀ k, k = 0 ∨ k = 1 ∨ (11 ≤ k ∧ k < 100 ∧ ¬ k = 59) ∨ (140 ≤ k ∧ k < 180) ∨ (220 ≤ k ∧ k < 260) ∨ (300 ≤ k ∧ k < 340) → r' k = r k) : WBF r' := by
  obtain ⟨hb0, ⟨s1, s2⟩, hSR, ⟨x1, x2⟩, hL, hN, hH, hC, hB⟩ := h
  have hM := hb0.1
  have e0 : r' 0 = r 0 := he 0 (by omega)
  have e1 : r' 1 = r 1 := he 1 (by omega)
  have est : ∀ i, 0 ≤ i → i < r 0 → r' (140 + i) = r (140 + i) := fun i i0 i1 => he _ (by omega)
  refine ⟨hb, ⟨?_, by rw [he 140 (by omega)]; exact s2⟩, ?_, ⟨by rw [e1]; exact x1, ?_⟩, ?_, ?_, ?_, ?_, ?_⟩
  · intro i i0 i1
    rw [e0] at i1
    rw [est i i0 i1]
    exact s1 i i0 i1
  · intro i i0 i1 i2
    rw [e0] at i1
    rw [est i (by omega) i1] at i2
    rw [he (60 + i) (by omega)]
    have := hb0.2.1 i i0 i1
    rw [est _ this.1 this.2]
    exact hSR i i0 i1 i2
  · intro k k0 k1
    rw [e1] at k1
    rw [he _ (by omega), e0]
    exact x2 k k0 k1
  · intro i i0 i1 i2
    rw [e0] at i1
    rw [est i i0 i1] at i2
    obtain ⟨k, k0, k1, k2⟩ := hL i i0 i1 i2
    exact ⟨k, k0, by rw [e1]; exact k1, by rw [he _ (by omega)]; exact k2⟩
  · show r' 1 = _
    rw [e1, cn_eq_st e0 hM.2 (fun k k0 k1 => he k (by omega))]
    exact hN
  · intro d d0 d1
    have := hH d d0 d1
    rw [he (11 + d) (by omega), e0, est _ this.1 this.2.1]
    exact this
  · intro i i0 i1 i2
    rw [e0] at i1
    rw [est i i0 i1] at i2
    rw [he _ (by omega)]
    exact hC i i0 i1 i2
  · intro i i0 i1
    rw [e0] at i1
    rw [he _ (by omega)]
    exact hB i i0 i1
/-- a supervisor changed, to a running one that is not below -/
theorem WBF_sup {r r' : Int → Int} (h : WBF r) (hc : 0 < c ∧ c < r 0) (ht : 0 ≤ t ∧ t < r 0) (htc : t ≠ c) (ho : OV (up r) c t = false) (hst : r (140 + t) = 0) (hk : r' (60 + c) = t) (he : ∀ k, ¬ k = 2 → ¬ k = 3 → ¬ (380 ≤ k ∧ k < 420) → ¬ k = 60 + c → r' k = r k) : WBF r' := by
  have hM := h.1.1
  have hb := WB_sup h.1 hc ht htc ho hk (fun k hk => he k (by omega) (by omega) (by omega) (by omega))
  obtain ⟨hb0, ⟨s1, s2⟩, hSR, ⟨x1, x2⟩, hL, hN, hH, hC, hB⟩ := h
  have e0 : r' 0 = r 0 := he 0 (by omega) (by omega) (by omega) (by omega)
  have e1 : r' 1 = r 1 := he 1 (by omega) (by omega) (by omega) (by omega)
  have est : ∀ i, 0 ≤ i → i < r 0 → r' (140 + i) = r (140 + i) := fun i i0 i1 => he _ (by omega) (by omega) (by omega) (by omega)
  refine ⟨hb, ⟨?_, by rw [he 140 (by omega) (by omega) (by omega) (by omega)]; exact s2⟩, ?_, ⟨by rw [e1]; exact x1, ?_⟩, ?_, ?_, ?_, ?_, ?_⟩
  · intro i i0 i1
    rw [e0] at i1
    rw [est i i0 i1]
    exact s1 i i0 i1
  · intro i i0 i1 i2
    rw [e0] at i1
    rw [est i (by omega) i1] at i2
    by_cases e : i = c
    · rw [e, hk, est t ht.1 ht.2]; exact hst
    · rw [he (60 + i) (by omega) (by omega) (by omega) (by omega)]
      have := hb0.2.1 i i0 i1
      rw [est _ this.1 this.2]
      exact hSR i i0 i1 i2
  · intro k k0 k1
    rw [e1] at k1
    rw [he _ (by omega) (by omega) (by omega) (by omega), e0]
    exact x2 k k0 k1
  · intro i i0 i1 i2
    rw [e0] at i1
    rw [est i i0 i1] at i2
    obtain ⟨k, k0, k1, k2⟩ := hL i i0 i1 i2
    exact ⟨k, k0, by rw [e1]; exact k1, by rw [he _ (by omega) (by omega) (by omega) (by omega)]; exact k2⟩
  · show r' 1 = _
    rw [e1, cn_eq_st e0 hM.2 (fun k k0 k1 => he k (by omega) (by omega) (by omega) (by omega))]
    exact hN
  · intro d d0 d1
    have := hH d d0 d1
    rw [he (11 + d) (by omega) (by omega) (by omega) (by omega), e0, est _ this.1 this.2.1]
    exact this
  · intro i i0 i1 i2
    rw [e0] at i1
    rw [est i i0 i1] at i2
    rw [he _ (by omega) (by omega) (by omega) (by omega)]
    exact hC i i0 i1 i2
  · intro i i0 i1
    rw [e0] at i1
    rw [he _ (by omega) (by omega) (by omega) (by omega)]
    exact hB i i0 i1
/-- an adoption by one that can, or by the root, keeps all -/
theorem WBF_ad {r : Int → Int} (h : WBF r) (hc : 0 < c ∧ c < r 0) (hs : MS g) (hw : 0 ≤ q ∧ q < r 0) : WBF (adR r (AD r (g 630) c q) c) := by
  have hM := h.1.1
  have hAD := (vM_adopterOf (g := sw g r) (o := c) (wo := q) (MS_sw hs) (by rw [sw_s]; exact h.1) (by rw [sw_s]; omega) (by rw [sw_s]; omega)).2
  rw [sw_s, sw_n (show ¬ (630 : Int) = 625 by omega)] at hAD
  have ht : (0 ≤ AD r (g 630) c q ∧ AD r (g 630) c q < r 0) ∧ AD r (g 630) c q ≠ c ∧ OV (up r) c (AD r (g 630) c q) = false ∧ r (140 + AD r (g 630) c q) = 0 := by
    rcases hAD with e2 | ⟨e2, e3, e4, e5⟩
    · rw [e2]
      exact ⟨by omega, by omega, OV_0, h.2.1.2⟩
    · obtain ⟨f1, f2, f3⟩ := canA_f e5
      exact ⟨⟨by omega, e3⟩, f2, f3, f1⟩
  exact WBF_sup h hc ht.1 ht.2.1 ht.2.2.1 ht.2.2.2 (adR_s (by omega)) (fun k k1 k2 k3 k4 => adR_n (by omega))
end MODEL12
/-! ===== the reference's calls that change: refuse to give (own work) ===== -/
section MODEL13
variable {g G : gH} {p code t c a b k q gp : Int}
theorem f0 : ¬ (1 : Int) = 0 := by omega
theorem oM_refuse (hi : MInv g) : PO g (fM_refuse g 624 p gp) := by
  rw [fM_refuse, vM_noProcess hi]
  by_cases h : 0 ≤ p ∧ p < g 625 0
  · simp only [if_pos h, bdN_s, if_true, vM_isSmall, bdP_s]
    have o1 := OK_th (t := 0) (OK_r hi)
    have hM := hi.2.1.1.1
    by_cases h1 : 0 ≤ gp ∧ gp ≤ 9
    · simp only [if_pos h1, f0, if_false, jM_refuse_21, kd_c624, if_true, vM_fails (Or.inl rfl), bdN_s]
      have hr := vM_runs (g := th g 0) (p := p) o1.1.1 (by omega)
      by_cases h3 : p = 0
      · simp only [h3, if_true, jM_refuse_41, jM_refuse_46, kd_c624, vM_fails (Or.inr rfl), bdN_s, f0, if_false]
        exact PO_i rfl (OK_th o1)
      · by_cases h2 : (th g 0) 625 (140 + p) = 0
        · simp only [hr, h2, h3, bdP_s, if_true, if_false, f0, jM_refuse_46, kd_c624, vM_fails (Or.inl rfl), bdN_s]
          obtain ⟨G, r1, r2, r3, r4, -⟩ := OK_rem o1
          have w := r2.1.2.1
          have h04 := r2.1.1.1
          have hp : 0 < p ∧ p < G 625 0 := by rw [r3, th_n (by omega)]; omega
          rw [r1]
          simp (disch := omega) only [bdN_s, h04, kd_625, sz_625, w32_r, true_and, le_t, lt_t, and_true, ↓reduceIte, ↓bnd_s, pU_625]
          generalize hv : opI 2 (G 625 (340 + p)) (opI 4 1 gp) = v
          have w1 : WBF (u1 (G 625) (340 + p) v) := WBF_eq w (WB_eq w.1 (fun k hk => u1_n (by have := w.1.1; omega))) (fun k hk => u1_n (by have := w.1.1; omega))
          have hM1 := w.1.1
          obtain ⟨s', e1, e2⟩ := for_some (L := fun n k (s : Int × (Int → Int)) => lM_refuse_80 624 p gp n s.1 k (sw G s.2)) (E := fun s => some (s.1, sw G s.2)) (G 625 0) (fun k s => 1 ≤ k ∧ WBF s.2 ∧ s.2 0 = G 625 0) (fun n k s hk hI => by
            obtain ⟨n0, i⟩ := s
            obtain ⟨k0, i1, i2⟩ := hI
            have i1 : WBF i := i1
            have i2 : i 0 = G 625 0 := i2
            have hic := vM_isChild (g := sw G i) (p := k) (a := p) (st := 0) (MS_sw r2.1.1) (by omega)
            rw [sw_s] at hic
            by_cases c1 : ic i k p 0 = true
            · by_cases c2 : i (180 + k) = gp
              · have hAD := (vM_adopterOf (g := sw G i) (o := k) (wo := p) (MS_sw r2.1.1) (by rw [sw_s]; exact i1.1) (by rw [sw_s]; omega) (by rw [sw_s]; omega)).1
                rw [sw_s, sw_n (show ¬ (630 : Int) = 625 by omega)] at hAD
                have had := vM_adopts (g := sw G i) (p := AD i (G 630) k p) (o := k) (MS_sw r2.1.1) (by omega)
                rw [sw_s, sw_sw] at had
                refine ⟨(w32 (n0 + 1), adR i (AD i (G 630) k p) k), ?_, by omega, WBF_ad i1 (by omega) r2.1.1 (by omega), ?_⟩
                · show bM_refuse_80 624 p gp (lM_refuse_80 624 p gp n) n0 k (sw G i) = _
                  rw [bM_refuse_80, hic]
                  simp (disch := omega) only [c1, c2, sw_n, sw_s, h04, kd_625, sz_625, w32_r (show -2147483648 ≤ k + 1 ∧ k + 1 < 2147483648 by omega), w32_r (show -2147483648 ≤ 180 + k ∧ 180 + k < 2147483648 by omega), true_and, le_t, lt_t, and_true, ↓reduceIte, bdP_s, f0, hAD, had, bdN_s]
                · exact (adR_n (by omega)).trans i2
              · refine ⟨(n0, i), ?_, by omega, i1, i2⟩
                show bM_refuse_80 624 p gp (lM_refuse_80 624 p gp n) n0 k (sw G i) = _
                rw [bM_refuse_80, hic]
                simp (disch := omega) only [c1, c2, sw_n, sw_s, h04, kd_625, sz_625, w32_r, true_and, le_t, lt_t, and_true, ↓reduceIte, bdP_s, f0]
            · refine ⟨(n0, i), ?_, by omega, i1, i2⟩
              show bM_refuse_80 624 p gp (lM_refuse_80 624 p gp n) n0 k (sw G i) = _
              rw [bM_refuse_80, hic]
              simp (disch := omega) only [c1, sw_n, sw_s, h04, kd_625, sz_625, w32_r, true_and, le_t, lt_t, and_true, ↓reduceIte, bdP_s, Bool.false_eq_true]) (fun n k s hk hI => by
            obtain ⟨n0, i⟩ := s
            have i2 : i 0 = G 625 0 := hI.2.2
            show bM_refuse_80 624 p gp (lM_refuse_80 624 p gp n) n0 k (sw G i) = _
            rw [bM_refuse_80]
            simp (disch := omega) only [sw_n, sw_s, h04, kd_625, sz_625, true_and, le_t, lt_t, lt_f, and_true, ↓reduceIte]) (G 625 0 - 1).toNat 1 (0, u1 (G 625) (340 + p) v) fu (by omega) (by have := fu_ge; omega) ⟨by omega, w1, u1_n (by omega)⟩
          exact PO_i e1 (OK_sw r2 e2.2.1)
        · simp only [hr, h2, h3, bdP_s, if_true, if_false, jM_refuse_41, jM_refuse_46, kd_c624, vM_fails (Or.inr rfl), bdN_s, f0]
          exact PO_i rfl (OK_th o1)
    · simp only [if_neg h1, if_true, jM_refuse_21, kd_c624, vM_fails (Or.inr rfl), bdN_s, f0, if_false]
      exact PO_i rfl (OK_th o1)
  · simp only [if_neg h, bdN_s]
    exact PO_1 (OK_th (OK_r hi))
theorem WBF_rf {r : Int → Int} {v : Int} (w : WBF r) (hp : 0 ≤ p ∧ p < r 0) : WBF (u1 r (340 + p) v) := by
  have hM := w.1.1
  exact WBF_eq w (WB_eq w.1 (fun k hk => u1_n (by omega))) (fun k hk => u1_n (by omega))
theorem oM_accept (hi : MInv g) : PO g (fM_accept g 624 p gp) := by
  rw [fM_accept, vM_noProcess hi]
  by_cases h : 0 ≤ p ∧ p < g 625 0
  · simp only [if_pos h, bdN_s, if_true, vM_isSmall, bdP_s]
    have o1 := OK_th (t := 0) (OK_r hi)
    have hM := hi.2.1.1.1
    by_cases h1 : 0 ≤ gp ∧ gp ≤ 9
    · simp only [if_pos h1, f0, if_false, jM_accept_21, kd_c624, if_true, vM_fails (Or.inl rfl), bdN_s]
      have hr := vM_runs (g := th g 0) (p := p) o1.1.1 (by omega)
      by_cases h2 : (th g 0) 625 (140 + p) = 0
      · simp only [hr, h2, bdP_s, if_true, if_false, f0, jM_accept_42, kd_c624, vM_fails (Or.inl rfl), bdN_s]
        obtain ⟨G, r1, r2, r3, r4, -⟩ := OK_rem o1
        have w := r2.1.2.1
        have h04 := r2.1.1.1
        have hp : 0 ≤ p ∧ p < G 625 0 := by rw [r3, th_n (by omega)]; exact h
        have hM1 := w.1.1
        rw [r1, bdN_s, vM_refuses r2.1.1 (by omega), bdP_s]
        simp (disch := omega) only [h04, kd_625, sz_625, w32_r, true_and, le_t, lt_t, and_true, ↓reduceIte, ↓bnd_s, pU_625]
        exact PO_i rfl (OK_sw r2 (WBF_rf w hp))
      · simp only [hr, h2, bdP_s, if_true, if_false, jM_accept_42, kd_c624, vM_fails (Or.inr rfl), bdN_s, f0]
        exact PO_i rfl (OK_th o1)
    · simp only [if_neg h1, if_true, jM_accept_21, kd_c624, vM_fails (Or.inr rfl), bdN_s, f0, if_false]
      exact PO_i rfl (OK_th o1)
  · simp only [if_neg h, bdN_s]
    exact PO_1 (OK_th (OK_r hi))
/-- a capacity or a budget set -/
theorem oM_sets (hi : MInv g) (hf : k = 100 ∨ k = 220) : PO g (fM_sets g 624 k p c) := by
  rw [fM_sets, vM_noProcess hi]
  by_cases h : 0 ≤ p ∧ p < g 625 0
  · simp only [if_pos h, bdN_s, if_true, vM_isSmall, bdP_s]
    have o1 := OK_th (t := 0) (OK_r hi)
    have hM := hi.2.1.1.1
    by_cases h1 : 0 ≤ c ∧ c ≤ 9
    · simp only [if_pos h1, f0, if_false, jM_sets_21, kd_c624, if_true, vM_fails (Or.inl rfl), bdN_s]
      have hr := vM_runs (g := th g 0) (p := p) o1.1.1 (by omega)
      by_cases h2 : (th g 0) 625 (140 + p) = 0
      · simp only [hr, h2, bdP_s, if_true, if_false, f0, jM_sets_42, kd_c624, vM_fails (Or.inl rfl), bdN_s]
        obtain ⟨G, r1, r2, r3, r4, -⟩ := OK_rem o1
        have w := r2.1.2.1
        have h04 := r2.1.1.1
        have hp : 0 ≤ p ∧ p < G 625 0 := by rw [r3, th_n (by omega)]; exact h
        have hM1 := w.1.1
        rw [r1, bdN_s]
        simp (disch := omega) only [h04, kd_625, sz_625, w32_r, true_and, le_t, lt_t, and_true, ↓reduceIte, ↓bnd_s, pU_625]
        refine PO_i rfl (OK_sw r2 ?_)
        rcases hf with rfl | rfl
        · refine WBF_eq w ?_ (fun k hk => u1_n (by omega))
          obtain ⟨b1, b2, b3, b4, b5, b6, b7⟩ := w.1
          have e0 : u1 (G 625) (100 + p) c 0 = G 625 0 := u1_n (by omega)
          refine ⟨by rw [e0]; exact b1, ?_, ?_, by rw [u1_n (by omega)]; exact b4, ?_, ?_, ?_⟩
          · intro i i0 i1
            rw [e0] at i1 ⊢
            rw [u1_n (by omega)]
            exact b2 i i0 i1
          · rw [e0]
            exact acy_ext b3 b2 (fun i i0 i1 => u1_n (by omega))
          · intro i i0 i1
            rw [e0] at i1 ⊢
            rw [u1_n (by omega)]
            exact b5 i i0 i1
          · intro i d i0 i1 d0 d1
            rw [e0] at i1 ⊢
            rw [u1_n (by omega)]
            exact b6 i d i0 i1 d0 d1
          · intro i i0 i1
            rw [e0] at i1
            by_cases e : i = p
            · rw [e, u1_s]; exact h1
            · rw [u1_n (by omega)]; exact b7 i i0 i1
        · obtain ⟨hb0, hS, hSR, hX, hL, hN, hH, hC, hB⟩ := w
          have e0 : u1 (G 625) (220 + p) c 0 = G 625 0 := u1_n (by omega)
          have hb1 : WB (u1 (G 625) (220 + p) c) := WB_eq hb0 (fun k hk => u1_n (by omega))
          refine ⟨hb1, ⟨?_, ?_⟩, ?_, ⟨?_, ?_⟩, ?_, ?_, ?_, ?_, ?_⟩
          · intro i i0 i1
            rw [e0] at i1
            rw [u1_n (by omega)]; exact hS.1 i i0 i1
          · rw [u1_n (by omega)]; exact hS.2
          · intro i i0 i1 i2
            rw [e0] at i1
            have := hb0.2.1 i i0 i1
            rw [u1_n (by omega)] at i2
            rw [u1_n (show ¬ 60 + i = 220 + p by omega), u1_n (by omega)]
            exact hSR i i0 i1 i2
          · rw [u1_n (by omega)]; exact hX.1
          · intro k k0 k1
            rw [u1_n (by omega)] at k1
            have := hX.1
            rw [u1_n (by omega), e0]
            exact hX.2 k k0 k1
          · intro i i0 i1 i2
            rw [e0] at i1
            rw [u1_n (by omega)] at i2
            obtain ⟨k, k0, k1, k2⟩ := hL i i0 i1 i2
            have := hX.1
            exact ⟨k, k0, by rw [u1_n (by omega)]; exact k1, by rw [u1_n (by omega)]; exact k2⟩
          · show u1 (G 625) (220 + p) c 1 = _
            rw [u1_n (by omega), cn_eq_st e0 hM1.2 (fun k k0 k1 => u1_n (by omega))]
            exact hN
          · intro d d0 d1
            have := hH d d0 d1
            rw [u1_n (show ¬ 11 + d = 220 + p by omega), e0, u1_n (by omega)]
            exact this
          · intro i i0 i1 i2
            rw [e0] at i1
            rw [u1_n (by omega)] at i2
            rw [u1_n (by omega)]
            exact hC i i0 i1 i2
          · intro i i0 i1
            rw [e0] at i1
            by_cases e : i = p
            · rw [e, u1_s]; exact h1
            · rw [u1_n (by omega)]; exact hB i i0 i1
      · simp only [hr, h2, bdP_s, if_true, if_false, jM_sets_42, kd_c624, vM_fails (Or.inr rfl), bdN_s, f0]
        exact PO_i rfl (OK_th o1)
    · simp only [if_neg h1, if_true, jM_sets_21, kd_c624, vM_fails (Or.inr rfl), bdN_s, f0, if_false]
      exact PO_i rfl (OK_th o1)
  · simp only [if_neg h, bdN_s]
    exact PO_1 (OK_th (OK_r hi))
theorem PO_bd {X : Option (Int × gH)} (h : PO g X) : PO g (bdN X (fun y g3 => some (y, g3))) := by
  obtain ⟨v, g', e, h1, h2, h3⟩ := h
  rw [e, bdN_s]
  exact ⟨v, g', rfl, h1, h2, h3⟩
theorem oM_setCapacity (hi : MInv g) : PO g (fM_setCapacity g 624 p c) := PO_bd (oM_sets hi (Or.inl rfl))
theorem oM_setBudget (hi : MInv g) : PO g (fM_setBudget g 624 p c) := PO_bd (oM_sets hi (Or.inr rfl))
theorem oM_setHeir (hi : MInv g) : PO g (fM_setHeir g 624 p c) := by
  rw [fM_setHeir, vM_noProcess hi]
  have hM := hi.2.1.1.1
  have o1 := OK_th (t := 0) (OK_r hi)
  have h01 := o1.1.1.1
  have e625 : (th g 0) 625 = g 625 := th_n (by omega)
  by_cases h : 0 ≤ p ∧ p < g 625 0
  · simp (disch := omega) only [if_pos h, bdN_s, ↓reduceIte, h01, kd_625, sz_625, true_and, le_t, lt_t, and_true, vM_inRange, bdP_s, e625, w32_r]
    by_cases h1 : -1 ≤ c ∧ c ≤ g 625 0 - 1
    · simp only [if_pos h1, f0, if_false, jM_setHeir_30, kd_c624, if_true, vM_fails (Or.inl rfl), bdN_s]
      by_cases h2 : p = c
      · simp only [if_pos h2, jM_setHeir_48, kd_c624, if_true, vM_fails (Or.inr rfl), bdN_s, f0, if_false]
        exact PO_i rfl (OK_th o1)
      · simp only [if_neg h2, jM_setHeir_48, kd_c624, if_true, vM_fails (Or.inl rfl), bdN_s]
        have hr := vM_runs (g := th g 0) (p := p) o1.1.1 (by omega)
        by_cases h3 : p = 0
        · simp only [h3, if_true, jM_setHeir_68, jM_setHeir_73, kd_c624, vM_fails (Or.inr rfl), bdN_s, f0, if_false]
          exact PO_i rfl (OK_th o1)
        · by_cases h4 : (th g 0) 625 (140 + p) = 0
          · simp only [hr, h4, h3, bdP_s, if_true, if_false, f0, jM_setHeir_73, kd_c624, vM_fails (Or.inl rfl), bdN_s]
            obtain ⟨G, r1, r2, r3, r4, -⟩ := OK_rem o1
            have w := r2.1.2.1
            have h04 := r2.1.1.1
            have hp : 0 ≤ p ∧ p < G 625 0 := by rw [r3, e625]; exact h
            have hM1 := w.1.1
            rw [r1, bdN_s]
            simp (disch := omega) only [h04, kd_625, sz_625, w32_r, true_and, le_t, lt_t, and_true, ↓reduceIte, ↓bnd_s, pU_625]
            refine PO_i rfl (OK_sw r2 (WBF_eq w ?_ (fun k hk => u1_n (by omega))))
            obtain ⟨b1, b2, b3, b4, b5, b6, b7⟩ := w.1
            have e0 : u1 (G 625) (260 + p) c 0 = G 625 0 := u1_n (by omega)
            refine ⟨by rw [e0]; exact b1, ?_, ?_, by rw [u1_n (by omega)]; exact b4, ?_, ?_, ?_⟩
            · intro i i0 i1
              rw [e0] at i1 ⊢
              rw [u1_n (by omega)]
              exact b2 i i0 i1
            · rw [e0]
              exact acy_ext b3 b2 (fun i i0 i1 => u1_n (by omega))
            · intro i i0 i1
              rw [e0] at i1 ⊢
              by_cases e : i = p
              · rw [e, u1_s, r3, e625]; omega
              · rw [u1_n (by omega)]; exact b5 i i0 i1
            · intro i d i0 i1 d0 d1
              rw [e0] at i1 ⊢
              rw [u1_n (by omega)]
              exact b6 i d i0 i1 d0 d1
            · intro i i0 i1
              rw [e0] at i1
              rw [u1_n (by omega)]; exact b7 i i0 i1
          · simp only [hr, h4, h3, bdP_s, if_true, if_false, jM_setHeir_68, jM_setHeir_73, kd_c624, vM_fails (Or.inr rfl), bdN_s, f0]
            exact PO_i rfl (OK_th o1)
    · simp only [if_neg h1, if_true, jM_setHeir_30, kd_c624, vM_fails (Or.inr rfl), bdN_s, f0, if_false]
      exact PO_i rfl (OK_th o1)
  · simp only [if_neg h, bdN_s]
    exact PO_1 (OK_th (OK_r hi))
theorem oM_give (hi : MInv g) : PO g (fM_give g 624 a p) := by
  have e : pU g 624 8 0 = th g 0 := rfl
  rw [fM_give, bnd_s, e]
  have o1 := OK_th (t := 0) (OK_r hi)
  have h01 := o1.1.1.1
  have hM := o1.1.2.1.1.1
  rcases vM_noDuty (g := th g 0) (a := a) (c := 1) with ⟨-, e1⟩ | ⟨h1, e1⟩
  · rw [e1, bdN_s]; exact PO_1 (OK_th o1)
  · rw [e1, bdN_s]
    refine PO_0 ?_
    simp (disch := omega) only [↓reduceIte, h01, kd_625, sz_625, true_and, le_t, lt_t, and_true, vM_inRange, bdP_s, w32_r]
    by_cases h2 : 0 ≤ p ∧ p ≤ (th g 0) 625 0 - 1
    · simp only [if_pos h2, f0, if_false, jM_give_36, kd_c624, if_true, vM_fails (Or.inl rfl), bdN_s]
      have hr := vM_runs (g := th g 0) (p := p) o1.1.1 (by omega)
      by_cases h4 : (th g 0) 625 (140 + p) = 0
      · simp only [hr, h4, bdP_s, if_true, if_false, f0, jM_give_57, kd_c624, vM_fails (Or.inl rfl), bdN_s]
        obtain ⟨G, r1, r2, r3, r4, -⟩ := OK_rem o1
        have w := r2.1.2.1
        have h04 := r2.1.1.1
        have hM1 := w.1.1
        rw [r1, bdN_s]
        simp (disch := omega) only [h04, kd_625, sz_625, w32_r, true_and, le_t, lt_t, and_true, ↓reduceIte, ↓bnd_s, pU_625]
        refine PO_i rfl (OK_sw r2 ?_)
        have e0 : u1 (G 625) (11 + a) p 0 = G 625 0 := u1_n (by omega)
        obtain ⟨hb0, hS, hSR, hX, hL, hN, hH, hC, hB⟩ := w
        refine ⟨WB_eq hb0 (fun k hk => u1_n (by omega)), ⟨?_, ?_⟩, ?_, ⟨?_, ?_⟩, ?_, ?_, ?_, ?_, ?_⟩
        · intro i i0 i1
          rw [e0] at i1
          rw [u1_n (by omega)]; exact hS.1 i i0 i1
        · rw [u1_n (by omega)]; exact hS.2
        · intro i i0 i1 i2
          rw [e0] at i1
          have := hb0.2.1 i i0 i1
          rw [u1_n (by omega)] at i2
          rw [u1_n (show ¬ 60 + i = 11 + a by omega), u1_n (by omega)]
          exact hSR i i0 i1 i2
        · rw [u1_n (by omega)]; exact hX.1
        · intro k k0 k1
          rw [u1_n (by omega)] at k1
          rw [u1_n (by omega), e0]
          exact hX.2 k k0 k1
        · intro i i0 i1 i2
          rw [e0] at i1
          rw [u1_n (by omega)] at i2
          obtain ⟨k, k0, k1, k2⟩ := hL i i0 i1 i2
          exact ⟨k, k0, by rw [u1_n (by omega)]; exact k1, by rw [u1_n (by omega)]; exact k2⟩
        · show u1 (G 625) (11 + a) p 1 = _
          rw [u1_n (by omega), cn_eq_st e0 hM1.2 (fun k k0 k1 => u1_n (by omega))]
          exact hN
        · intro d d0 d1
          by_cases e : d = a
          · rw [e, u1_s, e0, u1_n (by omega), r3]
            exact ⟨h2.1, by omega, h4⟩
          · have := hH d d0 d1
            rw [u1_n (show ¬ 11 + d = 11 + a by omega), e0, u1_n (by omega)]
            exact this
        · intro i i0 i1 i2
          rw [e0] at i1
          rw [u1_n (by omega)] at i2
          rw [u1_n (by omega)]
          exact hC i i0 i1 i2
        · intro i i0 i1
          rw [e0] at i1
          rw [u1_n (by omega)]; exact hB i i0 i1
      · simp only [hr, h4, bdP_s, if_true, if_false, jM_give_57, kd_c624, vM_fails (Or.inr rfl), bdN_s, f0]
        exact PO_i rfl (OK_th o1)
    · simp only [if_neg h2, if_true, jM_give_36, kd_c624, vM_fails (Or.inr rfl), bdN_s, f0, if_false]
      exact PO_i rfl (OK_th o1)
end MODEL13
/-! ===== the reference's calls that change: spawn, move, exchange, relieve (own work) ===== -/
section MODEL14
variable {g G : gH} {p code t c a b k q gp : Int}
theorem WBF_cm {r : Int → Int} {s cp gp bu : Int} (w : WBF r) (hM : r 0 < 40) (hs : 0 ≤ s ∧ s < r 0) (hst : r (140 + s) = 0) (hc : 0 ≤ cp ∧ cp ≤ 9) (hbu : 0 ≤ bu ∧ bu ≤ 9) : WBF (cmR r s cp gp bu) := by
  obtain ⟨hb0, hS, hSR, hX, hL, hN, hH, hC, hB⟩ := w
  have hM' : 1 ≤ r 0 ∧ r 0 < 40 := ⟨hb0.1.1, hM⟩
  obtain ⟨n1, n2, n3, n4, n5, n6⟩ := cmR_n (a := s) (c := cp) (gp := gp) (b := bu) hM'
  have ho := fun k => cmR_o (r := r) (a := s) (c := cp) (gp := gp) (b := bu) (k := k) hM'
  have hn := NX_bd ⟨hb0.1.1, hb0.1.2⟩ hS.2 hN
  have e1 : cmR r s cp gp bu 1 = r 1 := ho 1 (by omega)
  have est : ∀ i, 0 ≤ i → i < r 0 → cmR r s cp gp bu (140 + i) = r (140 + i) := fun i i0 i1 => ho _ (by omega)
  refine ⟨WB_cm hb0 hM hs hc, ⟨?_, ?_⟩, ?_, ⟨by rw [e1]; exact hX.1, ?_⟩, ?_, ?_, ?_, ?_, ?_⟩
  · intro i i0 i1
    rw [cmR_0] at i1
    by_cases e : i = r 0
    · rw [e, n3]; omega
    · rw [est i i0 (by omega)]; exact hS.1 i i0 (by omega)
  · rw [ho 140 (by omega)]; exact hS.2
  · intro i i0 i1 i2
    rw [cmR_0] at i1
    by_cases e : i = r 0
    · rw [e, n1, est s hs.1 hs.2]; exact hst
    · rw [est i (by omega) (by omega)] at i2
      rw [ho (60 + i) (by omega)]
      have := hb0.2.1 i i0 (by omega)
      rw [est _ this.1 this.2]
      exact hSR i i0 (by omega) i2
  · intro k k0 k1
    rw [e1] at k1
    rw [ho _ (by omega), cmR_0]
    have := hX.2 k k0 k1
    omega
  · intro i i0 i1 i2
    rw [cmR_0] at i1
    by_cases e : i = r 0
    · rw [e, n3] at i2; exact absurd rfl i2
    · rw [est i i0 (by omega)] at i2
      obtain ⟨k, k0, k1, k2⟩ := hL i i0 (by omega) i2
      exact ⟨k, k0, by rw [e1]; exact k1, by rw [ho _ (by omega)]; exact k2⟩
  · show cmR r s cp gp bu 1 = _
    rw [e1, cmR_0, show (r 0 + 1).toNat = (r 0).toNat + 1 by omega, cn_one, show (0 : Int) + ((r 0).toNat : Int) = r 0 by omega, hN]
    have : (!decide (cmR r s cp gp bu (140 + r 0) = 0)) = false := by rw [n3]; rfl
    rw [this, if_neg (by simp), Int.add_zero]
    exact cn_congr _ _ (fun j j0 j1 => by
      show (!decide (r (140 + j) = 0)) = !decide (cmR r s cp gp bu (140 + j) = 0)
      rw [est j j0 (by omega)])
  · intro d d0 d1
    have := hH d d0 d1
    rw [ho (11 + d) (by omega), cmR_0, est _ this.1 this.2.1]
    exact ⟨this.1, by omega, this.2.2⟩
  · intro i i0 i1 i2
    rw [cmR_0] at i1
    by_cases e : i = r 0
    · rw [e, n3] at i2; omega
    · rw [est i i0 (by omega)] at i2
      rw [ho _ (by omega)]
      exact hC i i0 (by omega) i2
  · intro i i0 i1
    rw [cmR_0] at i1
    by_cases e : i = r 0
    · rw [e, n5]; exact hbu
    · rw [ho _ (by omega)]
      exact hB i i0 (by omega)
theorem room_run {r : Int → Int} (h : ¬ room r p = 0) : r (140 + p) = 0 := by
  unfold room at h
  split at h
  · next e => exact e
  · exact absurd rfl h
theorem oM_spawn (hi : MInv g) : PO g (fM_spawn g 624 p c gp b) := by
  rw [fM_spawn, vM_noProcess hi]
  have hM := hi.2.1.1.1
  have o1 := OK_th (t := 0) (OK_r hi)
  have h01 := o1.1.1.1
  have e625 : (th g 0) 625 = g 625 := th_n (by omega)
  have bad2 : ∀ u, PO g (jM_spawn_36 (th g 0) 624 p c gp b 624 u) ∨ u ≠ 1 := by
    intro u
    by_cases hu : u = 1
    · left
      subst hu
      simp only [jM_spawn_36, kd_c624, if_true, vM_fails (Or.inr rfl), bdN_s, f0, if_false]
      exact PO_i rfl (OK_th o1)
    · exact Or.inr hu
  have bad2 : PO g (jM_spawn_36 (th g 0) 624 p c gp b 624 1) := by
    rcases bad2 1 with h | h
    · exact h
    · exact absurd rfl h
  have bad3 : PO g (jM_spawn_70 (th g 0) 624 p c gp b 624 1) := by
    simp only [jM_spawn_70, kd_c624, if_true, vM_fails (Or.inr rfl), bdN_s, f0, if_false]
    exact PO_i rfl (OK_th o1)
  by_cases h : 0 ≤ p ∧ p < g 625 0
  · simp only [if_pos h, bdN_s, if_true, vM_isSmall, bdP_s, jM_spawn_31]
    by_cases h1 : 0 ≤ c ∧ c ≤ 9
    · by_cases h2 : 0 ≤ gp ∧ gp ≤ 9
      · by_cases h3 : 0 ≤ b ∧ b ≤ 9
        · simp only [if_pos h1, if_pos h2, if_pos h3, f0, if_false, jM_spawn_36, kd_c624, if_true, vM_fails (Or.inl rfl), bdN_s, jM_spawn_65]
          have hr := vM_roomOf (g := th g 0) (p := p) o1.1.1 o1.1.2.1.1 (by rw [e625]; exact h)
          rw [hr, bdP_s]
          by_cases h4 : room ((th g 0) 625) p = 0
          · rw [if_pos h4]; exact bad3
          · rw [if_neg h4]
            simp (disch := omega) only [h01, kd_625, sz_625, true_and, le_t, lt_t, and_true, ↓reduceIte]
            by_cases h5 : (th g 0) 625 0 = 40
            · rw [if_pos h5]; exact bad3
            · rw [if_neg h5]
              have hst := room_run h4
              obtain ⟨G, r1, r2, r3, r4, -⟩ := OK_rem o1
              have w := r2.1.2.1
              have hM1 := w.1.1
              have hM40 : G 625 0 < 40 := by rw [r3]; have := o1.1.2.1.1.1; omega
              simp only [jM_spawn_70, kd_c624, if_true, vM_fails (Or.inl rfl), bdN_s, r1]
              rw [vM_comes r2.1.1 ⟨by omega, hM40⟩, bdN_s]
              refine PO_i rfl (OK_sw r2 (WBF_cm w hM40 ?_ ?_ h1 h3))
              · rw [r3, e625]; exact h
              · rw [r3]; exact hst
        · simp only [if_pos h1, if_pos h2, if_neg h3, f0, if_false, if_true]; exact bad2
      · simp only [if_pos h1, if_neg h2, f0, if_false, if_true]; exact bad2
    · simp only [if_neg h1, if_true]; exact bad2
  · simp only [if_neg h, bdN_s]
    exact PO_1 (OK_th (OK_r hi))
theorem th0 : pU (th g t) 624 8 c = th g c := th_th
theorem vM_noProcess2 (hi : MInv g) : fM_noProcess (th g 0) 624 p = some (if 0 ≤ p ∧ p < g 625 0 then 0 else 1, if 0 ≤ p ∧ p < g 625 0 then th g 0 else th g 1) := by
  have h := vM_noProcess (g := th g 0) (p := p) (MInv_th hi)
  rw [th_n (show ¬ (625 : Int) = 624 by omega)] at h
  rw [h, show th (th g 0) 0 = th g 0 from th_th, show th (th g 0) 1 = th g 1 from th_th]
theorem oM_move (hi : MInv g) : PO g (fM_move g 624 p q) := by
  rw [fM_move, vM_noProcess hi]
  have hM := hi.2.1.1.1
  have o1 := OK_th (t := 0) (OK_r hi)
  have h01 := o1.1.1.1
  have e625 : (th g 0) 625 = g 625 := th_n (by omega)
  have bad : PO g (jM_move_84 (th g 0) 624 p q 624 1) := by
    simp only [jM_move_84, kd_c624, if_true, vM_fails (Or.inr rfl), bdN_s, f0, if_false]
    exact PO_i rfl (OK_th o1)
  by_cases h : 0 ≤ p ∧ p < g 625 0
  · simp only [if_pos h, bdN_s, if_true, vM_noProcess2 hi]
    by_cases hq : 0 ≤ q ∧ q < g 625 0
    · simp only [if_pos hq, bdN_s, if_true, jM_move_79]
      have hr := vM_runs (g := th g 0) (p := p) o1.1.1 (by omega)
      have hrq := vM_runs (g := th g 0) (p := q) o1.1.1 (by omega)
      have hov := vM_isOver (g := th g 0) (p := p) (x := q) o1.1.1 (o1.1.2.1.1.2.2.1 q hq.1 (by rw [e625]; exact hq.2))
      have hro := vM_roomOf (g := th g 0) (p := q) o1.1.1 o1.1.2.1.1 (by rw [e625]; exact hq)
      have hrf := vM_refuses (g := th g 0) (p := q) (a := (th g 0) 625 (180 + p)) o1.1.1 (by omega)
      by_cases h3 : p = 0
      · rw [if_pos h3]; exact bad
      · rw [if_neg h3, hr, bdP_s]
        by_cases h4 : (th g 0) 625 (140 + p) = 0
        · simp only [if_pos h4, f0, if_false, hrq, bdP_s]
          by_cases h5 : (th g 0) 625 (140 + q) = 0
          · simp only [if_pos h5, f0, if_false]
            by_cases h6 : p = q
            · rw [if_pos h6]; exact bad
            · rw [if_neg h6, hov, bdP_s]
              cases h7 : OV (up ((th g 0) 625)) p q with
              | true => simp only [if_true, f0, if_false]; exact bad
              | false =>
                simp only [Bool.false_eq_true, if_false, if_true, hro, bdP_s]
                by_cases h8 : room ((th g 0) 625) q = 0
                · rw [if_pos h8]; exact bad
                · rw [if_neg h8]
                  simp (disch := omega) only [h01, kd_625, sz_625, w32_r, true_and, le_t, lt_t, and_true, ↓reduceIte, hrf, bdP_s]
                  cases h9 : rfs ((th g 0) 625) q ((th g 0) 625 (180 + p)) with
                  | true => simp only [if_true, f0, if_false]; exact bad
                  | false =>
                    simp only [Bool.false_eq_true, if_false, if_true, jM_move_84, kd_c624, vM_fails (Or.inl rfl), bdN_s]
                    obtain ⟨G, r1, r2, r3, r4, -⟩ := OK_rem o1
                    have w := r2.1.2.1
                    have h04 := r2.1.1.1
                    rw [r1, bdN_s]
                    simp (disch := omega) only [h04, kd_625, sz_625, w32_r, true_and, le_t, lt_t, and_true, ↓reduceIte, ↓bnd_s, pU_625]
                    refine PO_i rfl (OK_sw r2 (WBF_sup w (c := p) (t := q) ?_ ?_ (fun z => h6 z.symm) ?_ ?_ u1_s (fun k k1 k2 k3 k4 => u1_n k4)))
                    · rw [r3, e625]; omega
                    · rw [r3, e625]; exact hq
                    · rw [r3]; exact h7
                    · rw [r3]; exact h5
          · simp only [if_neg h5, if_true]; exact bad
        · simp only [if_neg h4, if_true]; exact bad
    · simp only [if_neg hq, bdN_s]
      exact PO_1 (OK_th (OK_r hi))
  · simp only [if_neg h, bdN_s]
    exact PO_1 (OK_th (OK_r hi))
theorem oM_relieve (hi : MInv g) : PO g (fM_relieve g 624 p) := by
  rw [fM_relieve]
  rcases vM_notExiting (p := p) (c := 2) hi with ⟨-, e⟩ | ⟨-, -, e⟩ | ⟨h1, h2, e⟩
  · rw [e, bdN_s]; exact PO_1 (OK_th (OK_r hi))
  · rw [e, bdN_s]; exact PO_1 (OK_th (OK_r hi))
  · rw [e, bdN_s]
    refine PO_0 ?_
    obtain ⟨G, r1, r2, r3, r4, -⟩ := OK_rem (OK_th (t := 0) (OK_r hi))
    rw [th_n (by omega)] at r3
    rw [← r3] at h1
    have w := r2.1.2.1
    have h04 := r2.1.1.1
    have hM1 := w.1.1
    rw [r1, bdN_s]
    simp (disch := omega) only [h04, kd_625, sz_625, w32_r, true_and, le_t, lt_t, and_true, ↓reduceIte]
    have key : ∀ (m n : Nat) (k n0 : Int) (i : Int → Int), k.toNat = m → m < n → k < G 625 0 → WBF i → i 0 = G 625 0 → ∃ v i', lM_relieve_26 624 p n n0 k (sw G i) = some (v, sw G i') ∧ WBF i' := by
      intro m
      induction m with
      | zero =>
        intro n k n0 i hk hn hkM hw hi0
        obtain ⟨n, rfl⟩ : ∃ j, n = j + 1 := ⟨n - 1, by omega⟩
        refine ⟨n0, i, ?_, hw⟩
        show bM_relieve_26 624 p (lM_relieve_26 624 p n) n0 k (sw G i) = _
        rw [bM_relieve_26, if_neg (by omega)]
      | succ m ih =>
        intro n k n0 i hk hn hkM hw hi0
        obtain ⟨n, rfl⟩ : ∃ j, n = j + 1 := ⟨n - 1, by omega⟩
        have hic := vM_isChild (g := sw G i) (p := k) (a := p) (st := 0) (MS_sw r2.1.1) (by omega)
        have hch := vM_childrenOf (g := sw G i) (a := p) (st := 0) (MS_sw r2.1.1) (by rw [sw_s]; exact hw.1.1)
        rw [sw_s] at hic hch
        have hM2 := hw.1.1
        have e26 : lM_relieve_26 624 p (n + 1) n0 k (sw G i) = bM_relieve_26 624 p (lM_relieve_26 624 p n) n0 k (sw G i) := rfl
        rw [e26, bM_relieve_26, if_pos (by omega), hic, bdP_s, w32_r (show -2147483648 ≤ k + -1 ∧ k + -1 < 2147483648 by omega)]
        by_cases c1 : ic i k p 0 = true
        · by_cases c2 : i (100 + p) < kids i p 0
          · have hAD := (vM_adopterOf (g := sw G i) (o := k) (wo := p) (MS_sw r2.1.1) (by rw [sw_s]; exact hw.1) (by rw [sw_s]; omega) (by rw [sw_s]; omega)).1
            rw [sw_s, sw_n (show ¬ (630 : Int) = 625 by omega)] at hAD
            have had := vM_adopts (g := sw G i) (p := AD i (G 630) k p) (o := k) (MS_sw r2.1.1) (by omega)
            rw [sw_s, sw_sw] at had
            simp (disch := omega) only [c1, c2, hch, sw_n, sw_s, h04, kd_625, sz_625, w32_r (show -2147483648 ≤ 100 + p ∧ 100 + p < 2147483648 by omega), true_and, le_t, lt_t, and_true, ↓reduceIte, bdP_s, f0, hAD, had, bdN_s]
            exact ih n (k + -1) _ _ (by omega) (by omega) (by omega) (WBF_ad hw (by omega) r2.1.1 (by omega)) ((adR_n (by omega)).trans hi0)
          · simp (disch := omega) only [c1, c2, hch, sw_n, sw_s, h04, kd_625, sz_625, w32_r, true_and, le_t, lt_t, and_true, ↓reduceIte, bdP_s, f0]
            exact ih n (k + -1) _ _ (by omega) (by omega) (by omega) hw hi0
        · simp only [c1, Bool.false_eq_true, if_false, if_true]
          exact ih n (k + -1) _ _ (by omega) (by omega) (by omega) hw hi0
    obtain ⟨v, i', e1, e2⟩ := key (G 625 0 - 1).toNat fu (G 625 0 - 1) 0 (G 625) (by omega) (by have := fu_ge; omega) (by omega) w rfl
    rw [sw_id] at e1
    exact PO_i e1 (OK_sw r2 e2)
end MODEL14
/-! ===== the reference's calls that change: kill, prune, exchange, undo, saved state (own work) ===== -/
def zd (G : gH) : gH := fun x => if x = 630 then fun _ => 0 else G x
section MODEL15
variable {g G : gH} {p code t c a b k q gp : Int}
theorem zd_n {x : Int} (h : ¬ x = 630) : zd G x = G x := if_neg h
theorem zd_s {i : Int} : zd G 630 i = 0 := rfl
theorem zd_sw {r : Int → Int} : zd (sw (exG G p code) r) = sw (zd G) r := by
  funext x
  by_cases h : x = 625
  · subst h
    rw [zd_n (by omega), sw_s, sw_s]
  · rw [sw_n h]
    by_cases h2 : x = 630
    · subst h2
      funext i
      rfl
    · rw [zd_n h2, zd_n h2, sw_n h, exG_n h2]
theorem OK_zd (h : OKg g G) : OKg g (zd G) := by
  obtain ⟨⟨h1, h2, h3, h4, h6, h7, h8⟩, m, i⟩ := h
  refine ⟨?_, fun x hx => (zd_n (by omega)).trans (m x hx), KI_e i (fun k k0 k1 => by rw [zd_n (by omega)]) (zd_n (by omega))⟩
  unfold MInv MS
  simp (disch := omega) only [zd_n, zd_s]
  exact ⟨h1, h2, fun _ _ _ => trivial, h4, h6, h7, h8⟩
theorem OK_z {G' : gH} (h : OKg g (zd G)) (he : ∀ x, ¬ x = 630 → G' x = G x) (hz : ∀ i, 0 ≤ i → i < 40 → G' 630 i = 0) : OKg g G' := by
  obtain ⟨⟨h1, h2, h3, h4, h6, h7, h8⟩, m, i⟩ := h
  unfold MS at h1
  simp (disch := omega) only [zd_n] at h1 h2 h4 h6 h7 h8 i
  refine ⟨?_, fun x hx => by rw [he x (by omega), ← zd_n (G := G) (show ¬ x = 630 by omega)]; exact m x hx, KI_e i (fun k k0 k1 => by rw [he 624 (by omega), zd_n (by omega)]) (by rw [he 631 (by omega), zd_n (by omega)])⟩
  unfold MInv MS
  simp (disch := omega) only [he]
  exact ⟨h1, h2, hz, h4, h6, h7, h8⟩
theorem exz_OK (h : OKg g (zd G)) (hp : 0 < p ∧ p < G 625 0) (hst : G 625 (140 + p) = 0) (hc : 0 ≤ code ∧ code ≤ 255) : ∃ v G', fM_exits G 624 p code = some (v, G') ∧ OKg g (zd G') ∧ G' 625 1 = G 625 1 + 1 ∧ (G 625 0 ≤ G' 625 0) ∧ (∀ i, 0 ≤ i → i < G 625 0 → i ≠ p → G 625 (140 + i) = 0 → G' 625 (140 + i) = 0) ∧ (∀ i, i < G 625 0 → G' 630 i = G 630 i) ∧ (∀ x, ¬ x = 625 → ¬ x = 630 → G' x = G x) := by
  have w := h.1.2.1
  rw [zd_n (by omega)] at w
  have hs : MS G := by
    have := h.1.1
    unfold MS at this ⊢
    simp (disch := omega) only [zd_n] at this
    exact this
  obtain ⟨e1, e2, e3, e4, e5, e6, e7⟩ := vM_exits (g := G) hs w.1 w.2 hp hst hc
  refine ⟨_, _, e1, ?_, by rw [sw_s]; exact e4, by rw [sw_s]; exact e5.1, fun i i0 i1 i2 i3 => by rw [sw_s]; exact e6 i i0 i1 i2 i3, fun i i0 => ?_, fun x x1 x2 => by rw [sw_n x1, exG_n x2]⟩
  · rw [zd_sw]
    exact OK_sw h ⟨e2, e3⟩
  · rw [sw_n (by omega)]
    unfold exG
    split
    · rw [pU_s, u1_n (by omega)]
    · rfl
theorem vM_kills (h : OKg g G) (hc : 0 ≤ code ∧ code ≤ 255) : ∃ v G', fM_kills G 624 gp code = some (v, G') ∧ OKg g G' ∧ (∀ x, ¬ x = 625 → ¬ x = 630 → G' x = G x) := by
  have hs := h.1.1
  have h0 := hs.1
  have h5 := hs.2.2.2.2.1
  have w := h.1.2.1
  have hM := w.1.1
  rw [fM_kills]
  simp (disch := omega) only [h0, kd_625, sz_625, true_and, le_t, lt_t, and_true, ↓reduceIte]
  -- who is doomed
  obtain ⟨G1, a1, -, -, a2, a3⟩ := for_some (L := fun n k G' => lM_kills_13 624 gp code (G 625 0) 0 n k G') (E := fun G' => lM_kills_76 624 code (G 625 0) fu 0 1 G') 40 (fun k G' => 0 ≤ k ∧ k ≤ 40 ∧ (∀ x, ¬ x = 630 → G' x = G x) ∧ ∀ i, 0 ≤ i → i < k → (G' 630 i = 0 ∨ (0 < i ∧ i < G 625 0 ∧ G 625 (140 + i) = 0))) (fun n k G' hk hI => by
    obtain ⟨k0, k1, i1, i2⟩ := hI
    have g0 : G' 624 0 = 625 := by rw [i1 624 (by omega)]; exact h0
    have g5 : G' 624 5 = 630 := by rw [i1 624 (by omega)]; exact h5
    have g25 : G' 625 = G 625 := i1 625 (by omega)
    have inv : ∀ v, (v = 0 ∨ (0 < k ∧ k < G 625 0 ∧ G 625 (140 + k) = 0)) → 0 ≤ k + 1 ∧ k + 1 ≤ 40 ∧ (∀ x, ¬ x = 630 → pU G' 630 k v x = G x) ∧ ∀ i, 0 ≤ i → i < k + 1 → (pU G' 630 k v 630 i = 0 ∨ (0 < i ∧ i < G 625 0 ∧ G 625 (140 + i) = 0)) := by
      intro v hv
      refine ⟨by omega, by omega, fun x hx => (pU_n hx).trans (i1 x hx), fun i i0 i3 => ?_⟩
      rw [pU_s]
      by_cases e : i = k
      · subst e
        rw [u1_s]
        exact hv
      · rw [u1_n e]
        exact i2 i i0 (by omega)
    have step : lM_kills_13 624 gp code (G 625 0) 0 (n + 1) k G' = bM_kills_13 624 gp code (G 625 0) 0 (lM_kills_13 624 gp code (G 625 0) 0 n) k G' := rfl
    have hr := vM_runs (g := G') (p := k) (by unfold MS; rw [i1 624 (by omega)]; exact hs) (by omega)
    rw [g25] at hr
    by_cases c1 : 0 < k
    · by_cases c2 : k < G 625 0
      · by_cases c3 : G 625 (140 + k) = 0
        · by_cases c4 : G 625 (180 + k) = gp
          · refine ⟨pU G' 630 k 1, ?_, inv 1 (Or.inr ⟨c1, c2, c3⟩)⟩
            show lM_kills_13 624 gp code (G 625 0) 0 (n + 1) k G' = _
            rw [step, bM_kills_13]
            simp (disch := omega) only [hk, c1, c2, c3, c4, hr, bdP_s, g0, g5, g25, kd_625, sz_625, kd_630, sz_630, w32_r, true_and, le_t, lt_t, and_true, ↓reduceIte, ↓bnd_s, f0]
          · refine ⟨pU G' 630 k 0, ?_, inv 0 (Or.inl rfl)⟩
            show lM_kills_13 624 gp code (G 625 0) 0 (n + 1) k G' = _
            rw [step, bM_kills_13]
            simp (disch := omega) only [hk, c1, c2, c3, c4, hr, bdP_s, g0, g5, g25, kd_625, sz_625, kd_630, sz_630, w32_r, true_and, le_t, lt_t, and_true, ↓reduceIte, ↓bnd_s, f0]
        · refine ⟨pU G' 630 k 0, ?_, inv 0 (Or.inl rfl)⟩
          show lM_kills_13 624 gp code (G 625 0) 0 (n + 1) k G' = _
          rw [step, bM_kills_13]
          simp (disch := omega) only [hk, c1, c2, c3, hr, bdP_s, g0, g5, g25, kd_625, sz_625, kd_630, sz_630, w32_r, true_and, le_t, lt_t, and_true, ↓reduceIte, ↓bnd_s, f0]
      · refine ⟨pU G' 630 k 0, ?_, inv 0 (Or.inl rfl)⟩
        show lM_kills_13 624 gp code (G 625 0) 0 (n + 1) k G' = _
        rw [step, bM_kills_13]
        simp (disch := omega) only [hk, c1, c2, g0, g5, kd_630, sz_630, w32_r, true_and, le_t, lt_t, and_true, ↓reduceIte, ↓bnd_s]
    · refine ⟨pU G' 630 k 0, ?_, inv 0 (Or.inl rfl)⟩
      show lM_kills_13 624 gp code (G 625 0) 0 (n + 1) k G' = _
      rw [step, bM_kills_13]
      simp (disch := omega) only [hk, c1, g0, g5, kd_630, sz_630, w32_r, true_and, le_t, lt_t, and_true, ↓reduceIte, ↓bnd_s]) (fun n k G' hk hI => by
    show bM_kills_13 624 gp code (G 625 0) 0 (lM_kills_13 624 gp code (G 625 0) 0 n) k G' = _
    rw [bM_kills_13, if_neg hk]) 40 0 G fu (by omega) (by have := fu_ge; omega) ⟨by omega, by omega, fun _ _ => rfl, fun i i0 i1 => absurd i0 (by omega)⟩
  have z1 : zd G1 = zd G := by
    funext x
    by_cases hx : x = 630
    · subst hx; rfl
    · rw [zd_n hx, zd_n hx, a2 x hx]
  -- they exit
  obtain ⟨⟨n2, G2⟩, b1, -, b2, b3, b4, b5⟩ := for_some (L := fun n k (s : Int × gH) => lM_kills_76 624 code (G 625 0) n s.1 k s.2) (E := fun s => lM_kills_128 624 s.1 fu 0 s.2) (G 625 0) (fun k s => 1 ≤ k ∧ OKg g (zd s.2) ∧ G 625 0 ≤ s.2 625 0 ∧ (∀ i, k ≤ i → i < G 625 0 → s.2 630 i = 0 ∨ (0 < i ∧ s.2 625 (140 + i) = 0)) ∧ (∀ x, ¬ x = 625 → ¬ x = 630 → s.2 x = G x)) (fun n k s hk hI => by
    obtain ⟨n0, G'⟩ := s
    obtain ⟨k0, i1, i2, i3, i4⟩ := hI
    have i2 : G 625 0 ≤ G' 625 0 := i2
    have i1 : OKg g (zd G') := i1
    have i4 : ∀ x, ¬ x = 625 → ¬ x = 630 → G' x = G x := i4
    have i3 : ∀ i, k ≤ i → i < G 625 0 → G' 630 i = 0 ∨ (0 < i ∧ G' 625 (140 + i) = 0) := i3
    have g5 : G' 624 5 = 630 := by rw [i4 624 (by omega) (by omega)]; exact h5
    have step : lM_kills_76 624 code (G 625 0) (n + 1) n0 k G' = bM_kills_76 624 code (G 625 0) (lM_kills_76 624 code (G 625 0) n) n0 k G' := rfl
    by_cases c1 : G' 630 k = 0
    · refine ⟨(n0, G'), ?_, by omega, i1, i2, fun i j0 j1 => i3 i (by omega) j1, i4⟩
      show lM_kills_76 624 code (G 625 0) (n + 1) n0 k G' = _
      rw [step, bM_kills_76]
      simp (disch := omega) only [hk, c1, g5, kd_630, sz_630, w32_r, true_and, le_t, lt_t, and_true, ↓reduceIte]
    · have hst : G' 625 (140 + k) = 0 := by
        rcases i3 k (by omega) hk with e | e
        · exact absurd e c1
        · exact e.2
      obtain ⟨v, G3, e1, e2, e3, e4, e5, e6, e7⟩ := exz_OK (code := code) i1 (p := k) (by omega) hst hc
      have inv : 1 ≤ k + 1 ∧ OKg g (zd G3) ∧ G 625 0 ≤ G3 625 0 ∧ (∀ i, k + 1 ≤ i → i < G 625 0 → G3 630 i = 0 ∨ (0 < i ∧ G3 625 (140 + i) = 0)) ∧ (∀ x, ¬ x = 625 → ¬ x = 630 → G3 x = G x) := by
        refine ⟨by omega, e2, by omega, fun i j0 j1 => ?_, fun x x1 x2 => (e7 x x1 x2).trans (i4 x x1 x2)⟩
        rcases i3 i (by omega) j1 with e | e
        · left; rw [e6 i (by omega)]; exact e
        · right; exact ⟨e.1, e5 i (by omega) (by omega) (by omega) e.2⟩
      by_cases c2 : v < 0
      · refine ⟨(w32 (n0 + 0), G3), ?_, inv⟩
        show lM_kills_76 624 code (G 625 0) (n + 1) n0 k G' = _
        rw [step, bM_kills_76]
        simp (disch := omega) only [hk, c1, c2, g5, kd_630, sz_630, w32_r (show -2147483648 ≤ k + 1 ∧ k + 1 < 2147483648 by omega), true_and, le_t, lt_t, and_true, ↓reduceIte, e1, bdN_s]
      · refine ⟨(w32 (n0 + 1), G3), ?_, inv⟩
        show lM_kills_76 624 code (G 625 0) (n + 1) n0 k G' = _
        rw [step, bM_kills_76]
        simp (disch := omega) only [hk, c1, c2, g5, kd_630, sz_630, w32_r (show -2147483648 ≤ k + 1 ∧ k + 1 < 2147483648 by omega), true_and, le_t, lt_t, and_true, ↓reduceIte, e1, bdN_s]) (fun n k s hk hI => by
    obtain ⟨n0, G'⟩ := s
    show bM_kills_76 624 code (G 625 0) (lM_kills_76 624 code (G 625 0) n) n0 k G' = _
    rw [bM_kills_76, if_neg hk]) (G 625 0 - 1).toNat 1 (0, G1) fu (by omega) (by have := fu_ge; omega) ⟨by omega, by
      show OKg g (zd G1)
      rw [z1]; exact OK_zd h, by
      show G 625 0 ≤ G1 625 0
      rw [a2 625 (by omega)]; exact Int.le_refl _, fun i j0 j1 => by
      show G1 630 i = 0 ∨ (0 < i ∧ G1 625 (140 + i) = 0)
      rw [a2 625 (by omega)]
      rcases a3 i (by omega) (by omega) with e | e
      · exact Or.inl e
      · exact Or.inr ⟨e.1, e.2.2⟩, fun x x1 x2 => a2 x x2⟩
  have b3 : OKg g (zd G2) := b2
  have b6 : ∀ x, ¬ x = 625 → ¬ x = 630 → G2 x = G x := b5
  -- nobody is doomed any more
  obtain ⟨G4, d1, -, -, d2, d3⟩ := for_some (L := fun n k G' => lM_kills_128 624 n2 n k G') (E := fun G' => some (n2, G')) 40 (fun k G' => 0 ≤ k ∧ k ≤ 40 ∧ (∀ x, ¬ x = 630 → G' x = G2 x) ∧ ∀ i, 0 ≤ i → i < k → G' 630 i = 0) (fun n k G' hk hI => by
    obtain ⟨k0, k1, i1, i2⟩ := hI
    have g5 : G' 624 5 = 630 := by rw [i1 624 (by omega), b6 624 (by omega) (by omega)]; exact h5
    refine ⟨pU G' 630 k 0, ?_, by omega, by omega, fun x hx => (pU_n hx).trans (i1 x hx), fun i i0 i3 => ?_⟩
    · show bM_kills_128 624 n2 (lM_kills_128 624 n2 n) k G' = _
      rw [bM_kills_128]
      simp (disch := omega) only [hk, g5, kd_630, sz_630, w32_r, true_and, le_t, lt_t, and_true, ↓reduceIte, ↓bnd_s]
    · rw [pU_s]
      by_cases e : i = k
      · rw [e, u1_s]
      · rw [u1_n e]; exact i2 i i0 (by omega)) (fun n k G' hk hI => by
    show bM_kills_128 624 n2 (lM_kills_128 624 n2 n) k G' = _
    rw [bM_kills_128, if_neg hk]) 40 0 G2 fu (by omega) (by have := fu_ge; omega) ⟨by omega, by omega, fun _ _ => rfl, fun i i0 i1 => absurd i0 (by omega)⟩
  refine ⟨n2, G4, ?_, OK_z b3 d2 (fun i i0 i1 => d3 i i0 (by omega)), fun x x1 x2 => (d2 x x2).trans (b6 x x1 x2)⟩
  rw [a1]
  exact b1.trans d1
theorem oM_kill (hi : MInv g) : PO g (fM_kill g 624 a code) := by
  rw [fM_kill]
  rcases vM_noKill (g := g) (a := a) (code := code) with ⟨-, e⟩ | ⟨h1, e⟩
  · rw [e, bdN_s]; exact PO_1 (OK_th (OK_r hi))
  · rw [e, bdN_s]
    refine PO_0 ?_
    obtain ⟨G, r1, r2, r3, r4, -⟩ := OK_rem (OK_th (t := 0) (OK_r hi))
    obtain ⟨v, G', e1, e2, -⟩ := vM_kills (gp := a) r2 h1.2
    rw [r1, bdN_s, e1, bdN_s]
    exact PO_i rfl e2
/-- the lowest running one below -/
theorem vM_lowest (hs : MS G) (hb : WB (G 625)) : ∃ c, fM_lowestBelow G 624 p = some c ∧ (c = -1 ∨ ((0 < c ∧ c < G 625 0) ∧ G 625 (140 + c) = 0 ∧ OV (up (G 625)) p c = true)) := by
  have h0 := hs.1
  have hM := hb.1
  obtain ⟨b', e1, -, e2⟩ := for_some (L := fun n k b => lM_lowestBelow_4 G 624 p n b k) (E := some) (G 625 0) (fun k b => 1 ≤ k ∧ (b = -1 ∨ ((0 < b ∧ b < G 625 0) ∧ G 625 (140 + b) = 0 ∧ OV (up (G 625)) p b = true))) (fun n k b hk hI => by
    obtain ⟨k0, i1⟩ := hI
    have step : lM_lowestBelow_4 G 624 p (n + 1) b k = bM_lowestBelow_4 G 624 p (lM_lowestBelow_4 G 624 p n) b k := rfl
    have hr := vM_runs (g := G) (p := k) hs (by omega)
    have hov := vM_isOver (g := G) (p := p) (x := k) hs (hb.2.2.1 k (by omega) hk)
    have hd := vM_deep (g := G) (x := k) hs (hb.2.2.1 k (by omega) hk)
    show ∃ s', lM_lowestBelow_4 G 624 p (n + 1) b k = _ ∧ _
    rw [step, bM_lowestBelow_4]
    simp (disch := omega) only [h0, kd_625, sz_625, w32_r, true_and, le_t, lt_t, and_true, ↓reduceIte, hr, hov, hd, bdP_s, hk]
    by_cases c1 : G 625 (140 + k) = 0
    · cases c2 : OV (up (G 625)) p k with
      | false =>
        simp only [c1, if_true, f0, if_false, Bool.false_eq_true]
        exact ⟨b, rfl, i1⟩
      | true =>
        simp only [c1, if_true, f0, if_false]
        have hk2 : k = -1 ∨ ((0 < k ∧ k < G 625 0) ∧ G 625 (140 + k) = 0 ∧ OV (up (G 625)) p k = true) := Or.inr ⟨by omega, c1, c2⟩
        by_cases c3 : b = -1
        · simp only [if_pos c3]
          exact ⟨k, rfl, hk2⟩
        · simp only [if_neg c3]
          rcases i1 with e | e
          · exact absurd e c3
          · have hdb := vM_deep (g := G) (x := b) hs (hb.2.2.1 b (by omega) e.1.2)
            simp only [hdb, bdP_s]
            split
            · exact ⟨b, rfl, Or.inr e⟩
            · exact ⟨k, rfl, hk2⟩
    · simp only [c1, if_true, if_false]
      exact ⟨b, rfl, i1⟩) (fun n k b hk hI => by
    show bM_lowestBelow_4 G 624 p (lM_lowestBelow_4 G 624 p n) b k = some b
    rw [bM_lowestBelow_4]
    simp (disch := omega) only [h0, kd_625, sz_625, true_and, le_t, lt_t, lt_f, and_true, ↓reduceIte]) (G 625 0 - 1).toNat 1 (-1) fu (by omega) (by have := fu_ge; omega) ⟨by omega, Or.inl rfl⟩
  exact ⟨b', e1, e2⟩
theorem vM_prune_l (hc : 0 ≤ code ∧ code ≤ 255) : ∀ (m n : Nat) (n0 c : Int) (G : gH), OKg g G → 40 - G 625 1 = m → m < n → (c = -1 ∨ ((0 < c ∧ c < G 625 0) ∧ G 625 (140 + c) = 0 ∧ OV (up (G 625)) p c = true)) → PO g (lM_prune_68 624 p code n n0 c G) := by
  intro m
  induction m with
  | zero =>
    intro n n0 c G h hm hn hcc
    have w := h.1.2.1
    have := NX_bd w.1.1 w.2.1.2 w.2.2.2.2.2.1
    have := w.1.1
    omega
  | succ m ih =>
    intro n n0 c G h hm hn hcc
    obtain ⟨n, rfl⟩ : ∃ j, n = j + 1 := ⟨n - 1, by omega⟩
    have step : lM_prune_68 624 p code (n + 1) n0 c G = bM_prune_68 624 p code (lM_prune_68 624 p code n) n0 c G := rfl
    rw [step, bM_prune_68]
    rcases hcc with e | ⟨e1, e2, e3⟩
    · rw [if_pos e]; exact PO_i rfl h
    · rw [if_neg (by omega)]
      obtain ⟨v, x1, x2, x3, x4, x5⟩ := ex_OK (code := code) h e1 e2 hc
      have w := x2.1.2.1
      obtain ⟨c', l1, l2⟩ := vM_lowest (p := p) x2.1.1 w.1
      have x3' : sw (exG G c code) (exF (G 625) (G 630) c code) 625 1 = G 625 1 + 1 := by rw [sw_s]; exact x3
      rw [x1, bdN_s]
      split
      · rw [l1, bdP_s]
        exact ih n _ c' _ x2 (by omega) (by omega) l2
      · rw [l1, bdP_s]
        exact ih n _ c' _ x2 (by omega) (by omega) l2
theorem oM_prune (hi : MInv g) : PO g (fM_prune g 624 p code) := by
  rw [fM_prune, vM_noProcess hi]
  have hM := hi.2.1.1.1
  have o1 := OK_th (t := 0) (OK_r hi)
  by_cases h : 0 ≤ p ∧ p < g 625 0
  · simp only [if_pos h, bdN_s, if_true, vM_inRange, bdP_s]
    by_cases hc : 0 ≤ code ∧ code ≤ 255
    · simp only [if_pos hc, f0, if_false, jM_prune_25, kd_c624, if_true, vM_fails (Or.inl rfl), bdN_s]
      have hr := vM_runs (g := th g 0) (p := p) o1.1.1 (by omega)
      by_cases h2 : (th g 0) 625 (140 + p) = 0
      · simp only [hr, h2, bdP_s, if_true, f0, if_false, jM_prune_46, kd_c624, vM_fails (Or.inl rfl), bdN_s]
        obtain ⟨G, r1, r2, r3, r4, -⟩ := OK_rem o1
        have w := r2.1.2.1
        obtain ⟨c', l1, l2⟩ := vM_lowest (p := p) r2.1.1 w.1
        have hn := NX_bd w.1.1 w.2.1.2 w.2.2.2.2.2.1
        have hM2 := w.1.1
        rw [r1, bdN_s, l1, bdP_s]
        exact vM_prune_l hc (40 - G 625 1).toNat fu 0 c' G r2 (by omega) (by have := fu_ge; omega) l2
      · simp only [hr, h2, bdP_s, if_true, f0, if_false, jM_prune_46, kd_c624, vM_fails (Or.inr rfl), bdN_s]
        exact PO_i rfl (OK_th o1)
    · simp only [if_neg hc, if_true, jM_prune_25, kd_c624, vM_fails (Or.inr rfl), bdN_s, f0, if_false]
      exact PO_i rfl (OK_th o1)
  · simp only [if_neg h, bdN_s]
    exact PO_1 (OK_th (OK_r hi))
end MODEL15
/-! ===== the reference's calls: exchange, undo, saved state, what would be (own work) ===== -/
theorem ov_keep {f : Int → Int} {c s q : Int} : ∀ {n : Nat} {i : Int}, en f n i = true → i ≠ c → ov f n c i = false → ov (u1 f c s) n q i = ov f n q i := by
  intro n
  induction n with
  | zero => intro i _ _ _; rfl
  | succ n ih =>
    intro i h hc ho
    rcases en_s.mp h with h0 | ⟨h1, h2, h3⟩
    · unfold ov
      rw [if_pos h0, if_pos h0]
    · have ho : (if i = 0 then false else if f i = c then true else ov f n c (f i)) = false := ho
      rw [if_neg (by omega)] at ho
      show (if i = 0 then false else if u1 f c s i = q then true else ov (u1 f c s) n q (u1 f c s i)) = (if i = 0 then false else if f i = q then true else ov f n q (f i))
      have hi0 : ¬ i = 0 := by omega
      rw [if_neg hi0, if_neg hi0, u1_n hc]
      by_cases hf : f i = c
      · rw [if_pos hf] at ho; cases ho
      · rw [if_neg hf] at ho
        rw [ih h3 hf ho]
theorem up_u1 {r : Int → Int} {c s : Int} : up (u1 r (60 + c) s) = u1 (up r) c s := by
  funext i
  unfold up u1
  by_cases h : i = c
  · rw [if_pos h, if_pos (by omega)]
  · rw [if_neg h, if_neg (by omega)]
section MODEL16
variable {g G : gH} {p code t c a b k q gp d : Int}
theorem OK_633 {G' : gH} (h : OKg g G) (he : ∀ x, ¬ x = 633 → G' x = G x) : OKg g G' := by
  obtain ⟨⟨h1, h2, h3, h4, h6, h7, h8⟩, m, i⟩ := h
  refine ⟨?_, fun x hx => by rw [he x (by omega)]; exact m x hx, KI_e i (fun k k0 k1 => by rw [he 624 (by omega)]) (he 631 (by omega))⟩
  unfold MInv MS
  simp (disch := omega) only [he]
  exact ⟨h1, h2, h3, h4, h6, h7, h8⟩
/-- two exchanged -/
theorem WBF_xc {r : Int → Int} (w : WBF r) (hp : 0 < p ∧ p < r 0) (hq : 0 < q ∧ q < r 0) (hpq : p ≠ q) (h1 : r (140 + p) = 0) (h2 : r (140 + q) = 0) (o1 : OV (up r) p q = false) (o2 : OV (up r) q p = false) : WBF (u1 (u1 r (60 + p) (r (60 + q))) (60 + q) (r (60 + p))) := by
  have hM := w.1.1
  have hA := w.1.2.2.1
  have hsp := w.1.2.1 p hp.1 hp.2
  have hspu : 0 ≤ up r p ∧ up r p < r 0 := hsp
  have hsq := w.1.2.1 q hq.1 hq.2
  have rp : r (140 + r (60 + p)) = 0 := w.2.2.1 p hp.1 hp.2 (by omega)
  have rq : r (140 + r (60 + q)) = 0 := w.2.2.1 q hq.1 hq.2 (by omega)
  have e1 := OV_s (p := p) (hA q (by omega) hq.2) (by omega)
  have e2 := OV_s (p := q) (hA p (by omega) hp.2) (by omega)
  rw [o1] at e1
  rw [o2] at e2
  have n1 : up r q ≠ p := by intro e; rw [if_pos e] at e1; cases e1
  have n2 : up r p ≠ q := by intro e; rw [if_pos e] at e2; cases e2
  rw [if_neg n1] at e1
  rw [if_neg n2] at e2
  have w1 : WBF (u1 r (60 + p) (r (60 + q))) := WBF_sup w hp hsq n1 e1.symm rq u1_s (fun k k1 k2 k3 k4 => u1_n k4)
  have e0 : u1 r (60 + p) (r (60 + q)) 0 = r 0 := u1_n (by omega)
  have dpp := DP_s (hA p (by omega) hp.2) (by omega)
  have nsp : up r p ≠ p := by intro e; rw [e] at dpp; omega
  have osp : OV (up r) p (up r p) = false := by
    cases ho : OV (up r) p (up r p) with
    | false => rfl
    | true =>
      have := OV_dp (hA _ hspu.1 hspu.2) ho
      omega
  refine WBF_sup w1 (c := q) (t := r (60 + p)) (by rw [e0]; exact hq) (by rw [e0]; exact hsp) n2 ?_ ?_ u1_s (fun k k1 k2 k3 k4 => u1_n k4)
  · rw [up_u1]
    show ov (u1 (up r) p (r (60 + q))) 40 q (up r p) = false
    rw [ov_keep (hA _ hspu.1 hspu.2) nsp osp]
    exact e2.symm
  · rw [u1_n (by omega)]
    exact rp
theorem oM_exchange (hi : MInv g) : PO g (fM_exchange g 624 p q) := by
  rw [fM_exchange, vM_noProcess hi]
  have hM := hi.2.1.1.1
  have o1 := OK_th (t := 0) (OK_r hi)
  have h01 := o1.1.1.1
  have e625 : (th g 0) 625 = g 625 := th_n (by omega)
  have bad : PO g (jM_exchange_71 (th g 0) 624 p q 624 1) := by
    simp only [jM_exchange_71, kd_c624, if_true, vM_fails (Or.inr rfl), bdN_s, f0, if_false]
    exact PO_i rfl (OK_th o1)
  by_cases h : 0 ≤ p ∧ p < g 625 0
  · simp only [if_pos h, bdN_s, if_true, vM_noProcess2 hi]
    by_cases hq : 0 ≤ q ∧ q < g 625 0
    · simp only [if_pos hq, bdN_s, if_true, jM_exchange_66]
      have hA := o1.1.2.1.1.2.2.1
      have hr := vM_runs (g := th g 0) (p := p) o1.1.1 (by omega)
      have hrq := vM_runs (g := th g 0) (p := q) o1.1.1 (by omega)
      have hov := vM_isOver (g := th g 0) (p := p) (x := q) o1.1.1 (hA q hq.1 (by rw [e625]; exact hq.2))
      have hov2 := vM_isOver (g := th g 0) (p := q) (x := p) o1.1.1 (hA p h.1 (by rw [e625]; exact h.2))
      by_cases h3 : p = 0
      · rw [if_pos h3]; exact bad
      · by_cases h3q : q = 0
        · rw [if_neg h3, if_pos h3q]; exact bad
        · rw [if_neg h3, if_neg h3q, hr, bdP_s]
          by_cases h4 : (th g 0) 625 (140 + p) = 0
          · simp only [if_pos h4, f0, if_false, hrq, bdP_s]
            by_cases h5 : (th g 0) 625 (140 + q) = 0
            · simp only [if_pos h5, f0, if_false]
              by_cases h6 : p = q
              · rw [if_pos h6]; exact bad
              · rw [if_neg h6, hov, bdP_s]
                cases h7 : OV (up ((th g 0) 625)) p q with
                | true => simp only [if_true, f0, if_false]; exact bad
                | false =>
                  simp only [Bool.false_eq_true, if_false, if_true, hov2, bdP_s]
                  cases h8 : OV (up ((th g 0) 625)) q p with
                  | true => simp only [if_true, f0, if_false]; exact bad
                  | false =>
                    simp only [Bool.false_eq_true, if_false, if_true, jM_exchange_71, kd_c624, vM_fails (Or.inl rfl), bdN_s]
                    obtain ⟨G, r1, r2, r3, r4, -⟩ := OK_rem o1
                    have w := r2.1.2.1
                    have h04 := r2.1.1.1
                    have h21 := r2.1.1.2.2.2.2.2.2.2.1
                    have hM1 := w.1.1
                    have hpG : 0 < p ∧ p < G 625 0 := by rw [r3, e625]; omega
                    have hqG : 0 < q ∧ q < G 625 0 := by rw [r3, e625]; omega
                    rw [r1, bdN_s]
                    obtain ⟨G1, a1, -, a2⟩ := for_some (L := fun n k G' => lM_exchange_86 624 p q n k G') (E := fun G' => jM_exchange_125 G' 624 p q) (G 625 0) (fun k G' => 0 ≤ k ∧ ∀ x, ¬ x = 633 → G' x = G x) (fun n k G' hk hI => by
                      obtain ⟨k0, i1⟩ := hI
                      have g0 : G' 624 0 = 625 := by rw [i1 624 (by omega)]; exact h04
                      have g21 : G' 624 21 = 633 := by rw [i1 624 (by omega)]; exact h21
                      have g25 : G' 625 = G 625 := i1 625 (by omega)
                      have hs' : MS G' := by unfold MS; rw [i1 624 (by omega)]; exact r2.1.1
                      have hr' := vM_runs (g := G') (p := k) hs' (by omega)
                      have hd' := vM_deep (g := G') (x := k) hs' (by rw [g25]; exact w.1.2.2.1 k k0 hk)
                      have step : lM_exchange_86 624 p q (n + 1) k G' = bM_exchange_86 624 p q (lM_exchange_86 624 p q n) k G' := rfl
                      have inv : ∀ v, 0 ≤ k + 1 ∧ ∀ x, ¬ x = 633 → pU G' 633 k v x = G x := fun v => ⟨by omega, fun x hx => (pU_n hx).trans (i1 x hx)⟩
                      rw [g25] at hr' hd'
                      by_cases c1 : G 625 (140 + k) = 0
                      · refine ⟨pU G' 633 k (DP (up (G 625)) k), ?_, inv _⟩
                        show lM_exchange_86 624 p q (n + 1) k G' = _
                        rw [step, bM_exchange_86]
                        simp (disch := omega) only [g0, g21, g25, hr', hd', c1, bdP_s, kd_625, sz_625, kd_633, sz_633, w32_r, true_and, le_t, lt_t, and_true, ↓reduceIte, ↓bnd_s, f0]
                      · refine ⟨pU G' 633 k (-1), ?_, inv _⟩
                        show lM_exchange_86 624 p q (n + 1) k G' = _
                        rw [step, bM_exchange_86]
                        simp (disch := omega) only [g0, g21, g25, hr', hd', c1, bdP_s, kd_625, sz_625, kd_633, sz_633, w32_r, true_and, le_t, lt_t, and_true, ↓reduceIte, ↓bnd_s, f0]) (fun n k G' hk hI => by
                      have g0 : G' 624 0 = 625 := by rw [hI.2 624 (by omega)]; exact h04
                      have g25 : G' 625 = G 625 := hI.2 625 (by omega)
                      show bM_exchange_86 624 p q (lM_exchange_86 624 p q n) k G' = _
                      rw [bM_exchange_86]
                      simp (disch := omega) only [g0, g25, kd_625, sz_625, true_and, le_t, lt_t, lt_f, and_true, ↓reduceIte]) (G 625 0).toNat 0 G fu (by omega) (by have := fu_ge; omega) ⟨by omega, fun _ _ => rfl⟩
                    have ok1 := OK_633 r2 a2
                    have g0 := ok1.1.1.1
                    have g25 : G1 625 = G 625 := a2 625 (by omega)
                    have w2 := WBF_xc w hpG hqG h6 (by rw [r3]; exact h4) (by rw [r3]; exact h5) (by rw [r3]; exact h7) (by rw [r3]; exact h8)
                    rw [a1, jM_exchange_125]
                    simp (disch := omega) only [g0, g25, kd_625, sz_625, w32_r, true_and, le_t, lt_t, and_true, ↓reduceIte, ↓bnd_s, pU_625, pU_sw, sw_n, sw_s, sw_sw]
                    have ok2 := OK_sw ok1 w2
                    generalize u1 (u1 (G 625) (60 + p) (G 625 (60 + q))) (60 + q) (G 625 (60 + p)) = r' at w2 ok2
                    have hM2 := w2.1.1
                    obtain ⟨v, e1, -⟩ := for_some (L := fun n k v => lM_exchange_169 (sw G1 r') 624 n v k) (E := fun v => some (v, sw G1 r')) (r' 0) (fun k _ => 0 ≤ k) (fun n k v hk hI => by
                      have hr' := vM_runs (g := sw G1 r') (p := k) ok2.1.1 (by omega)
                      have hd' := vM_deep (g := sw G1 r') (x := k) ok2.1.1 (by rw [sw_s]; exact w2.1.2.2.1 k hI hk)
                      have g21 := ok2.1.1.2.2.2.2.2.2.2.1
                      have step : lM_exchange_169 (sw G1 r') 624 (n + 1) v k = bM_exchange_169 (sw G1 r') 624 (lM_exchange_169 (sw G1 r') 624 n) v k := rfl
                      rw [sw_s] at hr' hd'
                      rw [step, bM_exchange_169]
                      simp (disch := omega) only [sw_n, sw_s, g0, kd_625, sz_625, w32_r (show -2147483648 ≤ k + 1 ∧ k + 1 < 2147483648 by omega), true_and, le_t, lt_t, and_true, ↓reduceIte, hr', bdP_s]
                      rw [sw_n (by omega)] at g21
                      by_cases c1 : r' (140 + k) = 0
                      · simp (disch := omega) only [c1, if_true, f0, if_false, hd', bdP_s, g21, kd_633, sz_633, true_and, le_t, lt_t, and_true, ↓reduceIte]
                        split
                        · exact ⟨_, rfl⟩
                        · exact ⟨_, rfl⟩
                      · simp (disch := omega) only [c1, if_true, if_false, le_t]
                        exact ⟨_, rfl⟩) (fun n k v hk hI => by
                      show bM_exchange_169 (sw G1 r') 624 (lM_exchange_169 (sw G1 r') 624 n) v k = _
                      rw [bM_exchange_169]
                      simp (disch := omega) only [sw_n, sw_s, g0, kd_625, sz_625, true_and, le_t, lt_t, lt_f, and_true, ↓reduceIte]) (r' 0).toNat 0 0 fu (by omega) (by have := fu_ge; omega) (by omega)
                    exact PO_i e1 ok2
            · simp only [if_neg h5, if_true]; exact bad
          · simp only [if_neg h4, if_true]; exact bad
    · simp only [if_neg hq, bdN_s]
      exact PO_1 (OK_th (OK_r hi))
  · simp only [if_neg h, bdN_s]
    exact PO_1 (OK_th (OK_r hi))
theorem oM_undo (hi : MInv g) : PO g (fM_undo g 624) := by
  have e : pU g 624 8 0 = th g 0 := rfl
  rw [fM_undo, bnd_s, e]
  have o1 := OK_th (t := 0) (OK_r hi)
  obtain ⟨h1, h2, h3, ⟨h4, h5⟩, h6, h7, h8⟩ := o1.1
  have h0 := h1.1
  have h29 := h1.2.2.2.1
  by_cases c6 : (th g 0) 624 6 = 0
  · rw [if_pos c6]; exact PO_i rfl o1
  · rw [if_neg c6, bnd_s, w32_r (by omega)]
    generalize hG : th g 0 = G at *
    have a0 : pU G 624 6 (G 624 6 - 1) 624 0 = 625 := by rw [pU_s, u1_n (by omega)]; exact h0
    have a4 : pU G 624 6 (G 624 6 - 1) 624 4 = 629 := by rw [pU_s, u1_n (by omega)]; exact h29
    have a6 : pU G 624 6 (G 624 6 - 1) 624 6 = G 624 6 - 1 := by rw [pU_s, u1_s]
    have hc := vM_copies (g := pU G 624 6 (G 624 6 - 1)) (a := 629) (x := 780 * (G 624 6 - 1)) (b := 625) (y := 0) (n := 780) ⟨kd_629, kd_625⟩ (by rw [sz_629]; omega) (by rw [sz_625]; omega) (by omega) (Or.inl (by omega))
    rw [a0, a4, a6, opI_mul, w32_r (by omega), hc, bdN_s]
    refine PO_i rfl ⟨?_, MF_cp (MF_pU o1.2.1 (by omega)) (by omega), KI_e o1.2.2 (fun k k0 k1 => by rw [cpG_n (by omega), pU_s, u1_n (by omega)]) (by rw [cpG_n (by omega), pU_n (by omega)])⟩
    unfold MInv MS
    simp (disch := omega) only [cpG_n, pU_n, pU_s, u1_n, u1_s]
    refine ⟨h1, WBF_ext (h5 (G 624 6 - 1) (by omega) (by omega)) (fun k k0 k1 => ?_), h3, ⟨by omega, fun j j0 j1 => h5 j j0 (by omega)⟩, h6, h7, h8⟩
    unfold cpG
    rw [if_pos ⟨rfl, by omega, by omega⟩, pU_n (by omega), show (780 * (G 624 6 - 1) + k - 0 : Int) = 780 * (G 624 6 - 1) + k by omega]
theorem oM_saveState (hi : MInv g) : PO g (fM_saveState g 624) := by
  have e : pU g 624 8 0 = th g 0 := rfl
  rw [fM_saveState, bnd_s, e]
  have o1 := OK_th (t := 0) (OK_r hi)
  obtain ⟨h1, h2, h3, ⟨h4, h5⟩, h6, h7, h8⟩ := o1.1
  have h0 := h1.1
  have h28 := h1.2.2.1
  generalize hG : th g 0 = G at *
  have hc := vM_copies (g := G) (a := 625) (x := 0) (b := 628) (y := 0) (n := 780) ⟨kd_625, kd_628⟩ (by rw [sz_625]; omega) (by rw [sz_628]; omega) (by omega) (Or.inl (by omega))
  rw [h0, h28, hc, bdN_s, bnd_s]
  have hM : MInv (pU (cpG G 625 0 628 0 780) 624 7 1) := by
    unfold MInv MS
    simp (disch := omega) only [cpG_n, pU_n, pU_s, u1_n, u1_s]
    refine ⟨h1, h2, h3, ⟨h4, h5⟩, fun _ => WBF_ext h2 (fun k k0 k1 => ?_), h7, h8⟩
    unfold cpG
    rw [if_pos ⟨rfl, by omega, by omega⟩, show (0 + k - 0 : Int) = k by omega]
  rw [vM_runningMany hM.1 (by rw [pU_n (by omega), cpG_n (by omega)]; exact h2.1.1), bdP_s]
  exact PO_i rfl ⟨hM, MF_pU (MF_cp o1.2.1 (by omega)) (by omega), KI_e o1.2.2 (fun k k0 k1 => by rw [pU_s, u1_n (by omega), cpG_n (by omega)]) (by rw [pU_n (by omega), cpG_n (by omega)])⟩
theorem oM_restoreState (hi : MInv g) : PO g (fM_restoreState g 624) := by
  have e : pU g 624 8 0 = th g 0 := rfl
  rw [fM_restoreState, bnd_s, e]
  have o1 := OK_th (t := 0) (OK_r hi)
  obtain ⟨h1, h2, h3, ⟨h4, h5⟩, h6, h7, h8⟩ := id o1.1
  have h0 := h1.1
  have h28 := h1.2.2.1
  by_cases c7 : (th g 0) 624 7 = 0
  · simp only [if_pos c7, jM_restoreState_18, kd_c624, if_true, vM_fails (Or.inr rfl), bdN_s, f0, if_false]
    exact PO_i rfl (OK_th o1)
  · simp only [if_neg c7, jM_restoreState_18, kd_c624, if_true, vM_fails (Or.inl rfl), bdN_s]
    generalize hG : th g 0 = G at *
    have hc := vM_copies (g := G) (a := 628) (x := 0) (b := 625) (y := 0) (n := 780) ⟨kd_628, kd_625⟩ (by rw [sz_628]; omega) (by rw [sz_625]; omega) (by omega) (Or.inl (by omega))
    rw [h0, h28, hc, bdN_s, bnd_s]
    have hw := h6 c7
    have hrow : WBF (cpG G 628 0 625 0 780 625) := WBF_ext hw (fun k k0 k1 => by
      unfold cpG
      rw [if_pos ⟨rfl, by omega, by omega⟩, show (0 + k - 0 : Int) = k by omega])
    have hM : MInv (pU (cpG G 628 0 625 0 780) 624 6 0) := by
      unfold MInv MS
      simp (disch := omega) only [cpG_n, pU_n, pU_s, u1_n, u1_s]
      exact ⟨h1, hrow, h3, ⟨by omega, fun j j0 j1 => absurd j0 (by omega)⟩, h6, h7, h8⟩
    rw [vM_runningMany hM.1 (by rw [pU_n (by omega)]; exact hrow.1.1), bdP_s]
    exact PO_i rfl ⟨hM, MF_pU (MF_cp o1.2.1 (by omega)) (by omega), KI_e o1.2.2 (fun k k0 k1 => by rw [pU_s, u1_n (by omega), cpG_n (by omega)]) (by rw [pU_n (by omega), cpG_n (by omega)])⟩
/-! what would be -/
theorem OK_bg (h : OKg g G) : OKg g (bgG G) := ⟨MInv_bg h.1, fun x hx => (bgG_n (by omega)).trans (h.2.1 x hx), KI_e h.2.2 (fun k k0 k1 => by rw [bgG_n (by omega)]) (bgG_n (by omega))⟩
theorem OK_en (h : OKg g G) (hw : WBF (G 627)) : OKg g (cpG G 627 0 625 0 780) := ⟨MInv_en h.1 hw, MF_cp h.2.1 (by omega), KI_e h.2.2 (fun k k0 k1 => by rw [cpG_n (by omega)]) (cpG_n (by omega))⟩
theorem WBF_627 (h : OKg g G) : WBF (bgG G 627) := WBF_ext h.1.2.1 (fun k k0 k1 => bgG_s ⟨k0, k1⟩)
theorem en_row {G' : gH} (h : G' 627 = bgG G 627) (hk : 0 ≤ k ∧ k < 780) : cpG G' 627 0 625 0 780 625 k = G 625 k := by
  unfold cpG
  rw [if_pos ⟨rfl, by omega, by omega⟩, h, show (0 + k - 0 : Int) = k by omega, bgG_s hk]
theorem vM_fallsBy (h : OKg g G) (hp : 0 < p ∧ p < G 625 0) (hst : G 625 (140 + p) = 0) (hc : 0 ≤ code ∧ code ≤ 255) : ∃ v G', fM_fallsBy G 624 p code = some (v, G') ∧ OKg g G' ∧ (∀ k, 0 ≤ k → k < 780 → G' 625 k = G 625 k) := by
  have b1 := OK_bg h
  obtain ⟨v, x1, x2, -⟩ := ex_OK (code := code) b1 (p := p) (by rw [bgG_n (by omega)]; exact hp) (by rw [bgG_n (by omega)]; exact hst) hc
  have e27 : sw (exG (bgG G) p code) (exF (bgG G 625) (bgG G 630) p code) 627 = bgG G 627 := by rw [sw_n (by omega), exG_n (by omega)]
  rw [fM_fallsBy, vM_begins h.1.1, bdN_s, x1, bdN_s, vM_ends x2.1.1, bdN_s]
  exact ⟨_, _, rfl, OK_en x2 (by rw [e27]; exact WBF_627 h), fun k k0 k1 => en_row e27 ⟨k0, k1⟩⟩
theorem oM_wouldFall (hi : MInv g) : PO g (fM_wouldFall g 624 p code) := by
  rw [fM_wouldFall]
  rcases vM_noExit (p := p) (code := code) hi with ⟨-, e⟩ | ⟨-, -, e⟩ | ⟨-, -, -, e⟩ | ⟨h1, h2, h3, e⟩
  · rw [e, bdN_s]; exact PO_1 (OK_th (OK_r hi))
  · rw [e, bdN_s]; exact PO_1 (OK_th (OK_r hi))
  · rw [e, bdN_s]; exact PO_1 (OK_th (OK_r hi))
  · rw [e, bdN_s]
    refine PO_0 ?_
    obtain ⟨v, G', f1, f2, -⟩ := vM_fallsBy (code := code) (OK_th (t := 0) (OK_r hi)) (p := p) (by rw [th_n (by omega)]; exact h1) (by rw [th_n (by omega)]; exact h3) h2
    rw [f1, bdN_s]
    exact PO_i rfl f2
theorem oM_betterCode (hi : MInv g) : PO g (fM_betterCode g 624 p) := by
  rw [fM_betterCode]
  rcases vM_notExiting (p := p) (c := 2) hi with ⟨-, e⟩ | ⟨-, -, e⟩ | ⟨h1, h2, e⟩
  · rw [e, bdN_s]; exact PO_1 (OK_th (OK_r hi))
  · rw [e, bdN_s]; exact PO_1 (OK_th (OK_r hi))
  · rw [e, bdN_s]
    refine PO_0 ?_
    have hM := hi.2.1.1.1
    obtain ⟨v, G', f1, f2, f3⟩ := vM_fallsBy (code := 1) (OK_th (t := 0) (OK_r hi)) (p := p) (by rw [th_n (by omega)]; exact h1) (by rw [th_n (by omega)]; exact h2) (by omega)
    rw [th_n (by omega)] at f3
    obtain ⟨v2, G2, f4, f5, -⟩ := vM_fallsBy (code := 0) f2 (p := p) (by rw [f3 0 (by omega) (by omega)]; exact h1) (by rw [f3 _ (by omega) (by omega)]; exact h2) (by omega)
    rw [f1, bdN_s, f4, bdN_s]
    split
    · exact PO_i rfl f5
    · exact PO_i rfl f5
end MODEL16
/-! ===== the reference's questions: their loops end (own work; rows alike by program: wip/p2/gen_q.py) ===== -/
theorem for_any {S R : Type} {L : Nat → Int → S → Option R} {E : S → Option R} (lo hi : Int) (hstep : ∀ n k s, lo ≤ k → k < hi → ∃ s', L (n + 1) k s = L n (k + 1) s') (hend : ∀ n k s, lo ≤ k → ¬ k < hi → L (n + 1) k s = E s) : ∀ (k : Int) (s : S) (n : Nat), lo ≤ k → (hi - k).toNat < n → ∃ s', L n k s = E s' := by
  intro k s n hl hn
  obtain ⟨s', h, -⟩ := for_some (L := L) (E := E) hi (fun k _ => lo ≤ k) (fun n k s hk hI => by
    obtain ⟨s', h⟩ := hstep n k s hI hk
    exact ⟨s', h, by omega⟩) (fun n k s hk hI => hend n k s hI hk) (hi - k).toNat k s n rfl hn hl
  exact ⟨s', h⟩
theorem ex_ite {S R : Type} {c : Prop} [Decidable c] {A B : R} {f : S → R} (h1 : c → ∃ s, A = f s) (h2 : ¬ c → ∃ s, B = f s) : ∃ s, (if c then A else B) = f s := by
  split
  · next h => exact h1 h
  · next h => exact h2 h
section MODEL17
variable {g G : gH} {p code t c a b k q gp d : Int}
theorem q_inState (h : OKg g G) : ∃ v, lM_inState_4 G 624 a fu 0 0 = some v := by
  have hs := h.1.1
  have h0 := hs.1
  have w := h.1.2.1.1
  have hM := w.1
  exact for_any (L := fun n k v => lM_inState_4 G 624 a n v k) (E := some) 0 (G 625 0) (fun n k v hl hk => by
    have f1 := vM_runs (g := G) (p := k) hs (by omega)
    have f5 := fun a st => vM_isChild (g := G) (p := k) (a := a) (st := st) hs (by omega)
    have f6 := fun a st => vM_childrenOf (g := G) (a := a) (st := st) hs hM
    have hA := w.2.2.1 k (by omega) hk
    have f2 := vM_deep (g := G) (x := k) hs hA
    have f3 := fun p => vM_isOver (g := G) (p := p) (x := k) hs hA
    have f4 := vM_roomOf (g := G) (p := k) hs w (by omega)
    show ∃ s', bM_inState_4 G 624 a (lM_inState_4 G 624 a n) v k = _
    rw [bM_inState_4]
    simp (disch := omega) only [f1, f2, f3, f4, f5, f6, opI_mul, bdP_s, h0, kd_625, sz_625, w32_r, true_and, le_t, lt_t, and_true, ↓reduceIte]
    repeat' (first | exact ⟨_, rfl⟩ | refine ex_ite (fun _ => ?_) (fun _ => ?_))) (fun n k v hl hk => by
    show bM_inState_4 G 624 a (lM_inState_4 G 624 a n) v k = _
    rw [bM_inState_4]
    simp (disch := omega) only [h0, kd_625, sz_625, true_and, le_t, lt_t, lt_f, and_true, ↓reduceIte]) 0 0 fu (by omega) (by have := fu_ge; omega)
theorem q_dutiesOf (h : OKg g G) : ∃ v, lM_dutiesOf_4 G 624 p fu 0 0 = some v := by
  have hs := h.1.1
  have h0 := hs.1
  have w := h.1.2.1.1
  have hM := w.1
  exact for_any (L := fun n k v => lM_dutiesOf_4 G 624 p n v k) (E := some) 0 8 (fun n k v hl hk => by
    have f1 := vM_runs (g := G) (p := k) hs (by omega)
    have f5 := fun a st => vM_isChild (g := G) (p := k) (a := a) (st := st) hs (by omega)
    have f6 := fun a st => vM_childrenOf (g := G) (a := a) (st := st) hs hM
    show ∃ s', bM_dutiesOf_4 G 624 p (lM_dutiesOf_4 G 624 p n) v k = _
    rw [bM_dutiesOf_4]
    simp (disch := omega) only [f1, f5, f6, opI_mul, bdP_s, h0, kd_625, sz_625, w32_r, true_and, le_t, lt_t, and_true, ↓reduceIte]
    repeat' (first | exact ⟨_, rfl⟩ | refine ex_ite (fun _ => ?_) (fun _ => ?_))) (fun n k v hl hk => by
    show bM_dutiesOf_4 G 624 p (lM_dutiesOf_4 G 624 p n) v k = _
    rw [bM_dutiesOf_4]
    simp (disch := omega) only [h0, kd_625, sz_625, true_and, le_t, lt_t, lt_f, and_true, ↓reduceIte]) 0 0 fu (by omega) (by have := fu_ge; omega)
theorem q_willsOf (h : OKg g G) (hp : 0 ≤ p ∧ p < G 625 0) : ∃ v, lM_willsOf_4 G 624 p fu 0 0 = some v := by
  have hs := h.1.1
  have h0 := hs.1
  have w := h.1.2.1.1
  have hM := w.1
  exact for_any (L := fun n k v => lM_willsOf_4 G 624 p n v k) (E := some) 0 8 (fun n k v hl hk => by
    have f1 := vM_runs (g := G) (p := k) hs (by omega)
    have f5 := fun a st => vM_isChild (g := G) (p := k) (a := a) (st := st) hs (by omega)
    have f6 := fun a st => vM_childrenOf (g := G) (a := a) (st := st) hs hM
    show ∃ s', bM_willsOf_4 G 624 p (lM_willsOf_4 G 624 p n) v k = _
    rw [bM_willsOf_4]
    simp (disch := omega) only [f1, f5, f6, opI_mul, bdP_s, h0, kd_625, sz_625, w32_r, true_and, le_t, lt_t, and_true, ↓reduceIte]
    repeat' (first | exact ⟨_, rfl⟩ | refine ex_ite (fun _ => ?_) (fun _ => ?_))) (fun n k v hl hk => by
    show bM_willsOf_4 G 624 p (lM_willsOf_4 G 624 p n) v k = _
    rw [bM_willsOf_4]
    simp (disch := omega) only [h0, kd_625, sz_625, true_and, le_t, lt_t, lt_f, and_true, ↓reduceIte]) 0 0 fu (by omega) (by have := fu_ge; omega)
theorem q_belowOf (h : OKg g G) : ∃ v, lM_belowOf_4 G 624 p fu 0 1 = some v := by
  have hs := h.1.1
  have h0 := hs.1
  have w := h.1.2.1.1
  have hM := w.1
  exact for_any (L := fun n k v => lM_belowOf_4 G 624 p n v k) (E := some) 1 (G 625 0) (fun n k v hl hk => by
    have f1 := vM_runs (g := G) (p := k) hs (by omega)
    have f5 := fun a st => vM_isChild (g := G) (p := k) (a := a) (st := st) hs (by omega)
    have f6 := fun a st => vM_childrenOf (g := G) (a := a) (st := st) hs hM
    have hA := w.2.2.1 k (by omega) hk
    have f2 := vM_deep (g := G) (x := k) hs hA
    have f3 := fun p => vM_isOver (g := G) (p := p) (x := k) hs hA
    have f4 := vM_roomOf (g := G) (p := k) hs w (by omega)
    show ∃ s', bM_belowOf_4 G 624 p (lM_belowOf_4 G 624 p n) v k = _
    rw [bM_belowOf_4]
    simp (disch := omega) only [f1, f2, f3, f4, f5, f6, opI_mul, bdP_s, h0, kd_625, sz_625, w32_r, true_and, le_t, lt_t, and_true, ↓reduceIte]
    repeat' (first | exact ⟨_, rfl⟩ | refine ex_ite (fun _ => ?_) (fun _ => ?_))) (fun n k v hl hk => by
    show bM_belowOf_4 G 624 p (lM_belowOf_4 G 624 p n) v k = _
    rw [bM_belowOf_4]
    simp (disch := omega) only [h0, kd_625, sz_625, true_and, le_t, lt_t, lt_f, and_true, ↓reduceIte]) 1 0 fu (by omega) (by have := fu_ge; omega)
theorem q_highest (h : OKg g G) : ∃ v, lM_highest_4 G 624 fu 0 0 = some v := by
  have hs := h.1.1
  have h0 := hs.1
  have w := h.1.2.1.1
  have hM := w.1
  exact for_any (L := fun n k v => lM_highest_4 G 624 n v k) (E := some) 0 (G 625 0) (fun n k v hl hk => by
    have f1 := vM_runs (g := G) (p := k) hs (by omega)
    have f5 := fun a st => vM_isChild (g := G) (p := k) (a := a) (st := st) hs (by omega)
    have f6 := fun a st => vM_childrenOf (g := G) (a := a) (st := st) hs hM
    have hA := w.2.2.1 k (by omega) hk
    have f2 := vM_deep (g := G) (x := k) hs hA
    have f3 := fun p => vM_isOver (g := G) (p := p) (x := k) hs hA
    have f4 := vM_roomOf (g := G) (p := k) hs w (by omega)
    show ∃ s', bM_highest_4 G 624 (lM_highest_4 G 624 n) v k = _
    rw [bM_highest_4]
    simp (disch := omega) only [f1, f2, f3, f4, f5, f6, opI_mul, bdP_s, h0, kd_625, sz_625, w32_r, true_and, le_t, lt_t, and_true, ↓reduceIte]
    repeat' (first | exact ⟨_, rfl⟩ | refine ex_ite (fun _ => ?_) (fun _ => ?_))) (fun n k v hl hk => by
    show bM_highest_4 G 624 (lM_highest_4 G 624 n) v k = _
    rw [bM_highest_4]
    simp (disch := omega) only [h0, kd_625, sz_625, true_and, le_t, lt_t, lt_f, and_true, ↓reduceIte]) 0 0 fu (by omega) (by have := fu_ge; omega)
theorem q_atDepth (h : OKg g G) : ∃ v, lM_atDepth_9 G 624 d fu 0 0 = some (v, G) := by
  have hs := h.1.1
  have h0 := hs.1
  have w := h.1.2.1.1
  have hM := w.1
  exact for_any (L := fun n k v => lM_atDepth_9 G 624 d n v k) (E := fun v => some (v, G)) 0 (G 625 0) (fun n k v hl hk => by
    have f1 := vM_runs (g := G) (p := k) hs (by omega)
    have f5 := fun a st => vM_isChild (g := G) (p := k) (a := a) (st := st) hs (by omega)
    have f6 := fun a st => vM_childrenOf (g := G) (a := a) (st := st) hs hM
    have hA := w.2.2.1 k (by omega) hk
    have f2 := vM_deep (g := G) (x := k) hs hA
    have f3 := fun p => vM_isOver (g := G) (p := p) (x := k) hs hA
    have f4 := vM_roomOf (g := G) (p := k) hs w (by omega)
    show ∃ s', bM_atDepth_9 G 624 d (lM_atDepth_9 G 624 d n) v k = _
    rw [bM_atDepth_9]
    simp (disch := omega) only [f1, f2, f3, f4, f5, f6, opI_mul, bdP_s, h0, kd_625, sz_625, w32_r, true_and, le_t, lt_t, and_true, ↓reduceIte]
    repeat' (first | exact ⟨_, rfl⟩ | refine ex_ite (fun _ => ?_) (fun _ => ?_))) (fun n k v hl hk => by
    show bM_atDepth_9 G 624 d (lM_atDepth_9 G 624 d n) v k = _
    rw [bM_atDepth_9]
    simp (disch := omega) only [h0, kd_625, sz_625, true_and, le_t, lt_t, lt_f, and_true, ↓reduceIte]) 0 0 fu (by omega) (by have := fu_ge; omega)
theorem q_adopters (h : OKg g G) (hp : 0 ≤ p ∧ p < G 625 0) : ∃ v, lM_adopters_15 G 624 p fu 0 1 = some (v, G) := by
  have hs := h.1.1
  have h0 := hs.1
  have w := h.1.2.1.1
  have hM := w.1
  exact for_any (L := fun n k v => lM_adopters_15 G 624 p n v k) (E := fun v => some (v, G)) 1 (G 625 0) (fun n k v hl hk => by
    have f1 := vM_runs (g := G) (p := k) hs (by omega)
    have f5 := fun a st => vM_isChild (g := G) (p := k) (a := a) (st := st) hs (by omega)
    have f6 := fun a st => vM_childrenOf (g := G) (a := a) (st := st) hs hM
    have hA := w.2.2.1 k (by omega) hk
    have f2 := vM_deep (g := G) (x := k) hs hA
    have f3 := fun p => vM_isOver (g := G) (p := p) (x := k) hs hA
    have f4 := vM_roomOf (g := G) (p := k) hs w (by omega)
    have f7 := vM_canAdopt (g := G) (p := k) (o := p) hs w (by omega) hp
    show ∃ s', bM_adopters_15 G 624 p (lM_adopters_15 G 624 p n) v k = _
    rw [bM_adopters_15]
    simp (disch := omega) only [f1, f2, f3, f4, f5, f6, f7, opI_mul, bdP_s, h0, kd_625, sz_625, w32_r, true_and, le_t, lt_t, and_true, ↓reduceIte]
    repeat' (first | exact ⟨_, rfl⟩ | refine ex_ite (fun _ => ?_) (fun _ => ?_))) (fun n k v hl hk => by
    show bM_adopters_15 G 624 p (lM_adopters_15 G 624 p n) v k = _
    rw [bM_adopters_15]
    simp (disch := omega) only [h0, kd_625, sz_625, true_and, le_t, lt_t, lt_f, and_true, ↓reduceIte]) 1 0 fu (by omega) (by have := fu_ge; omega)
theorem q_allRoom (h : OKg g G) : ∃ v, lM_allRoom_9 G 624 fu 0 0 = some (v, G) := by
  have hs := h.1.1
  have h0 := hs.1
  have w := h.1.2.1.1
  have hM := w.1
  exact for_any (L := fun n k v => lM_allRoom_9 G 624 n v k) (E := fun v => some (v, G)) 0 (G 625 0) (fun n k v hl hk => by
    have f1 := vM_runs (g := G) (p := k) hs (by omega)
    have f5 := fun a st => vM_isChild (g := G) (p := k) (a := a) (st := st) hs (by omega)
    have f6 := fun a st => vM_childrenOf (g := G) (a := a) (st := st) hs hM
    have hA := w.2.2.1 k (by omega) hk
    have f2 := vM_deep (g := G) (x := k) hs hA
    have f3 := fun p => vM_isOver (g := G) (p := p) (x := k) hs hA
    have f4 := vM_roomOf (g := G) (p := k) hs w (by omega)
    show ∃ s', bM_allRoom_9 G 624 (lM_allRoom_9 G 624 n) v k = _
    rw [bM_allRoom_9]
    simp (disch := omega) only [f1, f2, f3, f4, f5, f6, opI_mul, bdP_s, h0, kd_625, sz_625, w32_r, true_and, le_t, lt_t, and_true, ↓reduceIte]
    repeat' (first | exact ⟨_, rfl⟩ | refine ex_ite (fun _ => ?_) (fun _ => ?_))) (fun n k v hl hk => by
    show bM_allRoom_9 G 624 (lM_allRoom_9 G 624 n) v k = _
    rw [bM_allRoom_9]
    simp (disch := omega) only [h0, kd_625, sz_625, true_and, le_t, lt_t, lt_f, and_true, ↓reduceIte]) 0 0 fu (by omega) (by have := fu_ge; omega)
theorem q_overfull (h : OKg g G) : ∃ v, lM_overfull_9 G 624 fu 0 0 = some (v, G) := by
  have hs := h.1.1
  have h0 := hs.1
  have w := h.1.2.1.1
  have hM := w.1
  exact for_any (L := fun n k v => lM_overfull_9 G 624 n v k) (E := fun v => some (v, G)) 0 (G 625 0) (fun n k v hl hk => by
    have f1 := vM_runs (g := G) (p := k) hs (by omega)
    have f5 := fun a st => vM_isChild (g := G) (p := k) (a := a) (st := st) hs (by omega)
    have f6 := fun a st => vM_childrenOf (g := G) (a := a) (st := st) hs hM
    have hA := w.2.2.1 k (by omega) hk
    have f2 := vM_deep (g := G) (x := k) hs hA
    have f3 := fun p => vM_isOver (g := G) (p := p) (x := k) hs hA
    have f4 := vM_roomOf (g := G) (p := k) hs w (by omega)
    show ∃ s', bM_overfull_9 G 624 (lM_overfull_9 G 624 n) v k = _
    rw [bM_overfull_9]
    simp (disch := omega) only [f1, f2, f3, f4, f5, f6, opI_mul, bdP_s, h0, kd_625, sz_625, w32_r, true_and, le_t, lt_t, and_true, ↓reduceIte]
    repeat' (first | exact ⟨_, rfl⟩ | refine ex_ite (fun _ => ?_) (fun _ => ?_))) (fun n k v hl hk => by
    show bM_overfull_9 G 624 (lM_overfull_9 G 624 n) v k = _
    rw [bM_overfull_9]
    simp (disch := omega) only [h0, kd_625, sz_625, true_and, le_t, lt_t, lt_f, and_true, ↓reduceIte]) 0 0 fu (by omega) (by have := fu_ge; omega)
theorem q_ofGroup (h : OKg g G) : ∃ v, lM_ofGroup_31 G 624 gp fu 0 0 = some (v, G) := by
  have hs := h.1.1
  have h0 := hs.1
  have w := h.1.2.1.1
  have hM := w.1
  exact for_any (L := fun n k v => lM_ofGroup_31 G 624 gp n v k) (E := fun v => some (v, G)) 0 (G 625 0) (fun n k v hl hk => by
    have f1 := vM_runs (g := G) (p := k) hs (by omega)
    have f5 := fun a st => vM_isChild (g := G) (p := k) (a := a) (st := st) hs (by omega)
    have f6 := fun a st => vM_childrenOf (g := G) (a := a) (st := st) hs hM
    have hA := w.2.2.1 k (by omega) hk
    have f2 := vM_deep (g := G) (x := k) hs hA
    have f3 := fun p => vM_isOver (g := G) (p := p) (x := k) hs hA
    have f4 := vM_roomOf (g := G) (p := k) hs w (by omega)
    show ∃ s', bM_ofGroup_31 G 624 gp (lM_ofGroup_31 G 624 gp n) v k = _
    rw [bM_ofGroup_31]
    simp (disch := omega) only [f1, f2, f3, f4, f5, f6, opI_mul, bdP_s, h0, kd_625, sz_625, w32_r, true_and, le_t, lt_t, and_true, ↓reduceIte]
    repeat' (first | exact ⟨_, rfl⟩ | refine ex_ite (fun _ => ?_) (fun _ => ?_))) (fun n k v hl hk => by
    show bM_ofGroup_31 G 624 gp (lM_ofGroup_31 G 624 gp n) v k = _
    rw [bM_ofGroup_31]
    simp (disch := omega) only [h0, kd_625, sz_625, true_and, le_t, lt_t, lt_f, and_true, ↓reduceIte]) 0 0 fu (by omega) (by have := fu_ge; omega)
theorem q_testBelow (h : OKg g G) : ∃ v, lM_testamentsBelow_22 G 624 p fu 0 1 = some (v, G) := by
  have hs := h.1.1
  have h0 := hs.1
  have w := h.1.2.1.1
  have hM := w.1
  exact for_any (L := fun n k v => lM_testamentsBelow_22 G 624 p n v k) (E := fun v => some (v, G)) 1 (G 625 0) (fun n k v hl hk => by
    have f1 := vM_runs (g := G) (p := k) hs (by omega)
    have f5 := fun a st => vM_isChild (g := G) (p := k) (a := a) (st := st) hs (by omega)
    have f6 := fun a st => vM_childrenOf (g := G) (a := a) (st := st) hs hM
    have hA := w.2.2.1 k (by omega) hk
    have f2 := vM_deep (g := G) (x := k) hs hA
    have f3 := fun p => vM_isOver (g := G) (p := p) (x := k) hs hA
    have f4 := vM_roomOf (g := G) (p := k) hs w (by omega)
    show ∃ s', bM_testamentsBelow_22 G 624 p (lM_testamentsBelow_22 G 624 p n) v k = _
    rw [bM_testamentsBelow_22]
    simp (disch := omega) only [f1, f2, f3, f4, f5, f6, opI_mul, bdP_s, h0, kd_625, sz_625, w32_r, true_and, le_t, lt_t, and_true, ↓reduceIte]
    repeat' (first | exact ⟨_, rfl⟩ | refine ex_ite (fun _ => ?_) (fun _ => ?_))) (fun n k v hl hk => by
    show bM_testamentsBelow_22 G 624 p (lM_testamentsBelow_22 G 624 p n) v k = _
    rw [bM_testamentsBelow_22]
    simp (disch := omega) only [h0, kd_625, sz_625, true_and, le_t, lt_t, lt_f, and_true, ↓reduceIte]) 1 0 fu (by omega) (by have := fu_ge; omega)
theorem q_roomBelow (h : OKg g G) : ∃ v, lM_roomBelow_22 G 624 p fu 0 1 = some (v, G) := by
  have hs := h.1.1
  have h0 := hs.1
  have w := h.1.2.1.1
  have hM := w.1
  exact for_any (L := fun n k v => lM_roomBelow_22 G 624 p n v k) (E := fun v => some (v, G)) 1 (G 625 0) (fun n k v hl hk => by
    have f1 := vM_runs (g := G) (p := k) hs (by omega)
    have f5 := fun a st => vM_isChild (g := G) (p := k) (a := a) (st := st) hs (by omega)
    have f6 := fun a st => vM_childrenOf (g := G) (a := a) (st := st) hs hM
    have hA := w.2.2.1 k (by omega) hk
    have f2 := vM_deep (g := G) (x := k) hs hA
    have f3 := fun p => vM_isOver (g := G) (p := p) (x := k) hs hA
    have f4 := vM_roomOf (g := G) (p := k) hs w (by omega)
    show ∃ s', bM_roomBelow_22 G 624 p (lM_roomBelow_22 G 624 p n) v k = _
    rw [bM_roomBelow_22]
    simp (disch := omega) only [f1, f2, f3, f4, f5, f6, opI_mul, bdP_s, h0, kd_625, sz_625, w32_r, true_and, le_t, lt_t, and_true, ↓reduceIte]
    repeat' (first | exact ⟨_, rfl⟩ | refine ex_ite (fun _ => ?_) (fun _ => ?_))) (fun n k v hl hk => by
    show bM_roomBelow_22 G 624 p (lM_roomBelow_22 G 624 p n) v k = _
    rw [bM_roomBelow_22]
    simp (disch := omega) only [h0, kd_625, sz_625, true_and, le_t, lt_t, lt_f, and_true, ↓reduceIte]) 1 0 fu (by omega) (by have := fu_ge; omega)
theorem q_groupsBelow (h : OKg g G) : ∃ v, lM_groupsBelow_22 G 624 p fu 0 1 = some (v, G) := by
  have hs := h.1.1
  have h0 := hs.1
  have w := h.1.2.1.1
  have hM := w.1
  exact for_any (L := fun n k v => lM_groupsBelow_22 G 624 p n v k) (E := fun v => some (v, G)) 1 (G 625 0) (fun n k v hl hk => by
    have f1 := vM_runs (g := G) (p := k) hs (by omega)
    have f5 := fun a st => vM_isChild (g := G) (p := k) (a := a) (st := st) hs (by omega)
    have f6 := fun a st => vM_childrenOf (g := G) (a := a) (st := st) hs hM
    have hA := w.2.2.1 k (by omega) hk
    have f2 := vM_deep (g := G) (x := k) hs hA
    have f3 := fun p => vM_isOver (g := G) (p := p) (x := k) hs hA
    have f4 := vM_roomOf (g := G) (p := k) hs w (by omega)
    show ∃ s', bM_groupsBelow_22 G 624 p (lM_groupsBelow_22 G 624 p n) v k = _
    rw [bM_groupsBelow_22]
    simp (disch := omega) only [f1, f2, f3, f4, f5, f6, opI_mul, bdP_s, h0, kd_625, sz_625, w32_r, true_and, le_t, lt_t, and_true, ↓reduceIte]
    repeat' (first | exact ⟨_, rfl⟩ | refine ex_ite (fun _ => ?_) (fun _ => ?_))) (fun n k v hl hk => by
    show bM_groupsBelow_22 G 624 p (lM_groupsBelow_22 G 624 p n) v k = _
    rw [bM_groupsBelow_22]
    simp (disch := omega) only [h0, kd_625, sz_625, true_and, le_t, lt_t, lt_f, and_true, ↓reduceIte]) 1 0 fu (by omega) (by have := fu_ge; omega)
theorem q_strangers (h : OKg g G) (hp : 0 ≤ p ∧ p < G 625 0) : ∃ v, lM_strangers_14 G 624 p fu 0 1 = some (v, G) := by
  have hs := h.1.1
  have h0 := hs.1
  have w := h.1.2.1.1
  have hM := w.1
  exact for_any (L := fun n k v => lM_strangers_14 G 624 p n v k) (E := fun v => some (v, G)) 1 (G 625 0) (fun n k v hl hk => by
    have f1 := vM_runs (g := G) (p := k) hs (by omega)
    have f5 := fun a st => vM_isChild (g := G) (p := k) (a := a) (st := st) hs (by omega)
    have f6 := fun a st => vM_childrenOf (g := G) (a := a) (st := st) hs hM
    have hA := w.2.2.1 k (by omega) hk
    have f2 := vM_deep (g := G) (x := k) hs hA
    have f3 := fun p => vM_isOver (g := G) (p := p) (x := k) hs hA
    have f4 := vM_roomOf (g := G) (p := k) hs w (by omega)
    show ∃ s', bM_strangers_14 G 624 p (lM_strangers_14 G 624 p n) v k = _
    rw [bM_strangers_14]
    simp (disch := omega) only [f1, f2, f3, f4, f5, f6, opI_mul, bdP_s, h0, kd_625, sz_625, w32_r, true_and, le_t, lt_t, and_true, ↓reduceIte]
    repeat' (first | exact ⟨_, rfl⟩ | refine ex_ite (fun _ => ?_) (fun _ => ?_))) (fun n k v hl hk => by
    show bM_strangers_14 G 624 p (lM_strangers_14 G 624 p n) v k = _
    rw [bM_strangers_14]
    simp (disch := omega) only [h0, kd_625, sz_625, true_and, le_t, lt_t, lt_f, and_true, ↓reduceIte]) 1 0 fu (by omega) (by have := fu_ge; omega)
end MODEL17
