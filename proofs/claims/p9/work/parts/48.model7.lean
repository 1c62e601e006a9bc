/-! ===== with a replacement; the loops of an exit (own work) ===== -/
theorem rpA_n {r : Int → Int} {p k : Int} (h : ¬ k = 4 ∧ ¬ k = 220 + r (60 + p)) : rpA r p k = r k := by
  unfold rpA
  rw [u1_n h.1, u1_n h.2]
theorem rpR_o {r : Int → Int} {p k : Int} (hM : 1 ≤ r 0 ∧ r 0 < 40) (hp : 0 < p ∧ p < 40) (hs : 0 ≤ r (60 + p) ∧ r (60 + p) < 40) (h : (¬ k = 0 ∧ ¬ (460 + 8 * r 0 ≤ k ∧ k < 468 + 8 * r 0) ∧ ¬ k = 420 + r 0 ∧ ¬ k = 380 + r 0 ∧ ¬ k = 340 + r 0 ∧ ¬ k = 300 + r 0 ∧ ¬ k = 260 + r 0 ∧ ¬ k = 220 + r 0 ∧ ¬ k = 180 + r 0 ∧ ¬ k = 140 + r 0 ∧ ¬ k = 100 + r 0 ∧ ¬ k = 60 + r 0) ∧ ¬ k = 420 + p ∧ ¬ k = 220 + r (60 + p) ∧ ¬ k = 4) : rpR r p k = r k := by
  obtain ⟨h1, h2, h3, h4⟩ := h
  have e0 : rpA r p 0 = r 0 := rpA_n (by omega)
  unfold rpR
  rw [u1_n h2, cmR_o (by rw [e0]; exact hM) (by rw [e0]; exact h1), rpA_n ⟨h4, h3⟩]
theorem rpR_v {r : Int → Int} {p : Int} (hM : 1 ≤ r 0 ∧ r 0 < 40) (hp : 0 < p ∧ p < r 0) (hs : 0 ≤ r (60 + p) ∧ r (60 + p) < 40) : rpR r p 0 = r 0 + 1 ∧ rpR r p (60 + r 0) = r (60 + p) ∧ rpR r p (140 + r 0) = 0 ∧ rpR r p (220 + r 0) = rpA r p (220 + p) ∧ (rpR r p (220 + r (60 + p)) = w32 (r (220 + r (60 + p)) - 1) ∨ r (60 + p) = r 0) ∧ rpR r p (420 + p) = r 0 := by
  have e0 : rpA r p 0 = r 0 := rpA_n (by omega)
  obtain ⟨n1, n2, n3, n4, n5, n6⟩ := cmR_n (r := rpA r p) (a := r (60 + p)) (c := rpA r p (100 + p)) (gp := rpA r p (180 + p)) (b := rpA r p (220 + p)) (by rw [e0]; exact hM)
  rw [e0] at n1 n3 n5
  unfold rpR
  refine ⟨by rw [u1_n (by omega), cmR_0, e0], by rw [u1_n (by omega)]; exact n1, by rw [u1_n (by omega)]; exact n3, by rw [u1_n (by omega)]; exact n5, ?_, u1_s⟩
  by_cases e : r (60 + p) = r 0
  · exact Or.inr e
  · left
    rw [u1_n (by omega), cmR_o (by rw [e0]; exact hM) (by rw [e0]; omega)]
    unfold rpA
    rw [u1_n (by omega), u1_s]
theorem EP_rp {r : Int → Int} {p s : Int} (h : EP r p s (-1)) (hM : r 0 < 40) (hb : ¬ r (220 + s) = 0) : EP (rpR r p) p s (r 0) := by
  obtain ⟨h1, ⟨a1, a2, a3, a4, a5, a6⟩, ⟨b1, b2⟩, h4, ⟨c1, c2⟩, h6, h7, h8, h9, -⟩ := h
  have hM1 := h1.1
  have hM' : 1 ≤ r 0 ∧ r 0 < 40 := ⟨hM1.1, hM⟩
  subst a2
  have ho := fun k => rpR_o (r := r) (p := p) (k := k) hM' (by omega) (by omega)
  obtain ⟨v0, v1, v2, v3, v4, v5⟩ := rpR_v (r := r) (p := p) hM' (by omega) (by omega)
  have hn1 := NX_bd hM1 b2 h7
  have est : ∀ i, 0 ≤ i → i < r 0 → rpR r p (140 + i) = r (140 + i) := fun i i0 i1 => ho _ (by omega)
  have eup : ∀ i, 0 ≤ i → i < r 0 → rpR r p (60 + i) = r (60 + i) := fun i i0 i1 => ho _ (by omega)
  have e1 : rpR r p 1 = r 1 := ho _ (by omega)
  have e0' : rpA r p 0 = r 0 := rpA_n (by omega)
  have hW : WB (rpR r p) := by
    have w1 : WB (rpA r p) := WB_eq h1 (fun k hk => rpA_n (by omega))
    have hcap := h1.2.2.2.2.2.2 p (by omega) a3.2
    have w2 : WB (cmR (rpA r p) (r (60 + p)) (rpA r p (100 + p)) (rpA r p (180 + p)) (rpA r p (220 + p))) := WB_cm w1 (by rw [e0']; exact hM) (by rw [e0']; exact a4) (by rw [rpA_n (by omega)]; exact hcap)
    exact WB_eq w2 (fun k hk => by unfold rpR; exact u1_n (by omega))
  refine ⟨hW, ⟨by rw [est p (by omega) a3.2]; exact a1, eup p (by omega) a3.2, by rw [v0]; omega, by rw [v0]; omega, a5, by rw [est _ a4.1 a4.2]; exact a6⟩, ⟨?_, ?_⟩, ?_, ⟨by rw [e1]; omega, ?_⟩, ?_, ?_, ?_, ?_, Or.inr ⟨by omega, by rw [v0]; omega, v2, v1, by omega⟩⟩
  · intro i i0 i1
    rw [v0] at i1
    by_cases e : i = r 0
    · rw [e, v2]; omega
    · rw [est i i0 (by omega)]; exact b1 i i0 (by omega)
  · rw [show (140 : Int) = 140 + 0 by omega, est 0 (by omega) (by omega)]; exact b2
  · intro i i0 i1 i2 i3
    rw [v0] at i1
    by_cases e : i = r 0
    · rw [e, v1, est _ a4.1 a4.2]; exact a6
    · rw [est i (by omega) (by omega)] at i2
      rw [eup i (by omega) (by omega)] at i3 ⊢
      have := h1.2.1 i i0 (by omega)
      rw [est _ this.1 this.2]
      exact h4 i i0 (by omega) i2 i3
  · intro k k0 k1
    rw [e1] at k1
    rw [ho _ (by omega), v0]
    have := c2 k k0 k1
    omega
  · intro i i0 i1 i2
    rw [v0] at i1
    by_cases e : i = r 0
    · rw [e, v2] at i2; exact absurd rfl i2
    · rw [est i i0 (by omega)] at i2
      obtain ⟨k, k0, k1, k2⟩ := h6 i i0 (by omega) i2
      exact ⟨k, k0, by rw [e1]; exact k1, by rw [ho _ (by omega)]; exact k2⟩
  · show rpR r p 1 = _
    rw [e1, v0, show (r 0 + 1).toNat = (r 0).toNat + 1 by omega, cn_one, show (0 : Int) + ((r 0).toNat : Int) = r 0 by omega, h7]
    have : (!decide (rpR r p (140 + r 0) = 0)) = false := by rw [v2]; rfl
    rw [this, if_neg (by simp), Int.add_zero]
    exact cn_congr _ _ (fun j j0 j1 => by
      show (!decide (r (140 + j) = 0)) = !decide (rpR r p (140 + j) = 0)
      rw [est j j0 (by omega)])
  · intro i i0 i1 i2
    rw [v0] at i1
    by_cases e : i = r 0
    · rw [e, v2] at i2; omega
    · rw [est i i0 (by omega)] at i2
      rw [ho _ (by omega)]
      exact h8 i i0 (by omega) i2
  · intro i i0 i1
    rw [v0] at i1
    have hbs := h9 _ a4.1 a4.2
    by_cases e : i = r 0
    · rw [e, v3]
      unfold rpA
      rw [u1_n (by omega)]
      by_cases e2 : p = r (60 + p)
      · exact absurd e2.symm a5
      · rw [u1_n (by omega)]
        exact h9 p (by omega) a3.2
    · by_cases e2 : i = r (60 + p)
      · rcases v4 with v4 | v4
        · rw [e2, v4, w32_r (by omega)]
          omega
        · omega
      · rw [ho _ (by omega)]
        exact h9 i i0 (by omega)
/-! the loops, as functions of the row -/
def ex3 (dm : Int → Int) (p q : Int) (r : Int → Int) : Int → Int := fd (fun k r => dutS dm p q k r) 8 0 r
def ex4 (dm : Int → Int) (p q : Int) (r : Int → Int) : Int → Int := fd (fun c r => orpS dm p q c r) (r 0 - 1).toNat 1 r
def ex5 (p s : Int) (r : Int → Int) : Int → Int := fd (fun c r => zomS p s c r) (r 0 - 1).toNat 1 r
/-- holders on the way: running, or p from the duty k on -/
def HP (r : Int → Int) (p k : Int) : Prop := ∀ d, 0 ≤ d → d < 8 → 0 ≤ r (11 + d) ∧ r (11 + d) < r 0 ∧ (r (140 + r (11 + d)) = 0 ∨ (k ≤ d ∧ r (11 + d) = p))
section MODEL7
variable {g : gH} {p s q b : Int}
theorem dut_step {r : Int → Int} {dm : Int → Int} {k : Int} (h : EP r p s q) (hh : HP r p k) (hk : 0 ≤ k ∧ k < 8) : EP (dutS dm p q k r) p s q ∧ HP (dutS dm p q k r) p (k + 1) ∧ dutS dm p q k r 0 = r 0 := by
  have hM := h.1.1
  obtain ⟨a1, a2, a3, a4, a5, a6⟩ := h.2.1
  unfold dutS
  by_cases c : r (11 + k) = p
  · rw [if_pos c]
    have hv : 0 ≤ (if q = -1 then HO r dm p k else q) ∧ (if q = -1 then HO r dm p k else q) < r 0 ∧ r (140 + (if q = -1 then HO r dm p k else q)) = 0 := by
      by_cases e : q = -1
      · rw [if_pos e]
        rcases HO_f (dm := dm) h.1 (p := p) (by omega) hk with h1 | h1
        · rw [h1]
          have : up r p = s := a2
          rw [this]
          exact ⟨a4.1, a4.2, a6⟩
        · exact h1
      · rw [if_neg e]
        rcases h.2.2.2.2.2.2.2.2.2 with h1 | h1
        · exact absurd h1 e
        · exact ⟨by omega, h1.2.1, h1.2.2.1⟩
    generalize (if q = -1 then HO r dm p k else q) = v at hv
    have e0 : u1 r (11 + k) v 0 = r 0 := u1_n (by omega)
    refine ⟨EP_gen h (WB_eq h.1 (fun j hj => u1_n (by omega))) (fun i i0 i1 i2 => absurd (u1_n (by omega)) i2) (fun j j1 j2 j3 j4 j5 => u1_n (by omega)), ?_, e0⟩
    intro d d0 d1
    rw [e0]
    by_cases e : d = k
    · rw [e, u1_s, u1_n (by omega)]
      exact ⟨hv.1, hv.2.1, Or.inl hv.2.2⟩
    · have := hh d d0 d1
      rw [u1_n (show ¬ 11 + d = 11 + k by omega), u1_n (by omega)]
      exact ⟨this.1, this.2.1, by rcases this.2.2 with h1 | h1; exact Or.inl h1; exact Or.inr ⟨by omega, h1.2⟩⟩
  · rw [if_neg c]
    refine ⟨h, ?_, rfl⟩
    intro d d0 d1
    have := hh d d0 d1
    refine ⟨this.1, this.2.1, ?_⟩
    rcases this.2.2 with h1 | h1
    · exact Or.inl h1
    · by_cases e : d = k
      · subst e; exact absurd h1.2 c
      · exact Or.inr ⟨by omega, h1.2⟩
theorem vM_ex3 {r : Int → Int} (hs : MS g) (h : EP r p s q) (hh : HP r p 0) : lM_exits_76 624 p s b q fu 0 (sw g r) = lM_exits_134 624 p s b q fu 1 (sw g (ex3 (g 630) p q r)) ∧ EP (ex3 (g 630) p q r) p s q ∧ HP (ex3 (g 630) p q r) p 8 ∧ ex3 (g 630) p q r 0 = r 0 := by
  have h0 := hs.1
  have hM := h.1.1
  have := for_loop (L := fun n k r => lM_exits_76 624 p s b q n k (sw g r)) (E := fun r => lM_exits_134 624 p s b q fu 1 (sw g r)) (fun k r => dutS (g 630) p q k r) 8 (fun k r' => 0 ≤ k ∧ k ≤ 8 ∧ EP r' p s q ∧ HP r' p k ∧ r' 0 = r 0) (fun n k r' hk hI => by
    obtain ⟨k0, k1, i1, i2, i3⟩ := hI
    have hd := i2 k k0 hk
    have hp := i1.2.1.2.2.1
    obtain ⟨d1, d2, d3⟩ := dut_step (dm := g 630) i1 i2 ⟨k0, hk⟩
    refine ⟨?_, by omega, by omega, d1, d2, d3.trans i3⟩
    show bM_exits_76 624 p s b q (lM_exits_76 624 p s b q n) k (sw g r') = lM_exits_76 624 p s b q n (k + 1) (sw g (dutS (g 630) p q k r'))
    rw [bM_exits_76, dutS]
    have hHO := vM_heirOf (g := sw g r') (p := p) (d := k) (MS_sw hs) (by rw [sw_s]; exact i1.1) (by rw [sw_s]; omega) ⟨k0, hk⟩
    rw [sw_s, sw_n (show ¬ (630 : Int) = 625 by omega)] at hHO
    by_cases c1 : r' (11 + k) = p
    · by_cases c2 : q = -1
      · simp (disch := omega) only [c1, c2, sw_n, sw_s, h0, kd_625, sz_625, w32_r, true_and, le_t, lt_t, and_true, ↓reduceIte, ↓bnd_s, pU_sw, hHO, bdP_s]
      · simp (disch := omega) only [c1, c2, sw_n, sw_s, h0, kd_625, sz_625, w32_r, true_and, le_t, lt_t, and_true, ↓reduceIte, ↓bnd_s, pU_sw]
    · simp (disch := omega) only [c1, sw_n, sw_s, h0, kd_625, sz_625, w32_r, true_and, le_t, lt_t, and_true, ↓reduceIte]) (fun n k r' hk hI => by
    show bM_exits_76 624 p s b q (lM_exits_76 624 p s b q n) k (sw g r') = _
    rw [bM_exits_76, if_neg hk]) 8 0 r fu (by omega) (by have := fu_ge; omega) ⟨by omega, by omega, h, hh, rfl⟩
  obtain ⟨e1, -, -, e2, e3, e4⟩ := this
  exact ⟨e1, e2, e3, e4⟩
end MODEL7
