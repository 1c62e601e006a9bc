/-! ===== the reference's state as a whole (own work) ===== -/
def WBF (r : Int → Int) : Prop := WB r ∧ WF r
theorem WBF_ext {r r' : Int → Int} (h : WBF r) (he : ∀ k, 0 ≤ k → k < 780 → r' k = r k) : WBF r' := by
  obtain ⟨hb, ⟨s1, s2⟩, hSR, ⟨x1, x2⟩, hL, hN, hH, hC, hB⟩ := h
  have hM := hb.1
  have e0 : r' 0 = r 0 := he 0 (by omega) (by omega)
  have e1 : r' 1 = r 1 := he 1 (by omega) (by omega)
  have est : ∀ i, 0 ≤ i → i < r 0 → r' (140 + i) = r (140 + i) := fun i i0 i1 => he _ (by omega) (by omega)
  refine ⟨WB_eq hb (fun k hk => he k (by omega) (by omega)), ⟨?_, by rw [he 140 (by omega) (by omega)]; exact s2⟩, ?_, ⟨by rw [e1]; exact x1, ?_⟩, ?_, ?_, ?_, ?_, ?_⟩
  · intro i i0 i1
    rw [e0] at i1
    rw [est i i0 i1]
    exact s1 i i0 i1
  · intro i i0 i1 i2
    rw [e0] at i1
    rw [est i (by omega) i1] at i2
    rw [he (60 + i) (by omega) (by omega)]
    have := hb.2.1 i i0 i1
    rw [est _ this.1 this.2]
    exact hSR i i0 i1 i2
  · intro k k0 k1
    rw [e1] at k1
    rw [he _ (by omega) (by omega), e0]
    exact x2 k k0 k1
  · intro i i0 i1 i2
    rw [e0] at i1
    rw [est i i0 i1] at i2
    obtain ⟨k, k0, k1, k2⟩ := hL i i0 i1 i2
    exact ⟨k, k0, by rw [e1]; exact k1, by rw [he _ (by omega) (by omega)]; exact k2⟩
  · show r' 1 = _
    rw [e1, cn_eq_st e0 hM.2 (fun k k0 k1 => he k (by omega) (by omega))]
    exact hN
  · intro d d0 d1
    have := hH d d0 d1
    rw [he (11 + d) (by omega) (by omega), e0, est _ this.1 this.2.1]
    exact this
  · intro i i0 i1 i2
    rw [e0] at i1
    rw [est i i0 i1] at i2
    rw [he _ (by omega) (by omega)]
    exact hC i i0 i1 i2
  · intro i i0 i1
    rw [e0] at i1
    rw [he _ (by omega) (by omega)]
    exact hB i i0 i1
/-- a piece of one row copied into another -/
def cpG (g : gH) (a x b y n : Int) : gH := fun c k => if c = b ∧ y ≤ k ∧ k < y + n then g a (x + k - y) else g c k
theorem cpG_n {g : gH} {a x b y n c : Int} (h : ¬ c = b) : cpG g a x b y n c = g c := by
  funext k
  unfold cpG
  rw [if_neg (fun z => h z.1)]
theorem vM_copies {g : gH} {a x b y n : Int} (ha : kd a = 20 ∧ kd b = 20) (hx : 0 ≤ x ∧ x + n ≤ sz a) (hy : 0 ≤ y ∧ y + n ≤ sz b) (hn : 0 ≤ n) (hab : a ≠ b ∨ y ≤ x) : fM_copies g a x b y n = some (0, cpG g a x b y n) := by
  have s1 := sz_bd a
  have s2 := sz_bd b
  have h := for_some (L := fun m k G => lM_copies_3 a x b y n m k G) (E := fun G => some (0, G)) n (fun k G => 0 ≤ k ∧ k ≤ n ∧ G = cpG g a x b y k) (fun m k G hk hI => by
    obtain ⟨k0, k1, hG⟩ := hI
    refine ⟨pU G b (y + k) (G a (x + k)), ?_, by omega, by omega, ?_⟩
    · show bM_copies_3 a x b y n (lM_copies_3 a x b y n m) k G = _
      rw [bM_copies_3]
      simp (disch := omega) only [ha.1, ha.2, w32_r, true_and, le_t, lt_t, and_true, ↓reduceIte, ↓bnd_s]
    · subst hG
      funext c j
      unfold pU
      have e1 : cpG g a x b y k a (x + k) = g a (x + k) := by
        unfold cpG
        rw [if_neg (fun z => by rcases hab with h | h; exact h z.1; omega)]
      rw [e1]
      unfold cpG
      by_cases h1 : c = b ∧ j = y + k
      · rw [if_pos h1, if_pos ⟨h1.1, by omega, by omega⟩, h1.2, show x + (y + k) - y = x + k by omega]
      · rw [if_neg h1]
        by_cases h2 : c = b ∧ y ≤ j ∧ j < y + k
        · rw [if_pos h2, if_pos ⟨h2.1, h2.2.1, by omega⟩]
        · rw [if_neg h2, if_neg (fun z => h2 ⟨z.1, z.2.1, by
            by_cases e : j = y + k
            · exact absurd ⟨z.1, e⟩ h1
            · omega⟩)]) (fun m k G hk hI => by
    show bM_copies_3 a x b y n (lM_copies_3 a x b y n m) k G = _
    rw [bM_copies_3, if_neg hk]) n.toNat 0 g fu (by omega) (by have := fu_ge; omega) ⟨by omega, by omega, by
      funext c j
      unfold cpG
      rw [if_neg (by omega)]⟩
  obtain ⟨G, h1, -, -, h2⟩ := h
  rw [fM_copies, h1, h2, show max 0 n = n by omega]
/-- the reference's cells -/
def MInv (g : gH) : Prop := MS g ∧ WBF (g 625) ∧ (∀ i, 0 ≤ i → i < 40 → g 630 i = 0) ∧ ((0 ≤ g 624 6 ∧ g 624 6 ≤ 10) ∧ ∀ j, 0 ≤ j → j < g 624 6 → WBF (fun k => g 629 (780 * j + k))) ∧ (¬ g 624 7 = 0 → WBF (g 628)) ∧ (0 ≤ g 624 10 ∧ g 624 10 ≤ 500) ∧ (0 ≤ g 624 23 ∧ g 624 23 ≤ 400)
/-- what a call of it leaves alone: all cells but its own -/
def MF (g g' : gH) : Prop := ∀ x, ¬ (624 ≤ x ∧ x < 635) → g' x = g x
theorem MF_r {g : gH} : MF g g := fun _ _ => rfl
theorem MF_t {g g1 g2 : gH} (h1 : MF g g1) (h2 : MF g1 g2) : MF g g2 := fun x hx => (h2 x hx).trans (h1 x hx)
theorem MF_pU {g g1 : gH} {a b v : Int} (h : MF g g1) (ha : 624 ≤ a ∧ a < 635) : MF g (pU g1 a b v) := fun x hx => (pU_n (fun e => hx (by rw [e]; exact ha))).trans (h x hx)
theorem MF_sw {g g1 : gH} {r : Int → Int} (h : MF g g1) : MF g (sw g1 r) := fun x hx => (sw_n (fun e => hx (by omega))).trans (h x hx)
theorem MF_cp {g g1 : gH} {a x b y n : Int} (h : MF g g1) (hb : 624 ≤ b ∧ b < 635) : MF g (cpG g1 a x b y n) := fun z hz => (cpG_n (fun e => hz (by rw [e]; exact hb))).trans (h z hz)
/-- the input and the error stay -/
def KI (g G : gH) : Prop := (∀ k, 10 ≤ k → k ≤ 12 → G 624 k = g 624 k) ∧ G 631 = g 631
theorem KI_r {g : gH} : KI g g := ⟨fun _ _ _ => rfl, rfl⟩
theorem KI_t {g G H : gH} (h : KI g G) (h' : KI G H) : KI g H := ⟨fun k k0 k1 => (h'.1 k k0 k1).trans (h.1 k k0 k1), h'.2.trans h.2⟩
theorem KI_e {g G H : gH} (h : KI g G) (e : ∀ k, 10 ≤ k → k ≤ 12 → H 624 k = G 624 k) (e2 : H 631 = G 631) : KI g H := KI_t h ⟨e, e2⟩
/-- a call that leaves the input as it is -/
def PO (g : gH) (X : Option (Int × gH)) : Prop := ∃ v g', X = some (v, g') ∧ MInv g' ∧ MF g g' ∧ KI g g'
/-- the mark of a throw -/
def th (g : gH) (t : Int) : gH := pU g 624 8 t
theorem th_n {g : gH} {t x : Int} (h : ¬ x = 624) : th g t x = g x := pU_n h
theorem th_f {g : gH} {t k : Int} (h : ¬ k = 8) : th g t 624 k = g 624 k := by
  unfold th
  rw [pU_s, u1_n h]
theorem th_th {g : gH} {t u : Int} : pU (th g t) 624 8 u = th g u := by
  funext x y
  unfold th pU
  by_cases h : x = 624 ∧ y = 8
  · rw [if_pos h, if_pos h]
  · rw [if_neg h, if_neg h, if_neg h]
theorem MInv_th {g : gH} {t : Int} (h : MInv g) : MInv (th g t) := by
  obtain ⟨h1, h2, h3, ⟨h4, h5⟩, h6, h7, h8⟩ := h
  unfold MInv MS
  simp (disch := omega) only [th_n, th_f]
  exact ⟨h1, h2, h3, ⟨h4, h5⟩, h6, h7, h8⟩
theorem MF_th {g g1 : gH} {t : Int} (h : MF g g1) : MF g (th g1 t) := MF_pU h (by omega)
section MODEL10
variable {g : gH} {p code t c a b : Int}
theorem vM_fails (hc : c = 0 ∨ c = 1) : fM_fails g 624 c code = some (c, if c = 0 then g else th g code) := by
  rw [fM_fails]
  rcases hc with rfl | rfl
  · rfl
  · simp only [show ¬ (1 : Int) = 0 by omega, if_false, bnd_s]
    rfl
theorem vM_inRange : fM_inRange g c a b = some (if a ≤ c ∧ c ≤ b then 1 else 0) := by
  rw [fM_inRange]
  by_cases h1 : c < a
  · rw [if_pos h1, if_neg (by omega)]
  · by_cases h2 : b < c
    · rw [if_neg h1, if_pos h2, if_neg (by omega)]
    · rw [if_neg h1, if_neg h2, if_pos (by omega)]
theorem th_id {g : gH} : (if (0 : Int) = 0 then th g 0 else th (th g 0) t) = th g 0 := if_pos rfl
/-- is there such a process -/
theorem vM_noProcess (hi : MInv g) : fM_noProcess g 624 p = some (if 0 ≤ p ∧ p < g 625 0 then 0 else 1, if 0 ≤ p ∧ p < g 625 0 then th g 0 else th g 1) := by
  have h0 := hi.1.1
  have hM := hi.2.1.1.1
  have e : pU g 624 8 0 = th g 0 := rfl
  rw [fM_noProcess]
  simp (disch := omega) only [↓bnd_s, e, th_n, th_f, h0, kd_625, sz_625, true_and, le_t, lt_t, and_true, ↓reduceIte, w32_r, vM_inRange, bdP_s]
  by_cases h : 0 ≤ p ∧ p < g 625 0
  · rw [if_pos (show 0 ≤ p ∧ p ≤ g 625 0 - 1 by omega), if_pos h, if_pos h]
    simp only [show ¬ (1 : Int) = 0 by omega, if_false, vM_fails (Or.inl rfl), bdN_s, if_true]
  · rw [if_neg (show ¬ (0 ≤ p ∧ p ≤ g 625 0 - 1) by omega), if_neg h, if_neg h]
    simp only [if_true, vM_fails (Or.inr rfl), bdN_s, show ¬ (1 : Int) = 0 by omega, if_false]
    rw [show th (th g 0) 1 = th g 1 from th_th]
end MODEL10
