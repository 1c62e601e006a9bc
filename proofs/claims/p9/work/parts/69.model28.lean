/-! ===== the reference's reader: its statements (own work) ===== -/
section MODEL28
variable {g G H K : gH} {p code t c a b k q gp d x y z w v n l i : Int}
/-- what the reader leaves alone -/
def FX (g G : gH) : Prop := G 626 = g 626 ∧ (∀ x, 627 ≤ x → x ≤ 629 → G x = g x) ∧ ∀ k, 6 ≤ k → k ≤ 8 → G 624 k = g 624 k
theorem FX_e (h : FX g G) (e : ∀ x, 624 ≤ x → x ≤ 629 → ¬ x = 625 → H x = G x) : FX g H := ⟨(e 626 (by omega) (by omega) (by omega)).trans h.1, fun x x0 x1 => (e x (by omega) (by omega) (by omega)).trans (h.2.1 x x0 x1), fun k k0 k1 => by rw [e 624 (by omega) (by omega) (by omega)]; exact h.2.2 k k0 k1⟩
/-- while the reader reads: the row is whole, everyone runs, the kept row stands by -/
def RD (g G : gH) : Prop := MInv G ∧ MF g G ∧ FX g G ∧ G 624 10 = g 624 10 ∧ TK G ∧ ∀ i, 0 ≤ i → i < G 625 0 → G 625 (140 + i) = 0
theorem RD_PF (h : RD g G) (k : PF G H) (t : TK H) : RD g H := ⟨MInv_PF h.1 k, fun x hx => (k.1 x (by omega)).trans (h.2.1 x hx), ⟨(k.1 626 (by omega)).trans h.2.2.1.1, fun x x0 x1 => (k.1 x (by omega)).trans (h.2.2.1.2.1 x x0 x1), fun y y0 y1 => (k.2 y (by omega)).trans (h.2.2.1.2.2 y y0 y1)⟩, (k.2 10 (by omega)).trans h.2.2.2.1, t, by rw [k.1 625 (by omega)]; exact h.2.2.2.2.2⟩
theorem RD_632 (h : RD g G) : RD g (pU G 632 k v) := by
  obtain ⟨⟨h1, h2, h3, ⟨h4, h5⟩, h6, h7, h8⟩, b1, b2, b3, b4, b5⟩ := h
  refine ⟨?_, MF_pU b1 (by omega), FX_e b2 (fun x x0 x1 x2 => pU_n (by omega)), by rw [pU_n (by omega)]; exact b3, ?_, by rw [pU_n (by omega)]; exact b5⟩
  · unfold MInv MS
    simp (disch := omega) only [pU_n]
    exact ⟨h1, h2, h3, ⟨h4, h5⟩, h6, h7, h8⟩
  · unfold TK; rw [pU_n (by omega)]; exact b4
theorem RD_row (h : RD g G) (hw : WBF (u1 (G 625) k v)) (h0 : ¬ k = 0) (hk : ¬ (140 ≤ k ∧ k < 180)) : RD g (pU G 625 k v) := by
  have hM := h.1.2.1.1.1
  obtain ⟨⟨h1, h2, h3, ⟨h4, h5⟩, h6, h7, h8⟩, b1, b2, b3, b4, b5⟩ := h
  refine ⟨?_, MF_pU b1 (by omega), FX_e b2 (fun x x0 x1 x2 => pU_n (by omega)), by rw [pU_n (by omega)]; exact b3, ?_, ?_⟩
  · unfold MInv MS
    rw [pU_s]
    simp (disch := omega) only [pU_n]
    exact ⟨h1, hw, h3, ⟨h4, h5⟩, h6, h7, h8⟩
  · unfold TK; rw [pU_n (by omega)]; exact b4
  · rw [pU_s]
    intro i i0 i1
    rw [u1_n (by omega)] at i1
    rw [u1_n (by omega)]
    exact b5 i i0 i1
theorem TK_Ps (h : TK G) : Ps G := by unfold TK at h; unfold Ps; omega
theorem rd_advance (h : RD g G) : ∃ H, fM_advanceToken G 624 = some (0, H) ∧ RD g H ∧ AT G H := by
  obtain ⟨H, e, a⟩ := vM_advance h.1 (TK_Ps h.2.2.2.2.1)
  exact ⟨H, e, RD_PF h a.1 a.2.1, a⟩
theorem rd_fails (h : RD g G) : ∃ H, fM_failsAt G 624 v = some (0, H) ∧ RD g H ∧ G 624 15 ≤ H 624 15 := by
  obtain ⟨H, e, k1, k2⟩ := vM_failsAt (v := v) h.1
  have ht := h.2.2.2.2.1
  refine ⟨H, e, RD_PF h k1 ?_, by omega⟩
  unfold TK at ht ⊢
  rw [k2.1, k2.2.1, k1.2 10 (by omega)]; exact ht
theorem rd_number (h : RD g G) : ∃ y H, fM_isNumber G 624 a b = some (y, H) ∧ RD g H ∧ H 624 15 = G 624 15 ∧ (y = 0 ∨ (y = 1 ∧ H = G ∧ a ≤ G 624 17 ∧ G 624 17 ≤ b)) := by
  obtain ⟨y, H, e, k1, k2, k4, k3⟩ := vM_isNumber (a := a) (b := b) h.1 h.2.2.2.2.1
  refine ⟨y, H, e, RD_PF h k1 k2, k4, ?_⟩
  rcases k3 with k3 | ⟨k3, k4, -, k5, k6⟩
  · exact Or.inl k3
  · exact Or.inr ⟨k3, k4, k5, k6⟩
/-- a reader's step: it ends, with 0 or 1 -/
def RS (g G : gH) (X : Option (Int × gH)) : Prop := ∃ y H, X = some (y, H) ∧ RD g H ∧ G 624 15 ≤ H 624 15
theorem RS_i {X : Option (Int × gH)} (e : X = some (y, H)) (h : RD g H) (hp : G 624 15 ≤ H 624 15) : RS g G X := ⟨y, H, e, h, hp⟩
theorem RS_fails (h : RD g K) (hp : G 624 15 ≤ K 624 15) : RS g G (bdN (fM_failsAt K 624 v) (fun y H => some (y, H))) := by
  obtain ⟨H, e, k1, k2⟩ := rd_fails (v := v) h
  rw [e, bdN_s]
  exact RS_i rfl k1 (by omega)
theorem RS_ite {c : Prop} [Decidable c] {A B : Option (Int × gH)} (h1 : c → RS g G A) (h2 : ¬ c → RS g G B) : RS g G (if c then A else B) := by
  split
  · next h => exact h1 h
  · next h => exact h2 h
theorem RS_number {A : gH → Option (Int × gH)} (h : RD g K) (hp : G 624 15 ≤ K 624 15) (hA : a ≤ K 624 17 → K 624 17 ≤ b → RS g G (A K)) : RS g G (bdN (fM_isNumber K 624 a b) (fun y H => if y = 0 then some (0, H) else A H)) := by
  obtain ⟨y, H, e, k1, k2, k3⟩ := rd_number (a := a) (b := b) h
  rw [e, bdN_s]
  rcases k3 with k3 | ⟨k3, k4, k5, k6⟩
  · rw [if_pos k3]; exact RS_i rfl k1 (by omega)
  · rw [if_neg (by omega), k4]; exact hA k5 k6
theorem RS_advance {A : gH → Option (Int × gH)} (h : RD g K) (hp : G 624 15 ≤ K 624 15) (hA : ∀ H, RD g H → PF K H → G 624 15 ≤ H 624 15 → RS g G (A H)) : RS g G (bdN (fM_advanceToken K 624) (fun _ H => A H)) := by
  obtain ⟨H, e, k1, k2⟩ := rd_advance h
  rw [e, bdN_s]
  exact hA H k1 k2.1 (by have := k2.2.2.1; omega)
/-- a number is taken into the k-th place -/
theorem RS_takes {A : gH → Option (Int × gH)} (h : RD g K) (hk : 0 ≤ k ∧ k < 4) (hp : G 624 15 ≤ K 624 15) (hA : ∀ H, RD g H → H 625 = K 625 → (a ≤ H 632 k ∧ H 632 k ≤ b) → (∀ j, ¬ j = k → H 632 j = K 632 j) → G 624 15 ≤ H 624 15 → RS g G (A H)) : RS g G (bdN (fM_takes K 624 k a b) (fun y H => if y = 0 then some (0, H) else A H)) := by
  rw [fM_takes]
  obtain ⟨y, H, e, k1, k2, k3⟩ := rd_number (a := a) (b := b) h
  rw [e, bdN_s]
  rcases k3 with k3 | ⟨k3, k4, k5, k6⟩
  · rw [if_pos k3, bdN_s, if_pos rfl]; exact RS_i rfl k1 (by omega)
  · rw [if_neg (by omega), k4]
    have h20 : K 624 20 = 632 := h.1.1.2.2.2.2.2.2.1
    rw [if_pos (by rw [h20, kd_632, sz_632]; omega), bnd_s, h20]
    obtain ⟨L, e2, k7, k8⟩ := rd_advance (RD_632 h (k := k) (v := K 624 17))
    rw [e2, bdN_s, bdN_s, if_neg f0]
    have e32 := k8.1.1 632 (by omega)
    refine hA L k7 ?_ ?_ ?_ ?_
    · rw [k8.1.1 625 (by omega), pU_n (by omega)]
    · rw [e32, pU_s, u1_s]; exact ⟨k5, k6⟩
    · intro j hj
      rw [e32, pU_s, u1_n hj]
    · have := k8.2.2.1
      rw [pU_n (by omega)] at this
      omega
theorem RS_once {A : gH → Option (Int × gH)} (h : RD g K) (hp : G 624 15 ≤ K 624 15) (hA : ∀ H, RD g H → H 625 = K 625 → G 624 15 ≤ H 624 15 → RS g G (A H)) : RS g G (bdN (fM_startsOnce K 624 v) (fun y H => if y = 0 then some (0, H) else A H)) := by
  rw [fM_startsOnce]
  split
  · rw [bnd_s]
    have hk : PF K (pU K 624 19 (opI 2 (K 624 19) v)) := PF_u PF_r (by omega)
    have e15 : pU K 624 19 (opI 2 (K 624 19) v) 624 15 = K 624 15 := by rw [pU_s, u1_n (by omega)]
    obtain ⟨L, e2, k7, k8⟩ := rd_advance (RD_PF h hk (by
      have := h.2.2.2.2.1
      unfold TK at this ⊢
      rw [e15, pU_s, u1_n (by omega), u1_n (by omega)]
      exact this))
    rw [e2, bdN_s, bdN_s, if_neg f0]
    refine hA L k7 ?_ ?_
    · rw [k8.1.1 625 (by omega), hk.1 625 (by omega)]
    · have := k8.2.2.1
      omega
  · obtain ⟨H, e, k1, k2⟩ := rd_fails (v := 3) h
    rw [e, bdN_s, bdN_s, if_pos rfl]
    exact RS_i rfl k1 (by omega)
theorem RD_pos (hw : RD g (pU K 625 k v)) (hp : G 624 15 ≤ K 624 15) {X : Option (Int × gH)} (e : X = some (y, pU K 625 k v)) : RS g G X := RS_i e hw (by rw [pU_n (by omega)]; exact hp)
/-- a place of the row that the tree doesn't hang on -/
theorem WBF_pl {r : Int → Int} (h : WBF r) (hW : WB (u1 r k v)) (hk : ¬ (k = 0 ∨ k = 1 ∨ (11 ≤ k ∧ k < 100 ∧ ¬ k = 59) ∨ (140 ≤ k ∧ k < 180) ∨ (220 ≤ k ∧ k < 260) ∨ (300 ≤ k ∧ k < 340))) : WBF (u1 r k v) := WBF_eq h hW (fun j hj => u1_n (fun e => hk (by rw [← e]; exact hj)))
/-- the depth's limit -/
theorem WBF_59 {r : Int → Int} (h : WBF r) : WBF (u1 r 59 v) := WBF_pl h (WB_eq h.1 (fun j hj => u1_n (by omega))) (by omega)
theorem WBF_340 {r : Int → Int} (h : WBF r) (hk : 340 ≤ k ∧ k < 460) : WBF (u1 r k v) := WBF_pl h (WB_eq h.1 (fun j hj => u1_n (by omega))) (by omega)
/-- a duty's holder -/
theorem WBF_11 {r : Int → Int} (h : WBF r) (hd : 0 ≤ d ∧ d < 8) (hp : 0 ≤ p ∧ p < r 0) (hs : r (140 + p) = 0) : WBF (u1 r (11 + d) p) := by
  have hb0 := h.1
  have hM := hb0.1
  obtain ⟨-, ⟨s1, s2⟩, hSR, ⟨x1, x2⟩, hL, hN, hH, hC, hB⟩ := h
  have e : ∀ k, ¬ k = 11 + d → u1 r (11 + d) p k = r k := fun k hk => u1_n hk
  have e0 : u1 r (11 + d) p 0 = r 0 := e 0 (by omega)
  have e1 : u1 r (11 + d) p 1 = r 1 := e 1 (by omega)
  have est : ∀ i, 0 ≤ i → i < r 0 → u1 r (11 + d) p (140 + i) = r (140 + i) := fun i i0 i1 => e _ (by omega)
  refine ⟨WB_eq hb0 (fun j hj => e j (by omega)), ⟨?_, by rw [e 140 (by omega)]; exact s2⟩, ?_, ⟨by rw [e1]; exact x1, ?_⟩, ?_, ?_, ?_, ?_, ?_⟩
  · intro i i0 i1
    rw [e0] at i1
    rw [est i i0 i1]
    exact s1 i i0 i1
  · intro i i0 i1 i2
    rw [e0] at i1
    rw [est i (by omega) i1] at i2
    rw [e (60 + i) (by omega)]
    have := hb0.2.1 i i0 i1
    rw [est _ this.1 this.2]
    exact hSR i i0 i1 i2
  · intro k k0 k1
    rw [e1] at k1
    rw [e _ (by omega), e0]
    exact x2 k k0 k1
  · intro i i0 i1 i2
    rw [e0] at i1
    rw [est i i0 i1] at i2
    obtain ⟨k, k0, k1, k2⟩ := hL i i0 i1 i2
    exact ⟨k, k0, by rw [e1]; exact k1, by rw [e _ (by omega)]; exact k2⟩
  · show u1 r (11 + d) p 1 = _
    rw [e1, cn_eq_st e0 hM.2 (fun k k0 k1 => e k (by omega))]
    exact hN
  · intro j d0 d1
    by_cases hj : j = d
    · rw [hj, u1_s, e0, est p hp.1 hp.2]; exact ⟨hp.1, hp.2, hs⟩
    · have := hH j d0 d1
      rw [e (11 + j) (by omega), e0, est _ this.1 this.2.1]
      exact this
  · intro i i0 i1 i2
    rw [e0] at i1
    rw [est i i0 i1] at i2
    rw [e _ (by omega)]
    exact hC i i0 i1 i2
  · intro i i0 i1
    rw [e0] at i1
    rw [e _ (by omega)]
    exact hB i i0 i1
theorem rs_deep (h : RD g G) : RS g G (fM_readDeep G 624) := by
  rw [fM_readDeep]
  refine RS_once h (Int.le_refl _) (fun K hK eK pK => RS_takes hK (by omega) pK (fun L hL eL bL _ pL => ?_))
  have h0 := hL.1.1.1
  have h20 : L 624 20 = 632 := hL.1.1.2.2.2.2.2.2.1
  simp (disch := omega) only [h0, h20, kd_625, sz_625, kd_632, sz_632, true_and, le_t, lt_t, and_true, ↓reduceIte, bnd_s]
  exact RD_pos (RD_row hL (WBF_59 hL.1.2.1) (by omega) (by omega)) pL rfl
theorem rs_duty (h : RD g G) : RS g G (fM_readDuty G 624) := by
  rw [fM_readDuty]
  refine RS_advance h (Int.le_refl _) (fun K hK _ pK => RS_takes hK (by omega) pK (fun L hL eL bL _ pL => ?_))
  have h0 := hL.1.1.1
  have hM := hL.1.2.1.1.1
  simp (disch := omega) only [h0, kd_625, sz_625, true_and, le_t, lt_t, and_true, ↓reduceIte]
  rw [w32_r (by omega)]
  refine RS_takes hL (by omega) pL (fun J hJ eJ bJ oJ pJ => ?_)
  have j0 := hJ.1.1.1
  have j20 : J 624 20 = 632 := hJ.1.1.2.2.2.2.2.2.1
  have jd := oJ 0 (by omega)
  rw [← jd] at bL
  rw [← eJ] at bJ
  simp (disch := omega) only [j0, j20, kd_625, sz_625, kd_632, sz_632, w32_r, true_and, le_t, lt_t, and_true, ↓reduceIte, bnd_s]
  exact RD_pos (RD_row hJ (WBF_11 hJ.1.2.1 (by omega) (by omega) (hJ.2.2.2.2.2 _ (by omega) (by omega))) (by omega) (by omega)) pJ rfl
end MODEL28
