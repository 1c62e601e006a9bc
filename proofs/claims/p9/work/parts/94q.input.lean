/-! ===== both inputs, byte by byte (own work) ===== -/
section PAR17
variable {g g' g1 G H K M A : gH} {a b c d e i j k l m n p q s t u v w x y z : Int}
theorem i2b_m (x : Int) : i2b x = (w32 x).bmod 256 := by
  unfold i2b
  rw [Int8.toInt_toInt32, Int32.toInt_toInt8, toI_toInt]
theorem by_r (z : Int) : (0 ≤ opI 1 z 255 ∧ opI 1 z 255 ≤ 255) ∧ i2b (i2b z) = if opI 1 z 255 < 128 then opI 1 z 255 else opI 1 z 255 - 256 := by
  have e : ((toI z).toBitVec &&& 255#32).toNat = (toI z).toBitVec.toNat % 256 := by
    rw [BitVec.toNat_and]
    exact Nat.and_two_pow_sub_one_eq_mod _ 8
  have e2 : opI 1 z 255 = ((toI z).toBitVec &&& 255#32).toInt := rfl
  have hm : (toI z).toBitVec.toNat % 256 < 256 := Nat.mod_lt _ (by omega)
  have e3 : opI 1 z 255 = (((toI z).toBitVec.toNat % 256 : Nat) : Int) := by
    rw [e2, BitVec.toInt_eq_toNat_cond, e, if_pos (by omega)]
  have hw : (toI z).toInt = w32 z := toI_toInt z
  have hz : (toI z).toInt = (toI z).toBitVec.toInt := rfl
  rw [hz, BitVec.toInt_eq_toNat_cond] at hw
  rw [e3]
  have hlt := (toI z).toBitVec.isLt
  generalize (toI z).toBitVec.toNat = N at *
  have h1 : i2b z = if ((N % 256 : Nat) : Int) < 128 then ((N % 256 : Nat) : Int) else ((N % 256 : Nat) : Int) - 256 := by
    rw [i2b_m, ← hw]
    simp only [Int.bmod_def]
    split <;> split <;> split <;> omega
  have h2 : -128 ≤ i2b z ∧ i2b z < 128 := by
    rw [h1]
    split <;> omega
  refine ⟨by omega, ?_⟩
  rw [← h1, i2b_m, w32_r (by omega)]
  generalize i2b z = B at *
  simp only [Int.bmod_def]
  split <;> omega
/-- both write one byte -/
theorem BB_byte (h : BB G H) (h0 : 0 ≤ G 576 1) (z : Int) : BB (pU (pU G 577 (G 576 1) (i2b (i2b z))) 576 1 (G 576 1 + 1)) (pU (pU H 631 (H 624 10) (opI 1 z 255)) 624 10 (H 624 10 + 1)) := by
  obtain ⟨h1, h2⟩ := h
  unfold BB
  rw [pU_s, u1_s, pU_s, u1_s, pU_n (show ¬ (577 : Int) = 576 by omega), pU_s, pU_n (show ¬ (631 : Int) = 624 by omega), pU_s, ← h1]
  refine ⟨rfl, fun k k0 k1 => ?_⟩
  by_cases e : k = G 576 1
  · rw [e, u1_s, u1_s]
    exact by_r z
  · rw [u1_n e, u1_n e]
    exact h2 k k0 (by omega)
/-- both write the four bytes of a number -/
theorem ap_both : ∀ (m n1 n2 : Nat) (v : Int) (G H : gH), BB G H → (0 ≤ G 576 1 ∧ G 576 1 + m ≤ 500) → G 576 0 = 577 → H 624 9 = 631 → (v + 8) / 8 = m → 0 ≤ v + 8 → v < 100 → m < n1 → m < n2 → ∃ G' H', lI_append_3 576 w n1 v G = some (0, G') ∧ lM_appendWord_3 624 w n2 v H = some (0, H') ∧ BB G' H' ∧ G' 576 1 = G 576 1 + m ∧ (G' 576 0 = 577 ∧ ∀ x, ¬ x = 576 → ¬ x = 577 → G' x = G x) ∧ (H' 624 9 = 631 ∧ (∀ k, ¬ k = 10 → H' 624 k = H 624 k) ∧ ∀ x, ¬ x = 624 → ¬ x = 631 → H' x = H x) := by
  intro m
  induction m with
  | zero =>
    intro n1 n2 v G H hb hl g0 h9 hm h8 hv hn1 hn2
    obtain ⟨n1, rfl⟩ : ∃ k, n1 = k + 1 := ⟨n1 - 1, by omega⟩
    obtain ⟨n2, rfl⟩ : ∃ k, n2 = k + 1 := ⟨n2 - 1, by omega⟩
    refine ⟨G, H, ?_, ?_, hb, by omega, ⟨g0, fun _ _ _ => rfl⟩, ⟨h9, fun _ _ => rfl, fun _ _ _ => rfl⟩⟩
    · show bI_append_3 576 w (lI_append_3 576 w n1) v G = _
      rw [bI_append_3, if_pos (by omega)]
    · show bM_appendWord_3 624 w (lM_appendWord_3 624 w n2) v H = _
      rw [bM_appendWord_3, if_pos (by omega)]
  | succ m ih =>
    intro n1 n2 v G H hb hl g0 h9 hm h8 hv hn1 hn2
    obtain ⟨n1, rfl⟩ : ∃ k, n1 = k + 1 := ⟨n1 - 1, by omega⟩
    obtain ⟨n2, rfl⟩ : ∃ k, n2 = k + 1 := ⟨n2 - 1, by omega⟩
    have e10 := hb.1
    have s := BB_byte hb hl.1 (opI 5 w v)
    have cG : lI_append_3 576 w (n1 + 1) v G = lI_append_3 576 w n1 (v + -8) (pU (pU G 577 (G 576 1) (i2b (i2b (opI 5 w v)))) 576 1 (G 576 1 + 1)) := by
      show bI_append_3 576 w (lI_append_3 576 w n1) v G = _
      have e2 : pU G 577 (G 576 1) (i2b (i2b (opI 5 w v))) 576 = G 576 := pU_n (by omega)
      rw [bI_append_3, if_neg (by omega), if_neg (by omega), if_pos (by omega), g0, if_pos ⟨kd_577, hl.1, by rw [sz_577]; omega⟩, bnd_s, bnd_s, e2, w32_r (by omega), w32_r (by omega)]
    have cH : lM_appendWord_3 624 w (n2 + 1) v H = lM_appendWord_3 624 w n2 (v + -8) (pU (pU H 631 (H 624 10) (opI 1 (opI 5 w v) 255)) 624 10 (H 624 10 + 1)) := by
      show bM_appendWord_3 624 w (lM_appendWord_3 624 w n2) v H = _
      have e2 : pU H 631 (H 624 10) (opI 1 (opI 5 w v) 255) 624 = H 624 := pU_n (by omega)
      rw [bM_appendWord_3, if_neg (by omega), h9, if_pos ⟨kd_631, by omega, by rw [sz_631]; omega⟩, bnd_s, bnd_s, e2, w32_r (by omega), w32_r (by omega)]
    have x1 : pU (pU G 577 (G 576 1) (i2b (i2b (opI 5 w v)))) 576 1 (G 576 1 + 1) 576 1 = G 576 1 + 1 := by rw [pU_s, u1_s]
    have x0 : pU (pU G 577 (G 576 1) (i2b (i2b (opI 5 w v)))) 576 1 (G 576 1 + 1) 576 0 = 577 := by rw [pU_s, u1_n (by omega), pU_n (by omega)]; exact g0
    have xx : ∀ x, ¬ x = 576 → ¬ x = 577 → pU (pU G 577 (G 576 1) (i2b (i2b (opI 5 w v)))) 576 1 (G 576 1 + 1) x = G x := fun x a b => by rw [pU_n a, pU_n b]
    have y9 : pU (pU H 631 (H 624 10) (opI 1 (opI 5 w v) 255)) 624 10 (H 624 10 + 1) 624 9 = 631 := by rw [pU_s, u1_n (by omega), pU_n (by omega)]; exact h9
    have yk : ∀ k, ¬ k = 10 → pU (pU H 631 (H 624 10) (opI 1 (opI 5 w v) 255)) 624 10 (H 624 10 + 1) 624 k = H 624 k := fun k hk => by rw [pU_s, u1_n hk, pU_n (by omega)]
    have yx : ∀ x, ¬ x = 624 → ¬ x = 631 → pU (pU H 631 (H 624 10) (opI 1 (opI 5 w v) 255)) 624 10 (H 624 10 + 1) x = H x := fun x a b => by rw [pU_n a, pU_n b]
    rw [cG, cH]
    generalize pU (pU G 577 (G 576 1) (i2b (i2b (opI 5 w v)))) 576 1 (G 576 1 + 1) = A at *
    generalize pU (pU H 631 (H 624 10) (opI 1 (opI 5 w v) 255)) 624 10 (H 624 10 + 1) = D at *
    obtain ⟨G', H', r1, r2, r3, r4, ⟨r5, r6⟩, ⟨r7, r8, r9⟩⟩ := ih n1 n2 (v + -8) A D s (by omega) x0 y9 (by omega) (by omega) (by omega) (by omega) (by omega)
    exact ⟨G', H', r1, r2, r3, by omega, ⟨r5, fun x a b => (r6 x a b).trans (xx x a b)⟩, ⟨r7, fun k hk => (r8 k hk).trans (yk k hk), fun x a b => (r9 x a b).trans (yx x a b)⟩⟩
theorem ap_word (hb : BB G H) (hl : 0 ≤ G 576 1 ∧ G 576 1 + 4 ≤ 500) (h0 : G 576 0 = 577) (h9 : H 624 9 = 631) : ∃ G' H', fI_append G 576 w = some (0, G') ∧ fM_appendWord H 624 w = some (0, H') ∧ BB G' H' ∧ G' 576 1 = G 576 1 + 4 ∧ (G' 576 0 = 577 ∧ ∀ x, ¬ x = 576 → ¬ x = 577 → G' x = G x) ∧ (H' 624 9 = 631 ∧ (∀ k, ¬ k = 10 → H' 624 k = H 624 k) ∧ ∀ x, ¬ x = 624 → ¬ x = 631 → H' x = H x) := by
  have hf := fu_ge
  exact ap_both 4 fu fu 24 G H hb hl h0 h9 (by omega) (by omega) (by omega) (by omega) (by omega)
/-- both append alike -/
theorem ap_input (h : CInv g) (hM : MInv g1) (hb : BB g g1) : ∃ v G H, fC_appendInput g 0 a b c d k = some (v, G) ∧ fM_appendInput g1 624 a b c d k = some (v, H) ∧ BB G H ∧ (∀ x, ¬ x = 576 → ¬ x = 577 → G x = g x) ∧ (∀ k, ¬ k = 10 → ¬ k = 8 → H 624 k = g1 624 k) ∧ (∀ x, ¬ x = 624 → ¬ x = 631 → H x = g1 x) ∧ H 624 8 = 0 := by
  have hl := h.2.2
  have e4 : g 0 4 = 575 := h.1.1.2.2.2.2.1
  have e5 : g 575 0 = 576 := h.1.2.2.2.1
  have e0 : g 576 0 = 577 := h.1.2.2.2.2.2.1
  have h10 := hb.1
  have m9 : g1 624 9 = 631 := hM.1.2.2.2.2.2.1
  rw [fC_appendInput, e4, if_pos kd_575, e5, if_pos kd_576, w32_r (by omega), fM_appendInput, bnd_s]
  have t10 : ∀ k, ¬ k = 8 → pU g1 624 8 0 624 k = g1 624 k := fun k hk => pU_y hk
  have t31 : pU g1 624 8 0 631 = g1 631 := pU_n (by omega)
  have tx : ∀ x, ¬ x = 624 → pU g1 624 8 0 x = g1 x := fun x hx => pU_n hx
  have t8 : pU g1 624 8 0 624 8 = 0 := by rw [pU_s, u1_s]
  have hb1 : BB g (pU g1 624 8 0) := by
    unfold BB
    rw [t10 10 (by omega), t31]
    exact hb
  generalize pU g1 624 8 0 = H0 at *
  rw [t10 10 (by omega), ← h10, w32_r (by omega)]
  by_cases hc : 500 < g 576 1 + 20
  · rw [if_pos hc, if_pos hc]
    exact ⟨_, _, _, rfl, rfl, hb1, fun _ _ _ => rfl, fun k _ k8 => t10 k k8, fun x x1 _ => tx x x1, t8⟩
  · rw [if_neg hc, if_neg hc]
    obtain ⟨G1, H1, a1, a2, a3, a4, ⟨a5, a6⟩, ⟨a7, a8, a9⟩⟩ := ap_word (w := a) hb1 (by omega) e0 (by rw [t10 9 (by omega)]; exact m9)
    obtain ⟨G2, H2, b1, b2, b3, b4, ⟨b5, b6⟩, ⟨b7, b8, b9⟩⟩ := ap_word (w := b) a3 (by omega) a5 a7
    obtain ⟨G3, H3, c1, c2, c3, c4, ⟨c5, c6⟩, ⟨c7, c8, c9⟩⟩ := ap_word (w := c) b3 (by omega) b5 b7
    obtain ⟨G4, H4, d1, d2, d3, d4, ⟨d5, d6⟩, ⟨d7, d8, d9⟩⟩ := ap_word (w := d) c3 (by omega) c5 c7
    obtain ⟨G5, H5, k1, k2, k3, k4, ⟨k5, k6⟩, ⟨k7, k8, k9⟩⟩ := ap_word (w := k) d3 (by omega) d5 d7
    rw [a1, bdN_s, b1, bdN_s, c1, bdN_s, d1, bdN_s, k1, bdN_s, a2, bdN_s, b2, bdN_s, c2, bdN_s, d2, bdN_s, k2, bdN_s, k3.1]
    refine ⟨_, G5, H5, rfl, rfl, k3, fun x x1 x2 => ?_, fun k k1 k2 => ?_, fun x x1 x2 => ?_, ?_⟩
    · rw [k6 x x1 x2, d6 x x1 x2, c6 x x1 x2, b6 x x1 x2, a6 x x1 x2]
    · rw [k8 k k1, d8 k k1, c8 k k1, b8 k k1, a8 k k1]; exact t10 k k2
    · rw [k9 x x1 x2, d9 x x1 x2, c9 x x1 x2, b9 x x1 x2, a9 x x1 x2]; exact tx x x1
    · rw [k8 8 (by omega), d8 8 (by omega), c8 8 (by omega), b8 8 (by omega), a8 8 (by omega)]; exact t8
theorem tr_input (h : CInv g) (hM : MInv g1) (hb : BB g g1) : ∃ v G H, fC_truncateInput g 0 a = some (v, G) ∧ fM_truncateInput g1 624 a = some (v, H) ∧ BB G H ∧ (∀ x, ¬ x = 576 → ¬ x = 577 → G x = g x) ∧ (∀ k, ¬ k = 10 → ¬ k = 8 → H 624 k = g1 624 k) ∧ (∀ x, ¬ x = 624 → ¬ x = 631 → H x = g1 x) ∧ H 624 8 = 0 := by
  have hl := h.2.2
  have e4 : g 0 4 = 575 := h.1.1.2.2.2.2.1
  have e5 : g 575 0 = 576 := h.1.2.2.2.1
  have h10 := hb.1
  rw [fC_truncateInput, e4, if_pos kd_575, e5, if_pos kd_576, fM_truncateInput, bnd_s, bnd_s]
  have t10 : ∀ k, ¬ k = 8 → pU g1 624 8 0 624 k = g1 624 k := fun k hk => pU_y hk
  have t31 : pU g1 624 8 0 631 = g1 631 := pU_n (by omega)
  have tx : ∀ x, ¬ x = 624 → pU g1 624 8 0 x = g1 x := fun x hx => pU_n hx
  have t8 : pU g1 624 8 0 624 8 = 0 := by rw [pU_s, u1_s]
  have hb1 : BB g (pU g1 624 8 0) := by
    unfold BB
    rw [t10 10 (by omega), t31]
    exact hb
  generalize pU g1 624 8 0 = H0 at *
  rw [t10 10 (by omega), ← h10, vM_inRange, bdP_s]
  by_cases h1 : a < 0
  · rw [if_pos h1, if_neg (show ¬ (0 ≤ a ∧ a ≤ g 576 1) by omega), if_pos (show (0 : Int) = 0 from rfl)]
    exact ⟨_, _, _, rfl, rfl, hb1, fun _ _ _ => rfl, fun k _ k8 => t10 k k8, fun x x1 _ => tx x x1, t8⟩
  · rw [if_neg h1]
    by_cases h2 : g 576 1 < a
    · rw [if_pos h2, if_neg (show ¬ (0 ≤ a ∧ a ≤ g 576 1) by omega), if_pos (show (0 : Int) = 0 from rfl)]
      exact ⟨_, _, _, rfl, rfl, hb1, fun _ _ _ => rfl, fun k _ k8 => t10 k k8, fun x x1 _ => tx x x1, t8⟩
    · rw [if_neg h2, if_pos (show 0 ≤ a ∧ a ≤ g 576 1 by omega), if_neg f0, bnd_s]
      refine ⟨_, _, _, rfl, rfl, ?_, fun x x1 _ => pU_n x1, fun k k1 k2 => ?_, fun x x1 _ => ?_, ?_⟩
      · unfold BB
        rw [pU_s, u1_s, pU_s, u1_s, pU_n (show ¬ (577 : Int) = 576 by omega), pU_n (show ¬ (631 : Int) = 624 by omega)]
        exact ⟨rfl, fun j j0 j1 => hb1.2 j j0 (by omega)⟩
      · rw [pU_y k1]; exact t10 k k2
      · rw [pU_n x1]; exact tx x x1
      · rw [pU_y (by omega)]; exact t8
end PAR17
