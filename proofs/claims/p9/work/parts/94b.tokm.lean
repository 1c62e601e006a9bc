/-! ===== the reference's tokens (own work) ===== -/
section PAR2
variable {g g' G H K : gH} {B F : Int → Int} {a b c d e i j k l m n p q s t u v w x y z : Int}
theorem pU_self : pU g a b (g a b) = g := by
  funext x y
  unfold pU
  by_cases h : x = a ∧ y = b
  · rw [if_pos h, h.1, h.2]
  · rw [if_neg h]
theorem pU_tw : pU (pU g a b v) a b w = pU g a b w := by
  funext x y
  unfold pU
  by_cases h : x = a ∧ y = b
  · rw [if_pos h, if_pos h]
  · rw [if_neg h, if_neg h, if_neg h]
theorem IsR_c {P : Int → Prop} (h : IsR F P n (s + 1) t) (hP : P (F s)) : IsR F P n s t := by
  have b := h.1
  refine ⟨⟨by omega, b.2⟩, fun k k0 k1 => ?_, h.2.2⟩
  by_cases e : k = s
  · rw [e]; exact hP
  · exact h.2.1 k (by omega) k1
/-- only the token's places are touched -/
def FM (G H : gH) : Prop := (∀ x, ¬ x = 624 → H x = G x) ∧ ∀ k, ¬ (15 ≤ k ∧ k ≤ 18) → H 624 k = G 624 k
theorem FM_r : FM G G := ⟨fun _ _ => rfl, fun _ _ => rfl⟩
theorem FM_t (h : FM G H) (h' : FM H K) : FM G K := ⟨fun x hx => (h'.1 x hx).trans (h.1 x hx), fun k hk => (h'.2 k hk).trans (h.2 k hk)⟩
theorem FM_w (h : FM G H) (hb : 15 ≤ b ∧ b ≤ 18) : FM G (pU H 624 b v) := ⟨fun x hx => (pU_n hx).trans (h.1 x hx), fun k hk => (pU_y (by omega)).trans (h.2 k hk)⟩
theorem FM_PF (h : FM G H) : PF G H := ⟨h.1, fun k hk => h.2 k (by omega)⟩
theorem Bt_s (h : G 624 15 < G 624 10) : Bt G = G 631 (G 624 15) := if_pos h
theorem ay_90 : ∀ (m n : Nat) (G : gH), MInv G → Ps G → (G 624 10 - G 624 15).toNat = m → m < n → ∃ t, lM_advanceToken_90 624 n G = some (0, pU G 624 15 t) ∧ IsR (G 631) (fun c => kO c = 1) (G 624 10) (G 624 15) t := by
  intro m
  induction m with
  | zero =>
    intro n G h hp hm hn
    obtain ⟨n, rfl⟩ : ∃ k, n = k + 1 := ⟨n - 1, by omega⟩
    have hq : G 624 15 ≤ G 624 10 := hp.2
    have hb : Bt G = -1 := by unfold Bt; rw [if_neg (by omega)]
    refine ⟨G 624 15, ?_, ⟨by omega, hq⟩, fun k k0 k1 => by omega, fun z => by omega⟩
    rw [pU_self]
    show bM_advanceToken_90 624 (lM_advanceToken_90 624 n) G = _
    rw [bM_advanceToken_90, vM_next h hp, bdP_s, vM_inRange, bdP_s, hb, if_neg (show ¬ ((97 : Int) ≤ -1 ∧ (-1 : Int) ≤ 122) by omega), if_pos rfl]
  | succ m ih =>
    intro n G h hp hm hn
    obtain ⟨n, rfl⟩ : ∃ k, n = k + 1 := ⟨n - 1, by omega⟩
    have e : lM_advanceToken_90 624 (n + 1) G = bM_advanceToken_90 624 (lM_advanceToken_90 624 n) G := rfl
    rw [e, bM_advanceToken_90, vM_next h hp, bdP_s, vM_inRange, bdP_s]
    have hq : G 624 15 < G 624 10 := by omega
    have hB := Bt_s hq
    by_cases hr : 97 ≤ Bt G ∧ Bt G ≤ 122
    · have h1 := Bt_lt hp (by omega)
      have h10 := h.2.2.2.2.2.1
      rw [if_pos hr, if_neg f0, bnd_s, w32_r (by omega)]
      have e15 : pU G 624 15 (G 624 15 + 1) 624 15 = G 624 15 + 1 := by rw [pU_s, u1_s]
      have e10 : pU G 624 15 (G 624 15 + 1) 624 10 = G 624 10 := by rw [pU_y (by omega)]
      have e31 : pU G 624 15 (G 624 15 + 1) 631 = G 631 := pU_n (by omega)
      obtain ⟨t, a1, a2⟩ := ih n _ (MInv_PF h (PF_u PF_r (by omega))) (Ps_1 hp (by omega)) (by rw [e15, e10]; omega) (by omega)
      rw [pU_tw] at a1
      rw [e15, e10, e31] at a2
      exact ⟨t, a1, IsR_c a2 (kO_1.mpr (by rw [← hB]; exact hr))⟩
    · rw [if_neg hr, if_pos rfl]
      refine ⟨G 624 15, by rw [pU_self], ⟨by omega, by omega⟩, fun k k0 k1 => by omega, fun z y => hr ?_⟩
      rw [hB]
      exact kO_1.mp y
/-- the value of the digits up to j -/
def VJ (F : Int → Int) (s j v : Int) : Prop := (j = s ∧ v = 0) ∨ (s < j ∧ kO (F s) = 2 ∧ (j ≤ s + 2 → v = numV F s j))
theorem ay_137 : ∀ (m n : Nat) (G : gH), MInv G → Ps G → VJ (G 631) (G 624 16) (G 624 15) (G 624 17) → 0 ≤ G 624 16 → (G 624 10 - G 624 15).toNat = m → m < n → ∃ H, lM_advanceToken_137 624 n G = some (0, H) ∧ IsR (G 631) (fun c => kO c = 2) (G 624 10) (G 624 15) (H 624 15) ∧ VJ (G 631) (G 624 16) (H 624 15) (H 624 17) ∧ (∀ x, ¬ x = 624 → H x = G x) ∧ ∀ k, ¬ k = 15 → ¬ k = 17 → H 624 k = G 624 k := by
  intro m
  induction m with
  | zero =>
    intro n G h hp hv h16 hm hn
    obtain ⟨n, rfl⟩ : ∃ k, n = k + 1 := ⟨n - 1, by omega⟩
    have hq : G 624 15 ≤ G 624 10 := hp.2
    have hb : Bt G = -1 := by unfold Bt; rw [if_neg (by omega)]
    refine ⟨G, ?_, ⟨⟨by omega, hq⟩, fun k k0 k1 => by omega, fun z => by omega⟩, hv, fun _ _ => rfl, fun _ _ _ => rfl⟩
    show bM_advanceToken_137 624 (lM_advanceToken_137 624 n) G = _
    rw [bM_advanceToken_137, vM_next h hp, bdP_s, vM_inRange, bdP_s, hb, if_neg (show ¬ ((48 : Int) ≤ -1 ∧ (-1 : Int) ≤ 57) by omega), if_pos rfl]
  | succ m ih =>
    intro n G h hp hv h16 hm hn
    obtain ⟨n, rfl⟩ : ∃ k, n = k + 1 := ⟨n - 1, by omega⟩
    have e : lM_advanceToken_137 624 (n + 1) G = bM_advanceToken_137 624 (lM_advanceToken_137 624 n) G := rfl
    rw [e, bM_advanceToken_137, vM_next h hp, bdP_s, vM_inRange, bdP_s]
    have hq : G 624 15 < G 624 10 := by omega
    have hB := Bt_s hq
    have h10 := h.2.2.2.2.2.1
    by_cases hr : 48 ≤ Bt G ∧ Bt G ≤ 57
    · have hk : kO (G 631 (G 624 15)) = 2 := kO_2.mpr (by rw [← hB]; exact hr)
      have h16' : G 624 16 ≤ G 624 15 := by
        rcases hv with ⟨v1, -⟩ | ⟨v1, -⟩ <;> omega
      -- the value may change, the place goes on by one
      have go : ∀ K : gH, (∀ x, ¬ x = 624 → K x = G x) → (∀ k, ¬ k = 17 → K 624 k = G 624 k) → VJ (G 631) (G 624 16) (G 624 15 + 1) (K 624 17) → ∃ H, lM_advanceToken_137 624 n (pU K 624 15 (w32 (K 624 15 + 1))) = some (0, H) ∧ IsR (G 631) (fun c => kO c = 2) (G 624 10) (G 624 15) (H 624 15) ∧ VJ (G 631) (G 624 16) (H 624 15) (H 624 17) ∧ (∀ x, ¬ x = 624 → H x = G x) ∧ ∀ k, ¬ k = 15 → ¬ k = 17 → H 624 k = G 624 k := by
        intro K k1 k2 k3
        rw [k2 15 (by omega), w32_r (by omega)]
        have hP : PF G (pU K 624 15 (G 624 15 + 1)) := PF_u ⟨k1, fun k hk => k2 k (by omega)⟩ (by omega)
        have e15 : pU K 624 15 (G 624 15 + 1) 624 15 = G 624 15 + 1 := by rw [pU_s, u1_s]
        have e16 : pU K 624 15 (G 624 15 + 1) 624 16 = G 624 16 := by rw [pU_y (by omega)]; exact k2 16 (by omega)
        have e17 : pU K 624 15 (G 624 15 + 1) 624 17 = K 624 17 := by rw [pU_y (by omega)]
        have e10 : pU K 624 15 (G 624 15 + 1) 624 10 = G 624 10 := by rw [pU_y (by omega)]; exact k2 10 (by omega)
        have e31 : pU K 624 15 (G 624 15 + 1) 631 = G 631 := by rw [pU_n (by omega)]; exact k1 631 (by omega)
        have hp0 := hp.1
        obtain ⟨H, a1, a2, a3, a4, a5⟩ := ih n _ (MInv_PF h hP) (by unfold Ps; rw [e15, e10]; omega) (by rw [e31, e15, e16, e17]; exact k3) (by rw [e16]; exact h16) (by rw [e15, e10]; omega) (by omega)
        rw [e31, e10, e15] at a2
        rw [e31, e16] at a3
        refine ⟨H, a1, IsR_c a2 hk, a3, fun x hx => ?_, fun k k0 k9 => ?_⟩
        · rw [a4 x hx, pU_n hx]; exact k1 x hx
        · rw [a5 k k0 k9, pU_y (by omega)]; exact k2 k k9
      rw [if_pos hr, if_neg f0, w32_r (by omega)]
      by_cases c : G 624 15 - G 624 16 < 2
      · rw [if_pos c, bdP_s, bnd_s, bnd_s, opI_mul]
        refine go _ (fun x hx => pU_n hx) (fun k hk => pU_y (by omega)) ?_
        rw [pU_s, u1_s, hB]
        have d1 := kO_d (c := G 631 (G 624 15))
        rcases hv with ⟨v1, v2⟩ | ⟨v1, v3, v2⟩
        · rw [v2, w32_r (x := 10 * 0) (by omega), w32_r (x := 10 * 0 + G 631 (G 624 15)) (by omega), w32_r (by omega)]
          rw [v1] at hk ⊢
          refine Or.inr ⟨by omega, hk, fun _ => ?_⟩
          unfold numV
          rw [if_pos rfl]
          omega
        · have es : G 624 15 = G 624 16 + 1 := by omega
          have v2 := v2 (by omega)
          unfold numV at v2
          rw [if_pos es] at v2
          have d2 := kO_d (c := G 631 (G 624 16))
          rw [v2, w32_r (x := 10 * (G 631 (G 624 16) - 48)) (by omega), w32_r (x := 10 * (G 631 (G 624 16) - 48) + G 631 (G 624 15)) (by omega), w32_r (by omega)]
          refine Or.inr ⟨by omega, v3, fun _ => ?_⟩
          unfold numV
          rw [if_neg (show ¬ G 624 15 + 1 = G 624 16 + 1 by omega), es]
          omega
      · rw [if_neg c, bnd_s]
        refine go G (fun _ _ => rfl) (fun _ _ => rfl) ?_
        rcases hv with ⟨v1, v2⟩ | ⟨v1, v3, v2⟩
        · exact absurd v1 (by omega)
        · exact Or.inr ⟨by omega, v3, fun z => absurd z (by omega)⟩
    · rw [if_neg hr, if_pos rfl]
      refine ⟨G, rfl, ⟨⟨by omega, by omega⟩, fun k k0 k1 => by omega, fun z y => hr ?_⟩, hv, fun _ _ => rfl, fun _ _ _ => rfl⟩
      rw [hB]
      exact kO_2.mp y
/-- the reference's token: e is where it was looked for -/
def TM (e : Int) (G H : gH) : Prop := FM G H ∧ IsR (H 631) isBl (H 624 10) e (H 624 16) ∧ IsT (H 631) (H 624 10) (H 624 16) (H 624 18) (H 624 15) ∧ (H 624 18 = 2 → H 624 15 - H 624 16 ≤ 2 → H 624 17 = numV (H 631) (H 624 16) (H 624 15))
theorem ay_39 (h : MInv G) (hp : Ps G) (hb0 : ∀ k, 0 ≤ k → k < G 624 10 → 0 ≤ G 631 k) (hs : IsR (G 631) isBl (G 624 10) e (G 624 15)) : ∃ H, jM_advanceToken_39 G 624 = some (0, H) ∧ TM e G H := by
  have hf := fu_ge
  have h10 := h.2.2.2.2.2.1
  have hp0 : 0 ≤ G 624 15 := hp.1
  have hp1 : G 624 15 ≤ G 624 10 := hp.2
  -- begin is set
  have k1 : FM G (pU G 624 16 (G 624 15)) := FM_w FM_r (by omega)
  have e15 : pU G 624 16 (G 624 15) 624 15 = G 624 15 := by rw [pU_y (by omega)]
  have e10 : pU G 624 16 (G 624 15) 624 10 = G 624 10 := by rw [pU_y (by omega)]
  have eb : Bt (pU G 624 16 (G 624 15)) = Bt G := by unfold Bt; rw [e15, e10, pU_n (by omega)]
  rw [jM_advanceToken_39, bnd_s, vM_next (MInv_PF h (FM_PF k1)) (by unfold Ps; rw [e15, e10]; exact hp), bdP_s, eb, bnd_s]
  have k2 : FM G (pU (pU G 624 16 (G 624 15)) 624 17 0) := FM_w k1 (by omega)
  have f15 : pU (pU G 624 16 (G 624 15)) 624 17 0 624 15 = G 624 15 := by rw [pU_y (by omega)]; exact e15
  have f16 : pU (pU G 624 16 (G 624 15)) 624 17 0 624 16 = G 624 15 := by rw [pU_y (by omega), pU_s, u1_s]
  have f17 : pU (pU G 624 16 (G 624 15)) 624 17 0 624 17 = 0 := by rw [pU_s, u1_s]
  generalize pU (pU G 624 16 (G 624 15)) 624 17 0 = K at *
  have f10 : K 624 10 = G 624 10 := k2.2 10 (by omega)
  have f31 : K 631 = G 631 := k2.1 631 (by omega)
  -- the kind is set
  have ld : ∀ tk : Int, FM G (pU K 624 18 tk) ∧ pU K 624 18 tk 624 15 = G 624 15 ∧ pU K 624 18 tk 624 16 = G 624 15 ∧ pU K 624 18 tk 624 17 = 0 ∧ pU K 624 18 tk 624 18 = tk ∧ pU K 624 18 tk 624 10 = G 624 10 ∧ pU K 624 18 tk 631 = G 631 := by
    intro tk
    exact ⟨FM_w k2 (by omega), by rw [pU_y (by omega)]; exact f15, by rw [pU_y (by omega)]; exact f16, by rw [pU_y (by omega)]; exact f17, by rw [pU_s, u1_s], by rw [pU_y (by omega)]; exact f10, by rw [pU_n (by omega)]; exact f31⟩
  by_cases hlt : G 624 15 < G 624 10
  · have hB := Bt_s hlt
    -- a token of one byte
    have one : ∀ tk : Int, 2 < tk → tk = kO (G 631 (G 624 15)) → ∃ H, bnd (pU K 624 18 tk) (fun g => bnd (pU g 624 15 (w32 (g 624 15 + 1))) (fun g => some ((0 : Int), g))) = some (0, H) ∧ TM e G H := by
      intro tk h2 hk
      obtain ⟨d1, d2, d3, d4, d5, d6, d7⟩ := ld tk
      rw [bnd_s, bnd_s, d2, w32_r (by omega)]
      have m5 : pU (pU K 624 18 tk) 624 15 (G 624 15 + 1) 624 15 = G 624 15 + 1 := by rw [pU_s, u1_s]
      have m6 : pU (pU K 624 18 tk) 624 15 (G 624 15 + 1) 624 16 = G 624 15 := by rw [pU_y (by omega)]; exact d3
      have m8 : pU (pU K 624 18 tk) 624 15 (G 624 15 + 1) 624 18 = tk := by rw [pU_y (by omega)]; exact d5
      have m0 : pU (pU K 624 18 tk) 624 15 (G 624 15 + 1) 624 10 = G 624 10 := by rw [pU_y (by omega)]; exact d6
      have mB : pU (pU K 624 18 tk) 624 15 (G 624 15 + 1) 631 = G 631 := by rw [pU_n (by omega)]; exact d7
      refine ⟨_, rfl, FM_w d1 (by omega), ?_, ?_, ?_⟩
      · rw [mB, m0, m6]; exact hs
      · rw [mB, m0, m6, m8, m5]; exact Or.inr ⟨hlt, hk, Or.inr ⟨h2, rfl⟩⟩
      · rw [m8]; exact fun z => absurd z (by omega)
    have d0 := kO_d (c := G 631 (G 624 15))
    have hbn : ¬ Bt G = -1 := by
      have := hb0 _ hp0 hlt
      rw [hB]; omega
    rw [if_neg hbn, vM_inRange, bdP_s, hB]
    by_cases c1 : 97 ≤ G 631 (G 624 15) ∧ G 631 (G 624 15) ≤ 122
    · rw [if_pos c1, if_neg f0, bnd_s]
      obtain ⟨d1, d2, d3, d4, d5, d6, d7⟩ := ld 1
      obtain ⟨t, a1, a2⟩ := ay_90 _ fu _ (MInv_PF h (FM_PF d1)) (by unfold Ps; rw [d2, d6]; exact hp) rfl (by rw [d6, d2]; omega)
      rw [d7, d6, d2] at a2
      have m5 : pU (pU K 624 18 1) 624 15 t 624 15 = t := by rw [pU_s, u1_s]
      have m6 : pU (pU K 624 18 1) 624 15 t 624 16 = G 624 15 := by rw [pU_y (by omega)]; exact d3
      have m8 : pU (pU K 624 18 1) 624 15 t 624 18 = 1 := by rw [pU_y (by omega)]; exact d5
      have m0 : pU (pU K 624 18 1) 624 15 t 624 10 = G 624 10 := by rw [pU_y (by omega)]; exact d6
      have mB : pU (pU K 624 18 1) 624 15 t 631 = G 631 := by rw [pU_n (by omega)]; exact d7
      refine ⟨_, a1, FM_w d1 (by omega), ?_, ?_, ?_⟩
      · rw [mB, m0, m6]; exact hs
      · rw [mB, m0, m6, m8, m5]; exact Or.inr ⟨hlt, (kO_1.mpr c1).symm, Or.inl ⟨Or.inl rfl, a2⟩⟩
      · rw [m8]; exact fun z => absurd z (by omega)
    · rw [if_neg c1, if_pos rfl, vM_inRange, bdP_s]
      by_cases c2 : 48 ≤ G 631 (G 624 15) ∧ G 631 (G 624 15) ≤ 57
      · rw [if_pos c2, if_neg f0, bnd_s]
        obtain ⟨d1, d2, d3, d4, d5, d6, d7⟩ := ld 2
        obtain ⟨H, a1, a2, a3, a4, a5⟩ := ay_137 _ fu _ (MInv_PF h (FM_PF d1)) (by unfold Ps; rw [d2, d6]; exact hp) (by rw [d7, d3, d2, d4]; exact Or.inl ⟨rfl, rfl⟩) (by rw [d3]; omega) rfl (by rw [d6, d2]; omega)
        rw [d7, d6, d2] at a2
        rw [d7, d3] at a3
        have m6 : H 624 16 = G 624 15 := by rw [a5 16 (by omega) (by omega)]; exact d3
        have m8 : H 624 18 = 2 := by rw [a5 18 (by omega) (by omega)]; exact d5
        have m0 : H 624 10 = G 624 10 := by rw [a5 10 (by omega) (by omega)]; exact d6
        have mB : H 631 = G 631 := by rw [a4 631 (by omega)]; exact d7
        refine ⟨H, a1, FM_t d1 ⟨a4, fun k hk => a5 k (by omega) (by omega)⟩, ?_, ?_, ?_⟩
        · rw [mB, m0, m6]; exact hs
        · rw [mB, m0, m6, m8]; exact Or.inr ⟨hlt, (kO_2.mpr c2).symm, Or.inl ⟨Or.inr rfl, a2⟩⟩
        · rw [mB, m6]
          intro _ z
          rcases a3 with ⟨v1, -⟩ | ⟨v1, -, v2⟩
          · exact absurd (kO_2.mpr c2) (by have := a2.2.2 (by omega); rw [v1] at this; exact this)
          · exact v2 (by omega)
      · rw [if_neg c2, if_pos rfl]
        by_cases c3 : G 631 (G 624 15) = 59
        · rw [if_pos c3]
          exact one 3 (by omega) (by omega)
        · rw [if_neg c3]
          exact one 4 (by omega) (by omega)
  · have hb : Bt G = -1 := by unfold Bt; rw [if_neg hlt]
    obtain ⟨d1, d2, d3, d4, d5, d6, d7⟩ := ld 0
    rw [if_pos hb, bnd_s]
    refine ⟨_, rfl, d1, ?_, ?_, ?_⟩
    · rw [d7, d6, d3]; exact hs
    · rw [d7, d6, d3, d5, d2]; exact Or.inl ⟨by omega, rfl, rfl⟩
    · rw [d5]; exact fun z => absurd z (by omega)
/-- the reference looks for a token behind its place -/
theorem aM_advance (h : MInv G) (hp : Ps G) (hb0 : ∀ k, 0 ≤ k → k < G 624 10 → 0 ≤ G 631 k) : ∃ H, fM_advanceToken G 624 = some (0, H) ∧ TM (G 624 15) G H := by
  have key : ∀ (m n : Nat) (K : gH), MInv K → Ps K → FM G K → G 624 15 ≤ K 624 15 → (∀ j, G 624 15 ≤ j → j < K 624 15 → isBl (K 631 j)) → (K 624 10 - K 624 15).toNat = m → m < n → ∃ H, lM_advanceToken_0 624 n K = some (0, H) ∧ TM (G 624 15) G H := by
    intro m
    induction m with
    | zero =>
      intro n K hK hp hF hle hbl hm hn
      obtain ⟨n, rfl⟩ : ∃ k, n = k + 1 := ⟨n - 1, by omega⟩
      have hq : K 624 15 ≤ K 624 10 := hp.2
      have hb : Bt K = -1 := by unfold Bt; rw [if_neg (by omega)]
      show ∃ H, bM_advanceToken_0 624 (lM_advanceToken_0 624 n) K = some (0, H) ∧ _
      rw [bM_advanceToken_0, vM_next hK hp, bdP_s, if_neg (by omega), bdP_s, if_neg (by omega)]
      obtain ⟨H, e, t⟩ := ay_39 (e := G 624 15) hK hp (by rw [hF.2 10 (by omega), hF.1 631 (by omega)]; exact hb0) ⟨⟨hle, hq⟩, hbl, fun z => by omega⟩
      exact ⟨H, e, FM_t hF t.1, t.2⟩
    | succ m ih =>
      intro n K hK hp hF hle hbl hm hn
      obtain ⟨n, rfl⟩ : ∃ k, n = k + 1 := ⟨n - 1, by omega⟩
      have hq : K 624 15 < K 624 10 := by omega
      have hp0 : 0 ≤ K 624 15 := hp.1
      have hB := Bt_s hq
      have h10 := hK.2.2.2.2.2.1
      have go : isBl (K 631 (K 624 15)) → ∃ H, bnd (pU K 624 15 (w32 (K 624 15 + 1))) (fun g => lM_advanceToken_0 624 n g) = some (0, H) ∧ TM (G 624 15) G H := by
        intro hb
        rw [bnd_s, w32_r (by omega)]
        have e15 : pU K 624 15 (K 624 15 + 1) 624 15 = K 624 15 + 1 := by rw [pU_s, u1_s]
        have e10 : pU K 624 15 (K 624 15 + 1) 624 10 = K 624 10 := by rw [pU_y (by omega)]
        have e31 : pU K 624 15 (K 624 15 + 1) 631 = K 631 := pU_n (by omega)
        refine ih n _ (MInv_PF hK (PF_u PF_r (by omega))) (by unfold Ps; rw [e15, e10]; omega) (FM_w hF (by omega)) (by rw [e15]; omega) (fun j j0 j1 => ?_) (by rw [e15, e10]; omega) (by omega)
        rw [e15] at j1
        rw [e31]
        by_cases ej : j = K 624 15
        · rw [ej]; exact hb
        · exact hbl j j0 (by omega)
      show ∃ H, bM_advanceToken_0 624 (lM_advanceToken_0 624 n) K = some (0, H) ∧ _
      rw [bM_advanceToken_0, vM_next hK hp, bdP_s, hB]
      by_cases c1 : K 631 (K 624 15) = 32
      · rw [if_pos c1]; exact go (Or.inl c1)
      · rw [if_neg c1, bdP_s]
        by_cases c2 : K 631 (K 624 15) = 10
        · rw [if_pos c2]; exact go (Or.inr c2)
        · rw [if_neg c2]
          obtain ⟨H, e, t⟩ := ay_39 (e := G 624 15) hK hp (by rw [hF.2 10 (by omega), hF.1 631 (by omega)]; exact hb0) ⟨⟨hle, by omega⟩, hbl, fun _ z => by rcases z with z | z <;> contradiction⟩
          exact ⟨H, e, FM_t hF t.1, t.2⟩
  have hf := fu_ge
  have h10 := h.2.2.2.2.2.1
  have hp0 := hp.1
  have hp1 := hp.2
  exact key _ fu G h hp FM_r (Int.le_refl _) (fun j j0 j1 => by omega) rfl (by omega)
end PAR2
