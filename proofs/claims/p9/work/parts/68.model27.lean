/-! ===== the reference's reader: its tokens (own work) ===== -/
section MODEL27
variable {g G H K : gH} {p code t c a b k q gp d x y z w v n l i : Int}
/-- only the reader's own places are touched -/
def PF (G H : gH) : Prop := (∀ x, ¬ x = 624 → H x = G x) ∧ ∀ k, ¬ (13 ≤ k ∧ k ≤ 19) → H 624 k = G 624 k
theorem PF_r : PF G G := ⟨fun _ _ => rfl, fun _ _ => rfl⟩
theorem PF_t (h : PF G H) (h' : PF H K) : PF G K := ⟨fun x hx => (h'.1 x hx).trans (h.1 x hx), fun k hk => (h'.2 k hk).trans (h.2 k hk)⟩
theorem PF_u (h : PF G H) (hk : 13 ≤ k ∧ k ≤ 19) : PF G (pU H 624 k v) := ⟨fun x hx => (pU_n (by omega)).trans (h.1 x hx), fun j hj => by rw [pU_s, u1_n (by omega)]; exact h.2 j hj⟩
theorem MInv_PF (h : MInv G) (hp : PF G H) : MInv H := by
  obtain ⟨h1, h2, h3, ⟨h4, h5⟩, h6, h7, h8⟩ := h
  unfold MInv MS
  rw [hp.1 625 (by omega), hp.1 628 (by omega), hp.1 629 (by omega), hp.1 630 (by omega), hp.2 0 (by omega), hp.2 1 (by omega), hp.2 2 (by omega), hp.2 3 (by omega), hp.2 4 (by omega), hp.2 5 (by omega), hp.2 6 (by omega), hp.2 7 (by omega), hp.2 9 (by omega), hp.2 10 (by omega), hp.2 20 (by omega), hp.2 21 (by omega), hp.2 22 (by omega), hp.2 23 (by omega)]
  exact ⟨h1, h2, h3, ⟨h4, h5⟩, h6, h7, h8⟩
/-- the place of the next byte -/
def Ps (G : gH) : Prop := 0 ≤ G 624 15 ∧ G 624 15 ≤ G 624 10
def TK (G : gH) : Prop := 0 ≤ G 624 16 ∧ G 624 16 ≤ G 624 15 ∧ G 624 15 ≤ G 624 10
theorem vM_byteAt (h : MInv G) (hv : 0 ≤ v) : fM_byteAt G 624 v = some (if v < G 624 10 then G 631 v else -1) := by
  have h9 : G 624 9 = 631 := h.1.2.2.2.2.2.1
  have h10 := h.2.2.2.2.2.1
  rw [fM_byteAt]
  split
  · next hlt => simp (disch := omega) only [h9, kd_631, sz_631, true_and, le_t, lt_t, and_true, ↓reduceIte]
  · rfl
theorem vM_failsAt (h : MInv G) : ∃ H, fM_failsAt G 624 v = some (0, H) ∧ PF G H ∧ (H 624 15 = G 624 15 ∧ H 624 16 = G 624 16 ∧ H 624 17 = G 624 17 ∧ H 624 18 = G 624 18 ∧ H 624 19 = G 624 19) := by
  rw [fM_failsAt]
  split
  · refine ⟨_, rfl, PF_u (PF_u PF_r (by omega)) (by omega), ?_⟩
    simp (disch := omega) only [pU_s, u1_n, and_self]
  · exact ⟨G, rfl, PF_r, rfl, rfl, rfl, rfl, rfl⟩
/-- the byte that stands next -/
def Bt (G : gH) : Int := if G 624 15 < G 624 10 then G 631 (G 624 15) else -1
theorem vM_next (h : MInv G) (hp : Ps G) : fM_byteAt G 624 (G 624 15) = some (Bt G) := vM_byteAt h hp.1
theorem Bt_lt (hp : Ps G) (h : ¬ Bt G = -1) : G 624 15 + 1 ≤ G 624 10 ∧ 0 ≤ G 624 15 := by
  unfold Bt at h
  split at h
  · exact ⟨by omega, hp.1⟩
  · exact absurd rfl h
theorem Ps_1 (hp : Ps G) (h : ¬ Bt G = -1) : Ps (pU G 624 15 (G 624 15 + 1)) := by
  have := Bt_lt hp h
  unfold Ps
  rw [pU_s, u1_s, u1_n (by omega)]
  omega
theorem lx_90 : ∀ (m n : Nat) (G : gH), MInv G → Ps G → (G 624 10 - G 624 15).toNat = m → m < n → ∃ H, lM_advanceToken_90 624 n G = some (0, H) ∧ PF G H ∧ Ps H ∧ G 624 15 ≤ H 624 15 ∧ (H 624 16 = G 624 16 ∧ H 624 18 = G 624 18 ∧ H 624 19 = G 624 19) ∧ ((97 ≤ Bt G ∧ Bt G ≤ 122) → G 624 15 < H 624 15) := by
  intro m
  induction m with
  | zero =>
    intro n G h hp hm hn
    obtain ⟨n, rfl⟩ : ∃ k, n = k + 1 := ⟨n - 1, by omega⟩
    have hb : Bt G = -1 := by unfold Bt; rw [if_neg (by unfold Ps at hp; omega)]
    refine ⟨G, ?_, PF_r, hp, by omega, ⟨rfl, rfl, rfl⟩, fun z => by omega⟩
    show bM_advanceToken_90 624 (lM_advanceToken_90 624 n) G = _
    rw [bM_advanceToken_90, vM_next h hp, bdP_s, vM_inRange, bdP_s, hb, if_neg (show ¬ ((97 : Int) ≤ -1 ∧ (-1 : Int) ≤ 122) by omega), if_pos rfl]
  | succ m ih =>
    intro n G h hp hm hn
    obtain ⟨n, rfl⟩ : ∃ k, n = k + 1 := ⟨n - 1, by omega⟩
    have e : lM_advanceToken_90 624 (n + 1) G = bM_advanceToken_90 624 (lM_advanceToken_90 624 n) G := rfl
    rw [e, bM_advanceToken_90, vM_next h hp, bdP_s, vM_inRange, bdP_s]
    by_cases hr : 97 ≤ Bt G ∧ Bt G ≤ 122
    · have hb : ¬ Bt G = -1 := by omega
      have h1 := Bt_lt hp hb
      have h10 := h.2.2.2.2.2.1
      rw [if_pos hr, if_neg f0, bnd_s, w32_r (by omega)]
      have hG : PF G (pU G 624 15 (G 624 15 + 1)) := PF_u PF_r (by omega)
      have e15 : pU G 624 15 (G 624 15 + 1) 624 15 = G 624 15 + 1 := by rw [pU_s, u1_s]
      have e10 : pU G 624 15 (G 624 15 + 1) 624 10 = G 624 10 := by rw [pU_s, u1_n (by omega)]
      obtain ⟨H, a1, a2, a3, a4, ⟨a5, a6, a7⟩, -⟩ := ih n _ (MInv_PF h hG) (Ps_1 hp hb) (by rw [e15, e10]; omega) (by omega)
      rw [e15] at a4
      refine ⟨H, a1, PF_t hG a2, a3, by omega, ⟨?_, ?_, ?_⟩, fun _ => by omega⟩
      · rw [a5, pU_s, u1_n (by omega)]
      · rw [a6, pU_s, u1_n (by omega)]
      · rw [a7, pU_s, u1_n (by omega)]
    · rw [if_neg hr, if_pos rfl]
      exact ⟨G, rfl, PF_r, hp, by omega, ⟨rfl, rfl, rfl⟩, fun z => absurd z hr⟩
theorem lx_137 : ∀ (m n : Nat) (G : gH), MInv G → Ps G → (G 624 10 - G 624 15).toNat = m → m < n → ∃ H, lM_advanceToken_137 624 n G = some (0, H) ∧ PF G H ∧ Ps H ∧ G 624 15 ≤ H 624 15 ∧ (H 624 16 = G 624 16 ∧ H 624 18 = G 624 18 ∧ H 624 19 = G 624 19) ∧ ((48 ≤ Bt G ∧ Bt G ≤ 57) → G 624 15 < H 624 15) := by
  intro m
  induction m with
  | zero =>
    intro n G h hp hm hn
    obtain ⟨n, rfl⟩ : ∃ k, n = k + 1 := ⟨n - 1, by omega⟩
    have hb : Bt G = -1 := by unfold Bt; rw [if_neg (by unfold Ps at hp; omega)]
    refine ⟨G, ?_, PF_r, hp, by omega, ⟨rfl, rfl, rfl⟩, fun z => by omega⟩
    show bM_advanceToken_137 624 (lM_advanceToken_137 624 n) G = _
    rw [bM_advanceToken_137, vM_next h hp, bdP_s, vM_inRange, bdP_s, hb, if_neg (show ¬ ((48 : Int) ≤ -1 ∧ (-1 : Int) ≤ 57) by omega), if_pos rfl]
  | succ m ih =>
    intro n G h hp hm hn
    obtain ⟨n, rfl⟩ : ∃ k, n = k + 1 := ⟨n - 1, by omega⟩
    have e : lM_advanceToken_137 624 (n + 1) G = bM_advanceToken_137 624 (lM_advanceToken_137 624 n) G := rfl
    rw [e, bM_advanceToken_137, vM_next h hp, bdP_s, vM_inRange, bdP_s]
    by_cases hr : 48 ≤ Bt G ∧ Bt G ≤ 57
    · have hb : ¬ Bt G = -1 := by omega
      have h1 := Bt_lt hp hb
      have h10 := h.2.2.2.2.2.1
      -- the value may change, the place goes on by one
      have go : ∀ K, PF G K → K 624 15 = G 624 15 → K 624 16 = G 624 16 → K 624 18 = G 624 18 → K 624 19 = G 624 19 → ∃ H, lM_advanceToken_137 624 n (pU K 624 15 (w32 (K 624 15 + 1))) = some (0, H) ∧ PF G H ∧ Ps H ∧ G 624 15 ≤ H 624 15 ∧ (H 624 16 = G 624 16 ∧ H 624 18 = G 624 18 ∧ H 624 19 = G 624 19) ∧ ((48 ≤ Bt G ∧ Bt G ≤ 57) → G 624 15 < H 624 15) := by
        intro K k1 k2 k3 k4 k5
        have k10 : K 624 10 = G 624 10 := k1.2 10 (by omega)
        rw [k2, w32_r (by omega)]
        have hG : PF G (pU K 624 15 (G 624 15 + 1)) := PF_u k1 (by omega)
        have e15 : pU K 624 15 (G 624 15 + 1) 624 15 = G 624 15 + 1 := by rw [pU_s, u1_s]
        have e10 : pU K 624 15 (G 624 15 + 1) 624 10 = G 624 10 := by rw [pU_s, u1_n (by omega)]; exact k10
        obtain ⟨H, a1, a2, a3, a4, ⟨a5, a6, a7⟩, -⟩ := ih n _ (MInv_PF h hG) (by unfold Ps; rw [e15, e10]; omega) (by rw [e15, e10]; omega) (by omega)
        rw [e15] at a4
        refine ⟨H, a1, PF_t hG a2, a3, by omega, ⟨?_, ?_, ?_⟩, fun _ => by omega⟩
        · rw [a5, pU_s, u1_n (by omega)]; exact k3
        · rw [a6, pU_s, u1_n (by omega)]; exact k4
        · rw [a7, pU_s, u1_n (by omega)]; exact k5
      rw [if_pos hr, if_neg f0]
      split
      · rw [bdP_s, bnd_s, bnd_s]
        refine go _ (PF_u PF_r (by omega)) ?_ ?_ ?_ ?_ <;> rw [pU_s, u1_n (by omega)]
      · rw [bnd_s]
        exact go G PF_r rfl rfl rfl rfl
    · rw [if_neg hr, if_pos rfl]
      exact ⟨G, rfl, PF_r, hp, by omega, ⟨rfl, rfl, rfl⟩, fun z => absurd z hr⟩
/-- the next token -/
def AT (G H : gH) : Prop := PF G H ∧ TK H ∧ G 624 15 ≤ H 624 15 ∧ H 624 19 = G 624 19 ∧ (H 624 18 = 0 ∨ G 624 15 < H 624 15)
theorem lx_39 (h : MInv G) (hp : Ps G) : ∃ H, jM_advanceToken_39 G 624 = some (0, H) ∧ AT G H := by
  have hf := fu_ge
  have h10 := h.2.2.2.2.2.1
  -- begin is set
  have k1 : PF G (pU G 624 16 (G 624 15)) := PF_u PF_r (by omega)
  have e15 : pU G 624 16 (G 624 15) 624 15 = G 624 15 := by rw [pU_s, u1_n (by omega)]
  have e10 : pU G 624 16 (G 624 15) 624 10 = G 624 10 := by rw [pU_s, u1_n (by omega)]
  have eb : Bt (pU G 624 16 (G 624 15)) = Bt G := by unfold Bt; rw [e15, e10, pU_n (by omega)]
  have hp1 : Ps (pU G 624 16 (G 624 15)) := by unfold Ps; rw [e15, e10]; exact hp
  rw [jM_advanceToken_39, bnd_s, vM_next (MInv_PF h k1) hp1, bdP_s, eb, bnd_s]
  have k2 : PF G (pU (pU G 624 16 (G 624 15)) 624 17 0) := PF_u k1 (by omega)
  have f15 : pU (pU G 624 16 (G 624 15)) 624 17 0 624 15 = G 624 15 := by rw [pU_s, u1_n (by omega)]; exact e15
  have f16 : pU (pU G 624 16 (G 624 15)) 624 17 0 624 16 = G 624 15 := by rw [pU_s, u1_n (by omega), pU_s, u1_s]
  have f19 : pU (pU G 624 16 (G 624 15)) 624 17 0 624 19 = G 624 19 := by rw [pU_s, u1_n (by omega), pU_s, u1_n (by omega)]
  generalize pU (pU G 624 16 (G 624 15)) 624 17 0 = K at *
  have f10 : K 624 10 = G 624 10 := k2.2 10 (by omega)
  have f31 : K 631 = G 631 := k2.1 631 (by omega)
  -- a token of one byte
  have one : ∀ tk : Int, ¬ Bt G = -1 → ∃ H, bnd (pU K 624 18 tk) (fun g => bnd (pU g 624 15 (w32 (g 624 15 + 1))) (fun g => some ((0 : Int), g))) = some (0, H) ∧ AT G H := by
    intro tk hb
    have h1 := Bt_lt hp hb
    have e : pU K 624 18 tk 624 15 = G 624 15 := by rw [pU_s, u1_n (by omega)]; exact f15
    rw [bnd_s, bnd_s, e, w32_r (by omega)]
    refine ⟨_, rfl, PF_u (PF_u k2 (by omega)) (by omega), ?_, ?_, ?_, ?_⟩
    · unfold TK
      rw [pU_s, u1_s, u1_n (by omega), pU_s, u1_n (by omega), u1_n (by omega), u1_n (by omega), f16, f10]
      omega
    · rw [pU_s, u1_s]; omega
    · rw [pU_s, u1_n (by omega), pU_s, u1_n (by omega)]; exact f19
    · right; rw [pU_s, u1_s]; omega
  -- the kind is set, then a loop
  have ld : ∀ tk : Int, PF G (pU K 624 18 tk) ∧ Ps (pU K 624 18 tk) ∧ pU K 624 18 tk 624 15 = G 624 15 ∧ pU K 624 18 tk 624 16 = G 624 15 ∧ pU K 624 18 tk 624 19 = G 624 19 ∧ Bt (pU K 624 18 tk) = Bt G ∧ pU K 624 18 tk 624 10 = G 624 10 := by
    intro tk
    have a15 : pU K 624 18 tk 624 15 = G 624 15 := by rw [pU_s, u1_n (by omega)]; exact f15
    have a10 : pU K 624 18 tk 624 10 = G 624 10 := by rw [pU_s, u1_n (by omega)]; exact f10
    refine ⟨PF_u k2 (by omega), ?_, a15, ?_, ?_, ?_, a10⟩
    · unfold Ps; rw [a15, a10]; exact hp
    · rw [pU_s, u1_n (by omega)]; exact f16
    · rw [pU_s, u1_n (by omega)]; exact f19
    · unfold Bt; rw [a15, a10, pU_n (by omega), f31]
  by_cases hb : Bt G = -1
  · rw [if_pos hb, bnd_s]
    refine ⟨_, rfl, PF_u k2 (by omega), ?_, ?_, ?_, ?_⟩
    · unfold TK
      rw [pU_s, u1_n (by omega), u1_n (by omega), u1_n (by omega), f15, f16, f10]
      unfold Ps at hp
      omega
    · rw [pU_s, u1_n (by omega), f15]; omega
    · rw [pU_s, u1_n (by omega)]; exact f19
    · left; rw [pU_s, u1_s]
  · rw [if_neg hb, vM_inRange, bdP_s]
    by_cases c1 : 97 ≤ Bt G ∧ Bt G ≤ 122
    · rw [if_pos c1, if_neg f0, bnd_s]
      obtain ⟨d1, d2, d3, d4, d5, d6, d7⟩ := ld 1
      obtain ⟨H, a1, a2, a3, a4, ⟨a5, a6, a7⟩, a8⟩ := lx_90 _ fu _ (MInv_PF h d1) d2 rfl (by rw [d7, d3]; unfold Ps at hp; omega)
      rw [d6, d3] at a8
      have a8 := a8 c1
      refine ⟨H, a1, PF_t d1 a2, ?_, by omega, by rw [a7]; exact d5, Or.inr a8⟩
      unfold Ps at a3
      unfold TK
      rw [a5, d4]
      unfold Ps at hp
      omega
    · rw [if_neg c1, if_pos rfl, vM_inRange, bdP_s]
      by_cases c2 : 48 ≤ Bt G ∧ Bt G ≤ 57
      · rw [if_pos c2, if_neg f0, bnd_s]
        obtain ⟨d1, d2, d3, d4, d5, d6, d7⟩ := ld 2
        obtain ⟨H, a1, a2, a3, a4, ⟨a5, a6, a7⟩, a8⟩ := lx_137 _ fu _ (MInv_PF h d1) d2 rfl (by rw [d7, d3]; unfold Ps at hp; omega)
        rw [d6, d3] at a8
        have a8 := a8 c2
        refine ⟨H, a1, PF_t d1 a2, ?_, by omega, by rw [a7]; exact d5, Or.inr a8⟩
        unfold Ps at a3
        unfold TK
        rw [a5, d4]
        unfold Ps at hp
        omega
      · rw [if_neg c2, if_pos rfl]
        split
        · exact one 3 hb
        · exact one 4 hb
theorem vM_advance (h : MInv G) (hp : Ps G) : ∃ H, fM_advanceToken G 624 = some (0, H) ∧ AT G H := by
  have key : ∀ (m n : Nat) (G : gH), MInv G → Ps G → (G 624 10 - G 624 15).toNat = m → m < n → ∃ H, lM_advanceToken_0 624 n G = some (0, H) ∧ AT G H := by
    intro m
    induction m with
    | zero =>
      intro n G h hp hm hn
      obtain ⟨n, rfl⟩ : ∃ k, n = k + 1 := ⟨n - 1, by omega⟩
      have hb : Bt G = -1 := by unfold Bt; rw [if_neg (by unfold Ps at hp; omega)]
      show ∃ H, bM_advanceToken_0 624 (lM_advanceToken_0 624 n) G = some (0, H) ∧ _
      rw [bM_advanceToken_0, vM_next h hp, bdP_s, if_neg (by omega), bdP_s, if_neg (by omega)]
      exact lx_39 h hp
    | succ m ih =>
      intro n G h hp hm hn
      obtain ⟨n, rfl⟩ : ∃ k, n = k + 1 := ⟨n - 1, by omega⟩
      have h10 := h.2.2.2.2.2.1
      have go : ¬ Bt G = -1 → ∃ H, bnd (pU G 624 15 (w32 (G 624 15 + 1))) (fun g => lM_advanceToken_0 624 n g) = some (0, H) ∧ AT G H := by
        intro hb
        have h1 := Bt_lt hp hb
        rw [bnd_s, w32_r (by omega)]
        have hG : PF G (pU G 624 15 (G 624 15 + 1)) := PF_u PF_r (by omega)
        have e15 : pU G 624 15 (G 624 15 + 1) 624 15 = G 624 15 + 1 := by rw [pU_s, u1_s]
        have e10 : pU G 624 15 (G 624 15 + 1) 624 10 = G 624 10 := by rw [pU_s, u1_n (by omega)]
        have e19 : pU G 624 15 (G 624 15 + 1) 624 19 = G 624 19 := by rw [pU_s, u1_n (by omega)]
        obtain ⟨H, a1, a2, a3, a4, a5, a6⟩ := ih n _ (MInv_PF h hG) (Ps_1 hp hb) (by rw [e15, e10]; omega) (by omega)
        rw [e15] at a4
        exact ⟨H, a1, PF_t hG a2, a3, by omega, a5.trans e19, Or.inr (by omega)⟩
      show ∃ H, bM_advanceToken_0 624 (lM_advanceToken_0 624 n) G = some (0, H) ∧ _
      rw [bM_advanceToken_0, vM_next h hp, bdP_s]
      by_cases c1 : Bt G = 32
      · rw [if_pos c1]; exact go (by omega)
      · rw [if_neg c1, bdP_s]
        by_cases c2 : Bt G = 10
        · rw [if_pos c2]; exact go (by omega)
        · rw [if_neg c2]; exact lx_39 h hp
  have hf := fu_ge
  have h10 := h.2.2.2.2.2.1
  exact key _ fu G h hp rfl (by unfold Ps at hp; omega)
/-- a word: the answer is 0 or 1 -/
theorem vM_isWord (h : MInv G) (hp : TK G) (hv : 2000000 ≤ v ∧ v < 2000026) : ∃ y, fM_isWord G 624 v = some y ∧ (y = 1 → G 624 18 = 1) := by
  have hf := fu_ge
  have h9 : G 624 9 = 631 := h.1.2.2.2.2.2.1
  have h10 := h.2.2.2.2.2.1
  rw [fM_isWord]
  by_cases c1 : G 624 18 = 1
  · rw [if_pos c1, fM_tokenLength, bdP_s, if_pos hv]
    unfold TK at hp
    rw [w32_r (by omega)]
    by_cases c2 : G 624 15 - G 624 16 = gtl v
    · rw [if_pos c2]
      have key : ∀ (m n : Nat) (k : Int), (gtl v - k).toNat = m → m < n → 0 ≤ k → ∃ y, lM_isWord_23 G 624 v n k = some y := by
        intro m
        induction m with
        | zero =>
          intro n k hm hn hk
          obtain ⟨n, rfl⟩ : ∃ k, n = k + 1 := ⟨n - 1, by omega⟩
          refine ⟨1, ?_⟩
          show bM_isWord_23 G 624 v (lM_isWord_23 G 624 v n) k = _
          rw [bM_isWord_23, if_pos hv, if_neg (by omega)]
        | succ m ih =>
          intro n k hm hn hk
          obtain ⟨n, rfl⟩ : ∃ k, n = k + 1 := ⟨n - 1, by omega⟩
          show ∃ y, bM_isWord_23 G 624 v (lM_isWord_23 G 624 v n) k = some y
          rw [bM_isWord_23, if_pos hv, if_pos (by omega), if_pos (by rw [h9, kd_631, sz_631, w32_r (by omega)]; omega), if_pos ⟨hv, hk, by omega⟩]
          split
          · rw [w32_r (by omega)]
            exact ih n (k + 1) (by omega) (by omega) (by omega)
          · exact ⟨0, rfl⟩
      obtain ⟨y, e⟩ := key _ fu 0 rfl (by omega) (by omega)
      exact ⟨y, e, fun _ => c1⟩
    · rw [if_neg c2]; exact ⟨0, rfl, fun z => by omega⟩
  · rw [if_neg c1]; exact ⟨0, rfl, fun z => by omega⟩
/-- a number between a and b: 1, or the reading has failed -/
theorem vM_isNumber (h : MInv G) (hp : TK G) : ∃ y H, fM_isNumber G 624 a b = some (y, H) ∧ PF G H ∧ TK H ∧ H 624 15 = G 624 15 ∧ (y = 0 ∨ (y = 1 ∧ H = G ∧ G 624 18 = 2 ∧ a ≤ G 624 17 ∧ G 624 17 ≤ b)) := by
  have tk : ∀ H : gH, (H 624 15 = G 624 15 ∧ H 624 16 = G 624 16 ∧ H 624 17 = G 624 17 ∧ H 624 18 = G 624 18 ∧ H 624 19 = G 624 19) → PF G H → TK H := by
    intro H e k
    unfold TK at hp ⊢
    rw [e.1, e.2.1, k.2 10 (by omega)]
    exact hp
  rw [fM_isNumber]
  by_cases c1 : G 624 18 = 2
  · rw [if_pos c1, fM_tokenLength, bdP_s]
    split
    · obtain ⟨H, e, k1, k2⟩ := vM_failsAt (v := 1) h
      rw [e, bdN_s]
      exact ⟨0, H, rfl, k1, tk H k2 k1, k2.1, Or.inl rfl⟩
    · rw [vM_inRange, bdP_s]
      by_cases c2 : a ≤ G 624 17 ∧ G 624 17 ≤ b
      · rw [if_pos c2, if_neg f0]
        exact ⟨1, G, rfl, PF_r, hp, rfl, Or.inr ⟨rfl, rfl, c1, c2.1, c2.2⟩⟩
      · rw [if_neg c2, if_pos rfl]
        obtain ⟨H, e, k1, k2⟩ := vM_failsAt (v := 2) h
        rw [e, bdN_s, if_pos rfl]
        exact ⟨0, H, rfl, k1, tk H k2 k1, k2.1, Or.inl rfl⟩
  · rw [if_neg c1]
    obtain ⟨H, e, k1, k2⟩ := vM_failsAt (v := 1) h
    rw [e, bdN_s]
    exact ⟨0, H, rfl, k1, tk H k2 k1, k2.1, Or.inl rfl⟩
end MODEL27
