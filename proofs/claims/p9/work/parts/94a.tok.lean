/-! ===== tokens, as both readers see them (own work) ===== -/
section PAR1
variable {g g' G H K : gH} {B F : Int → Int} {a b c d e i j k l m n p q s t u v w x y z : Int}
def isBl (c : Int) : Prop := c = 32 ∨ c = 10
/-- the kind of the token that a byte begins -/
def kO (c : Int) : Int := if 97 ≤ c ∧ c ≤ 122 then 1 else if 48 ≤ c ∧ c ≤ 57 then 2 else if c = 59 then 3 else 4
theorem kO_d : (kO c = 1 ∧ 97 ≤ c ∧ c ≤ 122) ∨ (kO c = 2 ∧ 48 ≤ c ∧ c ≤ 57) ∨ (kO c = 3 ∧ c = 59) ∨ (kO c = 4 ∧ ¬ (97 ≤ c ∧ c ≤ 122) ∧ ¬ (48 ≤ c ∧ c ≤ 57) ∧ ¬ c = 59) := by
  unfold kO
  by_cases h1 : 97 ≤ c ∧ c ≤ 122
  · rw [if_pos h1]; exact Or.inl ⟨rfl, h1⟩
  · rw [if_neg h1]
    by_cases h2 : 48 ≤ c ∧ c ≤ 57
    · rw [if_pos h2]; exact Or.inr (Or.inl ⟨rfl, h2⟩)
    · rw [if_neg h2]
      by_cases h3 : c = 59
      · rw [if_pos h3]; exact Or.inr (Or.inr (Or.inl ⟨rfl, h3⟩))
      · rw [if_neg h3]; exact Or.inr (Or.inr (Or.inr ⟨rfl, h1, h2, h3⟩))
theorem kO_1 : kO c = 1 ↔ (97 ≤ c ∧ c ≤ 122) := by
  have := kO_d (c := c)
  constructor <;> intro z <;> omega
theorem kO_2 : kO c = 2 ↔ (48 ≤ c ∧ c ≤ 57) := by
  have := kO_d (c := c)
  constructor <;> intro z <;> omega
theorem kO_b : 1 ≤ kO c ∧ kO c ≤ 4 := by
  have := kO_d (c := c)
  omega
/-- a run of bytes from s to t, as far as it goes -/
def IsR (F : Int → Int) (P : Int → Prop) (n s t : Int) : Prop := (s ≤ t ∧ t ≤ n) ∧ (∀ k, s ≤ k → k < t → P (F k)) ∧ (t < n → ¬ P (F t))
theorem IsR_u {P : Int → Prop} (h : IsR F P n s t) (h' : IsR F P n s u) : t = u := by
  have b1 := h.1
  have b2 := h'.1
  by_cases z : t < u
  · exact absurd (h'.2.1 t b1.1 z) (h.2.2 (by omega))
  · by_cases z2 : u < t
    · exact absurd (h.2.1 u b2.1 z2) (h'.2.2 (by omega))
    · omega
/-- the token at s: its kind k, its end t -/
def IsT (F : Int → Int) (n s k t : Int) : Prop := (n ≤ s ∧ k = 0 ∧ t = s) ∨ (s < n ∧ k = kO (F s) ∧ (((k = 1 ∨ k = 2) ∧ IsR F (fun c => kO c = k) n s t) ∨ (2 < k ∧ t = s + 1)))
theorem IsT_u (h : IsT F n s k t) (h' : IsT F n s p q) : k = p ∧ t = q := by
  rcases h with ⟨a1, a2, a3⟩ | ⟨a1, a2, a3⟩
  · rcases h' with ⟨b1, b2, b3⟩ | ⟨b1, b2, b3⟩
    · exact ⟨by omega, by omega⟩
    · exact absurd b1 (by omega)
  · rcases h' with ⟨b1, b2, b3⟩ | ⟨b1, b2, b3⟩
    · exact absurd b1 (by omega)
    · have e : p = k := by rw [a2, b2]
      subst e
      refine ⟨rfl, ?_⟩
      rcases a3 with ⟨c1, c2⟩ | ⟨c1, c2⟩
      · rcases b3 with ⟨d1, d2⟩ | ⟨d1, d2⟩
        · exact IsR_u c2 d2
        · omega
      · rcases b3 with ⟨d1, d2⟩ | ⟨d1, d2⟩
        · omega
        · omega
/-- the number of at most two digits from s to t -/
def numV (F : Int → Int) (s t : Int) : Int := if t = s + 1 then F s - 48 else 10 * (F s - 48) + (F (s + 1) - 48)
/-- the class's bytes against the reference's -/
def BR (B F : Int → Int) (n : Int) : Prop := ∀ k, 0 ≤ k → k < n → (0 ≤ F k ∧ F k ≤ 255) ∧ B k = if F k < 128 then F k else F k - 256
theorem BR_k (h : BR B F n) (h0 : 0 ≤ k) (h1 : k < n) : kO (B k) = kO (F k) ∧ (isBl (B k) ↔ isBl (F k)) ∧ ((B k < 0 ∧ 127 < F k) ∨ (B k = F k ∧ F k < 128)) := by
  obtain ⟨h2, h3⟩ := h k h0 h1
  by_cases c : F k < 128
  · rw [if_pos c] at h3
    rw [h3]
    exact ⟨rfl, Iff.rfl, Or.inr ⟨rfl, c⟩⟩
  · rw [if_neg c] at h3
    have d1 := kO_d (c := B k)
    have d2 := kO_d (c := F k)
    refine ⟨by omega, ?_, Or.inl ⟨by omega, by omega⟩⟩
    unfold isBl
    constructor <;> intro z <;> omega
theorem IsR_BF {P : Int → Prop} (hP : ∀ k, 0 ≤ k → k < n → (P (B k) ↔ P (F k))) (h0 : 0 ≤ s) (h : IsR B P n s t) : IsR F P n s t := by
  have b := h.1
  exact ⟨b, fun k k0 k1 => (hP k (by omega) (by omega)).mp (h.2.1 k k0 k1), fun z y => h.2.2 z ((hP t (by omega) z).mpr y)⟩
theorem IsT_BF (hb : BR B F n) (h0 : 0 ≤ s) (h : IsT B n s k t) : IsT F n s k t := by
  rcases h with h | ⟨a1, a2, a3⟩
  · exact Or.inl h
  · refine Or.inr ⟨a1, a2.trans (BR_k hb h0 a1).1, ?_⟩
    rcases a3 with ⟨c1, c2⟩ | c
    · exact Or.inl ⟨c1, IsR_BF (fun j j0 j1 => by rw [(BR_k hb j0 j1).1]) h0 c2⟩
    · exact Or.inr c
theorem IsS_BF (hb : BR B F n) (h0 : 0 ≤ s) (h : IsR B isBl n s t) : IsR F isBl n s t := IsR_BF (fun j j0 j1 => (BR_k hb j0 j1).2.1) h0 h
/-- a number is the same of both -/
theorem numV_BF (hb : BR B F n) (h0 : 0 ≤ s) (h : IsT B n s 2 t) (ht : t - s ≤ 2) : numV B s t = numV F s t ∧ (0 ≤ numV F s t ∧ numV F s t ≤ 99) := by
  rcases h with ⟨-, h, -⟩ | ⟨a1, a2, a3⟩
  · omega
  · rcases a3 with ⟨-, r⟩ | ⟨c, -⟩
    · have r1 := r.1
      have k1 := BR_k hb h0 a1
      have d1 := kO_d (c := B s)
      unfold numV
      by_cases e : t = s + 1
      · rw [if_pos e, if_pos e]
        omega
      · rw [if_neg e, if_neg e]
        have hne : s < t := by
          by_cases z : s < t
          · exact z
          · have : t = s := by omega
            subst this
            exact absurd a2.symm (r.2.2 a1)
        have f1 := r.2.1 (s + 1) (by omega) (by omega)
        have k2 := BR_k hb (k := s + 1) (by omega) (by omega)
        have d2 := kO_d (c := B (s + 1))
        omega
    · omega
/-! the class's reader -/
theorem aS_kindOf : fS_kindOf G c = some (kO c) := by
  have l28 : jS_kindOf_28 G c = some (if c = 59 then 3 else 4) := by
    rw [jS_kindOf_28]
    by_cases h : c = 59
    · rw [if_pos h, if_pos h]
    · rw [if_neg h, if_neg h]
  have l14 : jS_kindOf_14 G c = some (if 48 ≤ c ∧ c ≤ 57 then 2 else if c = 59 then 3 else 4) := by
    rw [jS_kindOf_14, l28]
    by_cases h1 : c < 48
    · rw [if_pos h1, if_neg (show ¬ (48 ≤ c ∧ c ≤ 57) by omega)]
    · rw [if_neg h1]
      by_cases h2 : 57 < c
      · rw [if_pos h2, if_neg (show ¬ (48 ≤ c ∧ c ≤ 57) by omega)]
      · rw [if_neg h2, if_pos (show 48 ≤ c ∧ c ≤ 57 by omega)]
  unfold kO
  rw [fS_kindOf, l14]
  by_cases h1 : c < 97
  · rw [if_pos h1, if_neg (show ¬ (97 ≤ c ∧ c ≤ 122) by omega)]
  · rw [if_neg h1]
    by_cases h2 : 122 < c
    · rw [if_pos h2, if_neg (show ¬ (97 ≤ c ∧ c ≤ 122) by omega)]
    · rw [if_neg h2, if_pos (show 97 ≤ c ∧ c ≤ 122 by omega)]
theorem aS_isBlank : fS_isBlank G c = some (if c = 32 ∨ c = 10 then 1 else 0) := by
  rw [fS_isBlank]
  by_cases h1 : c = 32
  · rw [if_pos h1, if_pos (Or.inl h1)]
  · rw [if_neg h1]
    by_cases h2 : c = 10
    · rw [if_pos h2, if_pos (Or.inr h2)]
    · rw [if_neg h2, if_neg (show ¬ (c = 32 ∨ c = 10) by omega)]
theorem aI_at (h : CR g G) (h0 : 0 ≤ v) (h1 : v < G 576 1) : fI_at G 576 v = some (G 577 v) := by
  have hl := rlen h
  rw [fI_at, h.1.1.2.2.2.2.2.1, if_neg (show ¬ v < 0 by omega), if_pos h1, if_pos (show v < 500 by omega), if_pos ⟨kd_577, h0, by rw [sz_577]; omega⟩]
theorem aI_at0 (h0 : G 576 1 ≤ v) : fI_at G 576 v = some 0 := by
  rw [fI_at]
  by_cases z : v < 0
  · rw [if_pos z]
  · rw [if_neg z, if_neg (show ¬ v < G 576 1 by omega)]
/-- what the reader's cell holds besides the token stays -/
def FBt (H K : gH) : Prop := ∀ b, ¬ (4 ≤ b ∧ b ≤ 7) → K 575 b = H 575 b
theorem FBt_w (h : FBt H K) (hb : 4 ≤ b ∧ b ≤ 7) : FBt H (pU K 575 b v) := fun x hx => (pU_y (by omega)).trans (h x hx)
/-- the class's token: e is where it was looked for -/
def TJ (e : Int) (H K : gH) : Prop := ∃ k, IsR (K 577) isBl (K 576 1) e (K 575 5) ∧ IsT (K 577) (K 576 1) (K 575 5) k (K 575 6) ∧ K 575 4 = (if k = 2 ∧ 2 < K 575 6 - K 575 5 then 4 else k) ∧ (k = 2 → K 575 6 - K 575 5 ≤ 2 → K 575 7 = numV (K 577) (K 575 5) (K 575 6)) ∧ FBt H K
/-- while the class reads a token of kind k that begins at s -/
def TL (H K : gH) (k s : Int) : Prop := K 575 5 = s ∧ K 575 4 = k ∧ FBt H K ∧ ((K 576 1 ≤ s ∧ k = 0 ∧ K 575 6 = s) ∨ (s < K 576 1 ∧ k = kO (K 577 s) ∧ (s < K 575 6 ∧ K 575 6 ≤ K 576 1) ∧ ((k = 1 ∨ k = 2) → ∀ j, s ≤ j → j < K 575 6 → kO (K 577 j) = k) ∧ (2 < k → K 575 6 = s + 1) ∧ ((k = 1 ∨ k = 2) → K 575 6 ≤ s + 2 → K 575 7 = numV (K 577) s (K 575 6))))
theorem ax_215 (h : RJ g G K) (h0 : 0 ≤ s) (hs : IsR (K 577) isBl (K 576 1) e s) (I : TL H K k s) (hx : (k = 1 ∨ k = 2) → K 575 6 < K 576 1 → ¬ kO (K 577 (K 575 6)) = k) : WN (fun _ K => RJ g G K ∧ TJ e H K) (jS_advance_215 K 575) := by
  obtain ⟨i1, i2, i3, i4⟩ := I
  have hl := rlen h.1.1
  have h6 := h.2
  have T0 : IsT (K 577) (K 576 1) (K 575 5) k (K 575 6) ∧ (k = 2 → K 575 6 - K 575 5 ≤ 2 → K 575 7 = numV (K 577) (K 575 5) (K 575 6)) := by
    rw [i1]
    rcases i4 with ⟨j1, j2, j3⟩ | ⟨j1, j2, j3, j4, j5, j6⟩
    · exact ⟨Or.inl ⟨j1, j2, j3⟩, fun z => absurd z (by omega)⟩
    · refine ⟨Or.inr ⟨j1, j2, ?_⟩, fun z1 z => j6 (Or.inr z1) (by omega)⟩
      have kb := kO_b (c := K 577 s)
      by_cases c : k = 1 ∨ k = 2
      · exact Or.inl ⟨c, ⟨by omega, by omega⟩, j4 c, hx c⟩
      · exact Or.inr ⟨by omega, j5 (by omega)⟩
  have ss : 0 ≤ K 575 5 ∧ K 575 5 ≤ K 575 6 := by
    rw [i1]
    rcases i4 with ⟨j1, j2, j3⟩ | ⟨j1, j2, j3, j4, j5, j6⟩
    · omega
    · exact ⟨by omega, by omega⟩
  rw [← i1] at hs
  rw [jS_advance_215, w32_r (by omega), i2]
  refine W_ite (fun c1 => W_ite (fun c2 => ?_) (fun c2 => ?_)) (fun c1 => ?_)
  · rw [bnd_s]
    refine WN_i ⟨RJ_w h (by omega), k, ?_⟩
    rw [pU_n (show ¬ (577 : Int) = 575 by omega), pU_n (show ¬ (576 : Int) = 575 by omega), pU_s, u1_n (show ¬ (5 : Int) = 4 by omega), u1_n (show ¬ (6 : Int) = 4 by omega), u1_n (show ¬ (7 : Int) = 4 by omega), u1_s]
    exact ⟨hs, T0.1, by rw [if_pos ⟨c1, c2⟩], T0.2, FBt_w i3 (by omega)⟩
  · exact WN_i ⟨h, k, hs, T0.1, by rw [if_neg (by omega)]; exact i2, T0.2, i3⟩
  · exact WN_i ⟨h, k, hs, T0.1, by rw [if_neg (by omega)]; exact i2, T0.2, i3⟩
theorem ax_125 (h : RJ g G K) (h0 : 0 ≤ s) (hs : IsR (K 577) isBl (K 576 1) e s) (I : TL H K k s) : WN (fun _ K => RJ g G K ∧ TJ e H K) (lS_advance_125 575 fu K) := by
  have hf := fu_ge
  have hl := rlen h.1.1
  have h6 := h.2
  refine W_loop (W := WN (fun _ K => RJ g G K ∧ TJ e H K)) (fun n (K : gH) => lS_advance_125 575 n K) (fun K => (K 576 1 - K 575 6).toNat) (fun K => RJ g G K ∧ IsR (K 577) isBl (K 576 1) e s ∧ TL H K k s) ?_ fu K ⟨h, hs, I⟩ (by omega)
  clear h hl h6 hs I
  rintro n K ⟨h, hs, I⟩ ih
  have hl := rlen h.1.1
  have h6 := h.2
  have I0 := I
  obtain ⟨i1, i2, i3, i4⟩ := I0
  have l141 : (k = 1 ∨ k = 2) → WN (fun _ K => RJ g G K ∧ TJ e H K) (jS_advance_141 (lS_advance_125 575 n) K 575) := by
    intro hk
    have i5 : s < K 576 1 ∧ k = kO (K 577 s) ∧ (s < K 575 6 ∧ K 575 6 ≤ K 576 1) ∧ ((k = 1 ∨ k = 2) → ∀ j, s ≤ j → j < K 575 6 → kO (K 577 j) = k) ∧ (2 < k → K 575 6 = s + 1) ∧ ((k = 1 ∨ k = 2) → K 575 6 ≤ s + 2 → K 575 7 = numV (K 577) s (K 575 6)) := by
      rcases i4 with ⟨j1, j2, j3⟩ | i4
      · exact absurd j2 (by omega)
      · exact i4
    obtain ⟨j1, j2, j3, j4, j5, j6⟩ := i5
    rw [jS_advance_141, r576 h.1.1, if_pos kd_576]
    refine W_ite (fun hlt => ?_) (fun hlt => ax_215 h h0 hs I (fun _ z => absurd z hlt))
    rw [aI_at h.1.1 h6.1 hlt, bdP_s, aS_kindOf, bdP_s, bdP_s, i2]
    refine W_ite (fun he => ?_) (fun he => ax_215 h h0 hs I (fun _ _ => he))
    rw [bnd_s, bnd_s, opI_mul]
    have w1 := RJ_w (b := 7) (v := w32 (w32 (w32 (10 * K 575 7) + K 577 (K 575 6)) - 48)) h (by omega)
    have e7 : K 575 6 + 1 ≤ s + 2 → w32 (w32 (w32 (10 * K 575 7) + K 577 (K 575 6)) - 48) = numV (K 577) s (K 575 6 + 1) := by
      intro z
      have es : K 575 6 = s + 1 := by omega
      have v1 := j6 hk (by omega)
      rw [es] at v1
      unfold numV at v1 ⊢
      rw [if_pos rfl] at v1
      rw [es] at he
      rw [es, v1, if_neg (show ¬ s + 1 + 1 = s + 1 by omega)]
      have d1 := kO_d (c := K 577 s)
      have d2 := kO_d (c := K 577 (s + 1))
      rw [w32_r (x := 10 * (K 577 s - 48)) (by omega), w32_r (x := 10 * (K 577 s - 48) + K 577 (s + 1)) (by omega), w32_r (by omega)]
      omega
    have e4 : pU K 575 7 (w32 (w32 (w32 (10 * K 575 7) + K 577 (K 575 6)) - 48)) 575 4 = k := by rw [pU_y (by omega)]; exact i2
    have e5 : pU K 575 7 (w32 (w32 (w32 (10 * K 575 7) + K 577 (K 575 6)) - 48)) 575 5 = s := by rw [pU_y (by omega)]; exact i1
    have e6 : pU K 575 7 (w32 (w32 (w32 (10 * K 575 7) + K 577 (K 575 6)) - 48)) 575 6 = K 575 6 := by rw [pU_y (by omega)]
    have e7' : pU K 575 7 (w32 (w32 (w32 (10 * K 575 7) + K 577 (K 575 6)) - 48)) 575 7 = w32 (w32 (w32 (10 * K 575 7) + K 577 (K 575 6)) - 48) := by rw [pU_s, u1_s]
    have e1 : pU K 575 7 (w32 (w32 (w32 (10 * K 575 7) + K 577 (K 575 6)) - 48)) 576 = K 576 := pU_n (by omega)
    have eB : pU K 575 7 (w32 (w32 (w32 (10 * K 575 7) + K 577 (K 575 6)) - 48)) 577 = K 577 := pU_n (by omega)
    have eF : FBt H (pU K 575 7 (w32 (w32 (w32 (10 * K 575 7) + K 577 (K 575 6)) - 48))) := FBt_w i3 (by omega)
    generalize pU K 575 7 (w32 (w32 (w32 (10 * K 575 7) + K 577 (K 575 6)) - 48)) = A at *
    rw [e6, w32_r (by omega)]
    have f4 : pU A 575 6 (K 575 6 + 1) 575 4 = k := by rw [pU_y (by omega)]; exact e4
    have f5 : pU A 575 6 (K 575 6 + 1) 575 5 = s := by rw [pU_y (by omega)]; exact e5
    have f6 : pU A 575 6 (K 575 6 + 1) 575 6 = K 575 6 + 1 := by rw [pU_s, u1_s]
    have f7 : pU A 575 6 (K 575 6 + 1) 575 7 = A 575 7 := by rw [pU_y (by omega)]
    have f1 : pU A 575 6 (K 575 6 + 1) 576 = K 576 := by rw [pU_n (by omega)]; exact e1
    have fB : pU A 575 6 (K 575 6 + 1) 577 = K 577 := by rw [pU_n (by omega)]; exact eB
    refine ih _ ⟨⟨St_w w1.1 (by omega), by rw [f6, f1]; omega⟩, by rw [fB, f1]; exact hs, f5, f4, FBt_w eF (by omega), Or.inr ?_⟩ (by rw [f6, f1]; omega)
    rw [f6, f1, fB, f7, e7']
    refine ⟨j1, j2, by omega, fun z j a1 a2 => ?_, fun z => absurd hk (by omega), fun _ => e7⟩
    by_cases ej : j = K 575 6
    · rw [ej]; exact he
    · exact j4 z j a1 (by omega)
  show WN _ (bS_advance_125 575 (lS_advance_125 575 n) K)
  rw [bS_advance_125, i2]
  exact W_ite (fun c1 => l141 (Or.inl c1)) (fun c1 => W_ite (fun c2 => l141 (Or.inr c2)) (fun c2 => ax_215 h h0 hs I (fun z => absurd z (by omega))))
theorem ax_52 (h : St g G K) (h5 : 0 ≤ K 575 5 ∧ K 575 5 ≤ K 576 1) (hs : IsR (K 577) isBl (K 576 1) e (K 575 5)) (hF : FBt H K) : WN (fun _ K => RJ g G K ∧ TJ e H K) (jS_advance_52 K 575) := by
  have hl := rlen h.1
  rw [jS_advance_52, bnd_s, bnd_s]
  have w1 : RJ g G (pU (pU K 575 6 (K 575 5)) 575 4 0) := by
    refine RJ_w ⟨St_w h (by omega), ?_⟩ (by omega)
    rw [pU_n (show ¬ (576 : Int) = 575 by omega), pU_s, u1_s]
    exact h5
  have e4 : pU (pU K 575 6 (K 575 5)) 575 4 0 575 4 = 0 := by rw [pU_s, u1_s]
  have e6 : pU (pU K 575 6 (K 575 5)) 575 4 0 575 6 = K 575 5 := by rw [pU_y (by omega), pU_s, u1_s]
  have e5 : pU (pU K 575 6 (K 575 5)) 575 4 0 575 5 = K 575 5 := by rw [pU_y (by omega), pU_y (by omega)]
  have e1 : pU (pU K 575 6 (K 575 5)) 575 4 0 576 = K 576 := by rw [pU_n (by omega), pU_n (by omega)]
  have eB : pU (pU K 575 6 (K 575 5)) 575 4 0 577 = K 577 := by rw [pU_n (by omega), pU_n (by omega)]
  have eF : FBt H (pU (pU K 575 6 (K 575 5)) 575 4 0) := FBt_w (FBt_w hF (by omega)) (by omega)
  generalize pU (pU K 575 6 (K 575 5)) 575 4 0 = A at *
  rw [r576 w1.1.1, if_pos kd_576, e5]
  refine W_ite (fun hlt => ?_) (fun hlt => ?_)
  · rw [aI_at w1.1.1 h5.1 hlt, bdP_s, aS_kindOf, bdP_s, bnd_s, bnd_s, eB]
    have w2 := RJ_w (b := 4) (v := kO (K 577 (K 575 5))) w1 (by omega)
    have g4 : pU A 575 4 (kO (K 577 (K 575 5))) 575 4 = kO (K 577 (K 575 5)) := by rw [pU_s, u1_s]
    have g6 : pU A 575 4 (kO (K 577 (K 575 5))) 575 6 = K 575 5 := by rw [pU_y (by omega)]; exact e6
    have g5 : pU A 575 4 (kO (K 577 (K 575 5))) 575 5 = K 575 5 := by rw [pU_y (by omega)]; exact e5
    have g1 : pU A 575 4 (kO (K 577 (K 575 5))) 576 = K 576 := by rw [pU_n (by omega)]; exact e1
    have gB : pU A 575 4 (kO (K 577 (K 575 5))) 577 = K 577 := by rw [pU_n (by omega)]; exact eB
    have gF : FBt H (pU A 575 4 (kO (K 577 (K 575 5)))) := FBt_w eF (by omega)
    rw [e1] at hlt
    generalize pU A 575 4 (kO (K 577 (K 575 5))) = C at *
    rw [g6, w32_r (by omega)]
    have w3 : RJ g G (pU C 575 6 (K 575 5 + 1)) := by
      refine ⟨St_w w2.1 (by omega), ?_⟩
      rw [pU_n (show ¬ (576 : Int) = 575 by omega), pU_s, u1_s, g1]
      omega
    have k4 : pU C 575 6 (K 575 5 + 1) 575 4 = kO (K 577 (K 575 5)) := by rw [pU_y (by omega)]; exact g4
    have k6 : pU C 575 6 (K 575 5 + 1) 575 6 = K 575 5 + 1 := by rw [pU_s, u1_s]
    have k5 : pU C 575 6 (K 575 5 + 1) 575 5 = K 575 5 := by rw [pU_y (by omega)]; exact g5
    have k1 : pU C 575 6 (K 575 5 + 1) 576 = K 576 := by rw [pU_n (by omega)]; exact g1
    have kB : pU C 575 6 (K 575 5 + 1) 577 = K 577 := by rw [pU_n (by omega)]; exact gB
    have kF : FBt H (pU C 575 6 (K 575 5 + 1)) := FBt_w gF (by omega)
    generalize pU C 575 6 (K 575 5 + 1) = D at *
    rw [r576 w3.1.1, if_pos kd_576, k5, aI_at w3.1.1 h5.1 (by rw [k1]; exact hlt), bdP_s, bnd_s, kB]
    have m4 : pU D 575 7 (w32 (K 577 (K 575 5) - 48)) 575 4 = kO (K 577 (K 575 5)) := by rw [pU_y (by omega)]; exact k4
    have m6 : pU D 575 7 (w32 (K 577 (K 575 5) - 48)) 575 6 = K 575 5 + 1 := by rw [pU_y (by omega)]; exact k6
    have m5 : pU D 575 7 (w32 (K 577 (K 575 5) - 48)) 575 5 = K 575 5 := by rw [pU_y (by omega)]; exact k5
    have m7 : pU D 575 7 (w32 (K 577 (K 575 5) - 48)) 575 7 = w32 (K 577 (K 575 5) - 48) := by rw [pU_s, u1_s]
    have m1 : pU D 575 7 (w32 (K 577 (K 575 5) - 48)) 576 = K 576 := by rw [pU_n (by omega)]; exact k1
    have mB : pU D 575 7 (w32 (K 577 (K 575 5) - 48)) 577 = K 577 := by rw [pU_n (by omega)]; exact kB
    refine ax_125 (k := kO (K 577 (K 575 5))) (s := K 575 5) (RJ_w w3 (by omega)) h5.1 (by rw [mB, m1]; exact hs) ⟨m5, m4, FBt_w kF (by omega), Or.inr ?_⟩
    rw [m1, mB, m6, m7]
    refine ⟨hlt, rfl, by omega, fun _ j j0 j1 => ?_, fun _ => rfl, fun z _ => ?_⟩
    · rw [show j = K 575 5 by omega]
    · unfold numV
      rw [if_pos rfl]
      have d1 := kO_d (c := K 577 (K 575 5))
      exact w32_r (by omega)
  · rw [e1] at hlt
    rw [aI_at0 (by rw [e1]; omega), bdP_s, bnd_s]
    have m4 : pU A 575 7 (w32 (0 - 48)) 575 4 = 0 := by rw [pU_y (by omega)]; exact e4
    have m6 : pU A 575 7 (w32 (0 - 48)) 575 6 = K 575 5 := by rw [pU_y (by omega)]; exact e6
    have m5 : pU A 575 7 (w32 (0 - 48)) 575 5 = K 575 5 := by rw [pU_y (by omega)]; exact e5
    have m1 : pU A 575 7 (w32 (0 - 48)) 576 = K 576 := by rw [pU_n (by omega)]; exact e1
    have mB : pU A 575 7 (w32 (0 - 48)) 577 = K 577 := by rw [pU_n (by omega)]; exact eB
    exact ax_125 (k := 0) (s := K 575 5) (RJ_w w1 (by omega)) h5.1 (by rw [mB, m1]; exact hs) ⟨m5, m4, FBt_w eF (by omega), Or.inl ⟨by rw [m1]; omega, rfl, m6⟩⟩
/-- the class looks for a token behind its place -/
theorem aS_advance (h : RJ g G H) : WN (fun _ K => RJ g G K ∧ TJ (H 575 6) H K) (fS_advance H 575) := by
  have hf := fu_ge
  rw [fS_advance, bnd_s]
  have w1 : St g G (pU H 575 5 (H 575 6)) := St_w h.1 (by omega)
  have e5 : pU H 575 5 (H 575 6) 575 5 = H 575 6 := by rw [pU_s, u1_s]
  have e1 : pU H 575 5 (H 575 6) 576 = H 576 := pU_n (by omega)
  have eB : pU H 575 5 (H 575 6) 577 = H 577 := pU_n (by omega)
  have eF : FBt H (pU H 575 5 (H 575 6)) := FBt_w (fun _ _ => rfl) (by omega)
  have h6 := h.2
  have hl := rlen h.1.1
  generalize pU H 575 5 (H 575 6) = A at *
  refine W_loop (W := WN (fun _ K => RJ g G K ∧ TJ (H 575 6) H K)) (fun n (K : gH) => lS_advance_8 575 n K) (fun K => (K 576 1 - K 575 5).toNat) (fun K => St g G K ∧ (0 ≤ H 575 6 ∧ H 575 6 ≤ K 575 5 ∧ K 575 5 ≤ K 576 1) ∧ (∀ j, H 575 6 ≤ j → j < K 575 5 → isBl (K 577 j)) ∧ FBt H K) ?_ fu A ⟨w1, by rw [e5, e1]; omega, fun j j0 j1 => by rw [e5] at j1; omega, eF⟩ (by rw [e5, e1]; omega)
  clear hl w1 e5 e1 eB eF A
  rintro n K ⟨hK, h5, hb, hF⟩ ih
  have hl := rlen hK.1
  show WN _ (bS_advance_8 575 (lS_advance_8 575 n) K)
  rw [bS_advance_8, r576 hK.1, if_pos kd_576]
  refine W_ite (fun hlt => ?_) (fun hlt => ax_52 hK ⟨by omega, h5.2.2⟩ ⟨⟨h5.2.1, h5.2.2⟩, hb, fun z => absurd z hlt⟩ hF)
  rw [aI_at hK.1 (by omega) hlt, bdP_s, aS_isBlank, bdP_s]
  by_cases c : K 577 (K 575 5) = 32 ∨ K 577 (K 575 5) = 10
  · rw [if_pos c, if_neg f0, bnd_s, w32_r (by omega)]
    have f5 : pU K 575 5 (K 575 5 + 1) 575 5 = K 575 5 + 1 := by rw [pU_s, u1_s]
    have f1 : pU K 575 5 (K 575 5 + 1) 576 = K 576 := pU_n (by omega)
    have fB : pU K 575 5 (K 575 5 + 1) 577 = K 577 := pU_n (by omega)
    refine ih _ ⟨St_w hK (by omega), by rw [f5, f1]; omega, fun j j0 j1 => ?_, FBt_w hF (by omega)⟩ (by rw [f5, f1]; omega)
    rw [f5] at j1
    rw [fB]
    by_cases ej : j = K 575 5
    · rw [ej]; exact c
    · exact hb j j0 (by omega)
  · rw [if_neg c, if_pos rfl]
    exact ax_52 hK ⟨by omega, h5.2.2⟩ ⟨⟨h5.2.1, h5.2.2⟩, hb, fun _ => c⟩ hF
end PAR1
