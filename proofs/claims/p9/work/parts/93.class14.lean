/-! ===== the class's input and reader (own work) ===== -/
section CLS14
variable {g g' G H K : gH} {T S i j k a b c v w d o p q r s m x y z l : Int}
theorem cr0 (h : CR g G) : G 0 0 = 1 := h.1.1.1.1
theorem cr3 (h : CR g G) : G 0 3 = 133 := h.1.1.1.2.2.2.1
theorem cr5 (h : CR g G) : G 0 5 = 622 := h.1.1.1.2.2.2.2.2
theorem kdr1 (h : CR g G) : kd (G 0 0) = 5 := by rw [cr0 h]; exact kdT T1
theorem kd_576 : kd 576 = 1 := by decide +kernel
theorem kd_577 : kd 577 = 21 := by decide +kernel
theorem sz_577 : sz 577 = 500 := by decide +kernel
theorem CI_len (h : CInv G) (hl : 0 ≤ l ∧ l ≤ 500) : CInv (pU G 576 1 l) := by
  obtain ⟨⟨h1, h2, h3, h4, h5, h6, h7⟩, ht, -⟩ := h
  have e : ∀ x y, ¬ (x = 576 ∧ y = 1) → pU G 576 1 l x y = G x y := fun x y z => by
    unfold pU
    rw [if_neg z]
  refine ⟨⟨?_, ?_, fun k k0 k1 => ?_, ?_, ?_, ?_, ?_⟩, fun S hS => ?_, ?_⟩
  · rw [e 0 0 (by omega), e 0 1 (by omega), e 0 2 (by omega), e 0 3 (by omega), e 0 4 (by omega), e 0 5 (by omega)]; exact h1
  · rw [e _ _ (by omega)]; exact h2
  · rw [e _ _ (by omega)]; exact h3 k k0 k1
  · rw [e _ _ (by omega)]; exact h4
  · rw [e _ _ (by omega)]; exact h5
  · rw [e _ _ (by omega)]; exact h6
  · rw [e _ _ (by omega)]; exact h7
  · have o := out_Ts S hS
    have b := isT_b hS
    exact TI_F (ht S hS) (fun x x0 x1 => pU_n (by omega))
  · rw [pU_s, u1_s]; exact hl
/-- a call of the class that may change the input's length -/
def CL (g G : gH) (l : Int) : Prop := CInv G ∧ (∀ x, 624 ≤ x → G x = g x) ∧ G 576 1 = l
theorem CL_0 (h : CInv g) : CL g g (g 576 1) := ⟨h, fun _ _ => rfl, rfl⟩
theorem lx_ap (w : Int) : ∀ (m : Nat) (v2 : Int) (n : Nat) (G : gH) (l : Int), CL g G l → (v2 + 8) / 8 = m → 0 ≤ v2 + 8 → m < n → 0 ≤ l → l + m ≤ 500 → v2 < 100 → ∃ H, lI_append_3 576 w n v2 G = some (0, H) ∧ CL g H (l + m) := by
  intro m
  induction m with
  | zero =>
    intro v2 n G l h hm h8 hn h0 hl hv
    obtain ⟨n, rfl⟩ : ∃ k, n = k + 1 := ⟨n - 1, by omega⟩
    refine ⟨G, ?_, by rw [show l + ((0 : Nat) : Int) = l by omega]; exact h⟩
    show bI_append_3 576 w (lI_append_3 576 w n) v2 G = _
    rw [bI_append_3, if_pos (by omega)]
  | succ m ih =>
    intro v2 n G l h hm h8 hn h0 hl hv
    obtain ⟨n, rfl⟩ : ∃ k, n = k + 1 := ⟨n - 1, by omega⟩
    have e1 : G 576 1 = l := h.2.2
    have e0 : G 576 0 = 577 := h.1.1.2.2.2.2.2.1
    show ∃ H, bI_append_3 576 w (lI_append_3 576 w n) v2 G = some (0, H) ∧ _
    rw [bI_append_3, if_neg (by omega), e1, if_neg (by omega), if_pos (by omega), e0, if_pos ⟨kd_577, h0, by rw [sz_577]; omega⟩, bnd_s, bnd_s]
    have c1 : CR G (pU G 577 l (i2b (i2b (opI 5 w v2)))) := CR_w (CR_r h.1) (by omega)
    have e2 : pU G 577 l (i2b (i2b (opI 5 w v2))) 576 1 = l := by rw [pU_n (by omega)]; exact e1
    rw [e2, w32_r (by omega), w32_r (by omega)]
    have c2 : CL g (pU (pU G 577 l (i2b (i2b (opI 5 w v2)))) 576 1 (l + 1)) (l + 1) := ⟨CI_len c1.1 (by omega), fun x x0 => by rw [pU_n (by omega), c1.2.1 x x0]; exact h.2.1 x x0, by rw [pU_s, u1_s]⟩
    obtain ⟨H, a1, a2⟩ := ih (v2 + -8) n _ (l + 1) c2 (by omega) (by omega) (by omega) (by omega) (by omega) (by omega)
    exact ⟨H, a1, by rw [show l + ((m + 1 : Nat) : Int) = l + 1 + (m : Int) by omega]; exact a2⟩
theorem tI_append (h : CL g G l) (h0 : 0 ≤ l ∧ l + 4 ≤ 500) : ∃ H, fI_append G 576 w = some (0, H) ∧ CL g H (l + 4) := by
  have hf := fu_ge
  exact lx_ap w 4 24 fu G l h (by omega) (by omega) (by omega) h0.1 (by omega) (by omega)
/-- promise 2, the class's side -/
theorem tC_appendInput (h : CInv g) : ∃ G, fC_appendInput g 0 a b c d k = some (if 500 < g 576 1 + 20 then -1 else g 576 1 + 20, G) ∧ CL g G (if 500 < g 576 1 + 20 then g 576 1 else g 576 1 + 20) := by
  have hl := h.2.2
  have e4 : g 0 4 = 575 := h.1.1.2.2.2.2.1
  have e5 : g 575 0 = 576 := h.1.2.2.2.1
  rw [fC_appendInput, e4, if_pos kd_575, e5, if_pos kd_576, w32_r (by omega)]
  by_cases hc : 500 < g 576 1 + 20
  · rw [if_pos hc, if_pos hc, if_pos hc]
    exact ⟨g, rfl, CL_0 h⟩
  · rw [if_neg hc, if_neg hc, if_neg hc]
    obtain ⟨A, a1, a2⟩ := tI_append (w := a) (CL_0 h) (by omega)
    obtain ⟨B, b1, b2⟩ := tI_append (w := b) a2 (by omega)
    obtain ⟨C, c1, c2⟩ := tI_append (w := c) b2 (by omega)
    obtain ⟨D, d1, d2⟩ := tI_append (w := d) c2 (by omega)
    obtain ⟨E, k1, k2⟩ := tI_append (w := k) d2 (by omega)
    have s : ∀ {X l}, CL g X l → X 0 4 = 575 ∧ X 575 0 = 576 := fun hx => ⟨hx.1.1.1.2.2.2.2.1, hx.1.1.2.2.2.1⟩
    rw [show g 576 1 + 4 + 4 + 4 + 4 + 4 = g 576 1 + 20 by omega] at k2
    rw [a1, bdN_s, b1, bdN_s, c1, bdN_s, d1, bdN_s, k1, bdN_s, k2.2.2]
    exact ⟨E, rfl, k2⟩
theorem tC_truncateInput (h : CInv g) : ∃ G, fC_truncateInput g 0 v = some (if 0 ≤ v ∧ v ≤ g 576 1 then 1 else 0, G) ∧ CL g G (if 0 ≤ v ∧ v ≤ g 576 1 then v else g 576 1) := by
  have hl := h.2.2
  have e4 : g 0 4 = 575 := h.1.1.2.2.2.2.1
  have e5 : g 575 0 = 576 := h.1.2.2.2.1
  rw [fC_truncateInput, e4, if_pos kd_575, e5, if_pos kd_576]
  by_cases h1 : v < 0
  · rw [if_pos h1, if_neg (by omega), if_neg (by omega)]
    exact ⟨g, rfl, CL_0 h⟩
  · rw [if_neg h1]
    by_cases h2 : g 576 1 < v
    · rw [if_pos h2, if_neg (by omega), if_neg (by omega)]
      exact ⟨g, rfl, CL_0 h⟩
    · rw [if_neg h2, bnd_s, if_pos (by omega), if_pos (by omega)]
      exact ⟨_, rfl, CI_len h (by omega), fun x x0 => pU_n (by omega), by rw [pU_s, u1_s]⟩
/-- the reader's own cell alone is touched -/
def St (g G H : gH) : Prop := CR g H ∧ ∀ x, ¬ x = 575 → H x = G x
theorem St_w (h : St g G H) (hb : 2 ≤ b) : St g G (pU H 575 b v) := ⟨CR_w h.1 (by omega), fun x hx => (pU_n hx).trans (h.2 x hx)⟩
theorem St_t (h1 : St g G H) (h2 : St g H K) : St g G K := ⟨h2.1, fun x hx => (h2.2 x hx).trans (h1.2 x hx)⟩
/-- the reader between two tokens -/
def RJ (g G H : gH) : Prop := St g G H ∧ 0 ≤ H 575 6 ∧ H 575 6 ≤ H 576 1
theorem RJ_t (h1 : RJ g G H) (h2 : RJ g H K) : RJ g G K := ⟨St_t h1.1 h2.1, h2.2⟩
theorem RJ_w (h : RJ g G H) (hb : 2 ≤ b ∧ ¬ b = 6) : RJ g G (pU H 575 b v) := by
  refine ⟨St_w h.1 hb.1, ?_⟩
  rw [pU_n (show ¬ (576 : Int) = 575 by omega), pU_s, u1_n (by omega)]
  exact h.2
def RI (g G : gH) : Prop := CR g G ∧ 0 ≤ G 575 6 ∧ G 575 6 ≤ G 576 1
theorem RI_J (h : RI g G) : RJ g G G := ⟨⟨h.1, fun _ _ => rfl⟩, h.2⟩
theorem RJ_I (h : RJ g G H) : RI g H := ⟨h.1.1, h.2⟩
theorem r576 (h : CR g G) : G 575 0 = 576 := h.1.1.2.2.2.1
theorem r578 (h : CR g G) : G 575 1 = 578 := h.1.1.2.2.2.2.1
theorem rlen (h : CR g G) : 0 ≤ G 576 1 ∧ G 576 1 ≤ 500 := h.1.2.2
theorem tI_at (h : CR g G) : WP (fun _ => True) (fI_at G 576 v) := by
  rw [fI_at, h.1.1.2.2.2.2.2.1]
  refine W_ite (fun _ => WP_i trivial) (fun _ => W_ite (fun _ => W_ite (fun _ => ?_) (fun _ => WP_i trivial)) (fun _ => WP_i trivial))
  rw [if_pos ⟨kd_577, by omega, by rw [sz_577]; omega⟩]
  exact WP_i trivial
theorem tS_isBlank : WP (fun _ => True) (fS_isBlank G v) := by
  rw [fS_isBlank]
  exact W_ite (fun _ => WP_i trivial) (fun _ => W_ite (fun _ => WP_i trivial) (fun _ => WP_i trivial))
theorem tS_kindOf : WP (fun _ => True) (fS_kindOf G v) := by
  have l28 : WP (fun _ => True) (jS_kindOf_28 G v) := by
    rw [jS_kindOf_28]; exact W_ite (fun _ => WP_i trivial) (fun _ => WP_i trivial)
  have l14 : WP (fun _ => True) (jS_kindOf_14 G v) := by
    rw [jS_kindOf_14]; exact W_ite (fun _ => l28) (fun _ => W_ite (fun _ => l28) (fun _ => WP_i trivial))
  rw [fS_kindOf]
  exact W_ite (fun _ => l14) (fun _ => W_ite (fun _ => l14) (fun _ => WP_i trivial))
theorem tS_fail (h : RJ g G H) : WN (fun _ K => RJ g G K) (fS_fail H 575 v) := by
  rw [fS_fail, bnd_s, bnd_s]
  exact WN_i (RJ_w (RJ_w h (by omega)) (by omega))
theorem tS_isWord (h : CR g G) (hv : 2000000 ≤ v ∧ v < 2000026) : WP (fun _ => True) (fS_isWord G 575 v) := by
  have hf := fu_ge
  have hg : gtl v < 9 := by
    obtain ⟨l, h1, h2, h3, h4⟩ := gtx_some (p := v)
    unfold gtl
    rw [h2]
    omega
  have key : ∀ s, WP (fun _ => True) (lS_isWord_24 G 575 v fu s 0) := by
    intro s
    refine W_loop (W := WP (fun _ => True)) (fun n (a : Int × Int) => lS_isWord_24 G 575 v n a.1 a.2) (fun a => (9 - a.2).toNat) (fun a => 0 ≤ a.2 ∧ a.2 ≤ 9) ?_ fu (s, 0) (by dsimp only; omega) (by dsimp only; omega)
    rintro n ⟨x, i⟩ hI ih
    have i0 : 0 ≤ i := hI.1
    have i1 : i ≤ 9 := hI.2
    have nx : ∀ x', i < 9 → WP (fun _ => True) (lS_isWord_24 G 575 v n x' (w32 (i + 1))) := fun x' hi => by rw [w32_r (by omega)]; exact ih (x', i + 1) (by dsimp only; omega) (by dsimp only; omega)
    show WP _ (bS_isWord_24 G 575 v (lS_isWord_24 G 575 v n) x i)
    rw [bS_isWord_24, if_pos hv, r576 h, if_pos kd_576]
    refine W_ite (fun _ => WP_i trivial) (fun _ => W_ite (fun hi => W_bdP (tI_at h) (fun _ _ => ?_)) (fun _ => WP_i trivial))
    rw [if_pos ⟨hv, i0, hi⟩]
    exact W_ite (fun _ => nx _ (by omega)) (fun _ => nx _ (by omega))
  rw [fS_isWord, if_pos hv]
  exact W_ite (fun _ => key _) (fun _ => key _)
theorem tS_ruleOfWord (h : CR g G) : WP (fun _ => True) (fS_ruleOfWord G 575) := by
  rw [fS_ruleOfWord]
  exact W_bdP (tS_isWord h (by omega)) (fun _ _ => W_ite (fun _ => W_bdP (tS_isWord h (by omega)) (fun _ _ => W_ite (fun _ => W_bdP (tS_isWord h (by omega)) (fun _ _ => W_ite (fun _ => W_bdP (tS_isWord h (by omega)) (fun _ _ => W_ite (fun _ => W_bdP (tS_isWord h (by omega)) (fun _ _ => W_ite (fun _ => WP_i trivial) (fun _ => WP_i trivial))) (fun _ => WP_i trivial))) (fun _ => WP_i trivial))) (fun _ => WP_i trivial))) (fun _ => WP_i trivial))
theorem lx_215 (h : RJ g G H) : WN (fun _ K => RJ g G K) (jS_advance_215 H 575) := by
  rw [jS_advance_215]
  refine W_ite (fun _ => W_ite (fun _ => ?_) (fun _ => WN_i h)) (fun _ => WN_i h)
  rw [bnd_s]
  exact WN_i (RJ_w h (by omega))
theorem lx_125 (h : RJ g G H) : WN (fun _ K => RJ g G K) (lS_advance_125 575 fu H) := by
  have hf := fu_ge
  have hl := rlen h.1.1
  have h6 := h.2
  refine W_loop (W := WN (fun _ K => RJ g G K)) (fun n (K : gH) => lS_advance_125 575 n K) (fun K => (K 576 1 - K 575 6).toNat) (fun K => RJ g G K) ?_ fu H h (by omega)
  clear h hl h6
  intro n K h ih
  have hl := rlen h.1.1
  have h6 := h.2
  have l141 : WN (fun _ K => RJ g G K) (jS_advance_141 (lS_advance_125 575 n) K 575) := by
    rw [jS_advance_141, r576 h.1.1, if_pos kd_576]
    refine W_ite (fun hlt => W_bdP (tI_at h.1.1) (fun _ _ => W_bdP tS_kindOf (fun _ _ => W_ite (fun _ => W_bdP (tI_at h.1.1) (fun u _ => ?_)) (fun _ => lx_215 h)))) (fun _ => lx_215 h)
    rw [bnd_s, bnd_s]
    have w1 := RJ_w (b := 7) (v := w32 (w32 (opI 0 10 (K 575 7) + u) - 48)) h (by omega)
    have e6 : pU K 575 7 (w32 (w32 (opI 0 10 (K 575 7) + u) - 48)) 575 6 = K 575 6 := by rw [pU_s, u1_n (by omega)]
    have e1 : pU K 575 7 (w32 (w32 (opI 0 10 (K 575 7) + u) - 48)) 576 1 = K 576 1 := by rw [pU_n (by omega)]
    generalize pU K 575 7 (w32 (w32 (opI 0 10 (K 575 7) + u) - 48)) = A at *
    rw [e6, w32_r (by omega)]
    have f6 : pU A 575 6 (K 575 6 + 1) 575 6 = K 575 6 + 1 := by rw [pU_s, u1_s]
    have f1 : pU A 575 6 (K 575 6 + 1) 576 1 = K 576 1 := by rw [pU_n (by omega)]; exact e1
    exact ih _ ⟨St_w w1.1 (by omega), by rw [f6, f1]; omega⟩ (by rw [f6, f1]; omega)
  show WN _ (bS_advance_125 575 (lS_advance_125 575 n) K)
  rw [bS_advance_125]
  exact W_ite (fun _ => l141) (fun _ => W_ite (fun _ => l141) (fun _ => lx_215 h))
theorem lx_52 (h : St g G H) (h5 : 0 ≤ H 575 5 ∧ H 575 5 ≤ H 576 1) : WN (fun _ K => RJ g G K) (jS_advance_52 H 575) := by
  have hl := rlen h.1
  rw [jS_advance_52, bnd_s, bnd_s]
  have w1 : RJ g G (pU (pU H 575 6 (H 575 5)) 575 4 0) := by
    refine RJ_w ⟨St_w h (by omega), ?_⟩ (by omega)
    rw [pU_n (show ¬ (576 : Int) = 575 by omega), pU_s, u1_s]
    exact h5
  have e6 : pU (pU H 575 6 (H 575 5)) 575 4 0 575 6 = H 575 5 := by rw [pU_y (by omega), pU_s, u1_s]
  have e5 : pU (pU H 575 6 (H 575 5)) 575 4 0 575 5 = H 575 5 := by rw [pU_y (by omega), pU_y (by omega)]
  have e1 : pU (pU H 575 6 (H 575 5)) 575 4 0 576 1 = H 576 1 := by rw [pU_n (by omega), pU_n (by omega)]
  generalize pU (pU H 575 6 (H 575 5)) 575 4 0 = A at *
  rw [r576 w1.1.1, if_pos kd_576, e5, e1]
  refine W_ite (fun hlt => W_bdP (tI_at w1.1.1) (fun _ _ => W_bdP tS_kindOf (fun u _ => ?_))) (fun _ => W_bdP (tI_at w1.1.1) (fun u _ => ?_))
  · rw [bnd_s, bnd_s]
    have w2 := RJ_w (b := 4) (v := u) w1 (by omega)
    have f6 : pU A 575 4 u 575 6 = H 575 5 := by rw [pU_y (by omega)]; exact e6
    have f5 : pU A 575 4 u 575 5 = H 575 5 := by rw [pU_y (by omega)]; exact e5
    have f1 : pU A 575 4 u 576 1 = H 576 1 := by rw [pU_n (by omega)]; exact e1
    generalize pU A 575 4 u = B at *
    rw [f6, w32_r (by omega)]
    have w3 : RJ g G (pU B 575 6 (H 575 5 + 1)) := by
      refine ⟨St_w w2.1 (by omega), ?_⟩
      rw [pU_n (show ¬ (576 : Int) = 575 by omega), pU_s, u1_s, f1]
      omega
    generalize pU B 575 6 (H 575 5 + 1) = C at *
    rw [r576 w3.1.1, if_pos kd_576]
    refine W_bdP (tI_at w3.1.1) (fun _ _ => ?_)
    rw [bnd_s]
    exact lx_125 (RJ_w w3 (by omega))
  · rw [bnd_s]
    exact lx_125 (RJ_w w1 (by omega))
theorem tS_advance (h : RJ g G H) : WN (fun _ K => RJ g G K) (fS_advance H 575) := by
  have hf := fu_ge
  rw [fS_advance, bnd_s]
  have w1 : St g G (pU H 575 5 (H 575 6)) := St_w h.1 (by omega)
  have e5 : pU H 575 5 (H 575 6) 575 5 = H 575 6 := by rw [pU_s, u1_s]
  have e1 : pU H 575 5 (H 575 6) 576 1 = H 576 1 := by rw [pU_n (by omega)]
  have h6 := h.2
  have hl := rlen h.1.1
  generalize pU H 575 5 (H 575 6) = A at *
  refine W_loop (W := WN (fun _ K => RJ g G K)) (fun n (K : gH) => lS_advance_8 575 n K) (fun K => (K 576 1 - K 575 5).toNat) (fun K => St g G K ∧ 0 ≤ K 575 5 ∧ K 575 5 ≤ K 576 1) ?_ fu A ⟨w1, by rw [e5, e1]; exact h6⟩ (by omega)
  clear h hl h6 w1 e5 e1 A
  rintro n K ⟨h, h5⟩ ih
  have hl := rlen h.1
  show WN _ (bS_advance_8 575 (lS_advance_8 575 n) K)
  rw [bS_advance_8, r576 h.1, if_pos kd_576]
  refine W_ite (fun hlt => W_bdP (tI_at h.1) (fun _ _ => W_bdP tS_isBlank (fun _ _ => W_ite (fun _ => lx_52 h h5) (fun _ => ?_)))) (fun _ => lx_52 h h5)
  rw [bnd_s, w32_r (by omega)]
  have f5 : pU K 575 5 (K 575 5 + 1) 575 5 = K 575 5 + 1 := by rw [pU_s, u1_s]
  have f1 : pU K 575 5 (K 575 5 + 1) 576 1 = K 576 1 := by rw [pU_n (by omega)]
  exact ih _ ⟨St_w h (by omega), by rw [f5, f1]; omega⟩ (by rw [f5, f1]; omega)
end CLS14
