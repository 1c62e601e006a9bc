/-! ===== the class's input and reader (own work) ===== -/
section CLS14
variable {g g' G H K : gH} {T S i j k a b c v w d o p q r s m x y z l : Int}
theorem cr0 (h : CR g G) : G 0 0 = 1 := h.1.1.1.1
theorem cr3 (h : CR g G) : G 0 3 = 133 := h.1.1.1.2.2.2.1
theorem cr5 (h : CR g G) : G 0 5 = 622 := h.1.1.1.2.2.2.2.2
theorem kdr1 (h : CR g G) : kd (G 0 0) = 5 := by rw [cr0 h]; exact kdT T1
theorem kd_576 : kd 576 = 1 := by decide +kernel
theorem kd_577 : kd 577 = 21 := by decide +kernel
theorem sz_577 : sz 577 = 500 := by decide +kernel
theorem CI_len (h : CInv G) (hl : 0 ≤ l ∧ l ≤ 500) : CInv (pU G 576 1 l) := by
  obtain ⟨⟨h1, h2, h3, h4, h5, h6, h7⟩, ht, -⟩ := h
  have e : ∀ x y, ¬ (x = 576 ∧ y = 1) → pU G 576 1 l x y = G x y := fun x y z => by
    unfold pU
    rw [if_neg z]
  refine ⟨⟨?_, ?_, fun k k0 k1 => ?_, ?_, ?_, ?_, ?_⟩, fun S hS => ?_, ?_⟩
  · rw [e 0 0 (by omega), e 0 1 (by omega), e 0 2 (by omega), e 0 3 (by omega), e 0 4 (by omega), e 0 5 (by omega)]; exact h1
  · rw [e _ _ (by omega)]; exact h2
  · rw [e _ _ (by omega)]; exact h3 k k0 k1
  · rw [e _ _ (by omega)]; exact h4
  · rw [e _ _ (by omega)]; exact h5
  · rw [e _ _ (by omega)]; exact h6
  · rw [e _ _ (by omega)]; exact h7
  · have o := out_Ts S hS
    have b := isT_b hS
    exact TI_F (ht S hS) (fun x x0 x1 => pU_n (by omega))
  · rw [pU_s, u1_s]; exact hl
/-- a call of the class that may change the input's length -/
def CL (g G : gH) (l : Int) : Prop := CInv G ∧ (∀ x, 624 ≤ x → G x = g x) ∧ G 576 1 = l
theorem CL_0 (h : CInv g) : CL g g (g 576 1) := ⟨h, fun _ _ => rfl, rfl⟩
theorem lx_ap (w : Int) : ∀ (m : Nat) (v2 : Int) (n : Nat) (G : gH) (l : Int), CL g G l → (v2 + 8) / 8 = m → 0 ≤ v2 + 8 → m < n → 0 ≤ l → l + m ≤ 500 → v2 < 100 → ∃ H, lI_append_3 576 w n v2 G = some (0, H) ∧ CL g H (l + m) := by
  intro m
  induction m with
  | zero =>
    intro v2 n G l h hm h8 hn h0 hl hv
    obtain ⟨n, rfl⟩ : ∃ k, n = k + 1 := ⟨n - 1, by omega⟩
    refine ⟨G, ?_, by rw [show l + ((0 : Nat) : Int) = l by omega]; exact h⟩
    show bI_append_3 576 w (lI_append_3 576 w n) v2 G = _
    rw [bI_append_3, if_pos (by omega)]
  | succ m ih =>
    intro v2 n G l h hm h8 hn h0 hl hv
    obtain ⟨n, rfl⟩ : ∃ k, n = k + 1 := ⟨n - 1, by omega⟩
    have e1 : G 576 1 = l := h.2.2
    have e0 : G 576 0 = 577 := h.1.1.2.2.2.2.2.1
    show ∃ H, bI_append_3 576 w (lI_append_3 576 w n) v2 G = some (0, H) ∧ _
    rw [bI_append_3, if_neg (by omega), e1, if_neg (by omega), if_pos (by omega), e0, if_pos ⟨kd_577, h0, by rw [sz_577]; omega⟩, bnd_s, bnd_s]
    have c1 : CR G (pU G 577 l (i2b (i2b (opI 5 w v2)))) := CR_w (CR_r h.1) (by omega)
    have e2 : pU G 577 l (i2b (i2b (opI 5 w v2))) 576 1 = l := by rw [pU_n (by omega)]; exact e1
    rw [e2, w32_r (by omega), w32_r (by omega)]
    have c2 : CL g (pU (pU G 577 l (i2b (i2b (opI 5 w v2)))) 576 1 (l + 1)) (l + 1) := ⟨CI_len c1.1 (by omega), fun x x0 => by rw [pU_n (by omega), c1.2.1 x x0]; exact h.2.1 x x0, by rw [pU_s, u1_s]⟩
    obtain ⟨H, a1, a2⟩ := ih (v2 + -8) n _ (l + 1) c2 (by omega) (by omega) (by omega) (by omega) (by omega) (by omega)
    exact ⟨H, a1, by rw [show l + ((m + 1 : Nat) : Int) = l + 1 + (m : Int) by omega]; exact a2⟩
theorem tI_append (h : CL g G l) (h0 : 0 ≤ l ∧ l + 4 ≤ 500) : ∃ H, fI_append G 576 w = some (0, H) ∧ CL g H (l + 4) := by
  have hf := fu_ge
  exact lx_ap w 4 24 fu G l h (by omega) (by omega) (by omega) h0.1 (by omega) (by omega)
/-- promise 2, the class's side -/
theorem tC_appendInput (h : CInv g) : ∃ G, fC_appendInput g 0 a b c d k = some (if 500 < g 576 1 + 20 then -1 else g 576 1 + 20, G) ∧ CL g G (if 500 < g 576 1 + 20 then g 576 1 else g 576 1 + 20) := by
  have hl := h.2.2
  have e4 : g 0 4 = 575 := h.1.1.2.2.2.2.1
  have e5 : g 575 0 = 576 := h.1.2.2.2.1
  rw [fC_appendInput, e4, if_pos kd_575, e5, if_pos kd_576, w32_r (by omega)]
  by_cases hc : 500 < g 576 1 + 20
  · rw [if_pos hc, if_pos hc, if_pos hc]
    exact ⟨g, rfl, CL_0 h⟩
  · rw [if_neg hc, if_neg hc, if_neg hc]
    obtain ⟨A, a1, a2⟩ := tI_append (w := a) (CL_0 h) (by omega)
    obtain ⟨B, b1, b2⟩ := tI_append (w := b) a2 (by omega)
    obtain ⟨C, c1, c2⟩ := tI_append (w := c) b2 (by omega)
    obtain ⟨D, d1, d2⟩ := tI_append (w := d) c2 (by omega)
    obtain ⟨E, k1, k2⟩ := tI_append (w := k) d2 (by omega)
    have s : ∀ {X l}, CL g X l → X 0 4 = 575 ∧ X 575 0 = 576 := fun hx => ⟨hx.1.1.1.2.2.2.2.1, hx.1.1.2.2.2.1⟩
    rw [show g 576 1 + 4 + 4 + 4 + 4 + 4 = g 576 1 + 20 by omega] at k2
    rw [a1, bdN_s, b1, bdN_s, c1, bdN_s, d1, bdN_s, k1, bdN_s, k2.2.2]
    exact ⟨E, rfl, k2⟩
theorem tC_truncateInput (h : CInv g) : ∃ G, fC_truncateInput g 0 v = some (if 0 ≤ v ∧ v ≤ g 576 1 then 1 else 0, G) ∧ CL g G (if 0 ≤ v ∧ v ≤ g 576 1 then v else g 576 1) := by
  have hl := h.2.2
  have e4 : g 0 4 = 575 := h.1.1.2.2.2.2.1
  have e5 : g 575 0 = 576 := h.1.2.2.2.1
  rw [fC_truncateInput, e4, if_pos kd_575, e5, if_pos kd_576]
  by_cases h1 : v < 0
  · rw [if_pos h1, if_neg (by omega), if_neg (by omega)]
    exact ⟨g, rfl, CL_0 h⟩
  · rw [if_neg h1]
    by_cases h2 : g 576 1 < v
    · rw [if_pos h2, if_neg (by omega), if_neg (by omega)]
      exact ⟨g, rfl, CL_0 h⟩
    · rw [if_neg h2, bnd_s, if_pos (by omega), if_pos (by omega)]
      exact ⟨_, rfl, CI_len h (by omega), fun x x0 => pU_n (by omega), by rw [pU_s, u1_s]⟩
/-- the reader's own cell alone is touched -/
def St (g G H : gH) : Prop := CR g H ∧ ∀ x, ¬ x = 575 → H x = G x
theorem St_w (h : St g G H) (hb : 2 ≤ b) : St g G (pU H 575 b v) := ⟨CR_w h.1 (by omega), fun x hx => (pU_n hx).trans (h.2 x hx)⟩
theorem St_t (h1 : St g G H) (h2 : St g H K) : St g G K := ⟨h2.1, fun x hx => (h2.2 x hx).trans (h1.2 x hx)⟩
/-- the reader between two tokens -/
def RJ (g G H : gH) : Prop := St g G H ∧ 0 ≤ H 575 6 ∧ H 575 6 ≤ H 576 1
theorem RJ_t (h1 : RJ g G H) (h2 : RJ g H K) : RJ g G K := ⟨St_t h1.1 h2.1, h2.2⟩
theorem RJ_w (h : RJ g G H) (hb : 2 ≤ b ∧ ¬ b = 6) : RJ g G (pU H 575 b v) := by
  refine ⟨St_w h.1 hb.1, ?_⟩
  rw [pU_n (show ¬ (576 : Int) = 575 by omega), pU_s, u1_n (by omega)]
  exact h.2
def RI (g G : gH) : Prop := CR g G ∧ 0 ≤ G 575 6 ∧ G 575 6 ≤ G 576 1
theorem RI_J (h : RI g G) : RJ g G G := ⟨⟨h.1, fun _ _ => rfl⟩, h.2⟩
theorem RJ_I (h : RJ g G H) : RI g H := ⟨h.1.1, h.2⟩
theorem r576 (h : CR g G) : G 575 0 = 576 := h.1.1.2.2.2.1
theorem r578 (h : CR g G) : G 575 1 = 578 := h.1.1.2.2.2.2.1
theorem rlen (h : CR g G) : 0 ≤ G 576 1 ∧ G 576 1 ≤ 500 := h.1.2.2
theorem tI_at (h : CR g G) : WP (fun _ => True) (fI_at G 576 v) := by
  rw [fI_at, h.1.1.2.2.2.2.2.1]
  refine W_ite (fun _ => WP_i trivial) (fun _ => W_ite (fun _ => W_ite (fun _ => ?_) (fun _ => WP_i trivial)) (fun _ => WP_i trivial))
  rw [if_pos ⟨kd_577, by omega, by rw [sz_577]; omega⟩]
  exact WP_i trivial
theorem tS_isBlank : WP (fun _ => True) (fS_isBlank G v) := by
  rw [fS_isBlank]
  exact W_ite (fun _ => WP_i trivial) (fun _ => W_ite (fun _ => WP_i trivial) (fun _ => WP_i trivial))
theorem tS_kindOf : WP (fun _ => True) (fS_kindOf G v) := by
  have l28 : WP (fun _ => True) (jS_kindOf_28 G v) := by
    rw [jS_kindOf_28]; exact W_ite (fun _ => WP_i trivial) (fun _ => WP_i trivial)
  have l14 : WP (fun _ => True) (jS_kindOf_14 G v) := by
    rw [jS_kindOf_14]; exact W_ite (fun _ => l28) (fun _ => W_ite (fun _ => l28) (fun _ => WP_i trivial))
  rw [fS_kindOf]
  exact W_ite (fun _ => l14) (fun _ => W_ite (fun _ => l14) (fun _ => WP_i trivial))
theorem tS_fail (h : RJ g G H) : WN (fun _ K => RJ g G K) (fS_fail H 575 v) := by
  rw [fS_fail, bnd_s, bnd_s]
  exact WN_i (RJ_w (RJ_w h (by omega)) (by omega))
theorem tS_isWord (h : CR g G) (hv : 2000000 ≤ v ∧ v < 2000026) : WP (fun _ => True) (fS_isWord G 575 v) := by
  have hf := fu_ge
  have hg : gtl v < 9 := by
    obtain ⟨l, h1, h2, h3, h4⟩ := gtx_some (p := v)
    unfold gtl
    rw [h2]
    omega
  have key : ∀ s, WP (fun _ => True) (lS_isWord_24 G 575 v fu s 0) := by
    intro s
    refine W_loop (W := WP (fun _ => True)) (fun n (a : Int × Int) => lS_isWord_24 G 575 v n a.1 a.2) (fun a => (9 - a.2).toNat) (fun a => 0 ≤ a.2 ∧ a.2 ≤ 9) ?_ fu (s, 0) (by dsimp only; omega) (by dsimp only; omega)
    rintro n ⟨x, i⟩ hI ih
    have i0 : 0 ≤ i := hI.1
    have i1 : i ≤ 9 := hI.2
    have nx : ∀ x', i < 9 → WP (fun _ => True) (lS_isWord_24 G 575 v n x' (w32 (i + 1))) := fun x' hi => by rw [w32_r (by omega)]; exact ih (x', i + 1) (by dsimp only; omega) (by dsimp only; omega)
    show WP _ (bS_isWord_24 G 575 v (lS_isWord_24 G 575 v n) x i)
    rw [bS_isWord_24, if_pos hv, r576 h, if_pos kd_576]
    refine W_ite (fun _ => WP_i trivial) (fun _ => W_ite (fun hi => W_bdP (tI_at h) (fun _ _ => ?_)) (fun _ => WP_i trivial))
    rw [if_pos ⟨hv, i0, hi⟩]
    exact W_ite (fun _ => nx _ (by omega)) (fun _ => nx _ (by omega))
  rw [fS_isWord, if_pos hv]
  exact W_ite (fun _ => key _) (fun _ => key _)
theorem tS_ruleOfWord (h : CR g G) : WP (fun _ => True) (fS_ruleOfWord G 575) := by
  rw [fS_ruleOfWord]
  exact W_bdP (tS_isWord h (by omega)) (fun _ _ => W_ite (fun _ => W_bdP (tS_isWord h (by omega)) (fun _ _ => W_ite (fun _ => W_bdP (tS_isWord h (by omega)) (fun _ _ => W_ite (fun _ => W_bdP (tS_isWord h (by omega)) (fun _ _ => W_ite (fun _ => W_bdP (tS_isWord h (by omega)) (fun _ _ => W_ite (fun _ => WP_i trivial) (fun _ => WP_i trivial))) (fun _ => WP_i trivial))) (fun _ => WP_i trivial))) (fun _ => WP_i trivial))) (fun _ => WP_i trivial))
theorem lx_215 (h : RJ g G H) : WN (fun _ K => RJ g G K) (jS_advance_215 H 575) := by
  rw [jS_advance_215]
  refine W_ite (fun _ => W_ite (fun _ => ?_) (fun _ => WN_i h)) (fun _ => WN_i h)
  rw [bnd_s]
  exact WN_i (RJ_w h (by omega))
theorem lx_125 (h : RJ g G H) : WN (fun _ K => RJ g G K) (lS_advance_125 575 fu H) := by
  have hf := fu_ge
  have hl := rlen h.1.1
  have h6 := h.2
  refine W_loop (W := WN (fun _ K => RJ g G K)) (fun n (K : gH) => lS_advance_125 575 n K) (fun K => (K 576 1 - K 575 6).toNat) (fun K => RJ g G K) ?_ fu H h (by omega)
  clear h hl h6
  intro n K h ih
  have hl := rlen h.1.1
  have h6 := h.2
  have l141 : WN (fun _ K => RJ g G K) (jS_advance_141 (lS_advance_125 575 n) K 575) := by
    rw [jS_advance_141, r576 h.1.1, if_pos kd_576]
    refine W_ite (fun hlt => W_bdP (tI_at h.1.1) (fun _ _ => W_bdP tS_kindOf (fun _ _ => W_ite (fun _ => W_bdP (tI_at h.1.1) (fun u _ => ?_)) (fun _ => lx_215 h)))) (fun _ => lx_215 h)
    rw [bnd_s, bnd_s]
    have w1 := RJ_w (b := 7) (v := w32 (w32 (opI 0 10 (K 575 7) + u) - 48)) h (by omega)
    have e6 : pU K 575 7 (w32 (w32 (opI 0 10 (K 575 7) + u) - 48)) 575 6 = K 575 6 := by rw [pU_s, u1_n (by omega)]
    have e1 : pU K 575 7 (w32 (w32 (opI 0 10 (K 575 7) + u) - 48)) 576 1 = K 576 1 := by rw [pU_n (by omega)]
    generalize pU K 575 7 (w32 (w32 (opI 0 10 (K 575 7) + u) - 48)) = A at *
    rw [e6, w32_r (by omega)]
    have f6 : pU A 575 6 (K 575 6 + 1) 575 6 = K 575 6 + 1 := by rw [pU_s, u1_s]
    have f1 : pU A 575 6 (K 575 6 + 1) 576 1 = K 576 1 := by rw [pU_n (by omega)]; exact e1
    exact ih _ ⟨St_w w1.1 (by omega), by rw [f6, f1]; omega⟩ (by rw [f6, f1]; omega)
  show WN _ (bS_advance_125 575 (lS_advance_125 575 n) K)
  rw [bS_advance_125]
  exact W_ite (fun _ => l141) (fun _ => W_ite (fun _ => l141) (fun _ => lx_215 h))
theorem lx_52 (h : St g G H) (h5 : 0 ≤ H 575 5 ∧ H 575 5 ≤ H 576 1) : WN (fun _ K => RJ g G K) (jS_advance_52 H 575) := by
  have hl := rlen h.1
  rw [jS_advance_52, bnd_s, bnd_s]
  have w1 : RJ g G (pU (pU H 575 6 (H 575 5)) 575 4 0) := by
    refine RJ_w ⟨St_w h (by omega), ?_⟩ (by omega)
    rw [pU_n (show ¬ (576 : Int) = 575 by omega), pU_s, u1_s]
    exact h5
  have e6 : pU (pU H 575 6 (H 575 5)) 575 4 0 575 6 = H 575 5 := by rw [pU_y (by omega), pU_s, u1_s]
  have e5 : pU (pU H 575 6 (H 575 5)) 575 4 0 575 5 = H 575 5 := by rw [pU_y (by omega), pU_y (by omega)]
  have e1 : pU (pU H 575 6 (H 575 5)) 575 4 0 576 1 = H 576 1 := by rw [pU_n (by omega), pU_n (by omega)]
  generalize pU (pU H 575 6 (H 575 5)) 575 4 0 = A at *
  rw [r576 w1.1.1, if_pos kd_576, e5, e1]
  refine W_ite (fun hlt => W_bdP (tI_at w1.1.1) (fun _ _ => W_bdP tS_kindOf (fun u _ => ?_))) (fun _ => W_bdP (tI_at w1.1.1) (fun u _ => ?_))
  · rw [bnd_s, bnd_s]
    have w2 := RJ_w (b := 4) (v := u) w1 (by omega)
    have f6 : pU A 575 4 u 575 6 = H 575 5 := by rw [pU_y (by omega)]; exact e6
    have f5 : pU A 575 4 u 575 5 = H 575 5 := by rw [pU_y (by omega)]; exact e5
    have f1 : pU A 575 4 u 576 1 = H 576 1 := by rw [pU_n (by omega)]; exact e1
    generalize pU A 575 4 u = B at *
    rw [f6, w32_r (by omega)]
    have w3 : RJ g G (pU B 575 6 (H 575 5 + 1)) := by
      refine ⟨St_w w2.1 (by omega), ?_⟩
      rw [pU_n (show ¬ (576 : Int) = 575 by omega), pU_s, u1_s, f1]
      omega
    generalize pU B 575 6 (H 575 5 + 1) = C at *
    rw [r576 w3.1.1, if_pos kd_576]
    refine W_bdP (tI_at w3.1.1) (fun _ _ => ?_)
    rw [bnd_s]
    exact lx_125 (RJ_w w3 (by omega))
  · rw [bnd_s]
    exact lx_125 (RJ_w w1 (by omega))
theorem tS_advance (h : RJ g G H) : WN (fun _ K => RJ g G K) (fS_advance H 575) := by
  have hf := fu_ge
  rw [fS_advance, bnd_s]
  have w1 : St g G (pU H 575 5 (H 575 6)) := St_w h.1 (by omega)
  have e5 : pU H 575 5 (H 575 6) 575 5 = H 575 6 := by rw [pU_s, u1_s]
  have e1 : pU H 575 5 (H 575 6) 576 1 = H 576 1 := by rw [pU_n (by omega)]
  have h6 := h.2
  have hl := rlen h.1.1
  generalize pU H 575 5 (H 575 6) = A at *
  refine W_loop (W := WN (fun _ K => RJ g G K)) (fun n (K : gH) => lS_advance_8 575 n K) (fun K => (K 576 1 - K 575 5).toNat) (fun K => St g G K ∧ 0 ≤ K 575 5 ∧ K 575 5 ≤ K 576 1) ?_ fu A ⟨w1, by rw [e5, e1]; exact h6⟩ (by omega)
  clear h hl h6 w1 e5 e1 A
  rintro n K ⟨h, h5⟩ ih
  have hl := rlen h.1
  show WN _ (bS_advance_8 575 (lS_advance_8 575 n) K)
  rw [bS_advance_8, r576 h.1, if_pos kd_576]
  refine W_ite (fun hlt => W_bdP (tI_at h.1) (fun _ _ => W_bdP tS_isBlank (fun _ _ => W_ite (fun _ => lx_52 h h5) (fun _ => ?_)))) (fun _ => lx_52 h h5)
  rw [bnd_s, w32_r (by omega)]
  have f5 : pU K 575 5 (K 575 5 + 1) 575 5 = K 575 5 + 1 := by rw [pU_s, u1_s]
  have f1 : pU K 575 5 (K 575 5 + 1) 576 1 = K 576 1 := by rw [pU_n (by omega)]
  exact ih _ ⟨St_w h (by omega), by rw [f5, f1]; omega⟩ (by rw [f5, f1]; omega)
end CLS14
/-! ===== the class's reader: statements, loadTree (own work) ===== -/
section CLS15
variable {g g' G H K : gH} {T S i j k a b c v w d o p q r s m x y z l : Int}
theorem tS_takeNumber (h : RJ g G H) : WN (fun _ K => RJ g G K) (fS_takeNumber H 575 a b) := by
  rw [fS_takeNumber]
  refine W_bdN (tS_advance h) (fun _ A hA => ?_)
  have l34 : WN (fun _ K => RJ g G K) (jS_takeNumber_34 A 575) := by
    rw [jS_takeNumber_34]
    exact W_bdN (tS_fail hA) (fun _ B hB => W_ite (fun _ => WN_i hB) (fun _ => WN_i hB))
  exact W_ite (fun _ => W_ite (fun _ => l34) (fun _ => W_ite (fun _ => l34) (fun _ => WN_i hA))) (fun _ => W_bdN (tS_fail hA) (fun _ B hB => WN_i hB))
theorem tS_takeSemicolon (h : RI g H) : WN (fun _ K => RI g K) (fS_takeSemicolon H 575) := by
  rw [fS_takeSemicolon]
  exact W_bdN (tS_advance (RI_J h)) (fun _ A hA => W_ite (fun _ => WN_i (RJ_I hA)) (fun _ => W_bdN (tS_fail hA) (fun _ B hB => W_ite (fun _ => WN_i (RJ_I hB)) (fun _ => WN_i (RJ_I hB)))))
theorem tS_failI (h : RI g H) : WN (fun _ K => RI g K) (fS_fail H 575 v) := WN_m (tS_fail (RI_J h)) (fun _ _ hk => RJ_I hk)
theorem kd578 (h : CR g H) : kd (H 575 1) = 5 := by rw [r578 h]; exact kdT T578
theorem tS_takeNamed (h : RJ g G H) : WN (fun y K => RJ g G K ∧ (y = -1 ∨ Pn K 578 y)) (fS_takeNamed H 575 a) := by
  rw [fS_takeNamed, if_pos (kd578 h.1.1)]
  refine W_bdN (tS_takeNumber h) (fun _ A hA => W_ite (fun _ => WN_i ⟨hA, Or.inl rfl⟩) (fun _ => W_g (kd578 hA.1.1) ?_))
  rw [r578 hA.1.1]
  exact W_bdP (tT_at (CR_T hA.1.1 T578) T578) (fun y hy => WN_i ⟨hA, hy⟩)
theorem RI_IT (h : RI g G) (hi : IT 578 G H) : RI g H := by
  have e5 := hi.2 575 (by omega)
  have e6 := hi.2 576 (by omega)
  exact ⟨CR_IT h.1 T578 hi, by rw [e5, e6]; exact h.2⟩
theorem RI_w (h : RI g G) (hab : a = 578 + 3 ∨ a = 578 + 4 ∨ (a = 578 ∧ (b = 4 ∨ 5 < b)) ∨ (578 < a ∧ a < 578 + 44 ∧ ¬ a = 578 + 2 ∧ ¬ b = 0 ∧ ¬ b = 2 ∧ ¬ b = 1 ∧ ¬ b = 9)) : RI g (pU G a b v) := RI_IT h (IT_w (IT_r (CR_T h.1 T578)) hab)
theorem RI_5 (h : RI g G) (hb : 2 ≤ b ∧ ¬ b = 6) : RI g (pU G 575 b v) := RJ_I (RJ_w (RI_J h) hb)
theorem Pn_x (h1 : RJ g G H) (hp : Pn G 578 c) : Pn H 578 c := by
  obtain ⟨i, hi, e⟩ := hp
  exact ⟨i, by rw [h1.1.2 578 (by omega)]; exact hi, e⟩
theorem IT_e4 (h : TI G T) (e : ∀ x, ¬ x = T + 4 → H x = G x) : IT T G H := by
  refine ⟨TI_eq h (fun k _ _ => by rw [e T (by omega)]) (by rw [e T (by omega)]) (e _ (by omega)) (fun i i0 i1 => ?_) (fun i i0 i1 => ?_), fun x hx => e x (by omega)⟩
  · have := pc_b (T := T) ⟨i0, i1⟩
    rw [e _ (by omega)]; exact ⟨rfl, rfl⟩
  · have := pc_b (T := T) ⟨i0, i1⟩
    rw [e _ (by omega)]; exact h.2.2.2.2.2.2 i i0 i1
theorem tT_hasRule (h : TI G T) (hT : isT T) : WP (fun _ => True) (fT_hasRule G T v) := by
  have hf := fu_ge
  rw [fT_hasRule, TS_3 h.1, if_pos (kdT4 hT), szT4 hT]
  refine W_loop (W := WP (fun _ => True)) (fun n (i : Int) => lT_hasRule_11 G v (T + 4) 5 n i) (fun i => (5 - i).toNat) (fun i => 0 ≤ i ∧ i ≤ 5) ?_ fu 0 (by omega) (by omega)
  intro n i hI ih
  show WP _ (bT_hasRule_11 G v (T + 4) 5 (lT_hasRule_11 G v (T + 4) 5 n) i)
  rw [bT_hasRule_11]
  refine W_ite (fun hi => ?_) (fun _ => WP_i trivial)
  rw [if_pos ⟨kdT4 hT, hI.1, by rw [szT4 hT]; exact hi⟩, w32_r (by omega)]
  exact W_ite (fun _ => WP_i trivial) (fun _ => ih (i + 1) (by omega) (by omega))
theorem lx_119 (h : RI g G) : WN (fun _ K => RI g K) (jS_takeOrder_119 G 575 v) := by
  rw [jS_takeOrder_119, if_pos kd_575]
  exact W_bdN (tS_failI h) (fun _ B hB => W_ite (fun _ => WN_i hB) (fun _ => WN_i hB))
theorem lx_97 (h : RI g G) : WN (fun _ K => RI g K) (jS_takeOrder_97 G 575) := by
  rw [jS_takeOrder_97]
  exact W_ite (fun _ => WN_i h) (fun _ => W_bdP (tS_ruleOfWord h.1) (fun _ _ => W_ite (fun _ => lx_119 h) (fun _ => lx_119 h)))
theorem tS_takeOrder (h : RI g G) : WN (fun _ K => RI g K) (fS_takeOrder G 575) := by
  have hf := fu_ge
  rw [fS_takeOrder]
  refine W_ite (fun _ => ?_) (fun _ => W_bdN (tS_failI h) (fun _ B hB => WN_i hB))
  rw [bnd_s]
  have hA := RI_5 (b := 8) (v := 1) h (by omega)
  generalize pU G 575 8 1 = A at *
  rw [if_pos (kd578 hA.1), r578 hA.1]
  refine W_bdN (tT_clearRules (CR_T hA.1 T578).1 T578) (fun _ B hB => ?_)
  have hB := RI_IT hA (IT_e4 (CR_T hA.1 T578) hB)
  refine W_bdN (tS_advance (RI_J hB)) (fun _ C hC => ?_)
  have hC := RJ_I hC
  refine W_loop (W := WN (fun _ K => RI g K)) (fun n (a : Int × gH) => lS_takeOrder_31 575 n a.1 a.2) (fun a => (5 - a.1).toNat) (fun a => (0 ≤ a.1 ∧ a.1 ≤ 5) ∧ RI g a.2) ?_ fu (0, C) ⟨by dsimp only; omega, hC⟩ (by dsimp only; omega)
  clear h
  rintro n ⟨i, K⟩ hI ih
  have i0 : 0 ≤ i := hI.1.1
  have h : RI g K := hI.2
  show WN _ (bS_takeOrder_31 575 (lS_takeOrder_31 575 n) i K)
  rw [bS_takeOrder_31]
  refine W_ite (fun hi => W_ite (fun _ => W_bdP (tS_ruleOfWord h.1) (fun u _ => W_ite (fun _ => W_bdN (tS_failI h) (fun _ B hB => WN_i hB)) (fun _ => W_g (kd578 h.1) ?_))) (fun _ => lx_97 h)) (fun _ => lx_97 h)
  have ht := CR_T h.1 T578
  rw [r578 h.1]
  refine W_bdP (tT_hasRule ht T578) (fun _ _ => W_ite (fun _ => ?_) (fun _ => W_bdN (tS_failI h) (fun _ B hB => WN_i hB)))
  rw [TS_3 ht.1, if_pos ⟨kdT4 T578, i0, by rw [szT4 T578]; exact hi⟩, bnd_s]
  refine W_bdN (tS_advance (RI_J (RI_w h (by omega)))) (fun _ B hB => ?_)
  rw [w32_r (by omega)]
  exact ih (i + 1, B) ⟨by dsimp only; omega, RJ_I hB⟩ (by dsimp only; omega)
theorem tS_takeDeep (h : RI g G) : WN (fun _ K => RI g K) (fS_takeDeep G 575) := by
  rw [fS_takeDeep]
  refine W_ite (fun _ => ?_) (fun _ => W_bdN (tS_failI h) (fun _ B hB => WN_i hB))
  rw [bnd_s]
  refine W_bdN (tS_takeNumber (RI_J (RI_5 h (by omega)))) (fun _ B hB => ?_)
  have hB := RJ_I hB
  refine W_ite (fun _ => WN_i hB) (fun _ => W_g (kd578 hB.1) ?_)
  rw [bnd_s, r578 hB.1]
  exact W_bdN (tS_takeSemicolon (RI_w hB (by omega))) (fun _ C hC => WN_i hC)
theorem root578 (h : RI g G) : Pa 578 (G 578 0) := by
  have ht := CR_T h.1 T578
  rw [TS_0 ht.1]
  exact Pn_a ht (Pn_0 ht)
theorem tS_takeRoot (h : RI g G) : WN (fun _ K => RI g K) (fS_takeRoot G 575) := by
  rw [fS_takeRoot]
  refine W_ite (fun _ => ?_) (fun _ => W_bdN (tS_failI h) (fun _ B hB => WN_i hB))
  rw [bnd_s]
  refine W_bdN (tS_takeNumber (RI_J (RI_5 h (by omega)))) (fun _ B hB => ?_)
  have hB := RJ_I hB
  have rB := root578 hB
  have bB := Pa_b rB
  refine W_ite (fun _ => WN_i hB) (fun _ => W_g (kd578 hB.1) ?_)
  rw [r578 hB.1, if_pos (Pa_kd T578 rB), bnd_s]
  refine W_bdN (tS_takeNumber (RI_J (RI_w hB (by omega)))) (fun _ C hC => ?_)
  have hC := RJ_I hC
  have rC := root578 hC
  have bC := Pa_b rC
  refine W_ite (fun _ => WN_i hC) (fun _ => W_g (kd578 hC.1) ?_)
  rw [r578 hC.1, if_pos (Pa_kd T578 rC), bnd_s]
  exact W_bdN (tS_takeSemicolon (RI_w hC (by omega))) (fun _ D hD => WN_i hD)
/-- a process named, or none -/
theorem nm_ (h : y = -1 ∨ Pn K 578 y) (hn : ¬ y < 0) : Pn K 578 y := by
  rcases h with e | e
  · exact absurd (by omega) hn
  · exact e
theorem tS_takeProcess (h : RI g G) : WN (fun _ K => RI g K) (fS_takeProcess G 575) := by
  rw [fS_takeProcess, if_pos (kd578 h.1)]
  refine W_ite (fun _ => W_bdN (tS_failI h) (fun _ B hB => WN_i hB)) (fun _ => ?_)
  refine W_bdN (tS_takeNamed (RI_J h)) (fun c A hA => ?_)
  have hAI := RJ_I hA.1
  refine W_ite (fun _ => WN_i hAI) (fun hn => ?_)
  have pc_ := nm_ hA.2 hn
  rw [if_pos (Pa_kd T578 (Pn_a (CR_T hAI.1 T578) pc_))]
  refine W_bdP tP_room (fun _ _ => W_ite (fun _ => W_bdN (tS_failI hAI) (fun _ B hB => WN_i hB)) (fun _ => ?_))
  refine W_bdN (tS_takeNumber (RI_J hAI)) (fun _ B hB => W_ite (fun _ => WN_i (RJ_I hB)) (fun _ => ?_))
  refine W_bdN (tS_takeNumber hB) (fun _ C hC => W_ite (fun _ => WN_i (RJ_I hC)) (fun _ => ?_))
  refine W_bdN (tS_takeNumber hC) (fun _ D hD => W_ite (fun _ => WN_i (RJ_I hD)) (fun _ => ?_))
  rw [if_pos (kd578 hD.1.1), r578 hD.1.1]
  obtain ⟨j, hj, rfl⟩ := Pn_x hD pc_
  exact W_bdN (tT_arrive (CR_T hD.1.1 T578) T578 hj) (fun _ E hE => W_bdN (tS_takeSemicolon (RI_IT (RJ_I hD) hE.1)) (fun _ F hF => WN_i hF))
theorem tS_takeHeir (h : RI g G) : WN (fun _ K => RI g K) (fS_takeHeir G 575) := by
  rw [fS_takeHeir]
  refine W_bdN (tS_takeNamed (RI_J h)) (fun c A hA => ?_)
  have hAI := RJ_I hA.1
  refine W_ite (fun _ => WN_i hAI) (fun hn => ?_)
  have pa := Pn_a (CR_T hAI.1 T578) (nm_ hA.2 hn)
  have ba := Pa_b pa
  rw [if_pos (Pa_kd T578 pa)]
  refine W_ite (fun _ => ?_) (fun _ => W_bdN (tS_failI hAI) (fun _ B hB => WN_i hB))
  refine W_bdN (tS_takeNamed (RI_J hAI)) (fun d B hB => ?_)
  have hBI := RJ_I hB.1
  refine W_ite (fun _ => WN_i hBI) (fun hn2 => W_ite (fun _ => W_bdN (tS_failI hBI) (fun _ C hC => WN_i hC)) (fun _ => ?_))
  have pd := Pn_a (CR_T hBI.1 T578) (nm_ hB.2 hn2)
  rw [if_pos (Pa_kd T578 pd), bnd_s]
  exact W_bdN (tS_takeSemicolon (RI_w hBI (by omega))) (fun _ C hC => WN_i hC)
theorem tS_takeDuty (h : RI g G) : WN (fun _ K => RI g K) (fS_takeDuty G 575) := by
  rw [fS_takeDuty]
  refine W_bdN (tS_takeNumber (RI_J h)) (fun _ A hA => W_ite (fun _ => WN_i (RJ_I hA)) (fun _ => ?_))
  refine W_bdN (tS_takeNamed (RI_J (RJ_I hA))) (fun c B hB => ?_)
  have hBI := RJ_I hB.1
  refine W_ite (fun _ => WN_i hBI) (fun hn => W_g (kd578 hBI.1) ?_)
  have ht := CR_T hBI.1 T578
  rw [r578 hBI.1]
  exact W_bdN (tT_giveDuty ht T578 (Pn_a ht (nm_ hB.2 hn))) (fun _ C hC => W_bdN (tS_takeSemicolon (RI_IT hBI hC.1)) (fun _ D hD => WN_i hD))
theorem tS_takeRefusal (h : RI g G) : WN (fun _ K => RI g K) (fS_takeRefusal G 575) := by
  rw [fS_takeRefusal]
  refine W_bdN (tS_takeNamed (RI_J h)) (fun c A hA => ?_)
  have hAI := RJ_I hA.1
  refine W_ite (fun _ => WN_i hAI) (fun hn => ?_)
  have pa := Pn_a (CR_T hAI.1 T578) (nm_ hA.2 hn)
  have ba := Pa_b pa
  refine W_bdN (tS_takeNumber (RI_J hAI)) (fun _ B hB => W_ite (fun _ => WN_i (RJ_I hB)) (fun _ => ?_))
  have hBI := RJ_I hB
  rw [if_pos (Pa_kd T578 pa)]
  refine W_bdP tP_refuses (fun _ _ => W_ite (fun _ => ?_) (fun _ => W_bdN (tS_failI hBI) (fun _ C hC => WN_i hC)))
  rw [bnd_s]
  exact W_bdN (tS_takeSemicolon (RI_w hBI (by omega))) (fun _ C hC => WN_i hC)
theorem tS_takeWill (h : RI g G) : WN (fun _ K => RI g K) (fS_takeWill G 575) := by
  rw [fS_takeWill]
  refine W_bdN (tS_takeNamed (RI_J h)) (fun c A hA => ?_)
  have hAI := RJ_I hA.1
  refine W_ite (fun _ => WN_i hAI) (fun hn => ?_)
  have pa := Pn_a (CR_T hAI.1 T578) (nm_ hA.2 hn)
  have ba := Pa_b pa
  refine W_bdN (tS_takeNumber (RI_J hAI)) (fun _ B hB => W_ite (fun _ => WN_i (RJ_I hB)) (fun _ => ?_))
  have hBI := RJ_I hB
  rw [if_pos (Pa_kd T578 pa)]
  refine W_bdP tP_willFor (fun _ _ => W_ite (fun _ => ?_) (fun _ => W_bdN (tS_failI hBI) (fun _ C hC => WN_i hC)))
  refine W_bdN (tS_takeNamed (RI_J hBI)) (fun d C hC => ?_)
  have hCI := RJ_I hC.1
  refine W_ite (fun _ => WN_i hCI) (fun hn2 => W_ite (fun _ => W_bdN (tS_failI hCI) (fun _ D hD => WN_i hD)) (fun _ => ?_))
  have pd := Pn_a (CR_T hCI.1 T578) (nm_ hC.2 hn2)
  rw [if_pos (Pa_kd T578 pd), fP_addWill, bnd_s, bdN_s]
  exact W_bdN (tS_takeSemicolon (RI_w hCI (by omega))) (fun _ D hD => WN_i hD)
theorem tS_takeStatement (h : RI g G) : WN (fun _ K => RI g K) (fS_takeStatement G 575) := by
  rw [fS_takeStatement]
  refine W_bdN (tS_advance (RI_J h)) (fun _ A hA => ?_)
  have hI := RJ_I hA
  have fin : ∀ {X : Option (Int × gH)}, WN (fun _ K => RI g K) X → WN (fun _ K => RI g K) (bdN X (fun y G => some (y, G))) := fun hX => W_bdN hX (fun _ B hB => WN_i hB)
  exact W_ite (fun _ => WN_i hI) (fun _ => W_bdP (tS_isWord hI.1 (by omega)) (fun _ _ => W_ite (fun _ => W_bdP (tS_isWord hI.1 (by omega)) (fun _ _ => W_ite (fun _ => W_bdP (tS_isWord hI.1 (by omega)) (fun _ _ => W_ite (fun _ => W_bdP (tS_isWord hI.1 (by omega)) (fun _ _ => W_ite (fun _ => W_bdP (tS_isWord hI.1 (by omega)) (fun _ _ => W_ite (fun _ => W_bdP (tS_isWord hI.1 (by omega)) (fun _ _ => W_ite (fun _ => W_bdP (tS_isWord hI.1 (by omega)) (fun _ _ => W_ite (fun _ => W_bdP (tS_isWord hI.1 (by omega)) (fun _ _ => W_ite (fun _ => fin (tS_failI hI)) (fun _ => fin (tS_takeWill hI)))) (fun _ => fin (tS_takeRefusal hI)))) (fun _ => fin (tS_takeDuty hI)))) (fun _ => fin (tS_takeHeir hI)))) (fun _ => fin (tS_takeProcess hI)))) (fun _ => fin (tS_takeRoot hI)))) (fun _ => fin (tS_takeDeep hI)))) (fun _ => fin (tS_takeOrder hI))))
theorem cr4 (h : CR g G) : G 0 4 = 575 := h.1.1.1.2.2.2.2.1
theorem lx_36 (h : CR g G) : WN (fun _ K => CL g K 0) (jC_loadTree_36 G 0) := by
  rw [jC_loadTree_36, cr4 h, if_pos kd_575, r576 h, if_pos kd_576, bnd_s]
  have c1 := CI_len h.1 (l := 0) (by omega)
  have hx : ∀ x, 624 ≤ x → pU G 576 1 0 x = g x := fun x x0 => by rw [pU_n (by omega)]; exact h.2.1 x x0
  have e0 : pU G 576 1 0 576 1 = 0 := by rw [pU_s, u1_s]
  generalize pU G 576 1 0 = A at *
  have w1 := CR_r c1
  have fin : ∀ B, CR A B → CL g B 0 := fun B hB => ⟨hB.1, fun x x0 => (hB.2.1 x x0).trans (hx x x0), hB.2.2.trans e0⟩
  rw [cr4 w1, if_pos kd_575]
  refine W_ite (fun _ => W_g (kdr1 w1) ?_) (fun _ => WN_i (fin A w1))
  rw [cr0 w1, r578 w1]
  refine W_bdN (tT_take (CR_T w1 T1).1 T1 T578 (CR_T w1 T578) (by omega)) (fun _ B hB => ?_)
  have w2 := CR_IT w1 T1 hB
  rw [cr3 w2, if_pos kd_133, bnd_s, bnd_s]
  have w3 := CR_w (a := 0) (b := 6) (v := 0) (CR_w (a := 133) (b := 1) (v := 0) w2 (by omega)) (by omega)
  generalize pU (pU B 133 1 0) 0 6 0 = C at *
  rw [cr5 w3, if_pos kd_622, bnd_s]
  have w4 := CR_w (a := 622) (b := 1) (v := 0) w3 (by omega)
  exact W_g (kdr1 w4) (WN_i (fin _ w4))
theorem tC_loadTree (h : CInv g) : WN (fun _ K => CL g K 0) (fC_loadTree g 0) := by
  have hf := fu_ge
  have h0 := CR_r h
  rw [fC_loadTree, cr4 h0, if_pos kd_575, fS_begin, if_pos (kd578 h0), r578 h0]
  have hres := tT_reset (CR_T h0 T578).1 T578
  obtain ⟨y, A, eA, hA⟩ := hres
  rw [eA, bdN_s]
  simp only [bnd_s, bdN_s]
  have w := CR_IT h0 T578 hA
  have hI : RI g (pU (pU (pU (pU (pU (pU A 575 2 0) 575 3 (-1)) 575 8 0) 575 9 0) 575 10 0) 575 6 0) := by
    refine ⟨CR_w (CR_w (CR_w (CR_w (CR_w (CR_w w (by omega)) (by omega)) (by omega)) (by omega)) (by omega)) (by omega), ?_⟩
    have := rlen w
    rw [pU_s, u1_s]
    simp (disch := omega) only [pU_n]
    omega
  generalize pU (pU (pU (pU (pU (pU A 575 2 0) 575 3 (-1)) 575 8 0) 575 9 0) 575 10 0) 575 6 0 = B at *
  refine W_loop (W := WN (fun _ K => CL g K 0)) (fun n (a : Int × Int × gH) => lC_loadTree_11 0 n a.1 a.2.1 a.2.2) (fun a => (500 - a.2.1).toNat) (fun a => (0 ≤ a.2.1 ∧ a.2.1 ≤ 500) ∧ RI g a.2.2) ?_ fu (1, 0, B) ⟨by dsimp only; omega, hI⟩ (by dsimp only; omega)
  clear hI
  rintro n ⟨x, i, K⟩ hJ ih
  have i0 : 0 ≤ i := hJ.1.1
  have h : RI g K := hJ.2
  show WN _ (bC_loadTree_11 0 (lC_loadTree_11 0 n) x i K)
  rw [bC_loadTree_11]
  refine W_ite (fun hi => W_ite (fun _ => lx_36 h.1) (fun _ => ?_)) (fun _ => lx_36 h.1)
  rw [cr4 h.1, if_pos kd_575]
  refine W_bdN (tS_takeStatement h) (fun y C hC => ?_)
  rw [w32_r (by omega)]
  exact ih (y, i + 1, C) ⟨by dsimp only; omega, hC⟩ (by dsimp only; omega)
end CLS15
/-! ===== tokens, as both readers see them (own work) ===== -/
section PAR1
variable {g g' G H K : gH} {B F : Int → Int} {a b c d e i j k l m n p q s t u v w x y z : Int}
def isBl (c : Int) : Prop := c = 32 ∨ c = 10
/-- the kind of the token that a byte begins -/
def kO (c : Int) : Int := if 97 ≤ c ∧ c ≤ 122 then 1 else if 48 ≤ c ∧ c ≤ 57 then 2 else if c = 59 then 3 else 4
theorem kO_d : (kO c = 1 ∧ 97 ≤ c ∧ c ≤ 122) ∨ (kO c = 2 ∧ 48 ≤ c ∧ c ≤ 57) ∨ (kO c = 3 ∧ c = 59) ∨ (kO c = 4 ∧ ¬ (97 ≤ c ∧ c ≤ 122) ∧ ¬ (48 ≤ c ∧ c ≤ 57) ∧ ¬ c = 59) := by
  unfold kO
  by_cases h1 : 97 ≤ c ∧ c ≤ 122
  · rw [if_pos h1]; exact Or.inl ⟨rfl, h1⟩
  · rw [if_neg h1]
    by_cases h2 : 48 ≤ c ∧ c ≤ 57
    · rw [if_pos h2]; exact Or.inr (Or.inl ⟨rfl, h2⟩)
    · rw [if_neg h2]
      by_cases h3 : c = 59
      · rw [if_pos h3]; exact Or.inr (Or.inr (Or.inl ⟨rfl, h3⟩))
      · rw [if_neg h3]; exact Or.inr (Or.inr (Or.inr ⟨rfl, h1, h2, h3⟩))
theorem kO_1 : kO c = 1 ↔ (97 ≤ c ∧ c ≤ 122) := by
  have := kO_d (c := c)
  constructor <;> intro z <;> omega
theorem kO_2 : kO c = 2 ↔ (48 ≤ c ∧ c ≤ 57) := by
  have := kO_d (c := c)
  constructor <;> intro z <;> omega
theorem kO_b : 1 ≤ kO c ∧ kO c ≤ 4 := by
  have := kO_d (c := c)
  omega
/-- a run of bytes from s to t, as far as it goes -/
def IsR (F : Int → Int) (P : Int → Prop) (n s t : Int) : Prop := (s ≤ t ∧ t ≤ n) ∧ (∀ k, s ≤ k → k < t → P (F k)) ∧ (t < n → ¬ P (F t))
theorem IsR_u {P : Int → Prop} (h : IsR F P n s t) (h' : IsR F P n s u) : t = u := by
  have b1 := h.1
  have b2 := h'.1
  by_cases z : t < u
  · exact absurd (h'.2.1 t b1.1 z) (h.2.2 (by omega))
  · by_cases z2 : u < t
    · exact absurd (h.2.1 u b2.1 z2) (h'.2.2 (by omega))
    · omega
/-- the token at s: its kind k, its end t -/
def IsT (F : Int → Int) (n s k t : Int) : Prop := (n ≤ s ∧ k = 0 ∧ t = s) ∨ (s < n ∧ k = kO (F s) ∧ (((k = 1 ∨ k = 2) ∧ IsR F (fun c => kO c = k) n s t) ∨ (2 < k ∧ t = s + 1)))
theorem IsT_u (h : IsT F n s k t) (h' : IsT F n s p q) : k = p ∧ t = q := by
  rcases h with ⟨a1, a2, a3⟩ | ⟨a1, a2, a3⟩
  · rcases h' with ⟨b1, b2, b3⟩ | ⟨b1, b2, b3⟩
    · exact ⟨by omega, by omega⟩
    · exact absurd b1 (by omega)
  · rcases h' with ⟨b1, b2, b3⟩ | ⟨b1, b2, b3⟩
    · exact absurd b1 (by omega)
    · have e : p = k := by rw [a2, b2]
      subst e
      refine ⟨rfl, ?_⟩
      rcases a3 with ⟨c1, c2⟩ | ⟨c1, c2⟩
      · rcases b3 with ⟨d1, d2⟩ | ⟨d1, d2⟩
        · exact IsR_u c2 d2
        · omega
      · rcases b3 with ⟨d1, d2⟩ | ⟨d1, d2⟩
        · omega
        · omega
/-- the number of at most two digits from s to t -/
def numV (F : Int → Int) (s t : Int) : Int := if t = s + 1 then F s - 48 else 10 * (F s - 48) + (F (s + 1) - 48)
/-- the class's bytes against the reference's -/
def BR (B F : Int → Int) (n : Int) : Prop := ∀ k, 0 ≤ k → k < n → (0 ≤ F k ∧ F k ≤ 255) ∧ B k = if F k < 128 then F k else F k - 256
theorem BR_k (h : BR B F n) (h0 : 0 ≤ k) (h1 : k < n) : kO (B k) = kO (F k) ∧ (isBl (B k) ↔ isBl (F k)) ∧ ((B k < 0 ∧ 127 < F k) ∨ (B k = F k ∧ F k < 128)) := by
  obtain ⟨h2, h3⟩ := h k h0 h1
  by_cases c : F k < 128
  · rw [if_pos c] at h3
    rw [h3]
    exact ⟨rfl, Iff.rfl, Or.inr ⟨rfl, c⟩⟩
  · rw [if_neg c] at h3
    have d1 := kO_d (c := B k)
    have d2 := kO_d (c := F k)
    refine ⟨by omega, ?_, Or.inl ⟨by omega, by omega⟩⟩
    unfold isBl
    constructor <;> intro z <;> omega
theorem IsR_BF {P : Int → Prop} (hP : ∀ k, 0 ≤ k → k < n → (P (B k) ↔ P (F k))) (h0 : 0 ≤ s) (h : IsR B P n s t) : IsR F P n s t := by
  have b := h.1
  exact ⟨b, fun k k0 k1 => (hP k (by omega) (by omega)).mp (h.2.1 k k0 k1), fun z y => h.2.2 z ((hP t (by omega) z).mpr y)⟩
theorem IsT_BF (hb : BR B F n) (h0 : 0 ≤ s) (h : IsT B n s k t) : IsT F n s k t := by
  rcases h with h | ⟨a1, a2, a3⟩
  · exact Or.inl h
  · refine Or.inr ⟨a1, a2.trans (BR_k hb h0 a1).1, ?_⟩
    rcases a3 with ⟨c1, c2⟩ | c
    · exact Or.inl ⟨c1, IsR_BF (fun j j0 j1 => by rw [(BR_k hb j0 j1).1]) h0 c2⟩
    · exact Or.inr c
theorem IsS_BF (hb : BR B F n) (h0 : 0 ≤ s) (h : IsR B isBl n s t) : IsR F isBl n s t := IsR_BF (fun j j0 j1 => (BR_k hb j0 j1).2.1) h0 h
/-- a number is the same of both -/
theorem numV_BF (hb : BR B F n) (h0 : 0 ≤ s) (h : IsT B n s 2 t) (ht : t - s ≤ 2) : numV B s t = numV F s t ∧ (0 ≤ numV F s t ∧ numV F s t ≤ 99) := by
  rcases h with ⟨-, h, -⟩ | ⟨a1, a2, a3⟩
  · omega
  · rcases a3 with ⟨-, r⟩ | ⟨c, -⟩
    · have r1 := r.1
      have k1 := BR_k hb h0 a1
      have d1 := kO_d (c := B s)
      unfold numV
      by_cases e : t = s + 1
      · rw [if_pos e, if_pos e]
        omega
      · rw [if_neg e, if_neg e]
        have hne : s < t := by
          by_cases z : s < t
          · exact z
          · have : t = s := by omega
            subst this
            exact absurd a2.symm (r.2.2 a1)
        have f1 := r.2.1 (s + 1) (by omega) (by omega)
        have k2 := BR_k hb (k := s + 1) (by omega) (by omega)
        have d2 := kO_d (c := B (s + 1))
        omega
    · omega
/-! the class's reader -/
theorem aS_kindOf : fS_kindOf G c = some (kO c) := by
  have l28 : jS_kindOf_28 G c = some (if c = 59 then 3 else 4) := by
    rw [jS_kindOf_28]
    by_cases h : c = 59
    · rw [if_pos h, if_pos h]
    · rw [if_neg h, if_neg h]
  have l14 : jS_kindOf_14 G c = some (if 48 ≤ c ∧ c ≤ 57 then 2 else if c = 59 then 3 else 4) := by
    rw [jS_kindOf_14, l28]
    by_cases h1 : c < 48
    · rw [if_pos h1, if_neg (show ¬ (48 ≤ c ∧ c ≤ 57) by omega)]
    · rw [if_neg h1]
      by_cases h2 : 57 < c
      · rw [if_pos h2, if_neg (show ¬ (48 ≤ c ∧ c ≤ 57) by omega)]
      · rw [if_neg h2, if_pos (show 48 ≤ c ∧ c ≤ 57 by omega)]
  unfold kO
  rw [fS_kindOf, l14]
  by_cases h1 : c < 97
  · rw [if_pos h1, if_neg (show ¬ (97 ≤ c ∧ c ≤ 122) by omega)]
  · rw [if_neg h1]
    by_cases h2 : 122 < c
    · rw [if_pos h2, if_neg (show ¬ (97 ≤ c ∧ c ≤ 122) by omega)]
    · rw [if_neg h2, if_pos (show 97 ≤ c ∧ c ≤ 122 by omega)]
theorem aS_isBlank : fS_isBlank G c = some (if c = 32 ∨ c = 10 then 1 else 0) := by
  rw [fS_isBlank]
  by_cases h1 : c = 32
  · rw [if_pos h1, if_pos (Or.inl h1)]
  · rw [if_neg h1]
    by_cases h2 : c = 10
    · rw [if_pos h2, if_pos (Or.inr h2)]
    · rw [if_neg h2, if_neg (show ¬ (c = 32 ∨ c = 10) by omega)]
theorem aI_at (h : CR g G) (h0 : 0 ≤ v) (h1 : v < G 576 1) : fI_at G 576 v = some (G 577 v) := by
  have hl := rlen h
  rw [fI_at, h.1.1.2.2.2.2.2.1, if_neg (show ¬ v < 0 by omega), if_pos h1, if_pos (show v < 500 by omega), if_pos ⟨kd_577, h0, by rw [sz_577]; omega⟩]
theorem aI_at0 (h0 : G 576 1 ≤ v) : fI_at G 576 v = some 0 := by
  rw [fI_at]
  by_cases z : v < 0
  · rw [if_pos z]
  · rw [if_neg z, if_neg (show ¬ v < G 576 1 by omega)]
/-- what the reader's cell holds besides the token stays -/
def FBt (H K : gH) : Prop := ∀ b, ¬ (4 ≤ b ∧ b ≤ 7) → K 575 b = H 575 b
theorem FBt_w (h : FBt H K) (hb : 4 ≤ b ∧ b ≤ 7) : FBt H (pU K 575 b v) := fun x hx => (pU_y (by omega)).trans (h x hx)
/-- the class's token: e is where it was looked for -/
def TJ (e : Int) (H K : gH) : Prop := ∃ k, IsR (K 577) isBl (K 576 1) e (K 575 5) ∧ IsT (K 577) (K 576 1) (K 575 5) k (K 575 6) ∧ K 575 4 = (if k = 2 ∧ 2 < K 575 6 - K 575 5 then 4 else k) ∧ (k = 2 → K 575 6 - K 575 5 ≤ 2 → K 575 7 = numV (K 577) (K 575 5) (K 575 6)) ∧ FBt H K
/-- while the class reads a token of kind k that begins at s -/
def TL (H K : gH) (k s : Int) : Prop := K 575 5 = s ∧ K 575 4 = k ∧ FBt H K ∧ ((K 576 1 ≤ s ∧ k = 0 ∧ K 575 6 = s) ∨ (s < K 576 1 ∧ k = kO (K 577 s) ∧ (s < K 575 6 ∧ K 575 6 ≤ K 576 1) ∧ ((k = 1 ∨ k = 2) → ∀ j, s ≤ j → j < K 575 6 → kO (K 577 j) = k) ∧ (2 < k → K 575 6 = s + 1) ∧ ((k = 1 ∨ k = 2) → K 575 6 ≤ s + 2 → K 575 7 = numV (K 577) s (K 575 6))))
theorem ax_215 (h : RJ g G K) (h0 : 0 ≤ s) (hs : IsR (K 577) isBl (K 576 1) e s) (I : TL H K k s) (hx : (k = 1 ∨ k = 2) → K 575 6 < K 576 1 → ¬ kO (K 577 (K 575 6)) = k) : WN (fun _ K => RJ g G K ∧ TJ e H K) (jS_advance_215 K 575) := by
  obtain ⟨i1, i2, i3, i4⟩ := I
  have hl := rlen h.1.1
  have h6 := h.2
  have T0 : IsT (K 577) (K 576 1) (K 575 5) k (K 575 6) ∧ (k = 2 → K 575 6 - K 575 5 ≤ 2 → K 575 7 = numV (K 577) (K 575 5) (K 575 6)) := by
    rw [i1]
    rcases i4 with ⟨j1, j2, j3⟩ | ⟨j1, j2, j3, j4, j5, j6⟩
    · exact ⟨Or.inl ⟨j1, j2, j3⟩, fun z => absurd z (by omega)⟩
    · refine ⟨Or.inr ⟨j1, j2, ?_⟩, fun z1 z => j6 (Or.inr z1) (by omega)⟩
      have kb := kO_b (c := K 577 s)
      by_cases c : k = 1 ∨ k = 2
      · exact Or.inl ⟨c, ⟨by omega, by omega⟩, j4 c, hx c⟩
      · exact Or.inr ⟨by omega, j5 (by omega)⟩
  have ss : 0 ≤ K 575 5 ∧ K 575 5 ≤ K 575 6 := by
    rw [i1]
    rcases i4 with ⟨j1, j2, j3⟩ | ⟨j1, j2, j3, j4, j5, j6⟩
    · omega
    · exact ⟨by omega, by omega⟩
  rw [← i1] at hs
  rw [jS_advance_215, w32_r (by omega), i2]
  refine W_ite (fun c1 => W_ite (fun c2 => ?_) (fun c2 => ?_)) (fun c1 => ?_)
  · rw [bnd_s]
    refine WN_i ⟨RJ_w h (by omega), k, ?_⟩
    rw [pU_n (show ¬ (577 : Int) = 575 by omega), pU_n (show ¬ (576 : Int) = 575 by omega), pU_s, u1_n (show ¬ (5 : Int) = 4 by omega), u1_n (show ¬ (6 : Int) = 4 by omega), u1_n (show ¬ (7 : Int) = 4 by omega), u1_s]
    exact ⟨hs, T0.1, by rw [if_pos ⟨c1, c2⟩], T0.2, FBt_w i3 (by omega)⟩
  · exact WN_i ⟨h, k, hs, T0.1, by rw [if_neg (by omega)]; exact i2, T0.2, i3⟩
  · exact WN_i ⟨h, k, hs, T0.1, by rw [if_neg (by omega)]; exact i2, T0.2, i3⟩
theorem ax_125 (h : RJ g G K) (h0 : 0 ≤ s) (hs : IsR (K 577) isBl (K 576 1) e s) (I : TL H K k s) : WN (fun _ K => RJ g G K ∧ TJ e H K) (lS_advance_125 575 fu K) := by
  have hf := fu_ge
  have hl := rlen h.1.1
  have h6 := h.2
  refine W_loop (W := WN (fun _ K => RJ g G K ∧ TJ e H K)) (fun n (K : gH) => lS_advance_125 575 n K) (fun K => (K 576 1 - K 575 6).toNat) (fun K => RJ g G K ∧ IsR (K 577) isBl (K 576 1) e s ∧ TL H K k s) ?_ fu K ⟨h, hs, I⟩ (by omega)
  clear h hl h6 hs I
  rintro n K ⟨h, hs, I⟩ ih
  have hl := rlen h.1.1
  have h6 := h.2
  have I0 := I
  obtain ⟨i1, i2, i3, i4⟩ := I0
  have l141 : (k = 1 ∨ k = 2) → WN (fun _ K => RJ g G K ∧ TJ e H K) (jS_advance_141 (lS_advance_125 575 n) K 575) := by
    intro hk
    have i5 : s < K 576 1 ∧ k = kO (K 577 s) ∧ (s < K 575 6 ∧ K 575 6 ≤ K 576 1) ∧ ((k = 1 ∨ k = 2) → ∀ j, s ≤ j → j < K 575 6 → kO (K 577 j) = k) ∧ (2 < k → K 575 6 = s + 1) ∧ ((k = 1 ∨ k = 2) → K 575 6 ≤ s + 2 → K 575 7 = numV (K 577) s (K 575 6)) := by
      rcases i4 with ⟨j1, j2, j3⟩ | i4
      · exact absurd j2 (by omega)
      · exact i4
    obtain ⟨j1, j2, j3, j4, j5, j6⟩ := i5
    rw [jS_advance_141, r576 h.1.1, if_pos kd_576]
    refine W_ite (fun hlt => ?_) (fun hlt => ax_215 h h0 hs I (fun _ z => absurd z hlt))
    rw [aI_at h.1.1 h6.1 hlt, bdP_s, aS_kindOf, bdP_s, bdP_s, i2]
    refine W_ite (fun he => ?_) (fun he => ax_215 h h0 hs I (fun _ _ => he))
    rw [bnd_s, bnd_s, opI_mul]
    have w1 := RJ_w (b := 7) (v := w32 (w32 (w32 (10 * K 575 7) + K 577 (K 575 6)) - 48)) h (by omega)
    have e7 : K 575 6 + 1 ≤ s + 2 → w32 (w32 (w32 (10 * K 575 7) + K 577 (K 575 6)) - 48) = numV (K 577) s (K 575 6 + 1) := by
      intro z
      have es : K 575 6 = s + 1 := by omega
      have v1 := j6 hk (by omega)
      rw [es] at v1
      unfold numV at v1 ⊢
      rw [if_pos rfl] at v1
      rw [es] at he
      rw [es, v1, if_neg (show ¬ s + 1 + 1 = s + 1 by omega)]
      have d1 := kO_d (c := K 577 s)
      have d2 := kO_d (c := K 577 (s + 1))
      rw [w32_r (x := 10 * (K 577 s - 48)) (by omega), w32_r (x := 10 * (K 577 s - 48) + K 577 (s + 1)) (by omega), w32_r (by omega)]
      omega
    have e4 : pU K 575 7 (w32 (w32 (w32 (10 * K 575 7) + K 577 (K 575 6)) - 48)) 575 4 = k := by rw [pU_y (by omega)]; exact i2
    have e5 : pU K 575 7 (w32 (w32 (w32 (10 * K 575 7) + K 577 (K 575 6)) - 48)) 575 5 = s := by rw [pU_y (by omega)]; exact i1
    have e6 : pU K 575 7 (w32 (w32 (w32 (10 * K 575 7) + K 577 (K 575 6)) - 48)) 575 6 = K 575 6 := by rw [pU_y (by omega)]
    have e7' : pU K 575 7 (w32 (w32 (w32 (10 * K 575 7) + K 577 (K 575 6)) - 48)) 575 7 = w32 (w32 (w32 (10 * K 575 7) + K 577 (K 575 6)) - 48) := by rw [pU_s, u1_s]
    have e1 : pU K 575 7 (w32 (w32 (w32 (10 * K 575 7) + K 577 (K 575 6)) - 48)) 576 = K 576 := pU_n (by omega)
    have eB : pU K 575 7 (w32 (w32 (w32 (10 * K 575 7) + K 577 (K 575 6)) - 48)) 577 = K 577 := pU_n (by omega)
    have eF : FBt H (pU K 575 7 (w32 (w32 (w32 (10 * K 575 7) + K 577 (K 575 6)) - 48))) := FBt_w i3 (by omega)
    generalize pU K 575 7 (w32 (w32 (w32 (10 * K 575 7) + K 577 (K 575 6)) - 48)) = A at *
    rw [e6, w32_r (by omega)]
    have f4 : pU A 575 6 (K 575 6 + 1) 575 4 = k := by rw [pU_y (by omega)]; exact e4
    have f5 : pU A 575 6 (K 575 6 + 1) 575 5 = s := by rw [pU_y (by omega)]; exact e5
    have f6 : pU A 575 6 (K 575 6 + 1) 575 6 = K 575 6 + 1 := by rw [pU_s, u1_s]
    have f7 : pU A 575 6 (K 575 6 + 1) 575 7 = A 575 7 := by rw [pU_y (by omega)]
    have f1 : pU A 575 6 (K 575 6 + 1) 576 = K 576 := by rw [pU_n (by omega)]; exact e1
    have fB : pU A 575 6 (K 575 6 + 1) 577 = K 577 := by rw [pU_n (by omega)]; exact eB
    refine ih _ ⟨⟨St_w w1.1 (by omega), by rw [f6, f1]; omega⟩, by rw [fB, f1]; exact hs, f5, f4, FBt_w eF (by omega), Or.inr ?_⟩ (by rw [f6, f1]; omega)
    rw [f6, f1, fB, f7, e7']
    refine ⟨j1, j2, by omega, fun z j a1 a2 => ?_, fun z => absurd hk (by omega), fun _ => e7⟩
    by_cases ej : j = K 575 6
    · rw [ej]; exact he
    · exact j4 z j a1 (by omega)
  show WN _ (bS_advance_125 575 (lS_advance_125 575 n) K)
  rw [bS_advance_125, i2]
  exact W_ite (fun c1 => l141 (Or.inl c1)) (fun c1 => W_ite (fun c2 => l141 (Or.inr c2)) (fun c2 => ax_215 h h0 hs I (fun z => absurd z (by omega))))
theorem ax_52 (h : St g G K) (h5 : 0 ≤ K 575 5 ∧ K 575 5 ≤ K 576 1) (hs : IsR (K 577) isBl (K 576 1) e (K 575 5)) (hF : FBt H K) : WN (fun _ K => RJ g G K ∧ TJ e H K) (jS_advance_52 K 575) := by
  have hl := rlen h.1
  rw [jS_advance_52, bnd_s, bnd_s]
  have w1 : RJ g G (pU (pU K 575 6 (K 575 5)) 575 4 0) := by
    refine RJ_w ⟨St_w h (by omega), ?_⟩ (by omega)
    rw [pU_n (show ¬ (576 : Int) = 575 by omega), pU_s, u1_s]
    exact h5
  have e4 : pU (pU K 575 6 (K 575 5)) 575 4 0 575 4 = 0 := by rw [pU_s, u1_s]
  have e6 : pU (pU K 575 6 (K 575 5)) 575 4 0 575 6 = K 575 5 := by rw [pU_y (by omega), pU_s, u1_s]
  have e5 : pU (pU K 575 6 (K 575 5)) 575 4 0 575 5 = K 575 5 := by rw [pU_y (by omega), pU_y (by omega)]
  have e1 : pU (pU K 575 6 (K 575 5)) 575 4 0 576 = K 576 := by rw [pU_n (by omega), pU_n (by omega)]
  have eB : pU (pU K 575 6 (K 575 5)) 575 4 0 577 = K 577 := by rw [pU_n (by omega), pU_n (by omega)]
  have eF : FBt H (pU (pU K 575 6 (K 575 5)) 575 4 0) := FBt_w (FBt_w hF (by omega)) (by omega)
  generalize pU (pU K 575 6 (K 575 5)) 575 4 0 = A at *
  rw [r576 w1.1.1, if_pos kd_576, e5]
  refine W_ite (fun hlt => ?_) (fun hlt => ?_)
  · rw [aI_at w1.1.1 h5.1 hlt, bdP_s, aS_kindOf, bdP_s, bnd_s, bnd_s, eB]
    have w2 := RJ_w (b := 4) (v := kO (K 577 (K 575 5))) w1 (by omega)
    have g4 : pU A 575 4 (kO (K 577 (K 575 5))) 575 4 = kO (K 577 (K 575 5)) := by rw [pU_s, u1_s]
    have g6 : pU A 575 4 (kO (K 577 (K 575 5))) 575 6 = K 575 5 := by rw [pU_y (by omega)]; exact e6
    have g5 : pU A 575 4 (kO (K 577 (K 575 5))) 575 5 = K 575 5 := by rw [pU_y (by omega)]; exact e5
    have g1 : pU A 575 4 (kO (K 577 (K 575 5))) 576 = K 576 := by rw [pU_n (by omega)]; exact e1
    have gB : pU A 575 4 (kO (K 577 (K 575 5))) 577 = K 577 := by rw [pU_n (by omega)]; exact eB
    have gF : FBt H (pU A 575 4 (kO (K 577 (K 575 5)))) := FBt_w eF (by omega)
    rw [e1] at hlt
    generalize pU A 575 4 (kO (K 577 (K 575 5))) = C at *
    rw [g6, w32_r (by omega)]
    have w3 : RJ g G (pU C 575 6 (K 575 5 + 1)) := by
      refine ⟨St_w w2.1 (by omega), ?_⟩
      rw [pU_n (show ¬ (576 : Int) = 575 by omega), pU_s, u1_s, g1]
      omega
    have k4 : pU C 575 6 (K 575 5 + 1) 575 4 = kO (K 577 (K 575 5)) := by rw [pU_y (by omega)]; exact g4
    have k6 : pU C 575 6 (K 575 5 + 1) 575 6 = K 575 5 + 1 := by rw [pU_s, u1_s]
    have k5 : pU C 575 6 (K 575 5 + 1) 575 5 = K 575 5 := by rw [pU_y (by omega)]; exact g5
    have k1 : pU C 575 6 (K 575 5 + 1) 576 = K 576 := by rw [pU_n (by omega)]; exact g1
    have kB : pU C 575 6 (K 575 5 + 1) 577 = K 577 := by rw [pU_n (by omega)]; exact gB
    have kF : FBt H (pU C 575 6 (K 575 5 + 1)) := FBt_w gF (by omega)
    generalize pU C 575 6 (K 575 5 + 1) = D at *
    rw [r576 w3.1.1, if_pos kd_576, k5, aI_at w3.1.1 h5.1 (by rw [k1]; exact hlt), bdP_s, bnd_s, kB]
    have m4 : pU D 575 7 (w32 (K 577 (K 575 5) - 48)) 575 4 = kO (K 577 (K 575 5)) := by rw [pU_y (by omega)]; exact k4
    have m6 : pU D 575 7 (w32 (K 577 (K 575 5) - 48)) 575 6 = K 575 5 + 1 := by rw [pU_y (by omega)]; exact k6
    have m5 : pU D 575 7 (w32 (K 577 (K 575 5) - 48)) 575 5 = K 575 5 := by rw [pU_y (by omega)]; exact k5
    have m7 : pU D 575 7 (w32 (K 577 (K 575 5) - 48)) 575 7 = w32 (K 577 (K 575 5) - 48) := by rw [pU_s, u1_s]
    have m1 : pU D 575 7 (w32 (K 577 (K 575 5) - 48)) 576 = K 576 := by rw [pU_n (by omega)]; exact k1
    have mB : pU D 575 7 (w32 (K 577 (K 575 5) - 48)) 577 = K 577 := by rw [pU_n (by omega)]; exact kB
    refine ax_125 (k := kO (K 577 (K 575 5))) (s := K 575 5) (RJ_w w3 (by omega)) h5.1 (by rw [mB, m1]; exact hs) ⟨m5, m4, FBt_w kF (by omega), Or.inr ?_⟩
    rw [m1, mB, m6, m7]
    refine ⟨hlt, rfl, by omega, fun _ j j0 j1 => ?_, fun _ => rfl, fun z _ => ?_⟩
    · rw [show j = K 575 5 by omega]
    · unfold numV
      rw [if_pos rfl]
      have d1 := kO_d (c := K 577 (K 575 5))
      exact w32_r (by omega)
  · rw [e1] at hlt
    rw [aI_at0 (by rw [e1]; omega), bdP_s, bnd_s]
    have m4 : pU A 575 7 (w32 (0 - 48)) 575 4 = 0 := by rw [pU_y (by omega)]; exact e4
    have m6 : pU A 575 7 (w32 (0 - 48)) 575 6 = K 575 5 := by rw [pU_y (by omega)]; exact e6
    have m5 : pU A 575 7 (w32 (0 - 48)) 575 5 = K 575 5 := by rw [pU_y (by omega)]; exact e5
    have m1 : pU A 575 7 (w32 (0 - 48)) 576 = K 576 := by rw [pU_n (by omega)]; exact e1
    have mB : pU A 575 7 (w32 (0 - 48)) 577 = K 577 := by rw [pU_n (by omega)]; exact eB
    exact ax_125 (k := 0) (s := K 575 5) (RJ_w w1 (by omega)) h5.1 (by rw [mB, m1]; exact hs) ⟨m5, m4, FBt_w eF (by omega), Or.inl ⟨by rw [m1]; omega, rfl, m6⟩⟩
/-- the class looks for a token behind its place -/
theorem aS_advance (h : RJ g G H) : WN (fun _ K => RJ g G K ∧ TJ (H 575 6) H K) (fS_advance H 575) := by
  have hf := fu_ge
  rw [fS_advance, bnd_s]
  have w1 : St g G (pU H 575 5 (H 575 6)) := St_w h.1 (by omega)
  have e5 : pU H 575 5 (H 575 6) 575 5 = H 575 6 := by rw [pU_s, u1_s]
  have e1 : pU H 575 5 (H 575 6) 576 = H 576 := pU_n (by omega)
  have eB : pU H 575 5 (H 575 6) 577 = H 577 := pU_n (by omega)
  have eF : FBt H (pU H 575 5 (H 575 6)) := FBt_w (fun _ _ => rfl) (by omega)
  have h6 := h.2
  have hl := rlen h.1.1
  generalize pU H 575 5 (H 575 6) = A at *
  refine W_loop (W := WN (fun _ K => RJ g G K ∧ TJ (H 575 6) H K)) (fun n (K : gH) => lS_advance_8 575 n K) (fun K => (K 576 1 - K 575 5).toNat) (fun K => St g G K ∧ (0 ≤ H 575 6 ∧ H 575 6 ≤ K 575 5 ∧ K 575 5 ≤ K 576 1) ∧ (∀ j, H 575 6 ≤ j → j < K 575 5 → isBl (K 577 j)) ∧ FBt H K) ?_ fu A ⟨w1, by rw [e5, e1]; omega, fun j j0 j1 => by rw [e5] at j1; omega, eF⟩ (by rw [e5, e1]; omega)
  clear hl w1 e5 e1 eB eF A
  rintro n K ⟨hK, h5, hb, hF⟩ ih
  have hl := rlen hK.1
  show WN _ (bS_advance_8 575 (lS_advance_8 575 n) K)
  rw [bS_advance_8, r576 hK.1, if_pos kd_576]
  refine W_ite (fun hlt => ?_) (fun hlt => ax_52 hK ⟨by omega, h5.2.2⟩ ⟨⟨h5.2.1, h5.2.2⟩, hb, fun z => absurd z hlt⟩ hF)
  rw [aI_at hK.1 (by omega) hlt, bdP_s, aS_isBlank, bdP_s]
  by_cases c : K 577 (K 575 5) = 32 ∨ K 577 (K 575 5) = 10
  · rw [if_pos c, if_neg f0, bnd_s, w32_r (by omega)]
    have f5 : pU K 575 5 (K 575 5 + 1) 575 5 = K 575 5 + 1 := by rw [pU_s, u1_s]
    have f1 : pU K 575 5 (K 575 5 + 1) 576 = K 576 := pU_n (by omega)
    have fB : pU K 575 5 (K 575 5 + 1) 577 = K 577 := pU_n (by omega)
    refine ih _ ⟨St_w hK (by omega), by rw [f5, f1]; omega, fun j j0 j1 => ?_, FBt_w hF (by omega)⟩ (by rw [f5, f1]; omega)
    rw [f5] at j1
    rw [fB]
    by_cases ej : j = K 575 5
    · rw [ej]; exact c
    · exact hb j j0 (by omega)
  · rw [if_neg c, if_pos rfl]
    exact ax_52 hK ⟨by omega, h5.2.2⟩ ⟨⟨h5.2.1, h5.2.2⟩, hb, fun _ => c⟩ hF
end PAR1
/-! ===== the reference's tokens (own work) ===== -/
section PAR2
variable {g g' G H K : gH} {B F : Int → Int} {a b c d e i j k l m n p q s t u v w x y z : Int}
theorem pU_self : pU g a b (g a b) = g := by
  funext x y
  unfold pU
  by_cases h : x = a ∧ y = b
  · rw [if_pos h, h.1, h.2]
  · rw [if_neg h]
theorem pU_tw : pU (pU g a b v) a b w = pU g a b w := by
  funext x y
  unfold pU
  by_cases h : x = a ∧ y = b
  · rw [if_pos h, if_pos h]
  · rw [if_neg h, if_neg h, if_neg h]
theorem IsR_c {P : Int → Prop} (h : IsR F P n (s + 1) t) (hP : P (F s)) : IsR F P n s t := by
  have b := h.1
  refine ⟨⟨by omega, b.2⟩, fun k k0 k1 => ?_, h.2.2⟩
  by_cases e : k = s
  · rw [e]; exact hP
  · exact h.2.1 k (by omega) k1
/-- only the token's places are touched -/
def FM (G H : gH) : Prop := (∀ x, ¬ x = 624 → H x = G x) ∧ ∀ k, ¬ (15 ≤ k ∧ k ≤ 18) → H 624 k = G 624 k
theorem FM_r : FM G G := ⟨fun _ _ => rfl, fun _ _ => rfl⟩
theorem FM_t (h : FM G H) (h' : FM H K) : FM G K := ⟨fun x hx => (h'.1 x hx).trans (h.1 x hx), fun k hk => (h'.2 k hk).trans (h.2 k hk)⟩
theorem FM_w (h : FM G H) (hb : 15 ≤ b ∧ b ≤ 18) : FM G (pU H 624 b v) := ⟨fun x hx => (pU_n hx).trans (h.1 x hx), fun k hk => (pU_y (by omega)).trans (h.2 k hk)⟩
theorem FM_PF (h : FM G H) : PF G H := ⟨h.1, fun k hk => h.2 k (by omega)⟩
theorem Bt_s (h : G 624 15 < G 624 10) : Bt G = G 631 (G 624 15) := if_pos h
theorem ay_90 : ∀ (m n : Nat) (G : gH), MInv G → Ps G → (G 624 10 - G 624 15).toNat = m → m < n → ∃ t, lM_advanceToken_90 624 n G = some (0, pU G 624 15 t) ∧ IsR (G 631) (fun c => kO c = 1) (G 624 10) (G 624 15) t := by
  intro m
  induction m with
  | zero =>
    intro n G h hp hm hn
    obtain ⟨n, rfl⟩ : ∃ k, n = k + 1 := ⟨n - 1, by omega⟩
    have hq : G 624 15 ≤ G 624 10 := hp.2
    have hb : Bt G = -1 := by unfold Bt; rw [if_neg (by omega)]
    refine ⟨G 624 15, ?_, ⟨by omega, hq⟩, fun k k0 k1 => by omega, fun z => by omega⟩
    rw [pU_self]
    show bM_advanceToken_90 624 (lM_advanceToken_90 624 n) G = _
    rw [bM_advanceToken_90, vM_next h hp, bdP_s, vM_inRange, bdP_s, hb, if_neg (show ¬ ((97 : Int) ≤ -1 ∧ (-1 : Int) ≤ 122) by omega), if_pos rfl]
  | succ m ih =>
    intro n G h hp hm hn
    obtain ⟨n, rfl⟩ : ∃ k, n = k + 1 := ⟨n - 1, by omega⟩
    have e : lM_advanceToken_90 624 (n + 1) G = bM_advanceToken_90 624 (lM_advanceToken_90 624 n) G := rfl
    rw [e, bM_advanceToken_90, vM_next h hp, bdP_s, vM_inRange, bdP_s]
    have hq : G 624 15 < G 624 10 := by omega
    have hB := Bt_s hq
    by_cases hr : 97 ≤ Bt G ∧ Bt G ≤ 122
    · have h1 := Bt_lt hp (by omega)
      have h10 := h.2.2.2.2.2.1
      rw [if_pos hr, if_neg f0, bnd_s, w32_r (by omega)]
      have e15 : pU G 624 15 (G 624 15 + 1) 624 15 = G 624 15 + 1 := by rw [pU_s, u1_s]
      have e10 : pU G 624 15 (G 624 15 + 1) 624 10 = G 624 10 := by rw [pU_y (by omega)]
      have e31 : pU G 624 15 (G 624 15 + 1) 631 = G 631 := pU_n (by omega)
      obtain ⟨t, a1, a2⟩ := ih n _ (MInv_PF h (PF_u PF_r (by omega))) (Ps_1 hp (by omega)) (by rw [e15, e10]; omega) (by omega)
      rw [pU_tw] at a1
      rw [e15, e10, e31] at a2
      exact ⟨t, a1, IsR_c a2 (kO_1.mpr (by rw [← hB]; exact hr))⟩
    · rw [if_neg hr, if_pos rfl]
      refine ⟨G 624 15, by rw [pU_self], ⟨by omega, by omega⟩, fun k k0 k1 => by omega, fun z y => hr ?_⟩
      rw [hB]
      exact kO_1.mp y
/-- the value of the digits up to j -/
def VJ (F : Int → Int) (s j v : Int) : Prop := (j = s ∧ v = 0) ∨ (s < j ∧ kO (F s) = 2 ∧ (j ≤ s + 2 → v = numV F s j))
theorem ay_137 : ∀ (m n : Nat) (G : gH), MInv G → Ps G → VJ (G 631) (G 624 16) (G 624 15) (G 624 17) → 0 ≤ G 624 16 → (G 624 10 - G 624 15).toNat = m → m < n → ∃ H, lM_advanceToken_137 624 n G = some (0, H) ∧ IsR (G 631) (fun c => kO c = 2) (G 624 10) (G 624 15) (H 624 15) ∧ VJ (G 631) (G 624 16) (H 624 15) (H 624 17) ∧ (∀ x, ¬ x = 624 → H x = G x) ∧ ∀ k, ¬ k = 15 → ¬ k = 17 → H 624 k = G 624 k := by
  intro m
  induction m with
  | zero =>
    intro n G h hp hv h16 hm hn
    obtain ⟨n, rfl⟩ : ∃ k, n = k + 1 := ⟨n - 1, by omega⟩
    have hq : G 624 15 ≤ G 624 10 := hp.2
    have hb : Bt G = -1 := by unfold Bt; rw [if_neg (by omega)]
    refine ⟨G, ?_, ⟨⟨by omega, hq⟩, fun k k0 k1 => by omega, fun z => by omega⟩, hv, fun _ _ => rfl, fun _ _ _ => rfl⟩
    show bM_advanceToken_137 624 (lM_advanceToken_137 624 n) G = _
    rw [bM_advanceToken_137, vM_next h hp, bdP_s, vM_inRange, bdP_s, hb, if_neg (show ¬ ((48 : Int) ≤ -1 ∧ (-1 : Int) ≤ 57) by omega), if_pos rfl]
  | succ m ih =>
    intro n G h hp hv h16 hm hn
    obtain ⟨n, rfl⟩ : ∃ k, n = k + 1 := ⟨n - 1, by omega⟩
    have e : lM_advanceToken_137 624 (n + 1) G = bM_advanceToken_137 624 (lM_advanceToken_137 624 n) G := rfl
    rw [e, bM_advanceToken_137, vM_next h hp, bdP_s, vM_inRange, bdP_s]
    have hq : G 624 15 < G 624 10 := by omega
    have hB := Bt_s hq
    have h10 := h.2.2.2.2.2.1
    by_cases hr : 48 ≤ Bt G ∧ Bt G ≤ 57
    · have hk : kO (G 631 (G 624 15)) = 2 := kO_2.mpr (by rw [← hB]; exact hr)
      have h16' : G 624 16 ≤ G 624 15 := by
        rcases hv with ⟨v1, -⟩ | ⟨v1, -⟩ <;> omega
      -- the value may change, the place goes on by one
      have go : ∀ K : gH, (∀ x, ¬ x = 624 → K x = G x) → (∀ k, ¬ k = 17 → K 624 k = G 624 k) → VJ (G 631) (G 624 16) (G 624 15 + 1) (K 624 17) → ∃ H, lM_advanceToken_137 624 n (pU K 624 15 (w32 (K 624 15 + 1))) = some (0, H) ∧ IsR (G 631) (fun c => kO c = 2) (G 624 10) (G 624 15) (H 624 15) ∧ VJ (G 631) (G 624 16) (H 624 15) (H 624 17) ∧ (∀ x, ¬ x = 624 → H x = G x) ∧ ∀ k, ¬ k = 15 → ¬ k = 17 → H 624 k = G 624 k := by
        intro K k1 k2 k3
        rw [k2 15 (by omega), w32_r (by omega)]
        have hP : PF G (pU K 624 15 (G 624 15 + 1)) := PF_u ⟨k1, fun k hk => k2 k (by omega)⟩ (by omega)
        have e15 : pU K 624 15 (G 624 15 + 1) 624 15 = G 624 15 + 1 := by rw [pU_s, u1_s]
        have e16 : pU K 624 15 (G 624 15 + 1) 624 16 = G 624 16 := by rw [pU_y (by omega)]; exact k2 16 (by omega)
        have e17 : pU K 624 15 (G 624 15 + 1) 624 17 = K 624 17 := by rw [pU_y (by omega)]
        have e10 : pU K 624 15 (G 624 15 + 1) 624 10 = G 624 10 := by rw [pU_y (by omega)]; exact k2 10 (by omega)
        have e31 : pU K 624 15 (G 624 15 + 1) 631 = G 631 := by rw [pU_n (by omega)]; exact k1 631 (by omega)
        have hp0 := hp.1
        obtain ⟨H, a1, a2, a3, a4, a5⟩ := ih n _ (MInv_PF h hP) (by unfold Ps; rw [e15, e10]; omega) (by rw [e31, e15, e16, e17]; exact k3) (by rw [e16]; exact h16) (by rw [e15, e10]; omega) (by omega)
        rw [e31, e10, e15] at a2
        rw [e31, e16] at a3
        refine ⟨H, a1, IsR_c a2 hk, a3, fun x hx => ?_, fun k k0 k9 => ?_⟩
        · rw [a4 x hx, pU_n hx]; exact k1 x hx
        · rw [a5 k k0 k9, pU_y (by omega)]; exact k2 k k9
      rw [if_pos hr, if_neg f0, w32_r (by omega)]
      by_cases c : G 624 15 - G 624 16 < 2
      · rw [if_pos c, bdP_s, bnd_s, bnd_s, opI_mul]
        refine go _ (fun x hx => pU_n hx) (fun k hk => pU_y (by omega)) ?_
        rw [pU_s, u1_s, hB]
        have d1 := kO_d (c := G 631 (G 624 15))
        rcases hv with ⟨v1, v2⟩ | ⟨v1, v3, v2⟩
        · rw [v2, w32_r (x := 10 * 0) (by omega), w32_r (x := 10 * 0 + G 631 (G 624 15)) (by omega), w32_r (by omega)]
          rw [v1] at hk ⊢
          refine Or.inr ⟨by omega, hk, fun _ => ?_⟩
          unfold numV
          rw [if_pos rfl]
          omega
        · have es : G 624 15 = G 624 16 + 1 := by omega
          have v2 := v2 (by omega)
          unfold numV at v2
          rw [if_pos es] at v2
          have d2 := kO_d (c := G 631 (G 624 16))
          rw [v2, w32_r (x := 10 * (G 631 (G 624 16) - 48)) (by omega), w32_r (x := 10 * (G 631 (G 624 16) - 48) + G 631 (G 624 15)) (by omega), w32_r (by omega)]
          refine Or.inr ⟨by omega, v3, fun _ => ?_⟩
          unfold numV
          rw [if_neg (show ¬ G 624 15 + 1 = G 624 16 + 1 by omega), es]
          omega
      · rw [if_neg c, bnd_s]
        refine go G (fun _ _ => rfl) (fun _ _ => rfl) ?_
        rcases hv with ⟨v1, v2⟩ | ⟨v1, v3, v2⟩
        · exact absurd v1 (by omega)
        · exact Or.inr ⟨by omega, v3, fun z => absurd z (by omega)⟩
    · rw [if_neg hr, if_pos rfl]
      refine ⟨G, rfl, ⟨⟨by omega, by omega⟩, fun k k0 k1 => by omega, fun z y => hr ?_⟩, hv, fun _ _ => rfl, fun _ _ _ => rfl⟩
      rw [hB]
      exact kO_2.mp y
/-- the reference's token: e is where it was looked for -/
def TM (e : Int) (G H : gH) : Prop := FM G H ∧ IsR (H 631) isBl (H 624 10) e (H 624 16) ∧ IsT (H 631) (H 624 10) (H 624 16) (H 624 18) (H 624 15) ∧ (H 624 18 = 2 → H 624 15 - H 624 16 ≤ 2 → H 624 17 = numV (H 631) (H 624 16) (H 624 15))
theorem ay_39 (h : MInv G) (hp : Ps G) (hb0 : ∀ k, 0 ≤ k → k < G 624 10 → 0 ≤ G 631 k) (hs : IsR (G 631) isBl (G 624 10) e (G 624 15)) : ∃ H, jM_advanceToken_39 G 624 = some (0, H) ∧ TM e G H := by
  have hf := fu_ge
  have h10 := h.2.2.2.2.2.1
  have hp0 : 0 ≤ G 624 15 := hp.1
  have hp1 : G 624 15 ≤ G 624 10 := hp.2
  -- begin is set
  have k1 : FM G (pU G 624 16 (G 624 15)) := FM_w FM_r (by omega)
  have e15 : pU G 624 16 (G 624 15) 624 15 = G 624 15 := by rw [pU_y (by omega)]
  have e10 : pU G 624 16 (G 624 15) 624 10 = G 624 10 := by rw [pU_y (by omega)]
  have eb : Bt (pU G 624 16 (G 624 15)) = Bt G := by unfold Bt; rw [e15, e10, pU_n (by omega)]
  rw [jM_advanceToken_39, bnd_s, vM_next (MInv_PF h (FM_PF k1)) (by unfold Ps; rw [e15, e10]; exact hp), bdP_s, eb, bnd_s]
  have k2 : FM G (pU (pU G 624 16 (G 624 15)) 624 17 0) := FM_w k1 (by omega)
  have f15 : pU (pU G 624 16 (G 624 15)) 624 17 0 624 15 = G 624 15 := by rw [pU_y (by omega)]; exact e15
  have f16 : pU (pU G 624 16 (G 624 15)) 624 17 0 624 16 = G 624 15 := by rw [pU_y (by omega), pU_s, u1_s]
  have f17 : pU (pU G 624 16 (G 624 15)) 624 17 0 624 17 = 0 := by rw [pU_s, u1_s]
  generalize pU (pU G 624 16 (G 624 15)) 624 17 0 = K at *
  have f10 : K 624 10 = G 624 10 := k2.2 10 (by omega)
  have f31 : K 631 = G 631 := k2.1 631 (by omega)
  -- the kind is set
  have ld : ∀ tk : Int, FM G (pU K 624 18 tk) ∧ pU K 624 18 tk 624 15 = G 624 15 ∧ pU K 624 18 tk 624 16 = G 624 15 ∧ pU K 624 18 tk 624 17 = 0 ∧ pU K 624 18 tk 624 18 = tk ∧ pU K 624 18 tk 624 10 = G 624 10 ∧ pU K 624 18 tk 631 = G 631 := by
    intro tk
    exact ⟨FM_w k2 (by omega), by rw [pU_y (by omega)]; exact f15, by rw [pU_y (by omega)]; exact f16, by rw [pU_y (by omega)]; exact f17, by rw [pU_s, u1_s], by rw [pU_y (by omega)]; exact f10, by rw [pU_n (by omega)]; exact f31⟩
  by_cases hlt : G 624 15 < G 624 10
  · have hB := Bt_s hlt
    -- a token of one byte
    have one : ∀ tk : Int, 2 < tk → tk = kO (G 631 (G 624 15)) → ∃ H, bnd (pU K 624 18 tk) (fun g => bnd (pU g 624 15 (w32 (g 624 15 + 1))) (fun g => some ((0 : Int), g))) = some (0, H) ∧ TM e G H := by
      intro tk h2 hk
      obtain ⟨d1, d2, d3, d4, d5, d6, d7⟩ := ld tk
      rw [bnd_s, bnd_s, d2, w32_r (by omega)]
      have m5 : pU (pU K 624 18 tk) 624 15 (G 624 15 + 1) 624 15 = G 624 15 + 1 := by rw [pU_s, u1_s]
      have m6 : pU (pU K 624 18 tk) 624 15 (G 624 15 + 1) 624 16 = G 624 15 := by rw [pU_y (by omega)]; exact d3
      have m8 : pU (pU K 624 18 tk) 624 15 (G 624 15 + 1) 624 18 = tk := by rw [pU_y (by omega)]; exact d5
      have m0 : pU (pU K 624 18 tk) 624 15 (G 624 15 + 1) 624 10 = G 624 10 := by rw [pU_y (by omega)]; exact d6
      have mB : pU (pU K 624 18 tk) 624 15 (G 624 15 + 1) 631 = G 631 := by rw [pU_n (by omega)]; exact d7
      refine ⟨_, rfl, FM_w d1 (by omega), ?_, ?_, ?_⟩
      · rw [mB, m0, m6]; exact hs
      · rw [mB, m0, m6, m8, m5]; exact Or.inr ⟨hlt, hk, Or.inr ⟨h2, rfl⟩⟩
      · rw [m8]; exact fun z => absurd z (by omega)
    have d0 := kO_d (c := G 631 (G 624 15))
    have hbn : ¬ Bt G = -1 := by
      have := hb0 _ hp0 hlt
      rw [hB]; omega
    rw [if_neg hbn, vM_inRange, bdP_s, hB]
    by_cases c1 : 97 ≤ G 631 (G 624 15) ∧ G 631 (G 624 15) ≤ 122
    · rw [if_pos c1, if_neg f0, bnd_s]
      obtain ⟨d1, d2, d3, d4, d5, d6, d7⟩ := ld 1
      obtain ⟨t, a1, a2⟩ := ay_90 _ fu _ (MInv_PF h (FM_PF d1)) (by unfold Ps; rw [d2, d6]; exact hp) rfl (by rw [d6, d2]; omega)
      rw [d7, d6, d2] at a2
      have m5 : pU (pU K 624 18 1) 624 15 t 624 15 = t := by rw [pU_s, u1_s]
      have m6 : pU (pU K 624 18 1) 624 15 t 624 16 = G 624 15 := by rw [pU_y (by omega)]; exact d3
      have m8 : pU (pU K 624 18 1) 624 15 t 624 18 = 1 := by rw [pU_y (by omega)]; exact d5
      have m0 : pU (pU K 624 18 1) 624 15 t 624 10 = G 624 10 := by rw [pU_y (by omega)]; exact d6
      have mB : pU (pU K 624 18 1) 624 15 t 631 = G 631 := by rw [pU_n (by omega)]; exact d7
      refine ⟨_, a1, FM_w d1 (by omega), ?_, ?_, ?_⟩
      · rw [mB, m0, m6]; exact hs
      · rw [mB, m0, m6, m8, m5]; exact Or.inr ⟨hlt, (kO_1.mpr c1).symm, Or.inl ⟨Or.inl rfl, a2⟩⟩
      · rw [m8]; exact fun z => absurd z (by omega)
    · rw [if_neg c1, if_pos rfl, vM_inRange, bdP_s]
      by_cases c2 : 48 ≤ G 631 (G 624 15) ∧ G 631 (G 624 15) ≤ 57
      · rw [if_pos c2, if_neg f0, bnd_s]
        obtain ⟨d1, d2, d3, d4, d5, d6, d7⟩ := ld 2
        obtain ⟨H, a1, a2, a3, a4, a5⟩ := ay_137 _ fu _ (MInv_PF h (FM_PF d1)) (by unfold Ps; rw [d2, d6]; exact hp) (by rw [d7, d3, d2, d4]; exact Or.inl ⟨rfl, rfl⟩) (by rw [d3]; omega) rfl (by rw [d6, d2]; omega)
        rw [d7, d6, d2] at a2
        rw [d7, d3] at a3
        have m6 : H 624 16 = G 624 15 := by rw [a5 16 (by omega) (by omega)]; exact d3
        have m8 : H 624 18 = 2 := by rw [a5 18 (by omega) (by omega)]; exact d5
        have m0 : H 624 10 = G 624 10 := by rw [a5 10 (by omega) (by omega)]; exact d6
        have mB : H 631 = G 631 := by rw [a4 631 (by omega)]; exact d7
        refine ⟨H, a1, FM_t d1 ⟨a4, fun k hk => a5 k (by omega) (by omega)⟩, ?_, ?_, ?_⟩
        · rw [mB, m0, m6]; exact hs
        · rw [mB, m0, m6, m8]; exact Or.inr ⟨hlt, (kO_2.mpr c2).symm, Or.inl ⟨Or.inr rfl, a2⟩⟩
        · rw [mB, m6]
          intro _ z
          rcases a3 with ⟨v1, -⟩ | ⟨v1, -, v2⟩
          · exact absurd (kO_2.mpr c2) (by have := a2.2.2 (by omega); rw [v1] at this; exact this)
          · exact v2 (by omega)
      · rw [if_neg c2, if_pos rfl]
        by_cases c3 : G 631 (G 624 15) = 59
        · rw [if_pos c3]
          exact one 3 (by omega) (by omega)
        · rw [if_neg c3]
          exact one 4 (by omega) (by omega)
  · have hb : Bt G = -1 := by unfold Bt; rw [if_neg hlt]
    obtain ⟨d1, d2, d3, d4, d5, d6, d7⟩ := ld 0
    rw [if_pos hb, bnd_s]
    refine ⟨_, rfl, d1, ?_, ?_, ?_⟩
    · rw [d7, d6, d3]; exact hs
    · rw [d7, d6, d3, d5, d2]; exact Or.inl ⟨by omega, rfl, rfl⟩
    · rw [d5]; exact fun z => absurd z (by omega)
/-- the reference looks for a token behind its place -/
theorem aM_advance (h : MInv G) (hp : Ps G) (hb0 : ∀ k, 0 ≤ k → k < G 624 10 → 0 ≤ G 631 k) : ∃ H, fM_advanceToken G 624 = some (0, H) ∧ TM (G 624 15) G H := by
  have key : ∀ (m n : Nat) (K : gH), MInv K → Ps K → FM G K → G 624 15 ≤ K 624 15 → (∀ j, G 624 15 ≤ j → j < K 624 15 → isBl (K 631 j)) → (K 624 10 - K 624 15).toNat = m → m < n → ∃ H, lM_advanceToken_0 624 n K = some (0, H) ∧ TM (G 624 15) G H := by
    intro m
    induction m with
    | zero =>
      intro n K hK hp hF hle hbl hm hn
      obtain ⟨n, rfl⟩ : ∃ k, n = k + 1 := ⟨n - 1, by omega⟩
      have hq : K 624 15 ≤ K 624 10 := hp.2
      have hb : Bt K = -1 := by unfold Bt; rw [if_neg (by omega)]
      show ∃ H, bM_advanceToken_0 624 (lM_advanceToken_0 624 n) K = some (0, H) ∧ _
      rw [bM_advanceToken_0, vM_next hK hp, bdP_s, if_neg (by omega), bdP_s, if_neg (by omega)]
      obtain ⟨H, e, t⟩ := ay_39 (e := G 624 15) hK hp (by rw [hF.2 10 (by omega), hF.1 631 (by omega)]; exact hb0) ⟨⟨hle, hq⟩, hbl, fun z => by omega⟩
      exact ⟨H, e, FM_t hF t.1, t.2⟩
    | succ m ih =>
      intro n K hK hp hF hle hbl hm hn
      obtain ⟨n, rfl⟩ : ∃ k, n = k + 1 := ⟨n - 1, by omega⟩
      have hq : K 624 15 < K 624 10 := by omega
      have hp0 : 0 ≤ K 624 15 := hp.1
      have hB := Bt_s hq
      have h10 := hK.2.2.2.2.2.1
      have go : isBl (K 631 (K 624 15)) → ∃ H, bnd (pU K 624 15 (w32 (K 624 15 + 1))) (fun g => lM_advanceToken_0 624 n g) = some (0, H) ∧ TM (G 624 15) G H := by
        intro hb
        rw [bnd_s, w32_r (by omega)]
        have e15 : pU K 624 15 (K 624 15 + 1) 624 15 = K 624 15 + 1 := by rw [pU_s, u1_s]
        have e10 : pU K 624 15 (K 624 15 + 1) 624 10 = K 624 10 := by rw [pU_y (by omega)]
        have e31 : pU K 624 15 (K 624 15 + 1) 631 = K 631 := pU_n (by omega)
        refine ih n _ (MInv_PF hK (PF_u PF_r (by omega))) (by unfold Ps; rw [e15, e10]; omega) (FM_w hF (by omega)) (by rw [e15]; omega) (fun j j0 j1 => ?_) (by rw [e15, e10]; omega) (by omega)
        rw [e15] at j1
        rw [e31]
        by_cases ej : j = K 624 15
        · rw [ej]; exact hb
        · exact hbl j j0 (by omega)
      show ∃ H, bM_advanceToken_0 624 (lM_advanceToken_0 624 n) K = some (0, H) ∧ _
      rw [bM_advanceToken_0, vM_next hK hp, bdP_s, hB]
      by_cases c1 : K 631 (K 624 15) = 32
      · rw [if_pos c1]; exact go (Or.inl c1)
      · rw [if_neg c1, bdP_s]
        by_cases c2 : K 631 (K 624 15) = 10
        · rw [if_pos c2]; exact go (Or.inr c2)
        · rw [if_neg c2]
          obtain ⟨H, e, t⟩ := ay_39 (e := G 624 15) hK hp (by rw [hF.2 10 (by omega), hF.1 631 (by omega)]; exact hb0) ⟨⟨hle, by omega⟩, hbl, fun _ z => by rcases z with z | z <;> contradiction⟩
          exact ⟨H, e, FM_t hF t.1, t.2⟩
  have hf := fu_ge
  have h10 := h.2.2.2.2.2.1
  have hp0 := hp.1
  have hp1 := hp.2
  exact key _ fu G h hp FM_r (Int.le_refl _) (fun j j0 j1 => by omega) rfl (by omega)
end PAR2
/-! ===== words, of both readers (own work) ===== -/
section PAR3
variable {g g' G H K : gH} {B F : Int → Int} {a b c d e i j k l m n p q s t u v w x y z : Int} {r : Nat}
/-- the r-th word of the readers -/
def wd (r : Nat) : List Nat := ev_tx.getD r []
theorem gx : ∀ r : Nat, r < 13 → gtx (2000000 + (r : Int)) = wd r ∧ gtx (2000013 + (r : Int)) = wd r := by decide +kernel
theorem wd_ok : ∀ r : Nat, r < 13 → 0 < (wd r).length ∧ (wd r).length < 9 ∧ ∀ z ∈ wd r, 97 ≤ z ∧ z ≤ 122 := by decide +kernel
theorem wd_at (hr : r < 13) {j : Nat} (hj : j < (wd r).length) : 97 ≤ (wd r).getD j 0 ∧ (wd r).getD j 0 ≤ 122 := by
  rw [List.getD_eq_getElem?_getD, List.getElem?_eq_getElem hj]
  exact (wd_ok r hr).2.2 _ (List.getElem_mem hj)
/-- the token from s to t is the r-th word -/
def WM (F : Int → Int) (s t : Int) (r : Nat) : Prop := t - s = ((wd r).length : Nat) ∧ ∀ x : Int, 0 ≤ x → x < ((wd r).length : Nat) → F (s + x) = ((wd r).getD x.toNat 0 : Nat)
theorem WM_BF (hr : r < 13) (hb : BR B F n) (h0 : 0 ≤ s) (ht : t ≤ n) : WM B s t r ↔ WM F s t r := by
  constructor
  · rintro ⟨h1, h2⟩
    refine ⟨h1, fun x x0 x1 => ?_⟩
    have e := h2 x x0 x1
    have w1 := wd_at hr (j := x.toNat) (by omega)
    have k1 := (BR_k hb (k := s + x) (by omega) (by omega)).2.2
    omega
  · rintro ⟨h1, h2⟩
    refine ⟨h1, fun x x0 x1 => ?_⟩
    have e := h2 x x0 x1
    have w1 := wd_at hr (j := x.toNat) (by omega)
    have k1 := (BR_k hb (k := s + x) (by omega) (by omega)).2.2
    have k2 := (hb (s + x) (by omega) (by omega)).1
    omega
theorem WM_kind (hr : r < 13) (h : WM F s t r) (ht : IsT F n s k t) : k = 1 := by
  have hl := (wd_ok r hr).1
  have e := h.2 0 (by omega) (by omega)
  have w1 := wd_at hr (j := (0 : Int).toNat) hl
  rw [show s + 0 = s by omega] at e
  rcases ht with ⟨a1, a2, a3⟩ | ⟨a1, a2, a3⟩
  · have := h.1
    omega
  · have d1 := kO_d (c := F s)
    omega
/-- two words are two -/
theorem WM_two (h : WM F s t r) {q : Nat} (h' : WM F s t q) : (wd r).length = (wd q).length ∧ (0 < (wd r).length → (wd r).getD 0 0 = (wd q).getD 0 0) := by
  have h1 := h.1
  have h2 := h'.1
  refine ⟨by omega, fun z => ?_⟩
  have e1 := h.2 0 (by omega) (by omega)
  have e2 := h'.2 0 (by omega) (by omega)
  rw [e1] at e2
  exact Int.ofNat.inj e2
theorem aS_isWord (h : CR g G) (h5 : 0 ≤ G 575 5 ∧ G 575 5 ≤ G 575 6 ∧ G 575 6 ≤ G 576 1) (hr : r < 13) (hw : w = 2000000 + (r : Int)) : ∃ y, fS_isWord G 575 w = some y ∧ (y = 0 ∨ y = 1) ∧ (y = 1 ↔ WM (G 577) (G 575 5) (G 575 6) r) := by
  have hf := fu_ge
  have hl := rlen h
  have ew := (gx r hr).1
  rw [← hw] at ew
  have el : gtl w = ((wd r).length : Nat) := by unfold gtl; rw [ew]
  have ec : ∀ x : Int, gch w x = ((wd r).getD x.toNat 0 : Nat) := fun x => by unfold gch; rw [ew]
  have hlen := (wd_ok r hr).2.1
  have hv : (2000000 : Int) ≤ w ∧ w < 2000026 := by omega
  have key0 : ∀ (n : Nat) (x : Int), lS_isWord_24 G 575 w (n + 1) 0 x = some 0 := by
    intro n x
    show bS_isWord_24 G 575 w (lS_isWord_24 G 575 w n) 0 x = _
    rw [bS_isWord_24, if_pos rfl]
  have key : G 575 6 - G 575 5 = gtl w → ∀ (m n : Nat) (j : Int), (gtl w - j).toNat = m → m + 1 < n → 0 ≤ j → j ≤ gtl w → ∃ y, lS_isWord_24 G 575 w n 1 j = some y ∧ (y = 0 ∨ y = 1) ∧ (y = 1 ↔ ∀ x, j ≤ x → x < gtl w → G 577 (G 575 5 + x) = gch w x) := by
    intro hlen2 m
    induction m with
    | zero =>
      intro n j hm hn j0 j1
      obtain ⟨n, rfl⟩ : ∃ k, n = k + 1 := ⟨n - 1, by omega⟩
      show ∃ y, bS_isWord_24 G 575 w (lS_isWord_24 G 575 w n) 1 j = some y ∧ _
      rw [bS_isWord_24, if_neg f0, if_pos hv, if_neg (by omega)]
      exact ⟨1, rfl, Or.inr rfl, fun _ x a1 a2 => by omega, fun _ => rfl⟩
    | succ m ih =>
      intro n j hm hn j0 j1
      obtain ⟨n, rfl⟩ : ∃ k, n = k + 1 := ⟨n - 1, by omega⟩
      obtain ⟨n, rfl⟩ : ∃ k, n = k + 1 := ⟨n - 1, by omega⟩
      show ∃ y, bS_isWord_24 G 575 w (lS_isWord_24 G 575 w (n + 1)) 1 j = some y ∧ _
      have hlt : j < gtl w := by omega
      rw [bS_isWord_24, if_neg f0, if_pos hv, if_pos hlt, r576 h, if_pos kd_576, w32_r (by omega), aI_at h (by omega) (by omega), bdP_s, if_pos ⟨hv, j0, hlt⟩, w32_r (by omega)]
      by_cases he : G 577 (G 575 5 + j) = gch w j
      · rw [if_pos he]
        obtain ⟨y, y1, y2, y3⟩ := ih (n + 1) (j + 1) (by omega) (by omega) (by omega) (by omega)
        refine ⟨y, y1, y2, fun z x a1 a2 => ?_, fun z => y3.mpr (fun x a1 a2 => z x (by omega) a2)⟩
        by_cases ex : x = j
        · rw [ex]; exact he
        · exact y3.mp z x (by omega) a2
      · rw [if_neg he, key0]
        exact ⟨0, rfl, Or.inl rfl, fun z => absurd z (by omega), fun z => absurd (z j (by omega) hlt) he⟩
  rw [fS_isWord, if_pos hv, w32_r (by omega)]
  by_cases c : G 575 6 - G 575 5 = gtl w
  · rw [if_pos c]
    obtain ⟨y, y1, y2, y3⟩ := key c _ fu 0 rfl (by omega) (by omega) (by omega)
    refine ⟨y, y1, y2, fun z => ⟨by rw [← el]; exact c, fun x x0 x1 => ?_⟩, fun z => y3.mpr (fun x x0 x1 => ?_)⟩
    · rw [← ec]; exact y3.mp z x x0 (by rw [el]; exact x1)
    · rw [ec]; exact z.2 x x0 (by rw [← el]; exact x1)
  · rw [if_neg c]
    obtain ⟨n, hn⟩ : ∃ n, fu = n + 1 := ⟨fu - 1, by omega⟩
    rw [hn, key0]
    refine ⟨0, rfl, Or.inl rfl, fun z => absurd z (by omega), fun z => absurd ?_ c⟩
    rw [el]; exact z.1
theorem aM_isWord (h : MInv G) (hp : TK G) (hr : r < 13) (hw : w = 2000013 + (r : Int)) : ∃ y, fM_isWord G 624 w = some y ∧ (y = 0 ∨ y = 1) ∧ (y = 1 ↔ (G 624 18 = 1 ∧ WM (G 631) (G 624 16) (G 624 15) r)) := by
  have hf := fu_ge
  have h9 : G 624 9 = 631 := h.1.2.2.2.2.2.1
  have h10 := h.2.2.2.2.2.1
  have ew := (gx r hr).2
  rw [← hw] at ew
  have el : gtl w = ((wd r).length : Nat) := by unfold gtl; rw [ew]
  have ec : ∀ x : Int, gch w x = ((wd r).getD x.toNat 0 : Nat) := fun x => by unfold gch; rw [ew]
  have hlen := (wd_ok r hr).2.1
  have hv : (2000000 : Int) ≤ w ∧ w < 2000026 := by omega
  unfold TK at hp
  rw [fM_isWord]
  by_cases c1 : G 624 18 = 1
  · rw [if_pos c1, fM_tokenLength, bdP_s, if_pos hv, w32_r (by omega)]
    by_cases c2 : G 624 15 - G 624 16 = gtl w
    · rw [if_pos c2]
      have key : ∀ (m n : Nat) (j : Int), (gtl w - j).toNat = m → m < n → 0 ≤ j → j ≤ gtl w → ∃ y, lM_isWord_23 G 624 w n j = some y ∧ (y = 0 ∨ y = 1) ∧ (y = 1 ↔ ∀ x, j ≤ x → x < gtl w → G 631 (G 624 16 + x) = gch w x) := by
        intro m
        induction m with
        | zero =>
          intro n j hm hn j0 j1
          obtain ⟨n, rfl⟩ : ∃ k, n = k + 1 := ⟨n - 1, by omega⟩
          show ∃ y, bM_isWord_23 G 624 w (lM_isWord_23 G 624 w n) j = some y ∧ _
          rw [bM_isWord_23, if_pos hv, if_neg (by omega)]
          exact ⟨1, rfl, Or.inr rfl, fun _ x a1 a2 => by omega, fun _ => rfl⟩
        | succ m ih =>
          intro n j hm hn j0 j1
          obtain ⟨n, rfl⟩ : ∃ k, n = k + 1 := ⟨n - 1, by omega⟩
          have hlt : j < gtl w := by omega
          show ∃ y, bM_isWord_23 G 624 w (lM_isWord_23 G 624 w n) j = some y ∧ _
          rw [bM_isWord_23, if_pos hv, if_pos hlt, w32_r (show -2147483648 ≤ G 624 16 + j ∧ G 624 16 + j < 2147483648 by omega), h9, if_pos (show kd 631 = 20 ∧ (0 : Int) ≤ G 624 16 + j ∧ G 624 16 + j < sz 631 by rw [sz_631]; exact ⟨kd_631, by omega, by omega⟩), if_pos ⟨hv, j0, hlt⟩, w32_r (by omega)]
          by_cases he : G 631 (G 624 16 + j) = gch w j
          · rw [if_pos he]
            obtain ⟨y, y1, y2, y3⟩ := ih n (j + 1) (by omega) (by omega) (by omega) (by omega)
            refine ⟨y, y1, y2, fun z x a1 a2 => ?_, fun z => y3.mpr (fun x a1 a2 => z x (by omega) a2)⟩
            by_cases ex : x = j
            · rw [ex]; exact he
            · exact y3.mp z x (by omega) a2
          · rw [if_neg he]
            exact ⟨0, rfl, Or.inl rfl, fun z => absurd z (by omega), fun z => absurd (z j (by omega) hlt) he⟩
      have hlt9 : (gtl w).toNat < fu := by
        rw [el, Int.toNat_natCast]
        exact Nat.lt_trans hlen (Nat.lt_trans (by decide) hf)
      obtain ⟨y, y1, y2, y3⟩ := key (gtl w).toNat fu 0 (by rw [Int.sub_zero]) hlt9 (by omega) (by omega)
      refine ⟨y, y1, y2, fun z => ⟨c1, by rw [← el]; exact c2, fun x x0 x1 => ?_⟩, fun z => y3.mpr (fun x x0 x1 => ?_)⟩
      · rw [← ec]; exact y3.mp z x x0 (by rw [el]; exact x1)
      · rw [ec]; exact z.2.2 x x0 (by rw [← el]; exact x1)
    · rw [if_neg c2]
      refine ⟨0, rfl, Or.inl rfl, fun z => absurd z (by omega), fun z => absurd ?_ c2⟩
      rw [el]; exact z.2.1
  · rw [if_neg c1]
    exact ⟨0, rfl, Or.inl rfl, fun z => absurd z (by omega), fun z => absurd z.1 c1⟩
end PAR3
/-! ===== both readers' tokens are one (own work) ===== -/
section PAR4
variable {g g' G H K A : gH} {B F : Int → Int} {a b c d e i j k l m n p q s t u v w x y z : Int} {r : Nat}
/-- one input in both -/
def BB (G H : gH) : Prop := G 576 1 = H 624 10 ∧ BR (G 577) (H 631) (G 576 1)
theorem BB_0 (h : BB G H) : ∀ k, 0 ≤ k → k < H 624 10 → 0 ≤ H 631 k := fun k k0 k1 => (h.2 k k0 (by rw [h.1]; exact k1)).1.1
/-- the reference's token is the one behind e -/
def TA (e : Int) (H : gH) : Prop := IsR (H 631) isBl (H 624 10) e (H 624 16) ∧ IsT (H 631) (H 624 10) (H 624 16) (H 624 18) (H 624 15) ∧ (H 624 18 = 2 → H 624 15 - H 624 16 ≤ 2 → H 624 17 = numV (H 631) (H 624 16) (H 624 15))
/-- both stand at one token -/
def TQ (G H : gH) : Prop := (G 575 5 = H 624 16 ∧ G 575 6 = H 624 15) ∧ IsT (H 631) (H 624 10) (H 624 16) (H 624 18) (H 624 15) ∧ G 575 4 = (if H 624 18 = 2 ∧ 2 < H 624 15 - H 624 16 then 4 else H 624 18) ∧ (H 624 18 = 2 → H 624 15 - H 624 16 ≤ 2 → G 575 7 = H 624 17 ∧ 0 ≤ H 624 17 ∧ H 624 17 ≤ 99)
theorem TQ_of (hb : BB G H) (h0 : 0 ≤ e) (ha : TA e H) (hj : TJ e A G) : TQ G H := by
  obtain ⟨k, j1, j2, j3, j4, -⟩ := hj
  obtain ⟨a1, a2, a3⟩ := ha
  obtain ⟨b1, b2⟩ := hb
  have s1 := IsS_BF b2 h0 j1
  have s0 : 0 ≤ G 575 5 := by have := s1.1; omega
  have t1 := IsT_BF b2 s0 j2
  rw [b1] at s1 t1
  have es : G 575 5 = H 624 16 := IsR_u s1 a1
  rw [es] at t1
  obtain ⟨ek, et⟩ := IsT_u t1 a2
  refine ⟨⟨es, et⟩, a2, ?_, fun z1 z2 => ?_⟩
  · rw [j3, ek, es, et]
  · have hk : k = 2 := by omega
    rw [hk] at j2
    have nv := numV_BF b2 s0 j2 (by omega)
    rw [j4 hk (by omega), a3 z1 z2, ← es, ← et]
    exact ⟨nv.1, nv.2⟩
/-- a word is one in both, or in none -/
theorem aWord (hc : CR g G) (hm : MInv H) (tk : TK H) (hb : BB G H) (hq : TQ G H) (hr : r < 13) (hw : w = 2000000 + (r : Int)) (hv : v = 2000013 + (r : Int)) : ∃ y, fS_isWord G 575 w = some y ∧ fM_isWord H 624 v = some y ∧ (y = 0 ∨ y = 1) ∧ (y = 1 ↔ WM (H 631) (H 624 16) (H 624 15) r) := by
  have t0 := tk
  unfold TK at t0
  obtain ⟨⟨q1, q2⟩, q3, -⟩ := hq
  have b1 := hb.1
  obtain ⟨y, y1, y2, y3⟩ := aS_isWord hc (by rw [q1, q2, b1]; exact t0) hr hw
  obtain ⟨z, z1, z2, z3⟩ := aM_isWord hm tk hr hv
  rw [q1, q2] at y3
  have e1 : y = 1 ↔ WM (H 631) (H 624 16) (H 624 15) r := y3.trans (WM_BF hr hb.2 t0.1 (by rw [b1]; exact t0.2.2))
  have e2 : z = 1 ↔ WM (H 631) (H 624 16) (H 624 15) r := z3.trans ⟨fun x => x.2, fun x => ⟨WM_kind hr x q3, x⟩⟩
  have e : y = z := by
    rcases y2 with y2 | y2
    · rcases z2 with z2 | z2
      · rw [y2, z2]
      · exact absurd (e1.mpr (e2.mp z2)) (by omega)
    · exact y2.trans (e2.mpr (e1.mp y2)).symm
  exact ⟨y, y1, by rw [e]; exact z1, y2, e1⟩
/-- two steps that end alike -/
def RR (Φ : Int → gH → Int → gH → Prop) (X Y : Option (Int × gH)) : Prop := ∃ v G w H, X = some (v, G) ∧ Y = some (w, H) ∧ Φ v G w H
theorem RR_i {Φ : Int → gH → Int → gH → Prop} (h : Φ v G w H) : RR Φ (some (v, G)) (some (w, H)) := ⟨v, G, w, H, rfl, rfl, h⟩
theorem RR_b {Φ Ψ : Int → gH → Int → gH → Prop} {X Y : Option (Int × gH)} {A C : Int → gH → Option (Int × gH)} (h : RR Φ X Y) (hk : ∀ v G w H, Φ v G w H → RR Ψ (A v G) (C w H)) : RR Ψ (bdN X A) (bdN Y C) := by
  obtain ⟨v, G, w, H, rfl, rfl, z⟩ := h
  exact hk v G w H z
theorem RR_l {Ψ : Int → gH → Int → gH → Prop} {Q : Int → gH → Prop} {X Y : Option (Int × gH)} {A : Int → gH → Option (Int × gH)} (h : WN Q X) (hk : ∀ v G, Q v G → RR Ψ (A v G) Y) : RR Ψ (bdN X A) Y := by
  obtain ⟨v, G, rfl, z⟩ := h
  exact hk v G z
theorem RR_r {Ψ : Int → gH → Int → gH → Prop} {Q : Int → gH → Prop} {X Y : Option (Int × gH)} {A : Int → gH → Option (Int × gH)} (h : WN Q Y) (hk : ∀ v G, Q v G → RR Ψ X (A v G)) : RR Ψ X (bdN Y A) := by
  obtain ⟨v, G, rfl, z⟩ := h
  exact hk v G z
end PAR4
/-! ===== the class's tree against the reference's row; both readers in step (own work) ===== -/
section PAR5
variable {C : gH → (Int → Int) → Prop} {g g' G H K A : gH} {r r' : Int → Int} {a b c d e i j k l m n p q s t u v w x y z S : Int}
/-- a duty's will as the class reads it -/
def wl (v d : Int) : Int := w32 (gl2i (opL 0 (opS 0 v (opI 0 8 d)) 255) - 1)
/-- a process's cell against its places in the row -/
def PE (f r : Int → Int) (i : Int) : Prop :=
  (f 1 = r (140 + i) ∧ f 4 = r (100 + i) ∧ f 5 = r (180 + i) ∧ f 6 = r (220 + i) ∧ f 7 = r (260 + i) ∧ f 8 = r (340 + i) ∧ f 9 = r (300 + i) ∧ f 11 = r (380 + i) ∧ f 12 = r (420 + i)) ∧
  (∀ d, 0 ≤ d → d < 8 → wl (f 14) d = r (460 + 8 * i + d)) ∧ f 3 = kids r i 0 ∧ (¬ r (140 + i) = 0 → (0 ≤ f 10 ∧ f 10 < r 1) ∧ r (19 + f 10) = i)
/-- the rules are rules -/
def RU (r : Int → Int) : Prop := ∀ i, 0 ≤ i → i < 5 → i < r 5 → 0 ≤ r (6 + i) ∧ r (6 + i) ≤ 4
theorem RU_e (h : RU r) (e : ∀ k, 5 ≤ k → k < 11 → r' k = r k) : RU r' := by
  intro i i0 i1 i2
  rw [e 5 (by omega) (by omega)] at i2
  rw [e _ (by omega) (by omega)]
  exact h i i0 i1 i2
/-- the class's tree S says what the row says -/
def CP (S : Int) (G : gH) (r : Int → Int) : Prop :=
  (G S 5 = r 0 ∧ G S 6 = r 1 ∧ G S 7 = r 2 ∧ G S 8 = r 3 ∧ G S 9 = r 4 ∧ G S 4 = r 59) ∧
  (∀ i, 0 ≤ i → i < 5 → G (S + 4) i = if i < r 5 then r (6 + i) else -1) ∧
  (∀ d, 0 ≤ d → d < 8 → G (S + 3) d = r (11 + d)) ∧
  (∀ i, 0 ≤ i → i < r 0 → PE (G (pc S i)) r i) ∧
  (∀ i, 1 ≤ i → i < r 0 → G (pc S i) 2 = pc S (r (60 + i))) ∧
  (∀ i, r 0 ≤ i → i < 40 → G (pc S i) 1 = 3) ∧ RU r
theorem CP_eq (h : CP S G r) (hr : 0 ≤ r 0 ∧ r 0 ≤ 40) (e : ∀ x, S ≤ x → x < S + 44 → H x = G x) : CP S H r := by
  have eS := e S (by omega) (by omega)
  have e3 := e (S + 3) (by omega) (by omega)
  have e4 := e (S + 4) (by omega) (by omega)
  have ep : ∀ i, 0 ≤ i → i < 40 → H (pc S i) = G (pc S i) := fun i i0 i1 => by
    have := pc_b (T := S) ⟨i0, i1⟩
    exact e _ (by omega) (by omega)
  obtain ⟨h1, h2, h3, h4, h5, h6, h7⟩ := h
  refine ⟨by rw [eS]; exact h1, by rw [e4]; exact h2, by rw [e3]; exact h3, fun i i0 i1 => ?_, fun i i0 i1 => ?_, fun i i0 i1 => ?_, h7⟩
  · rw [ep i i0 (by omega)]; exact h4 i i0 i1
  · rw [ep i (by omega) (by omega)]; exact h5 i i0 i1
  · rw [ep i (by omega) i1]; exact h6 i i0 i1
/-- it speaks of the tree that is read alone -/
def CF (C : gH → (Int → Int) → Prop) : Prop := ∀ G H r, C G r → (0 ≤ r 0 ∧ r 0 ≤ 40) → (∀ x, 578 ≤ x → x < 622 → H x = G x) → C H r
theorem CF_CP : CF (CP 578) := fun G H r h hr e => CP_eq h hr (fun x x0 x1 => e x x0 (by omega))
/-- what was told once -/
def ON (G H : gH) : Prop := ((G 575 8 = 0 ∨ G 575 8 = 1) ∧ (G 575 9 = 0 ∨ G 575 9 = 1) ∧ (G 575 10 = 0 ∨ G 575 10 = 1)) ∧ H 624 19 = G 575 8 + 2 * G 575 9 + 4 * G 575 10
/-- what the class's reader leaves alone -/
def FL (g G : gH) : Prop := ∀ x, x < 575 → G x = g x
/-- both readers read, without an error so far -/
def RLs (C : gH → (Int → Int) → Prop) (g g' G H : gH) : Prop := RI g G ∧ RD g' H ∧ BB G H ∧ (CF C ∧ C G (H 625)) ∧ (G 575 2 = 0 ∧ G 575 3 = -1) ∧ (H 624 13 = 0 ∧ H 624 14 = -1) ∧ ON G H ∧ FL g G
/-- the reference is a token ahead -/
def RA (C : gH → (Int → Int) → Prop) (g g' G H : gH) : Prop := RLs C g g' G H ∧ TA (G 575 6) H
/-- both stand at one token -/
def RT (C : gH → (Int → Int) → Prop) (g g' G H : gH) : Prop := RLs C g g' G H ∧ TQ G H
/-- both have ended with one error -/
def RE (g g' G H : gH) : Prop := RI g G ∧ RD g' H ∧ BB G H ∧ ¬ H 624 13 = 0 ∧ G 575 2 = H 624 13 ∧ G 575 3 = H 624 14 ∧ FL g G
theorem RL_M (h : RLs C g g' G H) : 0 ≤ H 625 0 ∧ H 625 0 ≤ 40 := by
  have := h.2.1.1.2.1.1.1
  omega
/-- the class takes the next token -/
theorem ra_class (h : RA C g g' G H) : WN (fun _ K => RT C g g' K H ∧ RJ g G K ∧ FBt G K) (fS_advance G 575) := by
  obtain ⟨hl, ha⟩ := h
  have hM := RL_M hl
  obtain ⟨h1, h2, h3, h4, h5, h6, h7⟩ := hl
  refine WN_m (aS_advance (RI_J h1)) (fun _ K hK => ?_)
  obtain ⟨k1, k2⟩ := hK
  have kF : FBt G K := by obtain ⟨_, _, _, _, _, f⟩ := k2; exact f
  have e6 : K 576 = G 576 := k1.1.2 576 (by omega)
  have e7 : K 577 = G 577 := k1.1.2 577 (by omega)
  have hb : BB K H := by unfold BB; rw [e6, e7]; exact h3
  refine ⟨⟨⟨RJ_I k1, h2, hb, ⟨h4.1, h4.1 _ _ _ h4.2 hM (fun x x0 x1 => k1.1.2 x (by omega))⟩, ?_, h6, ?_⟩, TQ_of hb h1.2.1 ha k2⟩, k1, kF⟩
  · rw [kF 2 (by omega), kF 3 (by omega)]; exact h5
  · refine ⟨?_, fun x hx => (k1.1.2 x (by omega)).trans (h7.2 x hx)⟩
    unfold ON
    rw [kF 8 (by omega), kF 9 (by omega), kF 10 (by omega)]
    exact h7.1
/-- the reference goes on to its next token -/
theorem rt_model (h : RT C g g' G H) : WN (fun _ K => RA C g g' G K ∧ FM H K) (fM_advanceToken H 624) := by
  obtain ⟨⟨h1, h2, h3, h4, h5, h6, h7⟩, hq⟩ := h
  obtain ⟨K, e, t⟩ := aM_advance h2.1 (TK_Ps h2.2.2.2.2.1) (BB_0 h3)
  obtain ⟨K', e', d, -⟩ := rd_advance h2
  have : K' = K := by
    have := e'.symm.trans e
    exact (Prod.mk.inj (Option.some.inj this)).2
  subst this
  have f := t.1
  refine ⟨0, K', e, ⟨⟨h1, d, ?_, ?_, h5, ?_, ?_⟩, ?_⟩, f⟩
  · unfold BB
    rw [f.2 10 (by omega), f.1 631 (by omega)]
    exact h3
  · rw [f.1 625 (by omega)]; exact h4
  · rw [f.2 13 (by omega), f.2 14 (by omega)]; exact h6
  · refine ⟨?_, h7.2⟩
    unfold ON
    rw [f.2 19 (by omega)]
    exact h7.1
  · rw [hq.1.2]; exact t.2
/-- both fail at their token -/
theorem rt_fail (h : RT C g g' G H) (hc : ¬ c = 0) : RR (fun v G w H => v = 0 ∧ w = 0 ∧ RE g g' G H) (fS_fail G 575 c) (fM_failsAt H 624 c) := by
  obtain ⟨⟨h1, h2, h3, h4, h5, h6, h7⟩, hq⟩ := h
  obtain ⟨y, K, e, k⟩ := tS_failI (v := c) h1
  obtain ⟨L, e2, l, -⟩ := rd_fails (v := c) h2
  have e0 := e
  have e20 := e2
  rw [fS_fail, bnd_s, bnd_s] at e
  rw [fM_failsAt, if_pos h6.1, bnd_s, bnd_s] at e2
  have eK := (Prod.mk.inj (Option.some.inj e)).2
  have ey := (Prod.mk.inj (Option.some.inj e)).1
  have eL := (Prod.mk.inj (Option.some.inj e2)).2
  rw [← ey] at e0
  refine ⟨0, K, 0, L, e0, e20, rfl, rfl, k, l, ?_, ?_, ?_, ?_⟩
  · subst eK eL
    unfold BB
    simp only [pU_n (show ¬ (576 : Int) = 575 by omega), pU_n (show ¬ (577 : Int) = 575 by omega), pU_n (show ¬ (631 : Int) = 624 by omega), pU_y (show ¬ (10 : Int) = 13 by omega), pU_y (show ¬ (10 : Int) = 14 by omega)]
    exact h3
  · subst eL
    rw [pU_y (by omega), pU_s, u1_s]; exact hc
  · subst eK eL
    rw [pU_y (by omega), pU_s, u1_s, pU_y (by omega), pU_s, u1_s]
  · subst eK eL
    refine ⟨?_, fun x hx => by rw [pU_n (by omega), pU_n (by omega)]; exact h7.2 x hx⟩
    rw [pU_s, u1_s, pU_y (show ¬ (5 : Int) = 2 by omega), pU_s, u1_s, pU_y (show ¬ (16 : Int) = 13 by omega)]
    exact hq.1.1
end PAR5
/-! ===== the class's tree against the row: what keeps it (own work) ===== -/
theorem wl_0 : ∀ d : Fin 8, wl 0 (d.val : Int) = -1 := by decide +kernel
section PAR5B
variable {C C' : gH → (Int → Int) → Prop} {g g' G H K A : gH} {r r' : Int → Int} {a b c d e i j k l m n p q s t u v w x y z S : Int}
theorem f8 (h : 0 ≤ d ∧ d < 8) : ∃ f : Fin 8, d = (f.val : Int) := ⟨⟨d.toNat, by omega⟩, by show d = ((d.toNat : Nat) : Int); omega⟩
theorem kids_eq (e0 : r' 0 = r 0) (e : ∀ j, 0 ≤ j → j < r 0 → r' (140 + j) = r (140 + j) ∧ r' (60 + j) = r (60 + j)) : kids r' i s = kids r i s := by
  unfold kids
  rw [e0]
  refine cn_congr _ _ (fun j j0 j1 => ?_)
  unfold ic
  rw [(e j j0 (by omega)).1, (e j j0 (by omega)).2]
/-- a process of which the row still says the same -/
theorem PE_row {f : Int → Int} (h : PE f r i) (hi : 0 ≤ i ∧ i < 40) (h1 : r 1 ≤ 40) (e1 : r' 1 = r 1) (e : ∀ k, (19 ≤ k ∧ k < 59) ∨ k = 100 + i ∨ k = 140 + i ∨ k = 180 + i ∨ k = 220 + i ∨ k = 260 + i ∨ k = 300 + i ∨ k = 340 + i ∨ k = 380 + i ∨ k = 420 + i ∨ (460 + 8 * i ≤ k ∧ k < 468 + 8 * i) → r' k = r k) (ek : kids r' i 0 = kids r i 0) : PE f r' i := by
  obtain ⟨⟨a1, a2, a3, a4, a5, a6, a7, a8, a9⟩, b, c, d⟩ := h
  refine ⟨⟨?_, ?_, ?_, ?_, ?_, ?_, ?_, ?_, ?_⟩, fun x x0 x1 => ?_, ?_, fun z => ?_⟩
  · rw [e _ (by omega)]; exact a1
  · rw [e _ (by omega)]; exact a2
  · rw [e _ (by omega)]; exact a3
  · rw [e _ (by omega)]; exact a4
  · rw [e _ (by omega)]; exact a5
  · rw [e _ (by omega)]; exact a6
  · rw [e _ (by omega)]; exact a7
  · rw [e _ (by omega)]; exact a8
  · rw [e _ (by omega)]; exact a9
  · rw [e _ (by omega)]; exact b x x0 x1
  · rw [ek]; exact c
  · rw [e _ (by omega)] at z
    obtain ⟨d1, d2⟩ := d z
    rw [e1, e _ (by omega)]
    exact ⟨d1, d2⟩
/-- the row's head alone differs -/
theorem CP_hd (h : CP S G r) (hr : 0 ≤ r 0 ∧ r 0 ≤ 40) (h1 : r 1 ≤ 40) (e : ∀ k, k = 0 ∨ k = 1 ∨ (19 ≤ k ∧ k < 59) ∨ 60 ≤ k → r' k = r k) (ec : ∀ x, S < x → x < S + 44 → ¬ x = S + 3 → ¬ x = S + 4 → H x = G x)
    (c1 : H S 5 = r 0 ∧ H S 6 = r 1 ∧ H S 7 = r' 2 ∧ H S 8 = r' 3 ∧ H S 9 = r' 4 ∧ H S 4 = r' 59) (c2 : ∀ i, 0 ≤ i → i < 5 → H (S + 4) i = if i < r' 5 then r' (6 + i) else -1) (c3 : ∀ d, 0 ≤ d → d < 8 → H (S + 3) d = r' (11 + d)) (hu : RU r') : CP S H r' := by
  obtain ⟨-, -, -, h4, h5, h6, -⟩ := h
  have ep : ∀ i, 0 ≤ i → i < 40 → H (pc S i) = G (pc S i) := fun i i0 i1 => by
    have := pc_b (T := S) ⟨i0, i1⟩
    exact ec _ this.1 this.2.1 this.2.2.2.1 this.2.2.2.2
  have e0 : r' 0 = r 0 := e 0 (by omega)
  have e1 : r' 1 = r 1 := e 1 (by omega)
  refine ⟨by rw [e0, e1]; exact c1, c2, c3, fun i i0 i1 => ?_, fun i i0 i1 => ?_, fun i i0 i1 => ?_, hu⟩
  · rw [e0] at i1
    rw [ep i i0 (by omega)]
    exact PE_row (h4 i i0 i1) (by omega) h1 e1 (fun k hk => e k (by omega)) (kids_eq e0 (fun j j0 j1 => ⟨e _ (by omega), e _ (by omega)⟩))
  · rw [e0] at i1
    rw [ep i (by omega) (by omega), e _ (by omega)]; exact h5 i i0 i1
  · rw [e0] at i0
    rw [ep i (by omega) i1]; exact h6 i i0 i1
/-- a duty's holder -/
theorem CP_d (h : CP S G r) (hr : 0 ≤ r 0 ∧ r 0 ≤ 40) (h1 : r 1 ≤ 40) (hd : 0 ≤ d ∧ d < 8) : CP S (pU G (S + 3) d v) (u1 r (11 + d) v) := by
  have h0 := h
  obtain ⟨⟨p1, p2, p3, p4, p5, p6⟩, q2, q3, -⟩ := h0
  refine CP_hd h hr h1 (fun k hk => u1_n (by omega)) (fun x x0 x1 x2 _ => pU_n x2) ?_ (fun i i0 i1 => ?_) (fun j j0 j1 => ?_) (RU_e h.2.2.2.2.2.2 (fun k k0 k1 => u1_n (by omega)))
  · rw [pU_n (show ¬ S = S + 3 by omega), u1_n (by omega), u1_n (by omega), u1_n (by omega), u1_n (by omega)]
    exact ⟨p1, p2, p3, p4, p5, p6⟩
  · rw [pU_n (by omega), u1_n (by omega), u1_n (by omega)]
    exact q2 i i0 i1
  · rw [pU_s]
    by_cases ej : j = d
    · rw [ej, u1_s, u1_s]
    · rw [u1_n ej, u1_n (by omega)]
      exact q3 j j0 j1
/-- one place of one process, in both -/
theorem pf_v (h : G (pc S i) y = r (c + i)) (hi : 0 ≤ i) (hp : 0 ≤ p) (h1 : i = p → y = a → c = b) (h2 : ¬ (i = p ∧ y = a) → ¬ c + i = b + p) : pU G (pc S p) a v (pc S i) y = u1 r (b + p) v (c + i) := by
  by_cases e : i = p
  · subst e
    by_cases e2 : y = a
    · rw [h1 rfl e2, e2, pU_s, u1_s, u1_s]
    · rw [pU_y e2, u1_n (h2 (fun z => e2 z.2))]; exact h
  · rw [pU_n (pc_ne hi hp e), u1_n (h2 (fun z => e z.1))]; exact h
/-- .. its place told against the written one -/
theorem pf_w (hb : (y = a ∧ c = b) ∨ (¬ y = a ∧ (c + 40 ≤ b ∨ b + 40 ≤ c))) (h : G (pc S i) y = r (c + i)) (hi : 0 ≤ i ∧ i < 40) (hp : 0 ≤ p ∧ p < 40) : pU G (pc S p) a v (pc S i) y = u1 r (b + p) v (c + i) :=
  pf_v h hi.1 hp.1 (fun _ z => by rcases hb with x | x; exact x.2; exact absurd z x.1) (fun z => by
    rcases hb with x | x
    · intro w
      exact z ⟨by omega, x.1⟩
    · omega)
theorem CP_pf (h : CP S G r) (hr : 0 ≤ r 0 ∧ r 0 ≤ 40) (h1 : r 1 ≤ 40) (hp : 0 ≤ p ∧ p < r 0) (hab : (a = 4 ∧ b = 100) ∨ (a = 5 ∧ b = 180) ∨ (a = 6 ∧ b = 220) ∨ (a = 7 ∧ b = 260) ∨ (a = 8 ∧ b = 340) ∨ (a = 9 ∧ b = 300) ∨ (a = 11 ∧ b = 380) ∨ (a = 12 ∧ b = 420)) : CP S (pU G (pc S p) a v) (u1 r (b + p) v) := by
  obtain ⟨h0, h2, h3, h4, h5, h6, h7⟩ := h
  have hb : ((100 ≤ b ∧ b ≤ 420) ∧ (b + 40 ≤ 140 ∨ 180 ≤ b)) ∧ ¬ 14 = a ∧ ¬ 3 = a ∧ ¬ 10 = a ∧ ¬ 2 = a ∧ ¬ 1 = a := by
    rcases hab with ⟨rfl, rfl⟩ | ⟨rfl, rfl⟩ | ⟨rfl, rfl⟩ | ⟨rfl, rfl⟩ | ⟨rfl, rfl⟩ | ⟨rfl, rfl⟩ | ⟨rfl, rfl⟩ | ⟨rfl, rfl⟩ <;> decide
  obtain ⟨⟨b1, b2⟩, n14, n3, n10, n2, n1⟩ := hb
  have q1 : ((1 : Int) = a ∧ (140 : Int) = b) ∨ (¬ (1 : Int) = a ∧ ((140 : Int) + 40 ≤ b ∨ b + 40 ≤ (140 : Int))) := by
    rcases hab with ⟨rfl, rfl⟩ | ⟨rfl, rfl⟩ | ⟨rfl, rfl⟩ | ⟨rfl, rfl⟩ | ⟨rfl, rfl⟩ | ⟨rfl, rfl⟩ | ⟨rfl, rfl⟩ | ⟨rfl, rfl⟩ <;> decide
  have q2 : ((4 : Int) = a ∧ (100 : Int) = b) ∨ (¬ (4 : Int) = a ∧ ((100 : Int) + 40 ≤ b ∨ b + 40 ≤ (100 : Int))) := by
    rcases hab with ⟨rfl, rfl⟩ | ⟨rfl, rfl⟩ | ⟨rfl, rfl⟩ | ⟨rfl, rfl⟩ | ⟨rfl, rfl⟩ | ⟨rfl, rfl⟩ | ⟨rfl, rfl⟩ | ⟨rfl, rfl⟩ <;> decide
  have q3 : ((5 : Int) = a ∧ (180 : Int) = b) ∨ (¬ (5 : Int) = a ∧ ((180 : Int) + 40 ≤ b ∨ b + 40 ≤ (180 : Int))) := by
    rcases hab with ⟨rfl, rfl⟩ | ⟨rfl, rfl⟩ | ⟨rfl, rfl⟩ | ⟨rfl, rfl⟩ | ⟨rfl, rfl⟩ | ⟨rfl, rfl⟩ | ⟨rfl, rfl⟩ | ⟨rfl, rfl⟩ <;> decide
  have q4 : ((6 : Int) = a ∧ (220 : Int) = b) ∨ (¬ (6 : Int) = a ∧ ((220 : Int) + 40 ≤ b ∨ b + 40 ≤ (220 : Int))) := by
    rcases hab with ⟨rfl, rfl⟩ | ⟨rfl, rfl⟩ | ⟨rfl, rfl⟩ | ⟨rfl, rfl⟩ | ⟨rfl, rfl⟩ | ⟨rfl, rfl⟩ | ⟨rfl, rfl⟩ | ⟨rfl, rfl⟩ <;> decide
  have q5 : ((7 : Int) = a ∧ (260 : Int) = b) ∨ (¬ (7 : Int) = a ∧ ((260 : Int) + 40 ≤ b ∨ b + 40 ≤ (260 : Int))) := by
    rcases hab with ⟨rfl, rfl⟩ | ⟨rfl, rfl⟩ | ⟨rfl, rfl⟩ | ⟨rfl, rfl⟩ | ⟨rfl, rfl⟩ | ⟨rfl, rfl⟩ | ⟨rfl, rfl⟩ | ⟨rfl, rfl⟩ <;> decide
  have q6 : ((8 : Int) = a ∧ (340 : Int) = b) ∨ (¬ (8 : Int) = a ∧ ((340 : Int) + 40 ≤ b ∨ b + 40 ≤ (340 : Int))) := by
    rcases hab with ⟨rfl, rfl⟩ | ⟨rfl, rfl⟩ | ⟨rfl, rfl⟩ | ⟨rfl, rfl⟩ | ⟨rfl, rfl⟩ | ⟨rfl, rfl⟩ | ⟨rfl, rfl⟩ | ⟨rfl, rfl⟩ <;> decide
  have q7 : ((9 : Int) = a ∧ (300 : Int) = b) ∨ (¬ (9 : Int) = a ∧ ((300 : Int) + 40 ≤ b ∨ b + 40 ≤ (300 : Int))) := by
    rcases hab with ⟨rfl, rfl⟩ | ⟨rfl, rfl⟩ | ⟨rfl, rfl⟩ | ⟨rfl, rfl⟩ | ⟨rfl, rfl⟩ | ⟨rfl, rfl⟩ | ⟨rfl, rfl⟩ | ⟨rfl, rfl⟩ <;> decide
  have q8 : ((11 : Int) = a ∧ (380 : Int) = b) ∨ (¬ (11 : Int) = a ∧ ((380 : Int) + 40 ≤ b ∨ b + 40 ≤ (380 : Int))) := by
    rcases hab with ⟨rfl, rfl⟩ | ⟨rfl, rfl⟩ | ⟨rfl, rfl⟩ | ⟨rfl, rfl⟩ | ⟨rfl, rfl⟩ | ⟨rfl, rfl⟩ | ⟨rfl, rfl⟩ | ⟨rfl, rfl⟩ <;> decide
  have q9 : ((12 : Int) = a ∧ (420 : Int) = b) ∨ (¬ (12 : Int) = a ∧ ((420 : Int) + 40 ≤ b ∨ b + 40 ≤ (420 : Int))) := by
    rcases hab with ⟨rfl, rfl⟩ | ⟨rfl, rfl⟩ | ⟨rfl, rfl⟩ | ⟨rfl, rfl⟩ | ⟨rfl, rfl⟩ | ⟨rfl, rfl⟩ | ⟨rfl, rfl⟩ | ⟨rfl, rfl⟩ <;> decide
  clear hab
  have bp := pc_b (T := S) (i := p) (by omega)
  have e : ∀ k, ¬ k = b + p → u1 r (b + p) v k = r k := fun k hk => u1_n hk
  have e0 : u1 r (b + p) v 0 = r 0 := e 0 (by clear q1 q2 q3 q4 q5 q6 q7 q8 q9; omega)
  have ek : ∀ i, kids (u1 r (b + p) v) i 0 = kids r i 0 := by
    clear q1 q2 q3 q4 q5 q6 q7 q8 q9
    exact fun i => kids_eq e0 (fun j j0 j1 => ⟨e _ (by omega), e _ (by omega)⟩)
  refine ⟨?_, fun i i0 i1 => ?_, fun d d0 d1 => ?_, fun i i0 i1 => ?_, fun i i0 i1 => ?_, fun i i0 i1 => ?_, ?_⟩
  · clear q1 q2 q3 q4 q5 q6 q7 q8 q9
    rw [pU_n (show ¬ S = pc S p by omega), e0, e 1 (by omega), e 2 (by omega), e 3 (by omega), e 4 (by omega), e 59 (by omega)]
    exact h0
  · clear q1 q2 q3 q4 q5 q6 q7 q8 q9
    rw [pU_n (by omega), e 5 (by omega), e _ (by omega)]
    exact h2 i i0 i1
  · clear q1 q2 q3 q4 q5 q6 q7 q8 q9
    rw [pU_n (by omega), e _ (by omega)]
    exact h3 d d0 d1
  · rw [e0] at i1
    obtain ⟨⟨a1, a2, a3, a4, a5, a6, a7, a8, a9⟩, w1, w2, w3⟩ := h4 i i0 i1
    have hi : 0 ≤ i ∧ i < 40 := ⟨i0, by clear q1 q2 q3 q4 q5 q6 q7 q8 q9; omega⟩
    have hp4 : 0 ≤ p ∧ p < 40 := ⟨hp.1, by clear q1 q2 q3 q4 q5 q6 q7 q8 q9; omega⟩
    refine ⟨⟨pf_w q1 a1 hi hp4, pf_w q2 a2 hi hp4, pf_w q3 a3 hi hp4, pf_w q4 a4 hi hp4, pf_w q5 a5 hi hp4, pf_w q6 a6 hi hp4, pf_w q7 a7 hi hp4, pf_w q8 a8 hi hp4, pf_w q9 a9 hi hp4⟩, fun d d0 d1 => ?_, ?_, fun z => ?_⟩
    · clear q1 q2 q3 q4 q5 q6 q7 q8 q9
      rw [pU_y n14, e _ (by omega)]; exact w1 d d0 d1
    · rw [pU_y n3, ek]; exact w2
    · clear q1 q2 q3 q4 q5 q6 q7 q8 q9
      rw [e _ (by omega)] at z
      have w3 := w3 z
      rw [pU_y n10, e 1 (by omega), e _ (by omega)]
      exact w3
  · clear q1 q2 q3 q4 q5 q6 q7 q8 q9
    rw [e0] at i1
    rw [pU_y n2, e _ (by omega)]
    exact h5 i i0 i1
  · rw [e0] at i0
    rw [pU_y n1]
    exact h6 i i0 i1
  · clear q1 q2 q3 q4 q5 q6 q7 q8 q9
    exact RU_e h7 (fun k k0 k1 => e k (by omega))
theorem CP_p0 (h : CP S G r) (hr : 1 ≤ r 0 ∧ r 0 ≤ 40) (h1 : r 1 ≤ 40) (hab : (a = 4 ∧ b = 100) ∨ (a = 6 ∧ b = 220)) : CP S (pU G (S + 1) a v) (u1 r b v) := by
  have := CP_pf (p := 0) (a := a) (b := b) (v := v) h (by omega) h1 (by omega) (by rcases hab with z | z; exact Or.inl z; exact Or.inr (Or.inr (Or.inl z)))
  rw [pc_0, show b + 0 = b by omega] at this
  exact this
/-- a process's wills -/
theorem CP_wl (h : CP S G r) (hr : 0 ≤ r 0 ∧ r 0 ≤ 40) (h1 : r 1 ≤ 40) (hp : 0 ≤ p ∧ p < r 0) (hd : 0 ≤ d ∧ d < 8) (hw : ∀ j, 0 ≤ j → j < 8 → wl w j = if j = d then v else wl (G (pc S p) 14) j) : CP S (pU G (pc S p) 14 w) (u1 r (460 + 8 * p + d) v) := by
  obtain ⟨h0, h2, h3, h4, h5, h6, h7⟩ := h
  have bp := pc_b (T := S) (i := p) (by omega)
  have e : ∀ k, ¬ k = 460 + 8 * p + d → u1 r (460 + 8 * p + d) v k = r k := fun k hk => u1_n hk
  have e0 : u1 r (460 + 8 * p + d) v 0 = r 0 := e 0 (by omega)
  have ek : ∀ i, kids (u1 r (460 + 8 * p + d) v) i 0 = kids r i 0 := fun i => kids_eq e0 (fun j j0 j1 => ⟨e _ (by omega), e _ (by omega)⟩)
  refine ⟨?_, fun i i0 i1 => ?_, fun j j0 j1 => ?_, fun i i0 i1 => ?_, fun i i0 i1 => ?_, fun i i0 i1 => ?_, RU_e h7 (fun k k0 k1 => e k (by omega))⟩
  · rw [pU_n (show ¬ S = pc S p by omega), e0, e 1 (by omega), e 2 (by omega), e 3 (by omega), e 4 (by omega), e 59 (by omega)]
    exact h0
  · rw [pU_n (by omega), e 5 (by omega), e _ (by omega)]
    exact h2 i i0 i1
  · rw [pU_n (by omega), e _ (by omega)]
    exact h3 j j0 j1
  · rw [e0] at i1
    obtain ⟨⟨a1, a2, a3, a4, a5, a6, a7, a8, a9⟩, w1, w2, w3⟩ := h4 i i0 i1
    have ey : ∀ y, ¬ y = 14 → pU G (pc S p) 14 w (pc S i) y = G (pc S i) y := fun y hy => pU_y hy
    refine ⟨⟨?_, ?_, ?_, ?_, ?_, ?_, ?_, ?_, ?_⟩, fun j j0 j1 => ?_, ?_, fun z => ?_⟩
    · rw [ey _ (by omega), e _ (by omega)]; exact a1
    · rw [ey _ (by omega), e _ (by omega)]; exact a2
    · rw [ey _ (by omega), e _ (by omega)]; exact a3
    · rw [ey _ (by omega), e _ (by omega)]; exact a4
    · rw [ey _ (by omega), e _ (by omega)]; exact a5
    · rw [ey _ (by omega), e _ (by omega)]; exact a6
    · rw [ey _ (by omega), e _ (by omega)]; exact a7
    · rw [ey _ (by omega), e _ (by omega)]; exact a8
    · rw [ey _ (by omega), e _ (by omega)]; exact a9
    · have w1 := w1 j j0 j1
      by_cases ei : i = p
      · subst ei
        rw [pU_s, u1_s, hw j j0 j1]
        by_cases ej : j = d
        · rw [if_pos ej, ej, u1_s]
        · rw [if_neg ej, e _ (by omega)]; exact w1
      · rw [pU_n (pc_ne i0 hp.1 ei), e _ (by omega)]; exact w1
    · rw [ey _ (by omega), ek]; exact w2
    · rw [e _ (by omega)] at z
      have w3 := w3 z
      rw [ey _ (by omega), e 1 (by omega), e _ (by omega)]
      exact w3
  · rw [e0] at i1
    rw [pU_y (by omega), e _ (by omega)]
    exact h5 i i0 i1
  · rw [e0] at i0
    rw [pU_y (by omega)]
    exact h6 i i0 i1
/-! one that comes -/
theorem vP_become : ∃ B, fP_become g c a b d w = some (0, B) ∧ (∀ x, ¬ x = c → B x = g x) ∧ ((B c 0 = g c 0 ∧ B c 1 = a ∧ B c 2 = -1 ∧ B c 3 = 0) ∧ (B c 4 = b ∧ B c 5 = d ∧ B c 6 = w ∧ B c 7 = -1) ∧ (B c 8 = 0 ∧ B c 9 = -1 ∧ B c 10 = -1 ∧ B c 11 = 0) ∧ (B c 12 = -1 ∧ B c 13 = 0 ∧ B c 14 = 0)) := by
  rw [fP_become]
  simp only [bnd_s]
  refine ⟨_, rfl, fun x hx => by simp only [pU_n hx], ⟨?_, ?_, ?_, ?_⟩, ⟨?_, ?_, ?_, ?_⟩, ⟨?_, ?_, ?_, ?_⟩, ⟨?_, ?_, ?_⟩⟩
  all_goals simp (disch := omega) only [pU_s, u1_s, u1_n]
theorem vT_arrive (h : TI g S) (hT : isT S) (hj : 0 ≤ j ∧ j < g S 5) (hn : g S 5 < 40) : ∃ G, fT_arrive g S (pc S j) a b d = some (pc S (g S 5), G) ∧ IT S g G ∧ G S = u1 (g S) 5 (g S 5 + 1) ∧ (∀ x, ¬ x = S → ¬ x = pc S (g S 5) → ¬ x = pc S j → G x = g x) ∧ G (pc S j) = u1 (g (pc S j)) 3 (w32 (g (pc S j) 3 + 1)) ∧ ((G (pc S (g S 5)) 1 = 0 ∧ G (pc S (g S 5)) 2 = pc S j ∧ G (pc S (g S 5)) 3 = 0) ∧ (G (pc S (g S 5)) 4 = a ∧ G (pc S (g S 5)) 5 = b ∧ G (pc S (g S 5)) 6 = d ∧ G (pc S (g S 5)) 7 = -1) ∧ (G (pc S (g S 5)) 8 = 0 ∧ G (pc S (g S 5)) 9 = -1 ∧ G (pc S (g S 5)) 10 = -1 ∧ G (pc S (g S 5)) 11 = 0) ∧ (G (pc S (g S 5)) 12 = -1 ∧ G (pc S (g S 5)) 13 = 0 ∧ G (pc S (g S 5)) 14 = 0)) := by
  obtain ⟨v, G, e, hI, -⟩ := tT_arrive (a := a) (b := b) (d := d) h hT hj
  have hc := h.2.1
  have bn := pc_b (T := S) (i := g S 5) (by omega)
  have bj := pc_b (T := S) (i := j) (by omega)
  have jn : ¬ pc S j = pc S (g S 5) := pc_ne hj.1 (by omega) (by omega)
  have e0 := e
  rw [fT_arrive, TS_1 h.1, if_neg (by omega), if_pos hn, if_pos ⟨kdT2 hT, by omega, by rw [szT2 hT]; exact hn⟩, bnd_s, TS_p h.1 ⟨by omega, hn⟩, if_pos (kdp hT ⟨by omega, hn⟩), w32_r (by omega)] at e
  obtain ⟨B, eB, b1, ⟨b2, b3, b4, b5⟩, ⟨b6, b7, b8, b9⟩, ⟨b10, b11, b12, b13⟩, ⟨b14, b15, b16⟩⟩ := vP_become (g := pU g S 5 (g S 5 + 1)) (c := pc S (g S 5)) (a := 0) (b := a) (d := b) (w := d)
  rw [eB, bdN_s, fP_putUnder, b4, if_pos (show (-1 : Int) < 0 by omega), bnd_s, if_pos (kdp hT (show 0 ≤ j ∧ j < 40 by omega)), bnd_s, bdN_s] at e
  have e := Prod.mk.inj (Option.some.inj e)
  rw [← e.1] at e0
  refine ⟨G, e0, hI, ?_⟩
  rw [← e.2]
  have bN : B (pc S j) = g (pc S j) := by rw [b1 _ jn, pU_n (by omega)]
  refine ⟨?_, fun x x1 x2 x3 => ?_, ?_, ?_⟩
  · rw [pU_n (by omega), pU_n (by omega), b1 S (by omega), pU_s]
  · rw [pU_n x3, pU_n x2, b1 x x2, pU_n x1]
  · rw [pU_s, pU_n jn, bN]
  · rw [pU_n (fun z => jn z.symm), pU_s, u1_s]
    simp (disch := omega) only [u1_n]
    exact ⟨⟨b3, trivial, b5⟩, ⟨b6, b7, b8, b9⟩, ⟨b10, b11, b12, b13⟩, ⟨b14, b15, b16⟩⟩
theorem cn_z {P : Int → Bool} : ∀ (m : Nat) (k : Int), (∀ j, k ≤ j → j < k + m → P j = false) → cn P m k = 0 := by
  intro m
  induction m with
  | zero => intro k _; rfl
  | succ m ih =>
    intro k h
    rw [cn_s, h k (by omega) (by omega), ih (k + 1) (fun j j0 j1 => h j (by omega) (by omega))]
    rfl
theorem cmR_m (hM : 1 ≤ r 0 ∧ r 0 < 40) : cmR r a b c d (300 + r 0) = -1 ∧ cmR r a b c d (340 + r 0) = 0 ∧ cmR r a b c d (380 + r 0) = 0 ∧ cmR r a b c d (420 + r 0) = -1 ∧ ∀ j, 0 ≤ j → j < 8 → cmR r a b c d (460 + 8 * r 0 + j) = -1 := by
  unfold cmR
  refine ⟨?_, ?_, ?_, ?_, fun j j0 j1 => ?_⟩
  · simp (disch := omega) only [eq_f, le_f, false_and, ↓reduceIte]
  · simp (disch := omega) only [eq_f, le_f, false_and, ↓reduceIte]
  · simp (disch := omega) only [eq_f, le_f, false_and, ↓reduceIte]
  · simp (disch := omega) only [eq_f, le_f, false_and, ↓reduceIte]
  · rw [if_neg (by omega), if_pos (by omega)]
theorem kids_cm (hw : WB r) (hr : r 0 < 40) (hi : 0 ≤ i) : kids (cmR r j a b d) i 0 = kids r i 0 + if i = j then 1 else 0 := by
  have hM : 1 ≤ r 0 ∧ r 0 < 40 := ⟨hw.1.1, hr⟩
  obtain ⟨n1, n2, n3, -⟩ := cmR_n (r := r) (a := j) (c := a) (gp := b) (b := d) hM
  unfold kids
  rw [cmR_0, show (r 0 + 1).toNat = (r 0).toNat + 1 by omega, cn_one, show (0 : Int) + ((r 0).toNat : Int) = r 0 by omega]
  have e1 : cn (fun c => ic (cmR r j a b d) c i 0) (r 0).toNat 0 = cn (fun c => ic r c i 0) (r 0).toNat 0 := by
    refine cn_congr _ _ (fun x x0 x1 => ?_)
    unfold ic
    rw [cmR_o hM (by omega), cmR_o hM (by omega)]
  rw [e1]
  congr 1
  unfold ic
  rw [n1, n3]
  by_cases c : i = j
  · rw [if_pos c, if_pos (decide_eq_true ⟨rfl, c.symm, by omega⟩)]
  · rw [if_neg c, if_neg (fun z => c (of_decide_eq_true z).2.1.symm)]
theorem kids_n (hw : WB r) : kids r (r 0) 0 = 0 := by
  refine cn_z _ _ (fun x x0 x1 => decide_eq_false (fun z => ?_))
  have := hw.2.1 x (by omega) (by omega)
  omega
theorem CP_cm (h : CP S G r) (hw : WB r) (hr : r 0 < 40) (h1 : r 1 ≤ 40) (hj : 0 ≤ j ∧ j < r 0) (hT : H S = u1 (G S) 5 (r 0 + 1)) (ho : ∀ x, ¬ x = S → ¬ x = pc S (r 0) → ¬ x = pc S j → H x = G x) (hk : H (pc S j) = u1 (G (pc S j)) 3 (G (pc S j) 3 + 1)) (f1 : H (pc S (r 0)) 1 = 0 ∧ H (pc S (r 0)) 2 = pc S j ∧ H (pc S (r 0)) 3 = 0) (f2 : H (pc S (r 0)) 4 = a ∧ H (pc S (r 0)) 5 = b ∧ H (pc S (r 0)) 6 = d ∧ H (pc S (r 0)) 7 = -1) (f3 : H (pc S (r 0)) 8 = 0 ∧ H (pc S (r 0)) 9 = -1 ∧ H (pc S (r 0)) 10 = -1 ∧ H (pc S (r 0)) 11 = 0) (f4 : H (pc S (r 0)) 12 = -1 ∧ H (pc S (r 0)) 13 = 0 ∧ H (pc S (r 0)) 14 = 0) : CP S H (cmR r j a b d) := by
  have hM : 1 ≤ r 0 ∧ r 0 < 40 := ⟨hw.1.1, hr⟩
  obtain ⟨⟨p1, p2, p3, p4, p5, p6⟩, h2, h3, h4, h5, h6, h7⟩ := h
  obtain ⟨n1, n2, n3, n4, n5, n6⟩ := cmR_n (r := r) (a := j) (c := a) (gp := b) (b := d) hM
  obtain ⟨m1, m2, m3, m4, m5⟩ := cmR_m (r := r) (a := j) (b := a) (c := b) (d := d) hM
  have o := fun k => cmR_o (r := r) (a := j) (c := a) (gp := b) (b := d) (k := k) hM
  have bn := pc_b (T := S) (i := r 0) (by omega)
  have bj := pc_b (T := S) (i := j) (by omega)
  have ej : ∀ y, ¬ y = 3 → H (pc S j) y = G (pc S j) y := fun y hy => by rw [hk, u1_n hy]
  have ec : ∀ i, 0 ≤ i → i < 40 → ¬ i = r 0 → ∀ y, ¬ (i = j ∧ y = 3) → H (pc S i) y = G (pc S i) y := fun i i0 i1 i2 y hy => by
    have bi := pc_b (T := S) (i := i) ⟨i0, i1⟩
    by_cases e : i = j
    · subst e
      exact ej y (fun z => hy ⟨rfl, z⟩)
    · rw [ho _ (by omega) (pc_ne i0 (by omega) i2) (pc_ne i0 hj.1 e)]
  refine ⟨?_, fun i i0 i1 => ?_, fun x x0 x1 => ?_, fun i i0 i1 => ?_, fun i i0 i1 => ?_, fun i i0 i1 => ?_, RU_e h7 (fun k k0 k1 => o k (by omega))⟩
  · rw [hT, u1_s, u1_n (by omega), u1_n (by omega), u1_n (by omega), u1_n (by omega), u1_n (by omega), cmR_0, o 1 (by omega), o 2 (by omega), o 3 (by omega), o 4 (by omega), o 59 (by omega)]
    exact ⟨rfl, p2, p3, p4, p5, p6⟩
  · rw [ho _ (by omega) (by omega) (by omega), o 5 (by omega), o _ (by omega)]
    exact h2 i i0 i1
  · rw [ho _ (by omega) (by omega) (by omega), o _ (by omega)]
    exact h3 x x0 x1
  · rw [cmR_0] at i1
    by_cases e : i = r 0
    · subst e
      refine ⟨⟨f1.1.trans n3.symm, f2.1.trans n2.symm, f2.2.1.trans n4.symm, f2.2.2.1.trans n5.symm, f2.2.2.2.trans n6.symm, f3.1.trans m2.symm, f3.2.1.trans m1.symm, f3.2.2.2.trans m3.symm, f4.1.trans m4.symm⟩, fun x x0 x1 => ?_, ?_, fun z => absurd n3 z⟩
      · rw [f4.2.2, m5 x x0 x1]
        obtain ⟨f, ef⟩ := f8 ⟨x0, x1⟩
        rw [ef]; exact wl_0 f
      · rw [kids_cm hw hr i0, kids_n hw, if_neg (by omega)]; exact f1.2.2
    · have pe := h4 i i0 (by omega)
      obtain ⟨⟨a1, a2, a3, a4, a5, a6, a7, a8, a9⟩, w1, w2, w3⟩ := pe
      have ey : ∀ y, ¬ y = 3 → H (pc S i) y = G (pc S i) y := fun y hy => ec i i0 (by omega) e y (fun z => hy z.2)
      refine ⟨⟨?_, ?_, ?_, ?_, ?_, ?_, ?_, ?_, ?_⟩, fun x x0 x1 => ?_, ?_, fun z => ?_⟩
      · rw [ey _ (by omega), o _ (by omega)]; exact a1
      · rw [ey _ (by omega), o _ (by omega)]; exact a2
      · rw [ey _ (by omega), o _ (by omega)]; exact a3
      · rw [ey _ (by omega), o _ (by omega)]; exact a4
      · rw [ey _ (by omega), o _ (by omega)]; exact a5
      · rw [ey _ (by omega), o _ (by omega)]; exact a6
      · rw [ey _ (by omega), o _ (by omega)]; exact a7
      · rw [ey _ (by omega), o _ (by omega)]; exact a8
      · rw [ey _ (by omega), o _ (by omega)]; exact a9
      · rw [ey _ (by omega), o _ (by omega)]; exact w1 x x0 x1
      · rw [kids_cm hw hr i0]
        by_cases c : i = j
        · subst c
          rw [if_pos rfl, hk, u1_s, w2]
        · rw [if_neg c, ec i i0 (by omega) e 3 (fun z => c z.1), w2]; omega
      · rw [o _ (by omega)] at z
        have w3 := w3 z
        rw [ey _ (by omega), o 1 (by omega), o _ (by omega)]
        exact w3
  · rw [cmR_0] at i1
    by_cases e : i = r 0
    · subst e
      rw [n1]; exact f1.2.1
    · rw [ec i (by omega) (by omega) e 2 (by omega), o _ (by omega)]
      exact h5 i i0 (by omega)
  · rw [cmR_0] at i0
    rw [ec i (by omega) i1 (by omega) 1 (by omega)]
    exact h6 i (by omega) i1
end PAR5B
/-! ===== the tree that is read: no marks of doom, no adoption by the root (own work) ===== -/
section PAR5Q
variable {g G H : gH} {r r' : Int → Int} {a b c d i j k p s v w x y S T : Int}
/-- the tree S says what the row says; no marks, no adoption -/
def CQ (S : Int) (G : gH) (r : Int → Int) : Prop :=
  (G S 5 = r 0 ∧ G S 6 = r 1 ∧ G S 7 = r 2 ∧ G S 8 = r 3 ∧ G S 9 = r 4 ∧ G S 4 = r 59) ∧
  (∀ i, 0 ≤ i → i < 5 → G (S + 4) i = if i < r 5 then r (6 + i) else -1) ∧
  (∀ d, 0 ≤ d → d < 8 → G (S + 3) d = r (11 + d)) ∧
  (∀ i, 0 ≤ i → i < r 0 → PE (G (pc S i)) r i) ∧
  (∀ i, 1 ≤ i → i < r 0 → G (pc S i) 2 = pc S (r (60 + i))) ∧
  (∀ i, r 0 ≤ i → i < 40 → G (pc S i) 1 = 3) ∧ RU r ∧ (∀ i, 0 ≤ i → i < 40 → G (pc S i) 13 = 0) ∧ r 3 = 0 ∧ r 60 = -1 ∧ r 380 = 0
theorem CQ_P (h : CQ S G r) : CP S G r := ⟨h.1, h.2.1, h.2.2.1, h.2.2.2.1, h.2.2.2.2.1, h.2.2.2.2.2.1, h.2.2.2.2.2.2.1⟩
theorem CQ_of (h : CP S G r) (hd : ∀ i, 0 ≤ i → i < 40 → G (pc S i) 13 = 0) (h3 : r 3 = 0 ∧ r 60 = -1 ∧ r 380 = 0) : CQ S G r := ⟨h.1, h.2.1, h.2.2.1, h.2.2.2.1, h.2.2.2.2.1, h.2.2.2.2.2.1, h.2.2.2.2.2.2, hd, h3⟩
theorem CQ_d0 (h : CQ S G r) : ∀ i, 0 ≤ i → i < 40 → G (pc S i) 13 = 0 := h.2.2.2.2.2.2.2.1
theorem CQ_r3 (h : CQ S G r) : r 3 = 0 ∧ r 60 = -1 ∧ r 380 = 0 := h.2.2.2.2.2.2.2.2
theorem CQ_eq (h : CQ S G r) (hr : 0 ≤ r 0 ∧ r 0 ≤ 40) (e : ∀ x, S ≤ x → x < S + 44 → H x = G x) : CQ S H r :=
  CQ_of (CP_eq (CQ_P h) hr e) (fun i i0 i1 => by
    have := pc_b (T := S) ⟨i0, i1⟩
    rw [e _ (by omega) (by omega)]; exact CQ_d0 h i i0 i1) (CQ_r3 h)
theorem CF_CQ : CF (CQ 578) := fun G H r h hr e => CQ_eq h hr (fun x x0 x1 => e x x0 (by omega))
theorem CQ_hd (h : CQ S G r) (hr : 0 ≤ r 0 ∧ r 0 ≤ 40) (h1 : r 1 ≤ 40) (e : ∀ k, k = 0 ∨ k = 1 ∨ k = 3 ∨ (19 ≤ k ∧ k < 59) ∨ 60 ≤ k → r' k = r k) (ec : ∀ x, S < x → x < S + 44 → ¬ x = S + 3 → ¬ x = S + 4 → H x = G x)
    (c1 : H S 5 = r 0 ∧ H S 6 = r 1 ∧ H S 7 = r' 2 ∧ H S 8 = r' 3 ∧ H S 9 = r' 4 ∧ H S 4 = r' 59) (c2 : ∀ i, 0 ≤ i → i < 5 → H (S + 4) i = if i < r' 5 then r' (6 + i) else -1) (c3 : ∀ d, 0 ≤ d → d < 8 → H (S + 3) d = r' (11 + d)) (hu : RU r') : CQ S H r' :=
  CQ_of (CP_hd (CQ_P h) hr h1 (fun k hk => e k (by omega)) ec c1 c2 c3 hu) (fun i i0 i1 => by
    have := pc_b (T := S) ⟨i0, i1⟩
    rw [ec _ this.1 this.2.1 this.2.2.2.1 this.2.2.2.2]; exact CQ_d0 h i i0 i1) (by rw [e 3 (by omega), e 60 (by omega), e 380 (by omega)]; exact CQ_r3 h)
theorem CQ_d (h : CQ S G r) (hr : 0 ≤ r 0 ∧ r 0 ≤ 40) (h1 : r 1 ≤ 40) (hd : 0 ≤ d ∧ d < 8) : CQ S (pU G (S + 3) d v) (u1 r (11 + d) v) :=
  CQ_of (CP_d (CQ_P h) hr h1 hd) (fun i i0 i1 => by
    have := pc_b (T := S) ⟨i0, i1⟩
    rw [pU_n (by omega)]; exact CQ_d0 h i i0 i1) (by rw [u1_n (by omega), u1_n (by omega), u1_n (by omega)]; exact CQ_r3 h)
theorem CQ_pf (h : CQ S G r) (hr : 0 ≤ r 0 ∧ r 0 ≤ 40) (h1 : r 1 ≤ 40) (hp : 0 ≤ p ∧ p < r 0) (hab : (a = 4 ∧ b = 100) ∨ (a = 5 ∧ b = 180) ∨ (a = 6 ∧ b = 220) ∨ (a = 7 ∧ b = 260) ∨ (a = 8 ∧ b = 340) ∨ (a = 9 ∧ b = 300) ∨ (a = 12 ∧ b = 420)) : CQ S (pU G (pc S p) a v) (u1 r (b + p) v) :=
  CQ_of (CP_pf (CQ_P h) hr h1 hp (by rcases hab with h | h | h | h | h | h | h; exact Or.inl h; exact Or.inr (Or.inl h); exact Or.inr (Or.inr (Or.inl h)); exact Or.inr (Or.inr (Or.inr (Or.inl h))); exact Or.inr (Or.inr (Or.inr (Or.inr (Or.inl h)))); exact Or.inr (Or.inr (Or.inr (Or.inr (Or.inr (Or.inl h))))); exact Or.inr (Or.inr (Or.inr (Or.inr (Or.inr (Or.inr (Or.inr h)))))))) (fun i i0 i1 => by rw [pU_y (by rcases hab with ⟨rfl, -⟩ | ⟨rfl, -⟩ | ⟨rfl, -⟩ | ⟨rfl, -⟩ | ⟨rfl, -⟩ | ⟨rfl, -⟩ | ⟨rfl, -⟩ <;> omega)]; exact CQ_d0 h i i0 i1) (by
    rcases hab with ⟨-, rfl⟩ | ⟨-, rfl⟩ | ⟨-, rfl⟩ | ⟨-, rfl⟩ | ⟨-, rfl⟩ | ⟨-, rfl⟩ | ⟨-, rfl⟩ <;> (rw [u1_n (by omega), u1_n (by omega), u1_n (by omega)]; exact CQ_r3 h))
theorem CQ_p0 (h : CQ S G r) (hr : 1 ≤ r 0 ∧ r 0 ≤ 40) (h1 : r 1 ≤ 40) (hab : (a = 4 ∧ b = 100) ∨ (a = 6 ∧ b = 220)) : CQ S (pU G (S + 1) a v) (u1 r b v) :=
  CQ_of (CP_p0 (CQ_P h) hr h1 hab) (fun i i0 i1 => by rw [pU_y (by omega)]; exact CQ_d0 h i i0 i1) (by rw [u1_n (by omega), u1_n (by omega), u1_n (by omega)]; exact CQ_r3 h)
theorem CQ_wl (h : CQ S G r) (hr : 0 ≤ r 0 ∧ r 0 ≤ 40) (h1 : r 1 ≤ 40) (hp : 0 ≤ p ∧ p < r 0) (hd : 0 ≤ d ∧ d < 8) (hw : ∀ j, 0 ≤ j → j < 8 → wl w j = if j = d then v else wl (G (pc S p) 14) j) : CQ S (pU G (pc S p) 14 w) (u1 r (460 + 8 * p + d) v) :=
  CQ_of (CP_wl (CQ_P h) hr h1 hp hd hw) (fun i i0 i1 => by rw [pU_y (by omega)]; exact CQ_d0 h i i0 i1) (by rw [u1_n (by omega), u1_n (by omega), u1_n (by omega)]; exact CQ_r3 h)
theorem CQ_cm (h : CQ S G r) (hw : WB r) (hr : r 0 < 40) (h1 : r 1 ≤ 40) (hj : 0 ≤ j ∧ j < r 0) (hT : H S = u1 (G S) 5 (r 0 + 1)) (ho : ∀ x, ¬ x = S → ¬ x = pc S (r 0) → ¬ x = pc S j → H x = G x) (hk : H (pc S j) = u1 (G (pc S j)) 3 (G (pc S j) 3 + 1)) (f1 : H (pc S (r 0)) 1 = 0 ∧ H (pc S (r 0)) 2 = pc S j ∧ H (pc S (r 0)) 3 = 0) (f2 : H (pc S (r 0)) 4 = a ∧ H (pc S (r 0)) 5 = b ∧ H (pc S (r 0)) 6 = d ∧ H (pc S (r 0)) 7 = -1) (f3 : H (pc S (r 0)) 8 = 0 ∧ H (pc S (r 0)) 9 = -1 ∧ H (pc S (r 0)) 10 = -1 ∧ H (pc S (r 0)) 11 = 0) (f4 : H (pc S (r 0)) 12 = -1 ∧ H (pc S (r 0)) 13 = 0 ∧ H (pc S (r 0)) 14 = 0) : CQ S H (cmR r j a b d) := by
  have hM := hw.1
  refine CQ_of (CP_cm (CQ_P h) hw hr h1 hj hT ho hk f1 f2 f3 f4) (fun i i0 i1 => ?_) ?_
  · have bi := pc_b (T := S) ⟨i0, i1⟩
    by_cases z : i = r 0
    · rw [z]; exact f4.2.1
    · by_cases z2 : i = j
      · rw [z2, hk, u1_n (by omega)]; exact CQ_d0 h j hj.1 (by omega)
      · rw [ho _ (by omega) (pc_ne i0 (by omega) z) (pc_ne i0 hj.1 z2)]; exact CQ_d0 h i i0 i1
  · rw [cmR_o (by omega) (by omega), cmR_o (by omega) (by omega), cmR_o (by omega) (by omega)]; exact CQ_r3 h
end PAR5Q
