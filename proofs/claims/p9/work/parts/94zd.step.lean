/-! ===== a call of both from one heap: the class's first, then the reference's (own work) ===== -/
section PAR41
variable {g g' G G' H H' K : gH} {r r' dm : Int → Int} {a b c d i j l m n o p q s t u v w x y z S T gp code : Int}
theorem MI_x (h : MInv G) (e : ∀ x, 624 ≤ x → x < 635 → H x = G x) : MInv H := by
  unfold MInv MS at *
  rw [e 624 (by omega) (by omega), e 625 (by omega) (by omega), e 628 (by omega) (by omega), e 629 (by omega) (by omega), e 630 (by omega) (by omega)]
  exact h
theorem CI_x (h : CInv G) (e : ∀ x, x < 624 → H x = G x) : CInv H := by
  obtain ⟨⟨h1, h2, h3, h4, h5, h6, h7⟩, ht, hl⟩ := h
  refine ⟨⟨by rw [e 0 (by omega)]; exact h1, by rw [e 133 (by omega)]; exact h2, by rw [e 134 (by omega)]; exact h3, by rw [e 575 (by omega)]; exact h4, by rw [e 575 (by omega)]; exact h5, by rw [e 576 (by omega)]; exact h6, by rw [e 622 (by omega)]; exact h7⟩, fun S hS => ?_, by rw [e 576 (by omega)]; exact hl⟩
  have o := out_Ts S hS
  exact TI_F (ht S hS) (fun x x0 x1 => e x (by omega))
/-- of the class's heap it speaks below 624, of the reference's from 624 to 634 -/
theorem JA_x (h : JA G H) (e1 : ∀ x, x < 624 → G' x = G x) (e2 : ∀ x, 624 ≤ x → x < 635 → H' x = H x) : JA G' H' := by
  obtain ⟨h1, h2, h3, h4, h5, h6⟩ := h
  exact ⟨CI_x h1 e1, MI_x h2 e2, by rw [e2 625 (by omega) (by omega)]; exact QQ_eq h3 (fun x x0 x1 => e1 x (by omega)), RG_e h4 (fun x x0 x1 => e1 x (by omega)) (by rw [e2 624 (by omega) (by omega)]) (e2 629 (by omega) (by omega)), SV_e h5 (fun x x0 x1 => e1 x (by omega)) (by rw [e1 0 (by omega)]) (by rw [e2 624 (by omega) (by omega)]) (e2 628 (by omega) (by omega)), IE_e h6 (fun x x0 x1 => e1 x (by omega)) (fun k k0 k1 => by rw [e2 624 (by omega) (by omega)]) (e2 631 (by omega) (by omega))⟩
theorem fr_WC {E : Nat → Prop} {X : Option (Nat × (Int × gH))} (h : WC E g X) : ∀ e v G, X = some (e, (v, G)) → ∀ x, 624 ≤ x → G x = g x := by
  intro e v G he
  obtain ⟨e', v', G', q, z⟩ := h
  rw [he] at q
  cases q
  rcases z with ⟨-, c⟩ | ⟨k, -, -, c⟩
  · exact fun x x0 => c.2.1 x (Or.inr x0)
  · exact fun x x0 => c.2.1 x (Or.inr x0)
theorem fr_PO {X : Option (Int × gH)} (h : PO K X) : ∀ w H, X = some (w, H) → MF K H := by
  intro w H he
  obtain ⟨w', H', q, -, f, -⟩ := h
  rw [he] at q
  cases q
  exact f
/-- a call that may throw -/
theorem step_T {tm : Nat → Int} {P : Prop} {Xc : Option (Nat × (Int × gH))} {Y : gH → Option (Int × gH)} (h : JA g g) (hj : ∀ K, JA g K → JO tm P Xc (Y K)) (hc : ∀ e v G, Xc = some (e, (v, G)) → ∀ x, 624 ≤ x → G x = g x) (hm : ∀ K w H, MInv K → Y K = some (w, H) → MF K H) : ∃ e v G, Xc = some (e, (v, G)) ∧ ∀ G1, (∀ x, ¬ x = 635 → G1 x = G x) → ∃ w H, Y G1 = some (w, H) ∧ JA H H ∧ H 635 = G1 635 ∧ ((e = 0 ∧ H 624 8 = 0 ∧ (P → v = w)) ∨ ∃ k, e = k + 1 ∧ H 624 8 = tm k ∧ ¬ tm k = 0) := by
  have go : ∀ e v G, Xc = some (e, (v, G)) → ∀ G1, (∀ x, ¬ x = 635 → G1 x = G x) → ∃ w H, Y G1 = some (w, H) ∧ JA H H ∧ H 635 = G1 635 ∧ ((e = 0 ∧ H 624 8 = 0 ∧ (P → v = w)) ∨ ∃ k, e = k + 1 ∧ H 624 8 = tm k ∧ ¬ tm k = 0) := by
    intro e v G he G1 hG1
    have fr := hc e v G he
    have jK : JA g G1 := JA_x h (fun _ _ => rfl) (fun x x0 x1 => (hG1 x (by omega)).trans (fr x x0))
    rcases hj G1 jK with ⟨v', w', G', H', a1, a2, b1, b2, b3⟩ | ⟨k, v', w', G', H', a1, a2, b1, b2, b3⟩
    · rw [he] at a1
      cases a1
      have mf := hm G1 w' H' jK.2.1 a2
      exact ⟨w', H', a2, JA_x b1 (fun x hx => (mf x (by omega)).trans (hG1 x (by omega))) (fun _ _ _ => rfl), mf 635 (by omega), Or.inl ⟨rfl, b2, b3⟩⟩
    · rw [he] at a1
      cases a1
      have mf := hm G1 w' H' jK.2.1 a2
      exact ⟨w', H', a2, JA_x b1 (fun x hx => (mf x (by omega)).trans (hG1 x (by omega))) (fun _ _ _ => rfl), mf 635 (by omega), Or.inr ⟨k, rfl, b2, b3⟩⟩
  rcases hj g h with ⟨v, w, G, H, e1, -⟩ | ⟨k, v, w, G, H, e1, -⟩
  · exact ⟨0, v, G, e1, go 0 v G e1⟩
  · exact ⟨k + 1, v, G, e1, go (k + 1) v G e1⟩
theorem k635 : kd 635 = 23 ∧ (0 : Int) ≤ 0 ∧ 0 < sz 635 := by decide +kernel
/-- through the law's own method, which stores the answer -/
theorem step_W {tm : Nat → Int} {P : Prop} {Xc : Option (Nat × (Int × gH))} {Y : gH → Option (Int × gH)} {W : Nat → gH → Option (Int × gH)} (h : JA g g) (hj : ∀ K, JA g K → JO tm P Xc (Y K)) (hc : ∀ e v G, Xc = some (e, (v, G)) → ∀ x, 624 ≤ x → G x = g x) (hm : ∀ K w H, MInv K → Y K = some (w, H) → MF K H) (hW : ∀ k G, ¬ tm k = 0 → W k G = some (tm k, G)) : ∃ c G1 w H, bdT Xc (fun y2 g4 => if kd 635 = 23 ∧ (0 : Int) ≤ 0 ∧ 0 < sz 635 then bnd (pU g4 635 0 y2) (fun g9 => some (0, g9)) else none) W = some (c, G1) ∧ Y G1 = some (w, H) ∧ JA H H ∧ H 624 8 = c ∧ (c = 0 → P → H 635 0 = w) := by
  obtain ⟨e, v, G, e1, hk⟩ := step_T h hj hc hm
  cases e with
  | zero =>
    obtain ⟨w, H, a1, a2, a3, a4⟩ := hk (pU G 635 0 v) (fun x hx => pU_n hx)
    rcases a4 with ⟨-, b2, b3⟩ | ⟨k, b1, -⟩
    · refine ⟨0, pU G 635 0 v, w, H, by rw [e1, bdT_0, if_pos k635, bnd_s], a1, a2, b2, fun _ hP => ?_⟩
      rw [a3, pU_s, u1_s]; exact b3 hP
    · cases b1
  | succ k =>
    obtain ⟨w, H, a1, a2, a3, a4⟩ := hk G (fun _ _ => rfl)
    rcases a4 with ⟨b1, -⟩ | ⟨k', b1, b2, b3⟩
    · cases b1
    · cases b1
      exact ⟨tm k, G, w, H, by rw [e1, bdT_e]; exact hW k G b3, a1, a2, b2, fun z => absurd z b3⟩
/-- the same, where the answer is told by 0 or 1 -/
theorem step_W2 {tm : Nat → Int} {P : Prop} {Xc : Option (Nat × (Int × gH))} {Y : gH → Option (Int × gH)} {W : Nat → gH → Option (Int × gH)} (h : JA g g) (hj : ∀ K, JA g K → JO tm P Xc (Y K)) (hc : ∀ e v G, Xc = some (e, (v, G)) → ∀ x, 624 ≤ x → G x = g x) (hm : ∀ K w H, MInv K → Y K = some (w, H) → MF K H) (hW : ∀ k G, ¬ tm k = 0 → W k G = some (tm k, G)) : ∃ c G1 w H, bdT Xc (fun y2 g4 => if y2 = 0 then (if kd 635 = 23 ∧ (0 : Int) ≤ 0 ∧ 0 < sz 635 then bnd (pU g4 635 0 0) (fun g11 => some (0, g11)) else none) else (if kd 635 = 23 ∧ (0 : Int) ≤ 0 ∧ 0 < sz 635 then bnd (pU g4 635 0 1) (fun g14 => some (0, g14)) else none)) W = some (c, G1) ∧ Y G1 = some (w, H) ∧ JA H H ∧ H 624 8 = c ∧ (c = 0 → P → H 635 0 = if w = 0 then 0 else 1) := by
  obtain ⟨e, v, G, e1, hk⟩ := step_T h hj hc hm
  cases e with
  | zero =>
    have go : ∀ u, u = (if v = 0 then 0 else 1) → ∃ w H, Y (pU G 635 0 u) = some (w, H) ∧ JA H H ∧ H 624 8 = 0 ∧ (P → H 635 0 = if w = 0 then 0 else 1) := by
      intro u hu
      obtain ⟨w, H, a1, a2, a3, a4⟩ := hk (pU G 635 0 u) (fun x hx => pU_n hx)
      rcases a4 with ⟨-, b2, b3⟩ | ⟨k, b1, -⟩
      · refine ⟨w, H, a1, a2, b2, fun hP => ?_⟩
        rw [a3, pU_s, u1_s, hu, b3 hP]
      · cases b1
    by_cases z : v = 0
    · obtain ⟨w, H, a1, a2, a3, a4⟩ := go 0 (by rw [if_pos z])
      exact ⟨0, pU G 635 0 0, w, H, by rw [e1, bdT_0, if_pos z, if_pos k635, bnd_s], a1, a2, a3, fun _ hP => a4 hP⟩
    · obtain ⟨w, H, a1, a2, a3, a4⟩ := go 1 (by rw [if_neg z])
      exact ⟨0, pU G 635 0 1, w, H, by rw [e1, bdT_0, if_neg z, if_pos k635, bnd_s], a1, a2, a3, fun _ hP => a4 hP⟩
  | succ k =>
    obtain ⟨w, H, a1, a2, a3, a4⟩ := hk G (fun _ _ => rfl)
    rcases a4 with ⟨b1, -⟩ | ⟨k', b1, b2, b3⟩
    · cases b1
    · cases b1
      exact ⟨tm k, G, w, H, by rw [e1, bdT_e]; exact hW k G b3, a1, a2, b2, fun z => absurd z b3⟩
/-- a call that never throws and changes the class -/
theorem step_N {P : Prop} {Xc : Option (Int × gH)} {Y : gH → Option (Int × gH)} (h : JA g g) (hj : ∀ K, JA g K → JN P Xc (Y K)) (hc : ∀ v G, Xc = some (v, G) → ∀ x, 624 ≤ x → G x = g x) (hm : ∀ K w H, MInv K → Y K = some (w, H) → MF K H) : ∃ v G w H, Xc = some (v, G) ∧ Y G = some (w, H) ∧ JA H H ∧ (P → v = w) := by
  obtain ⟨v, w, G, H, e1, -⟩ := hj g h
  have fr := hc v G e1
  have jK : JA g G := JA_x h (fun _ _ => rfl) (fun x x0 x1 => fr x x0)
  obtain ⟨v', w', G', H', a1, a2, b1, b2, b3⟩ := hj G jK
  rw [e1] at a1
  cases a1
  have mf := hm G w' H' jK.2.1 a2
  exact ⟨v, G, w', H', e1, a2, JA_x b1 (fun x hx => mf x (by omega)) (fun _ _ _ => rfl), b3⟩
/-- a question of the class, through the law's own method -/
theorem step_Q {tm : Nat → Int} {Xc : Option (Nat × Int)} {Y : gH → Option (Int × gH)} {W : Nat → Option (Int × gH)} (h : JA g g) (hj : ∀ K, JA g K → JQ tm g Xc (Y K)) (hm : ∀ K w H, MInv K → Y K = some (w, H) → MF K H) (hW : ∀ k, ¬ tm k = 0 → W k = some (tm k, g)) : ∃ c G1 w H, bdQ Xc (fun y2 => if kd 635 = 23 ∧ (0 : Int) ≤ 0 ∧ 0 < sz 635 then bnd (pU g 635 0 y2) (fun g9 => some (0, g9)) else none) W = some (c, G1) ∧ Y G1 = some (w, H) ∧ JA H H ∧ H 624 8 = c ∧ (c = 0 → H 635 0 = w) := by
  rcases hj g h with ⟨v, H, e1, -⟩ | ⟨k, v, w, H, e1, -, -, -, hn⟩
  · have jK : JA g (pU g 635 0 v) := JA_x h (fun _ _ => rfl) (fun x x0 x1 => pU_n (by omega))
    rcases hj _ jK with ⟨v', H', a1, a2, b1, b2⟩ | ⟨k, v', w', H', a1, -⟩
    · rw [e1] at a1
      cases a1
      have mf := hm _ v H' jK.2.1 a2
      refine ⟨0, pU g 635 0 v, v, H', by rw [e1, bdQ_0, if_pos k635, bnd_s], a2, JA_x b1 (fun x hx => (mf x (by omega)).trans (pU_n (by omega))) (fun _ _ _ => rfl), b2, fun _ => ?_⟩
      rw [mf 635 (by omega), pU_s, u1_s]
    · rw [e1] at a1
      cases a1
  · rcases hj g h with ⟨v', H', a1, -⟩ | ⟨k', v', w', H', a1, a2, b1, b2, b3⟩
    · rw [e1] at a1
      cases a1
    · rw [e1] at a1
      cases a1
      have mf := hm g w' H' h.2.1 a2
      exact ⟨tm k, g, w', H', by rw [e1, bdQ_e]; exact hW k hn, a2, JA_x b1 (fun x hx => mf x (by omega)) (fun _ _ _ => rfl), b2, fun z => absurd z hn⟩
/-- a question that isn't compared: the class's heap but for the place of the answer -/
theorem step_w {Y : gH → Option (Int × gH)} (h : JA g g) (hG : ∀ x, ¬ x = 635 → G x = g x) (hy : ∀ K, JA g K → ∃ w H, Y K = some (w, H) ∧ JA g H) (hm : ∀ K w H, MInv K → Y K = some (w, H) → MF K H) : ∃ w H, Y G = some (w, H) ∧ JA H H := by
  have jK : JA g G := JA_x h (fun _ _ => rfl) (fun x x0 x1 => hG x (by omega))
  obtain ⟨w, H, a1, a2⟩ := hy G jK
  have mf := hm G w H jK.2.1 a1
  exact ⟨w, H, a1, JA_x a2 (fun x hx => (mf x (by omega)).trans (hG x (by omega))) (fun _ _ _ => rfl)⟩
end PAR41
