/-! ===== the law's loop: it never answers false (own work, by program: wip/p7/gen_law3.py) ===== -/
section LAW96
variable {g g' G H K : gH} {a b c d k v w v4 L l : Int} {sc : Int → Int}
/-- between two calls -/
def JJ (g : gH) : Prop := HR g ∧ JA g g
theorem gl_self : glcmp w w = 0 := by
  unfold glcmp lg_cmp
  simp
theorem hr_N {Φ : ev_P} {P : Nat → ev_M} {t : Nat} {X : Option (Int × gH)} {D : Nat} {M : ev_M} {pc : Nat} {loc : ev_L} {st : List ev_V} {c s : Nat} (h : Go Φ P fN t X D M pc loc st g c s) (e : X = some (v, G)) : HR G := (h _ e).2.1
theorem fr_CN {X : Option (Int × gH)} (h : WN (fun _ H => CO g H) X) : ∀ v G, X = some (v, G) → ∀ x, 624 ≤ x → G x = g x := by
  intro v G he
  obtain ⟨v', G', q, c⟩ := h
  rw [he] at q
  cases q
  exact fun x x0 => c.2.1 x (Or.inr x0)
theorem same {X : Option (Int × gH)} (h : X = some (v, G)) (h' : X = some (w, H)) : v = w ∧ G = H := by
  have := Prod.mk.inj (Option.some.inj (h.symm.trans h'))
  exact this
theorem w_t3 {k : Nat} {G : gH} (h : ¬ t3 k = 0) : (if k = 2 then (some (1, G)) else if k = 0 then (some (2, G)) else if k = 1 then (some (3, G)) else none : Option (Int × gH)) = some (t3 k, G) := by
  unfold t3 at *
  by_cases c0 : k = 2
  · rw [if_pos c0, if_pos c0]
  · have := c0
    by_cases c1 : k = 0
    · rw [if_neg c0, if_pos c1, if_neg c0, if_pos c1]
    · have := c1
      by_cases c2 : k = 1
      · rw [if_neg c0, if_neg c1, if_pos c2, if_neg c0, if_neg c1, if_pos c2]
      · have := c2
        exact absurd (by rw [if_neg c0, if_neg c1, if_neg c2]) h
theorem w_t2 {k : Nat} {G : gH} (h : ¬ t2 k = 0) : (if k = 2 then (some (1, G)) else if k = 1 then (some (2, G)) else none : Option (Int × gH)) = some (t2 k, G) := by
  unfold t2 at *
  by_cases c0 : k = 2
  · rw [if_pos c0, if_pos c0]
  · have := c0
    by_cases c1 : k = 1
    · rw [if_neg c0, if_pos c1, if_neg c0, if_pos c1]
    · have := c1
      exact absurd (by rw [if_neg c0, if_neg c1]) h
theorem w_t0 {k : Nat} {G : gH} (h : ¬ t0 k = 0) : (if k = 0 then (some (1, G)) else none : Option (Int × gH)) = some (t0 k, G) := by
  unfold t0 at *
  by_cases c0 : k = 0
  · rw [if_pos c0, if_pos c0]
  · have := c0
    exact absurd (by rw [if_neg c0]) h
theorem w_tv {k : Nat} {G : gH} (h : ¬ tv k = 0) : (if k = 0 then (some (1, G)) else if k = 2 then (some (2, G)) else if k = 1 then (some (3, G)) else none : Option (Int × gH)) = some (tv k, G) := by
  unfold tv at *
  by_cases c0 : k = 0
  · rw [if_pos c0, if_pos c0]
  · have := c0
    by_cases c1 : k = 2
    · rw [if_neg c0, if_pos c1, if_neg c0, if_pos c1]
    · have := c1
      by_cases c2 : k = 1
      · rw [if_neg c0, if_neg c1, if_pos c2, if_neg c0, if_neg c1, if_pos c2]
      · have := c2
        exact absurd (by rw [if_neg c0, if_neg c1, if_neg c2]) h
theorem w_tr {k : Nat} {G : gH} (h : ¬ tr k = 0) : (if k = 2 then (some (1, G)) else if k = 1 then (some (2, G)) else if k = 3 then (some (3, G)) else none : Option (Int × gH)) = some (tr k, G) := by
  unfold tr at *
  by_cases c0 : k = 2
  · rw [if_pos c0, if_pos c0]
  · have := c0
    by_cases c1 : k = 1
    · rw [if_neg c0, if_pos c1, if_neg c0, if_pos c1]
    · have := c1
      by_cases c2 : k = 3
      · rw [if_neg c0, if_neg c1, if_pos c2, if_neg c0, if_neg c1, if_pos c2]
      · have := c2
        exact absurd (by rw [if_neg c0, if_neg c1, if_neg c2]) h
theorem w_t1 {k : Nat} {G : gH} (h : ¬ t1 k = 0) : (if k = 1 then (some (1, G)) else none : Option (Int × gH)) = some (t1 k, G) := by
  unfold t1 at *
  by_cases c0 : k = 1
  · rw [if_pos c0, if_pos c0]
  · have := c0
    exact absurd (by rw [if_neg c0]) h
theorem dJ_errorCode (Φ : ev_P) (h : JJ g) : ∃ v w H, fC_errorCode g 0 = some v ∧ fM_errorCode g 624 = some (w, H) ∧ JJ H := by
  obtain ⟨v, e0, -⟩ := tC_errorCode h.2.1
  obtain ⟨w, H, e2, e3⟩ := step_w (Y := fun K => fM_errorCode K 624) (G := g) h.2 (fun _ _ => rfl) (fun K hK => jw_Q hK (oM_errorCode hK.2.1) (q8_fM_errorCode E8_r)) (fun K w H hK => fr_PO (oM_errorCode hK) w H)
  have hG := h.1
  have hH := hr_N (tfM_errorCode (Φ := Φ) (d := 200) (by decide) hG kd_c624) e2
  exact ⟨v, w, H, e0, e2, hH, e3⟩
theorem dJ_errorOffset (Φ : ev_P) (h : JJ g) : ∃ v w H, fC_errorOffset g 0 = some v ∧ fM_errorOffset g 624 = some (w, H) ∧ JJ H := by
  obtain ⟨v, e0, -⟩ := tC_errorOffset h.2.1
  obtain ⟨w, H, e2, e3⟩ := step_w (Y := fun K => fM_errorOffset K 624) (G := g) h.2 (fun _ _ => rfl) (fun K hK => jw_Q hK (oM_errorOffset hK.2.1) (q8_fM_errorOffset E8_r)) (fun K w H hK => fr_PO (oM_errorOffset hK) w H)
  have hG := h.1
  have hH := hr_N (tfM_errorOffset (Φ := Φ) (d := 200) (by decide) hG kd_c624) e2
  exact ⟨v, w, H, e0, e2, hH, e3⟩
theorem dJ_count (Φ : ev_P) (h : JJ g) (r1 : InR a) : ∃ z G w H, fW_count g 0 a 635 = some (z, G) ∧ fM_count G 624 a = some (w, H) ∧ JJ H := by
  have e0 : ∃ (z : Int) (G : gH), fW_count g 0 a 635 = some (z, G) ∧ ∀ x, ¬ x = 635 → G x = g x := by
    rw [fW_count, if_pos kd_c0]
    refine W_bdQ (W := fun (X : Option (Int × gH)) => ∃ (z : Int) (G : gH), X = some (z, G) ∧ ∀ x, ¬ x = 635 → G x = g x) (tC_count h.2.1) (fun y _ => ?_) (fun e he => ?_)
    · rw [if_pos k635, bnd_s]
      exact ⟨_, _, rfl, fun x hx => pU_n hx⟩
    · subst he
      exact ⟨_, _, rfl, fun _ _ => rfl⟩
  obtain ⟨z, G, e0, fG⟩ := e0
  obtain ⟨w, H, e2, e3⟩ := step_w (Y := fun K => fM_count K 624 a) h.2 fG (fun K hK => jw_Q hK (oM_count hK.2.1) (q8_fM_count E8_r)) (fun K w H hK => fr_PO (oM_count hK) w H)
  have hG := hr_N (tfW_count (Φ := Φ) (d := 200) (by decide) h.1 (rfR_of (by decide)) r1 (rfR_of (by decide))) e0
  have hH := hr_N (tfM_count (Φ := Φ) (d := 200) (by decide) hG kd_c624 r1) e2
  exact ⟨z, G, w, H, e0, e2, hH, e3⟩
theorem dJ_process (Φ : ev_P) (h : JJ g) (r1 : InR a) (r2 : InR b) : ∃ z G w H, fW_process g 0 a b 635 = some (z, G) ∧ fM_process G 624 a b = some (w, H) ∧ JJ H := by
  have e0 : ∃ (z : Int) (G : gH), fW_process g 0 a b 635 = some (z, G) ∧ ∀ x, ¬ x = 635 → G x = g x := by
    rw [fW_process, if_pos kd_c0]
    refine W_bdQ (W := fun (X : Option (Int × gH)) => ∃ (z : Int) (G : gH), X = some (z, G) ∧ ∀ x, ¬ x = 635 → G x = g x) (tC_process h.2.1) (fun y _ => ?_) (fun e he => ?_)
    · rw [if_pos k635, bnd_s]
      exact ⟨_, _, rfl, fun x hx => pU_n hx⟩
    · rcases he with rfl | rfl <;> exact ⟨_, _, rfl, fun _ _ => rfl⟩
  obtain ⟨z, G, e0, fG⟩ := e0
  obtain ⟨w, H, e2, e3⟩ := step_w (Y := fun K => fM_process K 624 a b) h.2 fG (fun K hK => jw_Q hK (oM_process hK.2.1) (q8_fM_process E8_r)) (fun K w H hK => fr_PO (oM_process hK) w H)
  have hG := hr_N (tfW_process (Φ := Φ) (d := 200) (by decide) h.1 (rfR_of (by decide)) r1 r2 (rfR_of (by decide))) e0
  have hH := hr_N (tfM_process (Φ := Φ) (d := 200) (by decide) hG kd_c624 r1 r2) e2
  exact ⟨z, G, w, H, e0, e2, hH, e3⟩
theorem dJ_holder (Φ : ev_P) (h : JJ g) (r1 : InR a) : ∃ z G w H, fW_holder g 0 a 635 = some (z, G) ∧ fM_holder G 624 a = some (w, H) ∧ JJ H := by
  have e0 : ∃ (z : Int) (G : gH), fW_holder g 0 a 635 = some (z, G) ∧ ∀ x, ¬ x = 635 → G x = g x := by
    rw [fW_holder, if_pos kd_c0]
    refine W_bdQ (W := fun (X : Option (Int × gH)) => ∃ (z : Int) (G : gH), X = some (z, G) ∧ ∀ x, ¬ x = 635 → G x = g x) (tC_holder h.2.1) (fun y _ => ?_) (fun e he => ?_)
    · rw [if_pos k635, bnd_s]
      exact ⟨_, _, rfl, fun x hx => pU_n hx⟩
    · subst he
      exact ⟨_, _, rfl, fun _ _ => rfl⟩
  obtain ⟨z, G, e0, fG⟩ := e0
  obtain ⟨w, H, e2, e3⟩ := step_w (Y := fun K => fM_holder K 624 a) h.2 fG (fun K hK => jw_Q hK (oM_holder hK.2.1) (q8_fM_holder E8_r)) (fun K w H hK => fr_PO (oM_holder hK) w H)
  have hG := hr_N (tfW_holder (Φ := Φ) (d := 200) (by decide) h.1 (rfR_of (by decide)) r1 (rfR_of (by decide))) e0
  have hH := hr_N (tfM_holder (Φ := Φ) (d := 200) (by decide) hG kd_c624 r1) e2
  exact ⟨z, G, w, H, e0, e2, hH, e3⟩
theorem dJ_rule (Φ : ev_P) (h : JJ g) (r1 : InR a) : ∃ v w H, fC_rule g 0 a = some v ∧ fM_rule g 624 a = some (w, H) ∧ JJ H := by
  obtain ⟨v, e0, -⟩ := tC_rule h.2.1
  obtain ⟨w, H, e2, e3⟩ := step_w (Y := fun K => fM_rule K 624 a) (G := g) h.2 (fun _ _ => rfl) (fun K hK => jw_Q hK (oM_rule hK.2.1) (q8_fM_rule E8_r)) (fun K w H hK => fr_PO (oM_rule hK) w H)
  have hG := h.1
  have hH := hr_N (tfM_rule (Φ := Φ) (d := 200) (by decide) hG kd_c624 r1) e2
  exact ⟨v, w, H, e0, e2, hH, e3⟩
theorem dJ_depth (Φ : ev_P) (h : JJ g) (r1 : InR a) : ∃ z G w H, fW_depth g 0 a 635 = some (z, G) ∧ fM_depth G 624 a = some (w, H) ∧ JJ H := by
  have e0 : ∃ (z : Int) (G : gH), fW_depth g 0 a 635 = some (z, G) ∧ ∀ x, ¬ x = 635 → G x = g x := by
    rw [fW_depth, if_pos kd_c0]
    refine W_bdQ (W := fun (X : Option (Int × gH)) => ∃ (z : Int) (G : gH), X = some (z, G) ∧ ∀ x, ¬ x = 635 → G x = g x) (tC_depth h.2.1) (fun y _ => ?_) (fun e he => ?_)
    · rw [if_pos k635, bnd_s]
      exact ⟨_, _, rfl, fun x hx => pU_n hx⟩
    · rcases he with rfl | rfl <;> exact ⟨_, _, rfl, fun _ _ => rfl⟩
  obtain ⟨z, G, e0, fG⟩ := e0
  obtain ⟨w, H, e2, e3⟩ := step_w (Y := fun K => fM_depth K 624 a) h.2 fG (fun K hK => jw_Q hK (oM_depth hK.2.1) (q8_fM_depth E8_r)) (fun K w H hK => fr_PO (oM_depth hK) w H)
  have hG := hr_N (tfW_depth (Φ := Φ) (d := 200) (by decide) h.1 (rfR_of (by decide)) r1 (rfR_of (by decide))) e0
  have hH := hr_N (tfM_depth (Φ := Φ) (d := 200) (by decide) hG kd_c624 r1) e2
  exact ⟨z, G, w, H, e0, e2, hH, e3⟩
theorem dJ_isAbove (Φ : ev_P) (h : JJ g) (r1 : InR a) (r2 : InR b) : ∃ z G w H, fW_isAbove g 0 a b 635 = some (z, G) ∧ fM_isAbove G 624 a b = some (w, H) ∧ JJ H := by
  have e0 : ∃ (z : Int) (G : gH), fW_isAbove g 0 a b 635 = some (z, G) ∧ ∀ x, ¬ x = 635 → G x = g x := by
    rw [fW_isAbove, if_pos kd_c0]
    refine W_bdQ (W := fun (X : Option (Int × gH)) => ∃ (z : Int) (G : gH), X = some (z, G) ∧ ∀ x, ¬ x = 635 → G x = g x) (tC_isAbove h.2.1) (fun y _ => ?_) (fun e he => ?_)
    · rw [if_pos k635, if_pos k635, bnd_s, bnd_s]
      split
      · exact ⟨_, _, rfl, fun x hx => pU_n hx⟩
      · exact ⟨_, _, rfl, fun x hx => pU_n hx⟩
    · subst he
      exact ⟨_, _, rfl, fun _ _ => rfl⟩
  obtain ⟨z, G, e0, fG⟩ := e0
  obtain ⟨w, H, e2, e3⟩ := step_w (Y := fun K => fM_isAbove K 624 a b) h.2 fG (fun K hK => jw_Q hK (oM_isAbove hK.2.1) (q8_fM_isAbove E8_r)) (fun K w H hK => fr_PO (oM_isAbove hK) w H)
  have hG := hr_N (tfW_isAbove (Φ := Φ) (d := 200) (by decide) h.1 (rfR_of (by decide)) r1 r2 (rfR_of (by decide))) e0
  have hH := hr_N (tfM_isAbove (Φ := Φ) (d := 200) (by decide) hG kd_c624 r1 r2) e2
  exact ⟨z, G, w, H, e0, e2, hH, e3⟩
theorem dJ_meet (Φ : ev_P) (h : JJ g) (r1 : InR a) (r2 : InR b) : ∃ z G w H, fW_meet g 0 a b 635 = some (z, G) ∧ fM_meet G 624 a b = some (w, H) ∧ JJ H := by
  have e0 : ∃ (z : Int) (G : gH), fW_meet g 0 a b 635 = some (z, G) ∧ ∀ x, ¬ x = 635 → G x = g x := by
    rw [fW_meet, if_pos kd_c0]
    refine W_bdQ (W := fun (X : Option (Int × gH)) => ∃ (z : Int) (G : gH), X = some (z, G) ∧ ∀ x, ¬ x = 635 → G x = g x) (tC_meet h.2.1) (fun y _ => ?_) (fun e he => ?_)
    · rw [if_pos k635, bnd_s]
      exact ⟨_, _, rfl, fun x hx => pU_n hx⟩
    · rcases he with rfl | rfl <;> exact ⟨_, _, rfl, fun _ _ => rfl⟩
  obtain ⟨z, G, e0, fG⟩ := e0
  obtain ⟨w, H, e2, e3⟩ := step_w (Y := fun K => fM_meet K 624 a b) h.2 fG (fun K hK => jw_Q hK (oM_meet hK.2.1) (q8_fM_meet E8_r)) (fun K w H hK => fr_PO (oM_meet hK) w H)
  have hG := hr_N (tfW_meet (Φ := Φ) (d := 200) (by decide) h.1 (rfR_of (by decide)) r1 r2 (rfR_of (by decide))) e0
  have hH := hr_N (tfM_meet (Φ := Φ) (d := 200) (by decide) hG kd_c624 r1 r2) e2
  exact ⟨z, G, w, H, e0, e2, hH, e3⟩
theorem dJ_below (Φ : ev_P) (h : JJ g) (r1 : InR a) : ∃ z G w H, fW_below g 0 a 635 = some (z, G) ∧ fM_below G 624 a = some (w, H) ∧ JJ H := by
  have e0 : ∃ (z : Int) (G : gH), fW_below g 0 a 635 = some (z, G) ∧ ∀ x, ¬ x = 635 → G x = g x := by
    rw [fW_below, if_pos kd_c0]
    refine W_bdQ (W := fun (X : Option (Int × gH)) => ∃ (z : Int) (G : gH), X = some (z, G) ∧ ∀ x, ¬ x = 635 → G x = g x) (tC_below h.2.1) (fun y _ => ?_) (fun e he => ?_)
    · rw [if_pos k635, bnd_s]
      exact ⟨_, _, rfl, fun x hx => pU_n hx⟩
    · subst he
      exact ⟨_, _, rfl, fun _ _ => rfl⟩
  obtain ⟨z, G, e0, fG⟩ := e0
  obtain ⟨w, H, e2, e3⟩ := step_w (Y := fun K => fM_below K 624 a) h.2 fG (fun K hK => jw_Q hK (oM_below hK.2.1) (q8_fM_below E8_r)) (fun K w H hK => fr_PO (oM_below hK) w H)
  have hG := hr_N (tfW_below (Φ := Φ) (d := 200) (by decide) h.1 (rfR_of (by decide)) r1 (rfR_of (by decide))) e0
  have hH := hr_N (tfM_below (Φ := Φ) (d := 200) (by decide) hG kd_c624 r1) e2
  exact ⟨z, G, w, H, e0, e2, hH, e3⟩
theorem dJ_walked (Φ : ev_P) (h : JJ g) (r1 : InR a) : ∃ z G w H, fW_walked g 0 a 635 = some (z, G) ∧ fM_walked G 624 a = some (w, H) ∧ JJ H := by
  have e0 : ∃ (z : Int) (G : gH), fW_walked g 0 a 635 = some (z, G) ∧ ∀ x, ¬ x = 635 → G x = g x := by
    rw [fW_walked, if_pos kd_c0]
    refine W_bdQ (W := fun (X : Option (Int × gH)) => ∃ (z : Int) (G : gH), X = some (z, G) ∧ ∀ x, ¬ x = 635 → G x = g x) (tC_walked h.2.1) (fun y _ => ?_) (fun e he => ?_)
    · rw [if_pos k635, bnd_s]
      exact ⟨_, _, rfl, fun x hx => pU_n hx⟩
    · subst he
      exact ⟨_, _, rfl, fun _ _ => rfl⟩
  obtain ⟨z, G, e0, fG⟩ := e0
  obtain ⟨w, H, e2, e3⟩ := step_w (Y := fun K => fM_walked K 624 a) h.2 fG (fun K hK => jw_Q hK (oM_walked hK.2.1) (q8_fM_walked E8_r)) (fun K w H hK => fr_PO (oM_walked hK) w H)
  have hG := hr_N (tfW_walked (Φ := Φ) (d := 200) (by decide) h.1 (rfR_of (by decide)) r1 (rfR_of (by decide))) e0
  have hH := hr_N (tfM_walked (Φ := Φ) (d := 200) (by decide) hG kd_c624 r1) e2
  exact ⟨z, G, w, H, e0, e2, hH, e3⟩
theorem dJ_atDepth (Φ : ev_P) (h : JJ g) (r1 : InR a) : ∃ v w H, fC_atDepth g 0 a = some v ∧ fM_atDepth g 624 a = some (w, H) ∧ JJ H := by
  obtain ⟨v, e0, -⟩ := tC_atDepth h.2.1
  obtain ⟨w, H, e2, e3⟩ := step_w (Y := fun K => fM_atDepth K 624 a) (G := g) h.2 (fun _ _ => rfl) (fun K hK => jw_Q hK (oM_atDepth hK.2.1) (q8_fM_atDepth E8_r)) (fun K w H hK => fr_PO (oM_atDepth hK) w H)
  have hG := h.1
  have hH := hr_N (tfM_atDepth (Φ := Φ) (d := 200) (by decide) hG kd_c624 r1) e2
  exact ⟨v, w, H, e0, e2, hH, e3⟩
theorem dJ_height (Φ : ev_P) (h : JJ g) : ∃ v w H, fC_height g 0 = some v ∧ fM_height g 624 = some (w, H) ∧ JJ H := by
  obtain ⟨v, e0, -⟩ := tC_height h.2.1
  obtain ⟨w, H, e2, e3⟩ := step_w (Y := fun K => fM_height K 624) (G := g) h.2 (fun _ _ => rfl) (fun K hK => jw_Q hK (oM_height hK.2.1) (q8_fM_height E8_r)) (fun K w H hK => fr_PO (oM_height hK) w H)
  have hG := h.1
  have hH := hr_N (tfM_height (Φ := Φ) (d := 200) (by decide) hG kd_c624) e2
  exact ⟨v, w, H, e0, e2, hH, e3⟩
theorem dJ_spawn (Φ : ev_P) (h : JJ g) (r1 : InR a) (r2 : InR b) (r3 : InR c) (r4 : InR d) : ∃ z G w H, fW_spawn g 0 a b c d 635 = some (z, G) ∧ fM_spawn G 624 a b c d = some (w, H) ∧ JJ H ∧ H 624 8 = z ∧ (z = 0 → H 635 0 = w) := by
  obtain ⟨z, G, w, H, e1, e2, e3, e4, e5⟩ := step_W (tm := t3) (P := True) (Y := fun K => fM_spawn K 624 a b c d) h.2 (fun K hK => jo_spawn hK) (fr_WC (tC_spawn (CO_r h.2.1))) (fun K w H hK => fr_PO (oM_spawn hK) w H) (fun k G hk => w_t3 hk)
  have e0 : fW_spawn g 0 a b c d 635 = some (z, G) := by rw [fW_spawn, if_pos kd_c0]; exact e1
  have hG := hr_N (tfW_spawn (Φ := Φ) (d := 200) (by decide) h.1 (rfR_of (by decide)) r1 r2 r3 r4 (rfR_of (by decide))) e0
  have hH := hr_N (tfM_spawn (Φ := Φ) (d := 200) (by decide) hG kd_c624 r1 r2 r3 r4) e2
  exact ⟨z, G, w, H, e0, e2, ⟨hH, e3⟩, e4, fun y => e5 y trivial⟩
theorem dJ_exit (Φ : ev_P) (h : JJ g) (r1 : InR a) (r2 : InR b) : ∃ z G w H, fW_exit g 0 a b 635 = some (z, G) ∧ fM_exit G 624 a b = some (w, H) ∧ JJ H ∧ H 624 8 = z ∧ (z = 0 → H 635 0 = w) := by
  obtain ⟨z, G, w, H, e1, e2, e3, e4, e5⟩ := step_W (tm := t3) (P := True) (Y := fun K => fM_exit K 624 a b) h.2 (fun K hK => jo_exit hK) (fr_WC (tC_exit (CO_r h.2.1))) (fun K w H hK => fr_PO (oM_exit hK) w H) (fun k G hk => w_t3 hk)
  have e0 : fW_exit g 0 a b 635 = some (z, G) := by rw [fW_exit, if_pos kd_c0]; exact e1
  have hG := hr_N (tfW_exit (Φ := Φ) (d := 200) (by decide) h.1 (rfR_of (by decide)) r1 r2 (rfR_of (by decide))) e0
  have hH := hr_N (tfM_exit (Φ := Φ) (d := 200) (by decide) hG kd_c624 r1 r2) e2
  exact ⟨z, G, w, H, e0, e2, ⟨hH, e3⟩, e4, fun y => e5 y trivial⟩
theorem dJ_kill (Φ : ev_P) (h : JJ g) (r1 : InR a) (r2 : InR b) : ∃ z G w H, fW_kill g 0 a b 635 = some (z, G) ∧ fM_kill G 624 a b = some (w, H) ∧ JJ H ∧ H 624 8 = z ∧ (z = 0 → H 635 0 = w) := by
  obtain ⟨z, G, w, H, e1, e2, e3, e4, e5⟩ := step_W (tm := t0) (P := True) (Y := fun K => fM_kill K 624 a b) h.2 (fun K hK => jo_kill hK) (fr_WC (tC_kill (CO_r h.2.1))) (fun K w H hK => fr_PO (oM_kill hK) w H) (fun k G hk => w_t0 hk)
  have e0 : fW_kill g 0 a b 635 = some (z, G) := by rw [fW_kill, if_pos kd_c0]; exact e1
  have hG := hr_N (tfW_kill (Φ := Φ) (d := 200) (by decide) h.1 (rfR_of (by decide)) r1 r2 (rfR_of (by decide))) e0
  have hH := hr_N (tfM_kill (Φ := Φ) (d := 200) (by decide) hG kd_c624 r1 r2) e2
  exact ⟨z, G, w, H, e0, e2, ⟨hH, e3⟩, e4, fun y => e5 y trivial⟩
theorem dJ_read (Φ : ev_P) (h : JJ g) (r1 : InR a) : ∃ z G w H, fW_read g 0 a 635 = some (z, G) ∧ fM_read G 624 a = some (w, H) ∧ JJ H ∧ H 624 8 = z ∧ (z = 0 → H 635 0 = w) := by
  obtain ⟨z, G, w, H, e1, e2, e3, e4, e5⟩ := step_W (tm := tr) (P := True) (Y := fun K => fM_read K 624 a) h.2 (fun K hK => jo_read hK) (fr_WC (tC_read (CO_r h.2.1))) (fun K w H hK => fr_PO (oM_read hK) w H) (fun k G hk => w_tr hk)
  have e0 : fW_read g 0 a 635 = some (z, G) := by rw [fW_read, if_pos kd_c0]; exact e1
  have hG := hr_N (tfW_read (Φ := Φ) (d := 200) (by decide) h.1 (rfR_of (by decide)) r1 (rfR_of (by decide))) e0
  have hH := hr_N (tfM_read (Φ := Φ) (d := 200) (by decide) hG kd_c624 r1) e2
  exact ⟨z, G, w, H, e0, e2, ⟨hH, e3⟩, e4, fun y => e5 y trivial⟩
theorem dJ_refuse (Φ : ev_P) (h : JJ g) (r1 : InR a) (r2 : InR b) : ∃ z G w H, fW_refuse g 0 a b 635 = some (z, G) ∧ fM_refuse G 624 a b = some (w, H) ∧ JJ H ∧ H 624 8 = z ∧ (z = 0 → H 635 0 = w) := by
  obtain ⟨z, G, w, H, e1, e2, e3, e4, e5⟩ := step_W (tm := t3) (P := True) (Y := fun K => fM_refuse K 624 a b) h.2 (fun K hK => jo_refuse hK) (fr_WC (tC_refuse (CO_r h.2.1))) (fun K w H hK => fr_PO (oM_refuse hK) w H) (fun k G hk => w_t3 hk)
  have e0 : fW_refuse g 0 a b 635 = some (z, G) := by rw [fW_refuse, if_pos kd_c0]; exact e1
  have hG := hr_N (tfW_refuse (Φ := Φ) (d := 200) (by decide) h.1 (rfR_of (by decide)) r1 r2 (rfR_of (by decide))) e0
  have hH := hr_N (tfM_refuse (Φ := Φ) (d := 200) (by decide) hG kd_c624 r1 r2) e2
  exact ⟨z, G, w, H, e0, e2, ⟨hH, e3⟩, e4, fun y => e5 y trivial⟩
theorem dJ_accept (Φ : ev_P) (h : JJ g) (r1 : InR a) (r2 : InR b) : ∃ z G w H, fW_accept g 0 a b 635 = some (z, G) ∧ fM_accept G 624 a b = some (w, H) ∧ JJ H ∧ H 624 8 = z ∧ (z = 0 → H 635 0 = if w = 0 then 0 else 1) := by
  obtain ⟨z, G, w, H, e1, e2, e3, e4, e5⟩ := step_W2 (tm := t3) (P := True) (Y := fun K => fM_accept K 624 a b) h.2 (fun K hK => jo_accept hK) (fr_WC (tC_accept (CO_r h.2.1))) (fun K w H hK => fr_PO (oM_accept hK) w H) (fun k G hk => w_t3 hk)
  have e0 : fW_accept g 0 a b 635 = some (z, G) := by rw [fW_accept, if_pos kd_c0]; exact e1
  have hG := hr_N (tfW_accept (Φ := Φ) (d := 200) (by decide) h.1 (rfR_of (by decide)) r1 r2 (rfR_of (by decide))) e0
  have hH := hr_N (tfM_accept (Φ := Φ) (d := 200) (by decide) hG kd_c624 r1 r2) e2
  exact ⟨z, G, w, H, e0, e2, ⟨hH, e3⟩, e4, fun y => e5 y trivial⟩
theorem dJ_move (Φ : ev_P) (h : JJ g) (r1 : InR a) (r2 : InR b) : ∃ z G w H, fW_move g 0 a b 635 = some (z, G) ∧ fM_move G 624 a b = some (w, H) ∧ JJ H ∧ H 624 8 = z ∧ (z = 0 → H 635 0 = w) := by
  obtain ⟨z, G, w, H, e1, e2, e3, e4, e5⟩ := step_W (tm := t2) (P := True) (Y := fun K => fM_move K 624 a b) h.2 (fun K hK => jo_move hK) (fr_WC (tC_move (CO_r h.2.1))) (fun K w H hK => fr_PO (oM_move hK) w H) (fun k G hk => w_t2 hk)
  have e0 : fW_move g 0 a b 635 = some (z, G) := by rw [fW_move, if_pos kd_c0]; exact e1
  have hG := hr_N (tfW_move (Φ := Φ) (d := 200) (by decide) h.1 (rfR_of (by decide)) r1 r2 (rfR_of (by decide))) e0
  have hH := hr_N (tfM_move (Φ := Φ) (d := 200) (by decide) hG kd_c624 r1 r2) e2
  exact ⟨z, G, w, H, e0, e2, ⟨hH, e3⟩, e4, fun y => e5 y trivial⟩
theorem dJ_setCapacity (Φ : ev_P) (h : JJ g) (r1 : InR a) (r2 : InR b) : ∃ z G w H, fW_setCapacity g 0 a b 635 = some (z, G) ∧ fM_setCapacity G 624 a b = some (w, H) ∧ JJ H ∧ H 624 8 = z ∧ (z = 0 → H 635 0 = w) := by
  obtain ⟨z, G, w, H, e1, e2, e3, e4, e5⟩ := step_W (tm := t3) (P := True) (Y := fun K => fM_setCapacity K 624 a b) h.2 (fun K hK => jo_setCapacity hK) (fr_WC (tC_setCapacity (CO_r h.2.1))) (fun K w H hK => fr_PO (oM_setCapacity hK) w H) (fun k G hk => w_t3 hk)
  have e0 : fW_setCapacity g 0 a b 635 = some (z, G) := by rw [fW_setCapacity, if_pos kd_c0]; exact e1
  have hG := hr_N (tfW_setCapacity (Φ := Φ) (d := 200) (by decide) h.1 (rfR_of (by decide)) r1 r2 (rfR_of (by decide))) e0
  have hH := hr_N (tfM_setCapacity (Φ := Φ) (d := 200) (by decide) hG kd_c624 r1 r2) e2
  exact ⟨z, G, w, H, e0, e2, ⟨hH, e3⟩, e4, fun y => e5 y trivial⟩
theorem dJ_setBudget (Φ : ev_P) (h : JJ g) (r1 : InR a) (r2 : InR b) : ∃ z G w H, fW_setBudget g 0 a b 635 = some (z, G) ∧ fM_setBudget G 624 a b = some (w, H) ∧ JJ H ∧ H 624 8 = z ∧ (z = 0 → H 635 0 = w) := by
  obtain ⟨z, G, w, H, e1, e2, e3, e4, e5⟩ := step_W (tm := t3) (P := True) (Y := fun K => fM_setBudget K 624 a b) h.2 (fun K hK => jo_setBudget hK) (fr_WC (tC_setBudget (CO_r h.2.1))) (fun K w H hK => fr_PO (oM_setBudget hK) w H) (fun k G hk => w_t3 hk)
  have e0 : fW_setBudget g 0 a b 635 = some (z, G) := by rw [fW_setBudget, if_pos kd_c0]; exact e1
  have hG := hr_N (tfW_setBudget (Φ := Φ) (d := 200) (by decide) h.1 (rfR_of (by decide)) r1 r2 (rfR_of (by decide))) e0
  have hH := hr_N (tfM_setBudget (Φ := Φ) (d := 200) (by decide) hG kd_c624 r1 r2) e2
  exact ⟨z, G, w, H, e0, e2, ⟨hH, e3⟩, e4, fun y => e5 y trivial⟩
theorem dJ_setHeir (Φ : ev_P) (h : JJ g) (r1 : InR a) (r2 : InR b) : ∃ z G w H, fW_setHeir g 0 a b 635 = some (z, G) ∧ fM_setHeir G 624 a b = some (w, H) ∧ JJ H ∧ H 624 8 = z ∧ (z = 0 → H 635 0 = w) := by
  obtain ⟨z, G, w, H, e1, e2, e3, e4, e5⟩ := step_W (tm := t3) (P := True) (Y := fun K => fM_setHeir K 624 a b) h.2 (fun K hK => jo_setHeir hK) (fr_WC (tC_setHeir (CO_r h.2.1))) (fun K w H hK => fr_PO (oM_setHeir hK) w H) (fun k G hk => w_t3 hk)
  have e0 : fW_setHeir g 0 a b 635 = some (z, G) := by rw [fW_setHeir, if_pos kd_c0]; exact e1
  have hG := hr_N (tfW_setHeir (Φ := Φ) (d := 200) (by decide) h.1 (rfR_of (by decide)) r1 r2 (rfR_of (by decide))) e0
  have hH := hr_N (tfM_setHeir (Φ := Φ) (d := 200) (by decide) hG kd_c624 r1 r2) e2
  exact ⟨z, G, w, H, e0, e2, ⟨hH, e3⟩, e4, fun y => e5 y trivial⟩
theorem dJ_give (Φ : ev_P) (h : JJ g) (r1 : InR a) (r2 : InR b) : ∃ z G w H, fW_give g 0 a b 635 = some (z, G) ∧ fM_give G 624 a b = some (w, H) ∧ JJ H ∧ H 624 8 = z ∧ (z = 0 → H 635 0 = w) := by
  obtain ⟨z, G, w, H, e1, e2, e3, e4, e5⟩ := step_W (tm := tv) (P := True) (Y := fun K => fM_give K 624 a b) h.2 (fun K hK => jo_give hK) (fr_WC (tC_give (CO_r h.2.1))) (fun K w H hK => fr_PO (oM_give hK) w H) (fun k G hk => w_tv hk)
  have e0 : fW_give g 0 a b 635 = some (z, G) := by rw [fW_give, if_pos kd_c0]; exact e1
  have hG := hr_N (tfW_give (Φ := Φ) (d := 200) (by decide) h.1 (rfR_of (by decide)) r1 r2 (rfR_of (by decide))) e0
  have hH := hr_N (tfM_give (Φ := Φ) (d := 200) (by decide) hG kd_c624 r1 r2) e2
  exact ⟨z, G, w, H, e0, e2, ⟨hH, e3⟩, e4, fun y => e5 y trivial⟩
theorem dJ_adopter (Φ : ev_P) (h : JJ g) (r1 : InR a) : ∃ z G w H, fW_adopter g 0 a 635 = some (z, G) ∧ fM_adopter G 624 a = some (w, H) ∧ JJ H := by
  have e0 : ∃ (z : Int) (G : gH), fW_adopter g 0 a 635 = some (z, G) ∧ ∀ x, ¬ x = 635 → G x = g x := by
    rw [fW_adopter, if_pos kd_c0]
    refine W_bdQ (W := fun (X : Option (Int × gH)) => ∃ (z : Int) (G : gH), X = some (z, G) ∧ ∀ x, ¬ x = 635 → G x = g x) (tC_adopter h.2.1) (fun y _ => ?_) (fun e he => ?_)
    · rw [if_pos k635, bnd_s]
      exact ⟨_, _, rfl, fun x hx => pU_n hx⟩
    · rcases he with rfl | rfl <;> exact ⟨_, _, rfl, fun _ _ => rfl⟩
  obtain ⟨z, G, e0, fG⟩ := e0
  obtain ⟨w, H, e2, e3⟩ := step_w (Y := fun K => fM_adopter K 624 a) h.2 fG (fun K hK => jw_Q hK (oM_adopter hK.2.1) (q8_fM_adopter E8_r)) (fun K w H hK => fr_PO (oM_adopter hK) w H)
  have hG := hr_N (tfW_adopter (Φ := Φ) (d := 200) (by decide) h.1 (rfR_of (by decide)) r1 (rfR_of (by decide))) e0
  have hH := hr_N (tfM_adopter (Φ := Φ) (d := 200) (by decide) hG kd_c624 r1) e2
  exact ⟨z, G, w, H, e0, e2, hH, e3⟩
theorem dJ_heirNow (Φ : ev_P) (h : JJ g) (r1 : InR a) : ∃ z G w H, fW_heirNow g 0 a 635 = some (z, G) ∧ fM_heirNow G 624 a = some (w, H) ∧ JJ H := by
  have e0 : ∃ (z : Int) (G : gH), fW_heirNow g 0 a 635 = some (z, G) ∧ ∀ x, ¬ x = 635 → G x = g x := by
    rw [fW_heirNow, if_pos kd_c0]
    refine W_bdQ (W := fun (X : Option (Int × gH)) => ∃ (z : Int) (G : gH), X = some (z, G) ∧ ∀ x, ¬ x = 635 → G x = g x) (tC_heirNow h.2.1) (fun y _ => ?_) (fun e he => ?_)
    · rw [if_pos k635, bnd_s]
      exact ⟨_, _, rfl, fun x hx => pU_n hx⟩
    · rcases he with rfl | rfl <;> exact ⟨_, _, rfl, fun _ _ => rfl⟩
  obtain ⟨z, G, e0, fG⟩ := e0
  obtain ⟨w, H, e2, e3⟩ := step_w (Y := fun K => fM_heirNow K 624 a) h.2 fG (fun K hK => jw_Q hK (oM_heirNow hK.2.1) (q8_fM_heirNow E8_r)) (fun K w H hK => fr_PO (oM_heirNow hK) w H)
  have hG := hr_N (tfW_heirNow (Φ := Φ) (d := 200) (by decide) h.1 (rfR_of (by decide)) r1 (rfR_of (by decide))) e0
  have hH := hr_N (tfM_heirNow (Φ := Φ) (d := 200) (by decide) hG kd_c624 r1) e2
  exact ⟨z, G, w, H, e0, e2, hH, e3⟩
theorem dJ_wouldFall (Φ : ev_P) (h : JJ g) (r1 : InR a) (r2 : InR b) : ∃ z G w H, fW_wouldFall g 0 a b 635 = some (z, G) ∧ fM_wouldFall G 624 a b = some (w, H) ∧ JJ H ∧ H 624 8 = z ∧ (z = 0 → H 635 0 = w) := by
  obtain ⟨z, G, w, H, e1, e2, e3, e4, e5⟩ := step_W (tm := t3) (P := True) (Y := fun K => fM_wouldFall K 624 a b) h.2 (fun K hK => jo_wouldFall hK) (fr_WC (tC_wouldFall (CO_r h.2.1))) (fun K w H hK => fr_PO (oM_wouldFall hK) w H) (fun k G hk => w_t3 hk)
  have e0 : fW_wouldFall g 0 a b 635 = some (z, G) := by rw [fW_wouldFall, if_pos kd_c0]; exact e1
  have hG := hr_N (tfW_wouldFall (Φ := Φ) (d := 200) (by decide) h.1 (rfR_of (by decide)) r1 r2 (rfR_of (by decide))) e0
  have hH := hr_N (tfM_wouldFall (Φ := Φ) (d := 200) (by decide) hG kd_c624 r1 r2) e2
  exact ⟨z, G, w, H, e0, e2, ⟨hH, e3⟩, e4, fun y => e5 y trivial⟩
theorem dJ_wouldStand (Φ : ev_P) (h : JJ g) (r1 : InR a) (r2 : InR b) : ∃ z G w H, fW_wouldStand g 0 a b 635 = some (z, G) ∧ fM_wouldStand G 624 a b = some (w, H) ∧ JJ H ∧ H 624 8 = z ∧ (z = 0 → H 635 0 = w) := by
  obtain ⟨z, G, w, H, e1, e2, e3, e4, e5⟩ := step_W (tm := t3) (P := True) (Y := fun K => fM_wouldStand K 624 a b) h.2 (fun K hK => jo_wouldStand hK) (fr_WC (tC_wouldStand (CO_r h.2.1))) (fun K w H hK => fr_PO (oM_wouldStand hK) w H) (fun k G hk => w_t3 hk)
  have e0 : fW_wouldStand g 0 a b 635 = some (z, G) := by rw [fW_wouldStand, if_pos kd_c0]; exact e1
  have hG := hr_N (tfW_wouldStand (Φ := Φ) (d := 200) (by decide) h.1 (rfR_of (by decide)) r1 r2 (rfR_of (by decide))) e0
  have hH := hr_N (tfM_wouldStand (Φ := Φ) (d := 200) (by decide) hG kd_c624 r1 r2) e2
  exact ⟨z, G, w, H, e0, e2, ⟨hH, e3⟩, e4, fun y => e5 y trivial⟩
theorem dJ_wouldHave (Φ : ev_P) (h : JJ g) (r1 : InR a) (r2 : InR b) (r3 : InR c) : ∃ z G w H, fW_wouldHave g 0 a b c 635 = some (z, G) ∧ fM_wouldHave G 624 a b c = some (w, H) ∧ JJ H ∧ H 624 8 = z ∧ (z = 0 → H 635 0 = w) := by
  obtain ⟨z, G, w, H, e1, e2, e3, e4, e5⟩ := step_W (tm := t3) (P := True) (Y := fun K => fM_wouldHave K 624 a b c) h.2 (fun K hK => jo_wouldHave hK) (fr_WC (tC_wouldHave (CO_r h.2.1))) (fun K w H hK => fr_PO (oM_wouldHave hK) w H) (fun k G hk => w_t3 hk)
  have e0 : fW_wouldHave g 0 a b c 635 = some (z, G) := by rw [fW_wouldHave, if_pos kd_c0]; exact e1
  have hG := hr_N (tfW_wouldHave (Φ := Φ) (d := 200) (by decide) h.1 (rfR_of (by decide)) r1 r2 r3 (rfR_of (by decide))) e0
  have hH := hr_N (tfM_wouldHave (Φ := Φ) (d := 200) (by decide) hG kd_c624 r1 r2 r3) e2
  exact ⟨z, G, w, H, e0, e2, ⟨hH, e3⟩, e4, fun y => e5 y trivial⟩
theorem dJ_wouldFallBy (Φ : ev_P) (h : JJ g) (r1 : InR a) (r2 : InR b) : ∃ z G w H, fW_wouldFallBy g 0 a b 635 = some (z, G) ∧ fM_wouldFallBy G 624 a b = some (w, H) ∧ JJ H ∧ H 624 8 = z ∧ (z = 0 → H 635 0 = w) := by
  obtain ⟨z, G, w, H, e1, e2, e3, e4, e5⟩ := step_W (tm := t0) (P := True) (Y := fun K => fM_wouldFallBy K 624 a b) h.2 (fun K hK => jo_wouldFallBy hK) (fr_WC (tC_wouldFallBy (CO_r h.2.1))) (fun K w H hK => fr_PO (oM_wouldFallBy hK) w H) (fun k G hk => w_t0 hk)
  have e0 : fW_wouldFallBy g 0 a b 635 = some (z, G) := by rw [fW_wouldFallBy, if_pos kd_c0]; exact e1
  have hG := hr_N (tfW_wouldFallBy (Φ := Φ) (d := 200) (by decide) h.1 (rfR_of (by decide)) r1 r2 (rfR_of (by decide))) e0
  have hH := hr_N (tfM_wouldFallBy (Φ := Φ) (d := 200) (by decide) hG kd_c624 r1 r2) e2
  exact ⟨z, G, w, H, e0, e2, ⟨hH, e3⟩, e4, fun y => e5 y trivial⟩
theorem dJ_weakest (Φ : ev_P) (h : JJ g) (r1 : InR a) : ∃ z G w H, fW_weakest g 0 a 635 = some (z, G) ∧ fM_weakest G 624 a = some (w, H) ∧ JJ H ∧ H 624 8 = z ∧ (z = 0 → H 635 0 = w) := by
  obtain ⟨z, G, w, H, e1, e2, e3, e4, e5⟩ := step_W (tm := t0) (P := True) (Y := fun K => fM_weakest K 624 a) h.2 (fun K hK => jo_weakest hK) (fr_WC (tC_weakest (CO_r h.2.1))) (fun K w H hK => fr_PO (oM_weakest hK) w H) (fun k G hk => w_t0 hk)
  have e0 : fW_weakest g 0 a 635 = some (z, G) := by rw [fW_weakest, if_pos kd_c0]; exact e1
  have hG := hr_N (tfW_weakest (Φ := Φ) (d := 200) (by decide) h.1 (rfR_of (by decide)) r1 (rfR_of (by decide))) e0
  have hH := hr_N (tfM_weakest (Φ := Φ) (d := 200) (by decide) hG kd_c624 r1) e2
  exact ⟨z, G, w, H, e0, e2, ⟨hH, e3⟩, e4, fun y => e5 y trivial⟩
theorem dJ_roomiest (Φ : ev_P) (h : JJ g) (r1 : InR a) : ∃ z G w H, fW_roomiest g 0 a 635 = some (z, G) ∧ fM_roomiest G 624 a = some (w, H) ∧ JJ H := by
  have e0 : ∃ (z : Int) (G : gH), fW_roomiest g 0 a 635 = some (z, G) ∧ ∀ x, ¬ x = 635 → G x = g x := by
    rw [fW_roomiest, if_pos kd_c0]
    refine W_bdQ (W := fun (X : Option (Int × gH)) => ∃ (z : Int) (G : gH), X = some (z, G) ∧ ∀ x, ¬ x = 635 → G x = g x) (tC_roomiest h.2.1) (fun y _ => ?_) (fun e he => ?_)
    · rw [if_pos k635, bnd_s]
      exact ⟨_, _, rfl, fun x hx => pU_n hx⟩
    · subst he
      exact ⟨_, _, rfl, fun _ _ => rfl⟩
  obtain ⟨z, G, e0, fG⟩ := e0
  obtain ⟨w, H, e2, e3⟩ := step_w (Y := fun K => fM_roomiest K 624 a) h.2 fG (fun K hK => jw_Q hK (oM_roomiest hK.2.1) (q8_fM_roomiest E8_r)) (fun K w H hK => fr_PO (oM_roomiest hK) w H)
  have hG := hr_N (tfW_roomiest (Φ := Φ) (d := 200) (by decide) h.1 (rfR_of (by decide)) r1 (rfR_of (by decide))) e0
  have hH := hr_N (tfM_roomiest (Φ := Φ) (d := 200) (by decide) hG kd_c624 r1) e2
  exact ⟨z, G, w, H, e0, e2, hH, e3⟩
theorem dJ_allRoom (Φ : ev_P) (h : JJ g) : ∃ v w H, fC_allRoom g 0 = some v ∧ fM_allRoom g 624 = some (w, H) ∧ JJ H := by
  obtain ⟨v, e0, -⟩ := tC_allRoom h.2.1
  obtain ⟨w, H, e2, e3⟩ := step_w (Y := fun K => fM_allRoom K 624) (G := g) h.2 (fun _ _ => rfl) (fun K hK => jw_Q hK (oM_allRoom hK.2.1) (q8_fM_allRoom E8_r)) (fun K w H hK => fr_PO (oM_allRoom hK) w H)
  have hG := h.1
  have hH := hr_N (tfM_allRoom (Φ := Φ) (d := 200) (by decide) hG kd_c624) e2
  exact ⟨v, w, H, e0, e2, hH, e3⟩
theorem dJ_overfull (Φ : ev_P) (h : JJ g) : ∃ v w H, fC_overfull g 0 = some v ∧ fM_overfull g 624 = some (w, H) ∧ JJ H := by
  obtain ⟨v, e0, -⟩ := tC_overfull h.2.1
  obtain ⟨w, H, e2, e3⟩ := step_w (Y := fun K => fM_overfull K 624) (G := g) h.2 (fun _ _ => rfl) (fun K hK => jw_Q hK (oM_overfull hK.2.1) (q8_fM_overfull E8_r)) (fun K w H hK => fr_PO (oM_overfull hK) w H)
  have hG := h.1
  have hH := hr_N (tfM_overfull (Φ := Φ) (d := 200) (by decide) hG kd_c624) e2
  exact ⟨v, w, H, e0, e2, hH, e3⟩
theorem dJ_ofGroup (Φ : ev_P) (h : JJ g) (r1 : InR a) : ∃ z G w H, fW_ofGroup g 0 a 635 = some (z, G) ∧ fM_ofGroup G 624 a = some (w, H) ∧ JJ H := by
  have e0 : ∃ (z : Int) (G : gH), fW_ofGroup g 0 a 635 = some (z, G) ∧ ∀ x, ¬ x = 635 → G x = g x := by
    rw [fW_ofGroup, if_pos kd_c0]
    refine W_bdQ (W := fun (X : Option (Int × gH)) => ∃ (z : Int) (G : gH), X = some (z, G) ∧ ∀ x, ¬ x = 635 → G x = g x) (tC_ofGroup h.2.1) (fun y _ => ?_) (fun e he => ?_)
    · rw [if_pos k635, bnd_s]
      exact ⟨_, _, rfl, fun x hx => pU_n hx⟩
    · subst he
      exact ⟨_, _, rfl, fun _ _ => rfl⟩
  obtain ⟨z, G, e0, fG⟩ := e0
  obtain ⟨w, H, e2, e3⟩ := step_w (Y := fun K => fM_ofGroup K 624 a) h.2 fG (fun K hK => jw_Q hK (oM_ofGroup hK.2.1) (q8_fM_ofGroup E8_r)) (fun K w H hK => fr_PO (oM_ofGroup hK) w H)
  have hG := hr_N (tfW_ofGroup (Φ := Φ) (d := 200) (by decide) h.1 (rfR_of (by decide)) r1 (rfR_of (by decide))) e0
  have hH := hr_N (tfM_ofGroup (Φ := Φ) (d := 200) (by decide) hG kd_c624 r1) e2
  exact ⟨z, G, w, H, e0, e2, hH, e3⟩
theorem dJ_nextTestament (Φ : ev_P) (h : JJ g) (r1 : InR a) : ∃ z G w H, fW_nextTestament g 0 a 635 = some (z, G) ∧ fM_nextTestament G 624 a = some (w, H) ∧ JJ H := by
  have e0 : ∃ (z : Int) (G : gH), fW_nextTestament g 0 a 635 = some (z, G) ∧ ∀ x, ¬ x = 635 → G x = g x := by
    rw [fW_nextTestament, if_pos kd_c0]
    refine W_bdQ (W := fun (X : Option (Int × gH)) => ∃ (z : Int) (G : gH), X = some (z, G) ∧ ∀ x, ¬ x = 635 → G x = g x) (tC_nextTestament h.2.1) (fun y _ => ?_) (fun e he => ?_)
    · rw [if_pos k635, bnd_s]
      exact ⟨_, _, rfl, fun x hx => pU_n hx⟩
    · subst he
      exact ⟨_, _, rfl, fun _ _ => rfl⟩
  obtain ⟨z, G, e0, fG⟩ := e0
  obtain ⟨w, H, e2, e3⟩ := step_w (Y := fun K => fM_nextTestament K 624 a) h.2 fG (fun K hK => jw_Q hK (oM_nextTestament hK.2.1) (q8_fM_nextTestament E8_r)) (fun K w H hK => fr_PO (oM_nextTestament hK) w H)
  have hG := hr_N (tfW_nextTestament (Φ := Φ) (d := 200) (by decide) h.1 (rfR_of (by decide)) r1 (rfR_of (by decide))) e0
  have hH := hr_N (tfM_nextTestament (Φ := Φ) (d := 200) (by decide) hG kd_c624 r1) e2
  exact ⟨z, G, w, H, e0, e2, hH, e3⟩
theorem dJ_exited (Φ : ev_P) (h : JJ g) (r1 : InR a) : ∃ z G w H, fW_exited g 0 a 635 = some (z, G) ∧ fM_exited G 624 a = some (w, H) ∧ JJ H := by
  have e0 : ∃ (z : Int) (G : gH), fW_exited g 0 a 635 = some (z, G) ∧ ∀ x, ¬ x = 635 → G x = g x := by
    rw [fW_exited, if_pos kd_c0]
    refine W_bdQ (W := fun (X : Option (Int × gH)) => ∃ (z : Int) (G : gH), X = some (z, G) ∧ ∀ x, ¬ x = 635 → G x = g x) (tC_exited h.2.1) (fun y _ => ?_) (fun e he => ?_)
    · rw [if_pos k635, bnd_s]
      exact ⟨_, _, rfl, fun x hx => pU_n hx⟩
    · subst he
      exact ⟨_, _, rfl, fun _ _ => rfl⟩
  obtain ⟨z, G, e0, fG⟩ := e0
  obtain ⟨w, H, e2, e3⟩ := step_w (Y := fun K => fM_exited K 624 a) h.2 fG (fun K hK => jw_Q hK (oM_exited hK.2.1) (q8_fM_exited E8_r)) (fun K w H hK => fr_PO (oM_exited hK) w H)
  have hG := hr_N (tfW_exited (Φ := Φ) (d := 200) (by decide) h.1 (rfR_of (by decide)) r1 (rfR_of (by decide))) e0
  have hH := hr_N (tfM_exited (Φ := Φ) (d := 200) (by decide) hG kd_c624 r1) e2
  exact ⟨z, G, w, H, e0, e2, hH, e3⟩
theorem dJ_meanDepth (Φ : ev_P) (h : JJ g) : ∃ v w H, fC_meanDepth g 0 = some v ∧ fM_meanDepth g 624 = some (w, H) ∧ JJ H := by
  obtain ⟨v, e0, -⟩ := tC_meanDepth h.2.1
  obtain ⟨w, H, e2, e3⟩ := step_w (Y := fun K => fM_meanDepth K 624) (G := g) h.2 (fun _ _ => rfl) (fun K hK => jw_Q hK (oM_meanDepth hK.2.1) (q8_fM_meanDepth E8_r)) (fun K w H hK => fr_PO (oM_meanDepth hK) w H)
  have hG := h.1
  have hH := hr_N (tfM_meanDepth (Φ := Φ) (d := 200) (by decide) hG kd_c624) e2
  exact ⟨v, w, H, e0, e2, hH, e3⟩
theorem dJ_prune (Φ : ev_P) (h : JJ g) (r1 : InR a) (r2 : InR b) : ∃ z G w H, fW_prune g 0 a b 635 = some (z, G) ∧ fM_prune G 624 a b = some (w, H) ∧ JJ H ∧ H 624 8 = z ∧ (z = 0 → H 635 0 = w) := by
  obtain ⟨z, G, w, H, e1, e2, e3, e4, e5⟩ := step_W (tm := t3) (P := True) (Y := fun K => fM_prune K 624 a b) h.2 (fun K hK => jo_prune hK) (fr_WC (tC_prune (CO_r h.2.1))) (fun K w H hK => fr_PO (oM_prune hK) w H) (fun k G hk => w_t3 hk)
  have e0 : fW_prune g 0 a b 635 = some (z, G) := by rw [fW_prune, if_pos kd_c0]; exact e1
  have hG := hr_N (tfW_prune (Φ := Φ) (d := 200) (by decide) h.1 (rfR_of (by decide)) r1 r2 (rfR_of (by decide))) e0
  have hH := hr_N (tfM_prune (Φ := Φ) (d := 200) (by decide) hG kd_c624 r1 r2) e2
  exact ⟨z, G, w, H, e0, e2, ⟨hH, e3⟩, e4, fun y => e5 y trivial⟩
theorem dJ_exchange (Φ : ev_P) (h : JJ g) (r1 : InR a) (r2 : InR b) : ∃ z G w H, fW_exchange g 0 a b 635 = some (z, G) ∧ fM_exchange G 624 a b = some (w, H) ∧ JJ H ∧ H 624 8 = z ∧ (z = 0 → H 635 0 = w) := by
  obtain ⟨z, G, w, H, e1, e2, e3, e4, e5⟩ := step_W (tm := t2) (P := True) (Y := fun K => fM_exchange K 624 a b) h.2 (fun K hK => jo_exchange hK) (fr_WC (tC_exchange (CO_r h.2.1))) (fun K w H hK => fr_PO (oM_exchange hK) w H) (fun k G hk => w_t2 hk)
  have e0 : fW_exchange g 0 a b 635 = some (z, G) := by rw [fW_exchange, if_pos kd_c0]; exact e1
  have hG := hr_N (tfW_exchange (Φ := Φ) (d := 200) (by decide) h.1 (rfR_of (by decide)) r1 r2 (rfR_of (by decide))) e0
  have hH := hr_N (tfM_exchange (Φ := Φ) (d := 200) (by decide) hG kd_c624 r1 r2) e2
  exact ⟨z, G, w, H, e0, e2, ⟨hH, e3⟩, e4, fun y => e5 y trivial⟩
theorem dJ_readAll (Φ : ev_P) (h : JJ g) (r1 : InR a) : ∃ z G w H, fW_readAll g 0 a 635 = some (z, G) ∧ fM_readAll G 624 a = some (w, H) ∧ JJ H ∧ H 624 8 = z ∧ (z = 0 → H 635 0 = w) := by
  obtain ⟨z, G, w, H, e1, e2, e3, e4, e5⟩ := step_W (tm := t2) (P := True) (Y := fun K => fM_readAll K 624 a) h.2 (fun K hK => jo_readAll hK) (fr_WC (tC_readAll (CO_r h.2.1))) (fun K w H hK => fr_PO (oM_readAll hK) w H) (fun k G hk => w_t2 hk)
  have e0 : fW_readAll g 0 a 635 = some (z, G) := by rw [fW_readAll, if_pos kd_c0]; exact e1
  have hG := hr_N (tfW_readAll (Φ := Φ) (d := 200) (by decide) h.1 (rfR_of (by decide)) r1 (rfR_of (by decide))) e0
  have hH := hr_N (tfM_readAll (Φ := Φ) (d := 200) (by decide) hG kd_c624 r1) e2
  exact ⟨z, G, w, H, e0, e2, ⟨hH, e3⟩, e4, fun y => e5 y trivial⟩
theorem dJ_testamentsBelow (Φ : ev_P) (h : JJ g) (r1 : InR a) : ∃ z G w H, fW_testamentsBelow g 0 a 635 = some (z, G) ∧ fM_testamentsBelow G 624 a = some (w, H) ∧ JJ H := by
  have e0 : ∃ (z : Int) (G : gH), fW_testamentsBelow g 0 a 635 = some (z, G) ∧ ∀ x, ¬ x = 635 → G x = g x := by
    rw [fW_testamentsBelow, if_pos kd_c0]
    refine W_bdQ (W := fun (X : Option (Int × gH)) => ∃ (z : Int) (G : gH), X = some (z, G) ∧ ∀ x, ¬ x = 635 → G x = g x) (tC_testamentsBelow h.2.1) (fun y _ => ?_) (fun e he => ?_)
    · rw [if_pos k635, bnd_s]
      exact ⟨_, _, rfl, fun x hx => pU_n hx⟩
    · subst he
      exact ⟨_, _, rfl, fun _ _ => rfl⟩
  obtain ⟨z, G, e0, fG⟩ := e0
  obtain ⟨w, H, e2, e3⟩ := step_w (Y := fun K => fM_testamentsBelow K 624 a) h.2 fG (fun K hK => jw_Q hK (oM_testamentsBelow hK.2.1) (q8_fM_testamentsBelow E8_r)) (fun K w H hK => fr_PO (oM_testamentsBelow hK) w H)
  have hG := hr_N (tfW_testamentsBelow (Φ := Φ) (d := 200) (by decide) h.1 (rfR_of (by decide)) r1 (rfR_of (by decide))) e0
  have hH := hr_N (tfM_testamentsBelow (Φ := Φ) (d := 200) (by decide) hG kd_c624 r1) e2
  exact ⟨z, G, w, H, e0, e2, hH, e3⟩
theorem dJ_roomBelow (Φ : ev_P) (h : JJ g) (r1 : InR a) : ∃ z G w H, fW_roomBelow g 0 a 635 = some (z, G) ∧ fM_roomBelow G 624 a = some (w, H) ∧ JJ H := by
  have e0 : ∃ (z : Int) (G : gH), fW_roomBelow g 0 a 635 = some (z, G) ∧ ∀ x, ¬ x = 635 → G x = g x := by
    rw [fW_roomBelow, if_pos kd_c0]
    refine W_bdQ (W := fun (X : Option (Int × gH)) => ∃ (z : Int) (G : gH), X = some (z, G) ∧ ∀ x, ¬ x = 635 → G x = g x) (tC_roomBelow h.2.1) (fun y _ => ?_) (fun e he => ?_)
    · rw [if_pos k635, bnd_s]
      exact ⟨_, _, rfl, fun x hx => pU_n hx⟩
    · subst he
      exact ⟨_, _, rfl, fun _ _ => rfl⟩
  obtain ⟨z, G, e0, fG⟩ := e0
  obtain ⟨w, H, e2, e3⟩ := step_w (Y := fun K => fM_roomBelow K 624 a) h.2 fG (fun K hK => jw_Q hK (oM_roomBelow hK.2.1) (q8_fM_roomBelow E8_r)) (fun K w H hK => fr_PO (oM_roomBelow hK) w H)
  have hG := hr_N (tfW_roomBelow (Φ := Φ) (d := 200) (by decide) h.1 (rfR_of (by decide)) r1 (rfR_of (by decide))) e0
  have hH := hr_N (tfM_roomBelow (Φ := Φ) (d := 200) (by decide) hG kd_c624 r1) e2
  exact ⟨z, G, w, H, e0, e2, hH, e3⟩
theorem dJ_mostAdopted (Φ : ev_P) (h : JJ g) : ∃ v w H, fC_mostAdopted g 0 = some v ∧ fM_mostAdopted g 624 = some (w, H) ∧ JJ H := by
  obtain ⟨v, e0, -⟩ := tC_mostAdopted h.2.1
  obtain ⟨w, H, e2, e3⟩ := step_w (Y := fun K => fM_mostAdopted K 624) (G := g) h.2 (fun _ _ => rfl) (fun K hK => jw_Q hK (oM_mostAdopted hK.2.1) (q8_fM_mostAdopted E8_r)) (fun K w H hK => fr_PO (oM_mostAdopted hK) w H)
  have hG := h.1
  have hH := hr_N (tfM_mostAdopted (Φ := Φ) (d := 200) (by decide) hG kd_c624) e2
  exact ⟨v, w, H, e0, e2, hH, e3⟩
theorem dJ_adopters (Φ : ev_P) (h : JJ g) (r1 : InR a) : ∃ z G w H, fW_adopters g 0 a 635 = some (z, G) ∧ fM_adopters G 624 a = some (w, H) ∧ JJ H := by
  have e0 : ∃ (z : Int) (G : gH), fW_adopters g 0 a 635 = some (z, G) ∧ ∀ x, ¬ x = 635 → G x = g x := by
    rw [fW_adopters, if_pos kd_c0]
    refine W_bdQ (W := fun (X : Option (Int × gH)) => ∃ (z : Int) (G : gH), X = some (z, G) ∧ ∀ x, ¬ x = 635 → G x = g x) (tC_adopters h.2.1) (fun y _ => ?_) (fun e he => ?_)
    · rw [if_pos k635, bnd_s]
      exact ⟨_, _, rfl, fun x hx => pU_n hx⟩
    · rcases he with rfl | rfl <;> exact ⟨_, _, rfl, fun _ _ => rfl⟩
  obtain ⟨z, G, e0, fG⟩ := e0
  obtain ⟨w, H, e2, e3⟩ := step_w (Y := fun K => fM_adopters K 624 a) h.2 fG (fun K hK => jw_Q hK (oM_adopters hK.2.1) (q8_fM_adopters E8_r)) (fun K w H hK => fr_PO (oM_adopters hK) w H)
  have hG := hr_N (tfW_adopters (Φ := Φ) (d := 200) (by decide) h.1 (rfR_of (by decide)) r1 (rfR_of (by decide))) e0
  have hH := hr_N (tfM_adopters (Φ := Φ) (d := 200) (by decide) hG kd_c624 r1) e2
  exact ⟨z, G, w, H, e0, e2, hH, e3⟩
theorem dJ_betterCode (Φ : ev_P) (h : JJ g) (r1 : InR a) : ∃ z G w H, fW_betterCode g 0 a 635 = some (z, G) ∧ fM_betterCode G 624 a = some (w, H) ∧ JJ H ∧ H 624 8 = z ∧ (z = 0 → H 635 0 = w) := by
  obtain ⟨z, G, w, H, e1, e2, e3, e4, e5⟩ := step_W (tm := t2) (P := True) (Y := fun K => fM_betterCode K 624 a) h.2 (fun K hK => jo_betterCode hK) (fr_WC (tC_betterCode (CO_r h.2.1))) (fun K w H hK => fr_PO (oM_betterCode hK) w H) (fun k G hk => w_t2 hk)
  have e0 : fW_betterCode g 0 a 635 = some (z, G) := by rw [fW_betterCode, if_pos kd_c0]; exact e1
  have hG := hr_N (tfW_betterCode (Φ := Φ) (d := 200) (by decide) h.1 (rfR_of (by decide)) r1 (rfR_of (by decide))) e0
  have hH := hr_N (tfM_betterCode (Φ := Φ) (d := 200) (by decide) hG kd_c624 r1) e2
  exact ⟨z, G, w, H, e0, e2, ⟨hH, e3⟩, e4, fun y => e5 y trivial⟩
theorem dJ_wouldRun (Φ : ev_P) (h : JJ g) (r1 : InR a) (r2 : InR b) : ∃ z G w H, fW_wouldRun g 0 a b 635 = some (z, G) ∧ fM_wouldRun G 624 a b = some (w, H) ∧ JJ H ∧ H 624 8 = z ∧ (z = 0 → H 635 0 = w) := by
  obtain ⟨z, G, w, H, e1, e2, e3, e4, e5⟩ := step_W (tm := t0) (P := True) (Y := fun K => fM_wouldRun K 624 a b) h.2 (fun K hK => jo_wouldRun hK) (fr_WC (tC_wouldRun (CO_r h.2.1))) (fun K w H hK => fr_PO (oM_wouldRun hK) w H) (fun k G hk => w_t0 hk)
  have e0 : fW_wouldRun g 0 a b 635 = some (z, G) := by rw [fW_wouldRun, if_pos kd_c0]; exact e1
  have hG := hr_N (tfW_wouldRun (Φ := Φ) (d := 200) (by decide) h.1 (rfR_of (by decide)) r1 r2 (rfR_of (by decide))) e0
  have hH := hr_N (tfM_wouldRun (Φ := Φ) (d := 200) (by decide) hG kd_c624 r1 r2) e2
  exact ⟨z, G, w, H, e0, e2, ⟨hH, e3⟩, e4, fun y => e5 y trivial⟩
theorem dJ_readShare (Φ : ev_P) (h : JJ g) : ∃ v w H, fC_readShare g 0 = some v ∧ fM_readShare g 624 = some (w, H) ∧ JJ H := by
  obtain ⟨v, e0, -⟩ := tC_readShare h.2.1 h.1
  obtain ⟨w, H, e2, e3⟩ := step_w (Y := fun K => fM_readShare K 624) (G := g) h.2 (fun _ _ => rfl) (fun K hK => jw_Q hK (oM_readShare hK.2.1) (q8_fM_readShare E8_r)) (fun K w H hK => fr_PO (oM_readShare hK) w H)
  have hG := h.1
  have hH := hr_N (tfM_readShare (Φ := Φ) (d := 200) (by decide) hG kd_c624) e2
  exact ⟨v, w, H, e0, e2, hH, e3⟩
theorem dJ_apart (Φ : ev_P) (h : JJ g) (r1 : InR a) (r2 : InR b) : ∃ z G w H, fW_apart g 0 a b 635 = some (z, G) ∧ fM_apart G 624 a b = some (w, H) ∧ JJ H := by
  have e0 : ∃ (z : Int) (G : gH), fW_apart g 0 a b 635 = some (z, G) ∧ ∀ x, ¬ x = 635 → G x = g x := by
    rw [fW_apart, if_pos kd_c0]
    refine W_bdQ (W := fun (X : Option (Int × gH)) => ∃ (z : Int) (G : gH), X = some (z, G) ∧ ∀ x, ¬ x = 635 → G x = g x) (tC_apart h.2.1) (fun y _ => ?_) (fun e he => ?_)
    · rw [if_pos k635, bnd_s]
      exact ⟨_, _, rfl, fun x hx => pU_n hx⟩
    · rcases he with rfl | rfl <;> exact ⟨_, _, rfl, fun _ _ => rfl⟩
  obtain ⟨z, G, e0, fG⟩ := e0
  obtain ⟨w, H, e2, e3⟩ := step_w (Y := fun K => fM_apart K 624 a b) h.2 fG (fun K hK => jw_Q hK (oM_apart hK.2.1) (q8_fM_apart E8_r)) (fun K w H hK => fr_PO (oM_apart hK) w H)
  have hG := hr_N (tfW_apart (Φ := Φ) (d := 200) (by decide) h.1 (rfR_of (by decide)) r1 r2 (rfR_of (by decide))) e0
  have hH := hr_N (tfM_apart (Φ := Φ) (d := 200) (by decide) hG kd_c624 r1 r2) e2
  exact ⟨z, G, w, H, e0, e2, hH, e3⟩
theorem dJ_relieve (Φ : ev_P) (h : JJ g) (r1 : InR a) : ∃ z G w H, fW_relieve g 0 a 635 = some (z, G) ∧ fM_relieve G 624 a = some (w, H) ∧ JJ H ∧ H 624 8 = z ∧ (z = 0 → H 635 0 = w) := by
  obtain ⟨z, G, w, H, e1, e2, e3, e4, e5⟩ := step_W (tm := t2) (P := True) (Y := fun K => fM_relieve K 624 a) h.2 (fun K hK => jo_relieve hK) (fr_WC (tC_relieve (CO_r h.2.1))) (fun K w H hK => fr_PO (oM_relieve hK) w H) (fun k G hk => w_t2 hk)
  have e0 : fW_relieve g 0 a 635 = some (z, G) := by rw [fW_relieve, if_pos kd_c0]; exact e1
  have hG := hr_N (tfW_relieve (Φ := Φ) (d := 200) (by decide) h.1 (rfR_of (by decide)) r1 (rfR_of (by decide))) e0
  have hH := hr_N (tfM_relieve (Φ := Φ) (d := 200) (by decide) hG kd_c624 r1) e2
  exact ⟨z, G, w, H, e0, e2, ⟨hH, e3⟩, e4, fun y => e5 y trivial⟩
theorem dJ_wouldHold (Φ : ev_P) (h : JJ g) (r1 : InR a) (r2 : InR b) (r3 : InR c) : ∃ z G w H, fW_wouldHold g 0 a b c 635 = some (z, G) ∧ fM_wouldHold G 624 a b c = some (w, H) ∧ JJ H ∧ H 624 8 = z ∧ (z = 0 → H 635 0 = w) := by
  obtain ⟨z, G, w, H, e1, e2, e3, e4, e5⟩ := step_W (tm := t3) (P := True) (Y := fun K => fM_wouldHold K 624 a b c) h.2 (fun K hK => jo_wouldHold hK) (fr_WC (tC_wouldHold (CO_r h.2.1))) (fun K w H hK => fr_PO (oM_wouldHold hK) w H) (fun k G hk => w_t3 hk)
  have e0 : fW_wouldHold g 0 a b c 635 = some (z, G) := by rw [fW_wouldHold, if_pos kd_c0]; exact e1
  have hG := hr_N (tfW_wouldHold (Φ := Φ) (d := 200) (by decide) h.1 (rfR_of (by decide)) r1 r2 r3 (rfR_of (by decide))) e0
  have hH := hr_N (tfM_wouldHold (Φ := Φ) (d := 200) (by decide) hG kd_c624 r1 r2 r3) e2
  exact ⟨z, G, w, H, e0, e2, ⟨hH, e3⟩, e4, fun y => e5 y trivial⟩
theorem dJ_dutyLife (Φ : ev_P) (h : JJ g) (r1 : InR a) : ∃ z G w H, fW_dutyLife g 0 a 635 = some (z, G) ∧ fM_dutyLife G 624 a = some (w, H) ∧ JJ H ∧ H 624 8 = z ∧ (z = 0 → H 635 0 = w) := by
  obtain ⟨z, G, w, H, e1, e2, e3, e4, e5⟩ := step_W (tm := t0) (P := True) (Y := fun K => fM_dutyLife K 624 a) h.2 (fun K hK => jo_dutyLife hK) (fr_WC (tC_dutyLife (CO_r h.2.1))) (fun K w H hK => fr_PO (oM_dutyLife hK) w H) (fun k G hk => w_t0 hk)
  have e0 : fW_dutyLife g 0 a 635 = some (z, G) := by rw [fW_dutyLife, if_pos kd_c0]; exact e1
  have hG := hr_N (tfW_dutyLife (Φ := Φ) (d := 200) (by decide) h.1 (rfR_of (by decide)) r1 (rfR_of (by decide))) e0
  have hH := hr_N (tfM_dutyLife (Φ := Φ) (d := 200) (by decide) hG kd_c624 r1) e2
  exact ⟨z, G, w, H, e0, e2, ⟨hH, e3⟩, e4, fun y => e5 y trivial⟩
theorem dJ_heaviest (Φ : ev_P) (h : JJ g) (r1 : InR a) : ∃ z G w H, fW_heaviest g 0 a 635 = some (z, G) ∧ fM_heaviest G 624 a = some (w, H) ∧ JJ H := by
  have e0 : ∃ (z : Int) (G : gH), fW_heaviest g 0 a 635 = some (z, G) ∧ ∀ x, ¬ x = 635 → G x = g x := by
    rw [fW_heaviest, if_pos kd_c0]
    refine W_bdQ (W := fun (X : Option (Int × gH)) => ∃ (z : Int) (G : gH), X = some (z, G) ∧ ∀ x, ¬ x = 635 → G x = g x) (tC_heaviest h.2.1) (fun y _ => ?_) (fun e he => ?_)
    · rw [if_pos k635, bnd_s]
      exact ⟨_, _, rfl, fun x hx => pU_n hx⟩
    · subst he
      exact ⟨_, _, rfl, fun _ _ => rfl⟩
  obtain ⟨z, G, e0, fG⟩ := e0
  obtain ⟨w, H, e2, e3⟩ := step_w (Y := fun K => fM_heaviest K 624 a) h.2 fG (fun K hK => jw_Q hK (oM_heaviest hK.2.1) (q8_fM_heaviest E8_r)) (fun K w H hK => fr_PO (oM_heaviest hK) w H)
  have hG := hr_N (tfW_heaviest (Φ := Φ) (d := 200) (by decide) h.1 (rfR_of (by decide)) r1 (rfR_of (by decide))) e0
  have hH := hr_N (tfM_heaviest (Φ := Φ) (d := 200) (by decide) hG kd_c624 r1) e2
  exact ⟨z, G, w, H, e0, e2, hH, e3⟩
theorem dJ_groupsBelow (Φ : ev_P) (h : JJ g) (r1 : InR a) : ∃ z G w H, fW_groupsBelow g 0 a 635 = some (z, G) ∧ fM_groupsBelow G 624 a = some (w, H) ∧ JJ H := by
  have e0 : ∃ (z : Int) (G : gH), fW_groupsBelow g 0 a 635 = some (z, G) ∧ ∀ x, ¬ x = 635 → G x = g x := by
    rw [fW_groupsBelow, if_pos kd_c0]
    refine W_bdQ (W := fun (X : Option (Int × gH)) => ∃ (z : Int) (G : gH), X = some (z, G) ∧ ∀ x, ¬ x = 635 → G x = g x) (tC_groupsBelow h.2.1) (fun y _ => ?_) (fun e he => ?_)
    · rw [if_pos k635, bnd_s]
      exact ⟨_, _, rfl, fun x hx => pU_n hx⟩
    · subst he
      exact ⟨_, _, rfl, fun _ _ => rfl⟩
  obtain ⟨z, G, e0, fG⟩ := e0
  obtain ⟨w, H, e2, e3⟩ := step_w (Y := fun K => fM_groupsBelow K 624 a) h.2 fG (fun K hK => jw_Q hK (oM_groupsBelow hK.2.1) (q8_fM_groupsBelow E8_r)) (fun K w H hK => fr_PO (oM_groupsBelow hK) w H)
  have hG := hr_N (tfW_groupsBelow (Φ := Φ) (d := 200) (by decide) h.1 (rfR_of (by decide)) r1 (rfR_of (by decide))) e0
  have hH := hr_N (tfM_groupsBelow (Φ := Φ) (d := 200) (by decide) hG kd_c624 r1) e2
  exact ⟨z, G, w, H, e0, e2, hH, e3⟩
theorem dJ_strangers (Φ : ev_P) (h : JJ g) (r1 : InR a) : ∃ z G w H, fW_strangers g 0 a 635 = some (z, G) ∧ fM_strangers G 624 a = some (w, H) ∧ JJ H := by
  have e0 : ∃ (z : Int) (G : gH), fW_strangers g 0 a 635 = some (z, G) ∧ ∀ x, ¬ x = 635 → G x = g x := by
    rw [fW_strangers, if_pos kd_c0]
    refine W_bdQ (W := fun (X : Option (Int × gH)) => ∃ (z : Int) (G : gH), X = some (z, G) ∧ ∀ x, ¬ x = 635 → G x = g x) (tC_strangers h.2.1) (fun y _ => ?_) (fun e he => ?_)
    · rw [if_pos k635, bnd_s]
      exact ⟨_, _, rfl, fun x hx => pU_n hx⟩
    · subst he
      exact ⟨_, _, rfl, fun _ _ => rfl⟩
  obtain ⟨z, G, e0, fG⟩ := e0
  obtain ⟨w, H, e2, e3⟩ := step_w (Y := fun K => fM_strangers K 624 a) h.2 fG (fun K hK => jw_Q hK (oM_strangers hK.2.1) (q8_fM_strangers E8_r)) (fun K w H hK => fr_PO (oM_strangers hK) w H)
  have hG := hr_N (tfW_strangers (Φ := Φ) (d := 200) (by decide) h.1 (rfR_of (by decide)) r1 (rfR_of (by decide))) e0
  have hH := hr_N (tfM_strangers (Φ := Φ) (d := 200) (by decide) hG kd_c624 r1) e2
  exact ⟨z, G, w, H, e0, e2, hH, e3⟩
theorem dJ_print (Φ : ev_P) (h : JJ g) (r1 : InR a) (r2 : InR b) : ∃ z G w H, fW_print g 0 a b 635 = some (z, G) ∧ fM_print G 624 a b = some (w, H) ∧ JJ H := by
  have e0 : ∃ (z : Int) (G G0 : gH), fW_print g 0 a b 635 = some (z, G) ∧ OO g G0 ∧ ∀ x, ¬ x = 635 → G x = G0 x := by
    rw [fW_print, if_pos kd_c0]
    refine W_bdT (W := fun (X : Option (Int × gH)) => ∃ (z : Int) (G G0 : gH), X = some (z, G) ∧ OO g G0 ∧ ∀ x, ¬ x = 635 → G x = G0 x) (jp_print h.2.1) (fun y G hG => ?_) (fun e G he => ?_)
    · rw [if_pos k635, bnd_s]
      exact ⟨_, _, G, rfl, hG, fun x hx => pU_n hx⟩
    · obtain ⟨he, hG⟩ := he
      subst hG
      have o0 : OO G G := ⟨fun _ _ => rfl, h.2.1.1.2.2.2.2.2.2⟩
      rcases he with rfl | rfl | rfl <;> exact ⟨_, _, G, rfl, o0, fun _ _ => rfl⟩
  obtain ⟨z, G, G0, e0, oG, fG⟩ := e0
  have jK : JA g G := JA_x h.2 (fun _ _ => rfl) (fun x x0 x1 => (fG x (by omega)).trans (oG.1 x (by omega)))
  obtain ⟨w, H, e2, j⟩ := jw_print (p := a) (a := b) jK
  have mf := fr_PO (oM_print jK.2.1) w H e2
  have e3 : JA H H := JA_x (JA_OO j oG) (fun x hx => (mf x (by omega)).trans (fG x (by omega))) (fun _ _ _ => rfl)
  have hG := hr_N (tfW_print (Φ := Φ) (d := 200) (by decide) h.1 (rfR_of (by decide)) r1 r2 (rfR_of (by decide))) e0
  have hH := hr_N (tfM_print (Φ := Φ) (d := 200) (by decide) hG kd_c624 r1 r2) e2
  exact ⟨z, G, w, H, e0, e2, hH, e3⟩
theorem dJ_outputByte (Φ : ev_P) (h : JJ g) (r1 : InR a) : ∃ v w H, fC_outputByte g 0 a = some v ∧ fM_outputByte g 624 a = some (w, H) ∧ JJ H := by
  obtain ⟨v, e0, -⟩ := tC_outputByte h.2.1
  obtain ⟨w, H, e2, e3⟩ := step_w (Y := fun K => fM_outputByte K 624 a) (G := g) h.2 (fun _ _ => rfl) (fun K hK => jw_Q hK (oM_outputByte hK.2.1) (q8_fM_outputByte E8_r)) (fun K w H hK => fr_PO (oM_outputByte hK) w H)
  have hG := h.1
  have hH := hr_N (tfM_outputByte (Φ := Φ) (d := 200) (by decide) hG kd_c624 r1) e2
  exact ⟨v, w, H, e0, e2, hH, e3⟩
theorem dJ_undo (Φ : ev_P) (h : JJ g) : ∃ v G w H, fC_undo g 0 = some (v, G) ∧ fM_undo G 624 = some (w, H) ∧ JJ H ∧ v = w := by
  obtain ⟨v, G, w, H, e0, e2, e3, e4⟩ := step_N (P := True) (Y := fun K => fM_undo K 624) h.2 (fun K hK => jo_undo hK) (fr_CN (tC_undo (CO_r h.2.1))) (fun K w H hK => fr_PO (oM_undo hK) w H)
  have hG := hr_N (tfC_undo (Φ := Φ) (d := 200) (by decide) h.1 kd_c0) e0
  have hH := hr_N (tfM_undo (Φ := Φ) (d := 200) (by decide) hG kd_c624) e2
  exact ⟨v, G, w, H, e0, e2, ⟨hH, e3⟩, e4 trivial⟩
theorem dJ_saveState (Φ : ev_P) (h : JJ g) : ∃ v G w H, fC_saveState g 0 = some (v, G) ∧ fM_saveState G 624 = some (w, H) ∧ JJ H ∧ v = w := by
  obtain ⟨v, G, w, H, e0, e2, e3, e4⟩ := step_N (P := True) (Y := fun K => fM_saveState K 624) h.2 (fun K hK => jo_saveState hK) (fr_CN (tC_saveState (CO_r h.2.1))) (fun K w H hK => fr_PO (oM_saveState hK) w H)
  have hG := hr_N (tfC_saveState (Φ := Φ) (d := 200) (by decide) h.1 kd_c0) e0
  have hH := hr_N (tfM_saveState (Φ := Φ) (d := 200) (by decide) hG kd_c624) e2
  exact ⟨v, G, w, H, e0, e2, ⟨hH, e3⟩, e4 trivial⟩
theorem dJ_restoreState (Φ : ev_P) (h : JJ g) : ∃ z G w H, fW_restoreState g 0 635 = some (z, G) ∧ fM_restoreState G 624 = some (w, H) ∧ JJ H ∧ H 624 8 = z ∧ (z = 0 → H 635 0 = w) := by
  obtain ⟨z, G, w, H, e1, e2, e3, e4, e5⟩ := step_W (tm := t1) (P := True) (Y := fun K => fM_restoreState K 624) h.2 (fun K hK => jo_restoreState hK) (fr_WC (tC_restoreState (CO_r h.2.1))) (fun K w H hK => fr_PO (oM_restoreState hK) w H) (fun k G hk => w_t1 hk)
  have e0 : fW_restoreState g 0 635 = some (z, G) := by rw [fW_restoreState, if_pos kd_c0]; exact e1
  have hG := hr_N (tfW_restoreState (Φ := Φ) (d := 200) (by decide) h.1 (rfR_of (by decide)) (rfR_of (by decide))) e0
  have hH := hr_N (tfM_restoreState (Φ := Φ) (d := 200) (by decide) hG kd_c624) e2
  exact ⟨z, G, w, H, e0, e2, ⟨hH, e3⟩, e4, fun y => e5 y trivial⟩
theorem okf2 {x y : Int} (hy : toI y ≠ 0) : okf2d (gfdiv (gi2f x) (gi2f y)) = true := by
  have h := FP.Core.fdiv_out (FP.Core.FFin.notNaN (FP.Core.i2f_fin (toI x))) (FP.Core.i2f_fin (toI y)) (fun hz => FP.Core.i2f_ne_zero hy ((FP.Core.zero_bits232 _).mp hz))
  unfold okf2d gfdiv gi2f
  rw [Int.toNat_natCast, Int.toNat_natCast, Int.toNat_natCast, UInt32.ofNat_toNat, UInt32.ofNat_toNat, UInt32.ofNat_toNat]
  exact n64_ok ((FP.f2d_nan _).trans h)
theorem okf2_0 : okf2d 0 = true := by decide +kernel
theorem tC_rootShare2 (h : CInv g) (hr : HR g) : WP (fun v => okf2d v = true) (fC_rootShare g 0) := by
  obtain ⟨T, hT, e0, ht, e3, e5⟩ := CI_T h
  rw [fC_rootShare, e0, if_pos (kdT hT)]
  exact W_ite (fun _ => WP_i okf2_0) (fun hz => W_g (okf (toI_ne (HR_T hr hT (by omega)) hz)) (WP_i (okf2 (toI_ne (HR_T hr hT (by omega)) hz))))
theorem oM_rootShare2 (hi : MInv g) (hg : HR g) : ∃ v G, fM_rootShare g 624 = some (v, G) ∧ okf2d v = true := by
  have o1 := o0 hi
  have h0 := o1.1.1.1
  have hE := HR_th (k := 2) hg
  rw [fM_rootShare, bnd_s, o8 hi]
  simp (disch := omega) only [h0, kd_625, sz_625, w32_r, true_and, le_t, lt_t, and_true, ↓reduceIte]
  split
  · exact ⟨_, _, rfl, okf2_0⟩
  · next hz =>
    rw [if_pos (okf (toI_ne hE hz))]
    exact ⟨_, _, rfl, okf2 (toI_ne hE hz)⟩
theorem dJ_rootShare (Φ : ev_P) (h : JJ g) : ∃ v w H, fC_rootShare g 0 = some v ∧ okf2d v = true ∧ fM_rootShare g 624 = some (w, H) ∧ okf2d w = true ∧ JJ H := by
  obtain ⟨v, e0, ok⟩ := tC_rootShare2 h.2.1 h.1
  obtain ⟨w, H, e2, ok2⟩ := oM_rootShare2 h.2.2.1 h.1
  have po := oM_rootShare h.2.2.1 h.1
  obtain ⟨w', H', e3, j⟩ := jw_Q h.2 po (q8_fM_rootShare E8_r)
  have es := same e2 e3
  rw [← es.2] at j
  have mf := fr_PO po w H e2
  have hG := h.1
  have hH := hr_N (tfM_rootShare (Φ := Φ) (d := 200) (by decide) hG kd_c624) e2
  exact ⟨v, w, H, e0, ok, e2, ok2, hH, JA_x j (fun x hx => mf x (by omega)) (fun _ _ _ => rfl)⟩
theorem d_append (Φ : ev_P) (h : JJ g) (r1 : InR a) (r2 : InR b) (r3 : InR c) (r4 : InR d) (r5 : InR k) : ∃ v G w H, fC_appendInput g 0 a b c d k = some (v, G) ∧ fM_appendInput G 624 a b c d k = some (w, H) ∧ JJ H ∧ v = w := by
  obtain ⟨G1, c1, c2⟩ := tC_appendInput (a := a) (b := b) (c := c) (d := d) (k := k) h.2.1
  obtain ⟨v, G, w, H, e0, e2, e3, e4⟩ := step_N (P := True) (Y := fun K => fM_appendInput K 624 a b c d k) h.2 (fun K hK => jo_appendInput hK) (fun v G he => by rw [(same he c1).2]; exact c2.2.1) (fun K w H hK he => by
    obtain ⟨Y, m1, m2, m3, -⟩ := oM_appendInput (a := a) (b := b) (c := c) (d := d) (k := k) hK
    rw [(same he m1).2]; exact m3)
  have hG := hr_N (tfC_appendInput (Φ := Φ) (d := 200) (by decide) h.1 kd_c0 r1 r2 r3 r4 r5) e0
  have hH := hr_N (tfM_appendInput (Φ := Φ) (d := 200) (by decide) hG kd_c624 r1 r2 r3 r4 r5) e2
  exact ⟨v, G, w, H, e0, e2, ⟨hH, e3⟩, e4 trivial⟩
theorem d_truncate (Φ : ev_P) (h : JJ g) (r1 : InR a) : ∃ v G w H, fC_truncateInput g 0 a = some (v, G) ∧ fM_truncateInput G 624 a = some (w, H) ∧ JJ H ∧ v = w := by
  obtain ⟨G1, c1, c2⟩ := tC_truncateInput (v := a) h.2.1
  obtain ⟨v, G, w, H, e0, e2, e3, e4⟩ := step_N (P := True) (Y := fun K => fM_truncateInput K 624 a) h.2 (fun K hK => jo_truncateInput hK) (fun v G he => by rw [(same he c1).2]; exact c2.2.1) (fun K w H hK he => by
    obtain ⟨Y, m1, m2, m3, -⟩ := oM_truncateInput (a := a) hK
    rw [(same he m1).2]; exact m3)
  have hG := hr_N (tfC_truncateInput (Φ := Φ) (d := 200) (by decide) h.1 kd_c0 r1) e0
  have hH := hr_N (tfM_truncateInput (Φ := Φ) (d := 200) (by decide) hG kd_c624 r1) e2
  exact ⟨v, G, w, H, e0, e2, ⟨hH, e3⟩, e4 trivial⟩
theorem d_load (Φ : ev_P) (h : JJ g) : ∃ v G w H, fC_loadTree g 0 = some (v, G) ∧ fM_loadTree G 624 = some (w, H) ∧ JJ H ∧ v = w := by
  obtain ⟨v1, G1, c1, c2⟩ := tC_loadTree h.2.1
  obtain ⟨v, G, w, H, e0, e2, e3, e4⟩ := step_N (P := True) (Y := fun K => fM_loadTree K 624) h.2 (fun K hK => jo_loadTree hK) (fun v G he => by rw [(same he c1).2]; exact c2.2.1) (fun K w H hK he => by
    obtain ⟨v', Y, m1, m2, m3, -⟩ := oM_loadTree hK
    rw [(same he m1).2]; exact m3)
  have hG := hr_N (tfC_loadTree (Φ := Φ) (d := 200) (by decide) h.1 kd_c0) e0
  have hH := hr_N (tfM_loadTree (Φ := Φ) (d := 200) (by decide) hG kd_c624) e2
  exact ⟨v, G, w, H, e0, e2, ⟨hH, e3⟩, e4 trivial⟩
theorem scr_in {Φ : ev_P} {j : Int} (hs : ScrOK Φ L sc) (h : 0 ≤ j ∧ j < L) : InR (sc j) := by
  obtain ⟨n, rfl⟩ := Int.eq_ofNat_of_zero_le h.1
  exact (hs.2.2 n (by have := hs.1; omega)).1
/-- the loop goes on from a heap that stands -/
def Wx (X : Int → gH → Option (Int × gH)) (v4 : Int) (Y : Option (Int × gH)) : Prop := ∃ K, JJ K ∧ Y = X (w32 (v4 + 6)) K
/-- one call -/
theorem bW_ok {Φ : ev_P} (hs : ScrOK Φ L sc) {X : Int → gH → Option (Int × gH)} (h : JJ g) (hv : 0 ≤ v4 ∧ v4 + 6 ≤ L) : Wx X v4 (bW_law_23 sc L X v4 g) := by
  have hL : L ≤ 5000 := by have := hs.1; have := hs.2.1; omega
  have g1 : (0 : Int) ≤ w32 (v4 + 1) ∧ w32 (v4 + 1) < L := by rw [w32_r (by omega)]; omega
  have r1 : InR (sc (w32 (v4 + 1))) := scr_in hs g1
  have g2 : (0 : Int) ≤ w32 (v4 + 2) ∧ w32 (v4 + 2) < L := by rw [w32_r (by omega)]; omega
  have r2 : InR (sc (w32 (v4 + 2))) := scr_in hs g2
  have g3 : (0 : Int) ≤ w32 (v4 + 3) ∧ w32 (v4 + 3) < L := by rw [w32_r (by omega)]; omega
  have r3 : InR (sc (w32 (v4 + 3))) := scr_in hs g3
  have g4 : (0 : Int) ≤ w32 (v4 + 4) ∧ w32 (v4 + 4) < L := by rw [w32_r (by omega)]; omega
  have r4 : InR (sc (w32 (v4 + 4))) := scr_in hs g4
  have g5 : (0 : Int) ≤ w32 (v4 + 5) ∧ w32 (v4 + 5) < L := by rw [w32_r (by omega)]; omega
  have r5 : InR (sc (w32 (v4 + 5))) := scr_in hs g5
  have fin : ∀ H, JJ H → Wx X v4 (X (w32 (v4 + 6)) H) := fun H hH => ⟨H, hH, rfl⟩
  rw [bW_law_23]
  refine W_n (by rw [w32_r (by omega)]; omega) (W_g (show (0 : Int) ≤ v4 ∧ v4 < L from ⟨hv.1, by omega⟩) ?_)
  refine W_ite (fun _ => ?_) (fun _ => ?_)
  · obtain ⟨v, G, w, H, e1, e2, e3, e4⟩ := d_append Φ h r1 r2 r3 r4 r5
    rw [if_pos g1, if_pos g2, if_pos g3, if_pos g4, if_pos g5, e1, bdN_s, if_pos g1, if_pos g2, if_pos g3, if_pos g4, if_pos g5, e2, bdN_s]
    exact fin H e3
  refine W_ite (fun _ => ?_) (fun _ => ?_)
  · obtain ⟨v, G, w, H, e1, e2, e3, e4⟩ := d_truncate Φ h r1
    rw [if_pos g1, e1, bdN_s, if_pos g1, e2, bdN_s]
    exact fin H e3
  refine W_ite (fun _ => ?_) (fun _ => ?_)
  · obtain ⟨v, G, w, H, e1, e2, e3, e4⟩ := d_load Φ h
    rw [e1, bdN_s, e2, bdN_s]
    exact fin H e3
  refine W_ite (fun _ => ?_) (fun _ => ?_)
  · obtain ⟨v, w, H, e1, e2, e3⟩ := dJ_errorCode Φ h
    rw [e1, bdP_s, e2, bdN_s]
    exact fin H e3
  refine W_ite (fun _ => ?_) (fun _ => ?_)
  · obtain ⟨v, w, H, e1, e2, e3⟩ := dJ_errorOffset Φ h
    rw [e1, bdP_s, e2, bdN_s]
    exact fin H e3
  refine W_ite (fun _ => ?_) (fun _ => ?_)
  · obtain ⟨c, G, w, H, e1, e2, e3⟩ := dJ_count Φ h r1
    rw [if_pos g1, e1, bdN_s, if_pos g1, e2, bdN_s]
    exact fin H e3
  refine W_ite (fun _ => ?_) (fun _ => ?_)
  · obtain ⟨c, G, w, H, e1, e2, e3⟩ := dJ_process Φ h r1 r2
    rw [if_pos g1, if_pos g2, e1, bdN_s, if_pos g1, if_pos g2, e2, bdN_s]
    exact fin H e3
  refine W_ite (fun _ => ?_) (fun _ => ?_)
  · obtain ⟨c, G, w, H, e1, e2, e3⟩ := dJ_holder Φ h r1
    rw [if_pos g1, e1, bdN_s, if_pos g1, e2, bdN_s]
    exact fin H e3
  refine W_ite (fun _ => ?_) (fun _ => ?_)
  · obtain ⟨v, w, H, e1, e2, e3⟩ := dJ_rule Φ h r1
    rw [if_pos g1, e1, bdP_s, if_pos g1, e2, bdN_s]
    exact fin H e3
  refine W_ite (fun _ => ?_) (fun _ => ?_)
  · obtain ⟨c, G, w, H, e1, e2, e3⟩ := dJ_depth Φ h r1
    rw [if_pos g1, e1, bdN_s, if_pos g1, e2, bdN_s]
    exact fin H e3
  refine W_ite (fun _ => ?_) (fun _ => ?_)
  · obtain ⟨c, G, w, H, e1, e2, e3⟩ := dJ_isAbove Φ h r1 r2
    rw [if_pos g1, if_pos g2, e1, bdN_s, if_pos g1, if_pos g2, e2, bdN_s]
    exact fin H e3
  refine W_ite (fun _ => ?_) (fun _ => ?_)
  · obtain ⟨c, G, w, H, e1, e2, e3⟩ := dJ_meet Φ h r1 r2
    rw [if_pos g1, if_pos g2, e1, bdN_s, if_pos g1, if_pos g2, e2, bdN_s]
    exact fin H e3
  refine W_ite (fun _ => ?_) (fun _ => ?_)
  · obtain ⟨c, G, w, H, e1, e2, e3⟩ := dJ_below Φ h r1
    rw [if_pos g1, e1, bdN_s, if_pos g1, e2, bdN_s]
    exact fin H e3
  refine W_ite (fun _ => ?_) (fun _ => ?_)
  · obtain ⟨c, G, w, H, e1, e2, e3⟩ := dJ_walked Φ h r1
    rw [if_pos g1, e1, bdN_s, if_pos g1, e2, bdN_s]
    exact fin H e3
  refine W_ite (fun _ => ?_) (fun _ => ?_)
  · obtain ⟨v, w, H, e1, e2, e3⟩ := dJ_atDepth Φ h r1
    rw [if_pos g1, e1, bdP_s, if_pos g1, e2, bdN_s]
    exact fin H e3
  refine W_ite (fun _ => ?_) (fun _ => ?_)
  · obtain ⟨v, w, H, e1, e2, e3⟩ := dJ_height Φ h
    rw [e1, bdP_s, e2, bdN_s]
    exact fin H e3
  refine W_ite (fun _ => ?_) (fun _ => ?_)
  · obtain ⟨c, G, w, H, e1, e2, e3, e4, e5⟩ := dJ_spawn Φ h r1 r2 r3 r4
    rw [if_pos g1, if_pos g2, if_pos g3, if_pos g4, e1, bdN_s, if_pos g1, if_pos g2, if_pos g3, if_pos g4, e2, bdN_s]
    exact fin H e3
  refine W_ite (fun _ => ?_) (fun _ => ?_)
  · obtain ⟨c, G, w, H, e1, e2, e3, e4, e5⟩ := dJ_exit Φ h r1 r2
    rw [if_pos g1, if_pos g2, e1, bdN_s, if_pos g1, if_pos g2, e2, bdN_s]
    exact fin H e3
  refine W_ite (fun _ => ?_) (fun _ => ?_)
  · obtain ⟨c, G, w, H, e1, e2, e3, e4, e5⟩ := dJ_kill Φ h r1 r2
    rw [if_pos g1, if_pos g2, e1, bdN_s, if_pos g1, if_pos g2, e2, bdN_s]
    exact fin H e3
  refine W_ite (fun _ => ?_) (fun _ => ?_)
  · obtain ⟨c, G, w, H, e1, e2, e3, e4, e5⟩ := dJ_read Φ h r1
    rw [if_pos g1, e1, bdN_s, if_pos g1, e2, bdN_s]
    exact fin H e3
  refine W_ite (fun _ => ?_) (fun _ => ?_)
  · obtain ⟨c, G, w, H, e1, e2, e3, e4, e5⟩ := dJ_refuse Φ h r1 r2
    rw [if_pos g1, if_pos g2, e1, bdN_s, if_pos g1, if_pos g2, e2, bdN_s]
    exact fin H e3
  refine W_ite (fun _ => ?_) (fun _ => ?_)
  · obtain ⟨c, G, w, H, e1, e2, e3, e4, e5⟩ := dJ_accept Φ h r1 r2
    rw [if_pos g1, if_pos g2, e1, bdN_s, if_pos g1, if_pos g2, e2, bdN_s]
    exact fin H e3
  refine W_ite (fun _ => ?_) (fun _ => ?_)
  · obtain ⟨c, G, w, H, e1, e2, e3, e4, e5⟩ := dJ_move Φ h r1 r2
    rw [if_pos g1, if_pos g2, e1, bdN_s, if_pos g1, if_pos g2, e2, bdN_s]
    exact fin H e3
  refine W_ite (fun _ => ?_) (fun _ => ?_)
  · obtain ⟨c, G, w, H, e1, e2, e3, e4, e5⟩ := dJ_setCapacity Φ h r1 r2
    rw [if_pos g1, if_pos g2, e1, bdN_s, if_pos g1, if_pos g2, e2, bdN_s]
    exact fin H e3
  refine W_ite (fun _ => ?_) (fun _ => ?_)
  · obtain ⟨c, G, w, H, e1, e2, e3, e4, e5⟩ := dJ_setBudget Φ h r1 r2
    rw [if_pos g1, if_pos g2, e1, bdN_s, if_pos g1, if_pos g2, e2, bdN_s, fM_thrown, bdP_s, if_pos e4]
    by_cases z : c = 0
    · rw [if_pos z, if_pos k635, e5 z, if_pos gl_self]
      exact fin H e3
    · rw [if_neg z]
      exact fin H e3
  refine W_ite (fun _ => ?_) (fun _ => ?_)
  · obtain ⟨c, G, w, H, e1, e2, e3, e4, e5⟩ := dJ_setHeir Φ h r1 r2
    rw [if_pos g1, if_pos g2, e1, bdN_s, if_pos g1, if_pos g2, e2, bdN_s]
    exact fin H e3
  refine W_ite (fun _ => ?_) (fun _ => ?_)
  · obtain ⟨c, G, w, H, e1, e2, e3, e4, e5⟩ := dJ_give Φ h r1 r2
    rw [if_pos g1, if_pos g2, e1, bdN_s, if_pos g1, if_pos g2, e2, bdN_s]
    exact fin H e3
  refine W_ite (fun _ => ?_) (fun _ => ?_)
  · obtain ⟨c, G, w, H, e1, e2, e3⟩ := dJ_adopter Φ h r1
    rw [if_pos g1, e1, bdN_s, if_pos g1, e2, bdN_s]
    exact fin H e3
  refine W_ite (fun _ => ?_) (fun _ => ?_)
  · obtain ⟨c, G, w, H, e1, e2, e3⟩ := dJ_heirNow Φ h r1
    rw [if_pos g1, e1, bdN_s, if_pos g1, e2, bdN_s]
    exact fin H e3
  refine W_ite (fun _ => ?_) (fun _ => ?_)
  · obtain ⟨c, G, w, H, e1, e2, e3, e4, e5⟩ := dJ_wouldFall Φ h r1 r2
    rw [if_pos g1, if_pos g2, e1, bdN_s, if_pos g1, if_pos g2, e2, bdN_s]
    exact fin H e3
  refine W_ite (fun _ => ?_) (fun _ => ?_)
  · obtain ⟨c, G, w, H, e1, e2, e3, e4, e5⟩ := dJ_wouldStand Φ h r1 r2
    rw [if_pos g1, if_pos g2, e1, bdN_s, if_pos g1, if_pos g2, e2, bdN_s]
    exact fin H e3
  refine W_ite (fun _ => ?_) (fun _ => ?_)
  · obtain ⟨c, G, w, H, e1, e2, e3, e4, e5⟩ := dJ_wouldHave Φ h r1 r2 r3
    rw [if_pos g1, if_pos g2, if_pos g3, e1, bdN_s, if_pos g1, if_pos g2, if_pos g3, e2, bdN_s]
    exact fin H e3
  refine W_ite (fun _ => ?_) (fun _ => ?_)
  · obtain ⟨c, G, w, H, e1, e2, e3, e4, e5⟩ := dJ_wouldFallBy Φ h r1 r2
    rw [if_pos g1, if_pos g2, e1, bdN_s, if_pos g1, if_pos g2, e2, bdN_s]
    exact fin H e3
  refine W_ite (fun _ => ?_) (fun _ => ?_)
  · obtain ⟨c, G, w, H, e1, e2, e3, e4, e5⟩ := dJ_weakest Φ h r1
    rw [if_pos g1, e1, bdN_s, if_pos g1, e2, bdN_s]
    exact fin H e3
  refine W_ite (fun _ => ?_) (fun _ => ?_)
  · obtain ⟨c, G, w, H, e1, e2, e3⟩ := dJ_roomiest Φ h r1
    rw [if_pos g1, e1, bdN_s, if_pos g1, e2, bdN_s]
    exact fin H e3
  refine W_ite (fun _ => ?_) (fun _ => ?_)
  · obtain ⟨v, w, H, e1, e2, e3⟩ := dJ_allRoom Φ h
    rw [e1, bdP_s, e2, bdN_s]
    exact fin H e3
  refine W_ite (fun _ => ?_) (fun _ => ?_)
  · obtain ⟨v, w, H, e1, e2, e3⟩ := dJ_overfull Φ h
    rw [e1, bdP_s, e2, bdN_s]
    exact fin H e3
  refine W_ite (fun _ => ?_) (fun _ => ?_)
  · obtain ⟨c, G, w, H, e1, e2, e3⟩ := dJ_ofGroup Φ h r1
    rw [if_pos g1, e1, bdN_s, if_pos g1, e2, bdN_s]
    exact fin H e3
  refine W_ite (fun _ => ?_) (fun _ => ?_)
  · obtain ⟨c, G, w, H, e1, e2, e3⟩ := dJ_nextTestament Φ h r1
    rw [if_pos g1, e1, bdN_s, if_pos g1, e2, bdN_s]
    exact fin H e3
  refine W_ite (fun _ => ?_) (fun _ => ?_)
  · obtain ⟨c, G, w, H, e1, e2, e3⟩ := dJ_exited Φ h r1
    rw [if_pos g1, e1, bdN_s, if_pos g1, e2, bdN_s]
    exact fin H e3
  refine W_ite (fun _ => ?_) (fun _ => ?_)
  · obtain ⟨v, w, H, e1, e2, e3⟩ := dJ_meanDepth Φ h
    rw [e1, bdP_s, e2, bdN_s]
    exact fin H e3
  refine W_ite (fun _ => ?_) (fun _ => ?_)
  · obtain ⟨v, w, H, e1, o1, e2, o2, e3⟩ := dJ_rootShare Φ h
    rw [e1, bdP_s, if_pos o1, e2, bdN_s, if_pos o2]
    exact fin H e3
  refine W_ite (fun _ => ?_) (fun _ => ?_)
  · obtain ⟨c, G, w, H, e1, e2, e3, e4, e5⟩ := dJ_prune Φ h r1 r2
    rw [if_pos g1, if_pos g2, e1, bdN_s, if_pos g1, if_pos g2, e2, bdN_s]
    exact fin H e3
  refine W_ite (fun _ => ?_) (fun _ => ?_)
  · obtain ⟨c, G, w, H, e1, e2, e3, e4, e5⟩ := dJ_exchange Φ h r1 r2
    rw [if_pos g1, if_pos g2, e1, bdN_s, if_pos g1, if_pos g2, e2, bdN_s]
    exact fin H e3
  refine W_ite (fun _ => ?_) (fun _ => ?_)
  · obtain ⟨c, G, w, H, e1, e2, e3, e4, e5⟩ := dJ_readAll Φ h r1
    rw [if_pos g1, e1, bdN_s, if_pos g1, e2, bdN_s]
    exact fin H e3
  refine W_ite (fun _ => ?_) (fun _ => ?_)
  · obtain ⟨c, G, w, H, e1, e2, e3⟩ := dJ_testamentsBelow Φ h r1
    rw [if_pos g1, e1, bdN_s, if_pos g1, e2, bdN_s]
    exact fin H e3
  refine W_ite (fun _ => ?_) (fun _ => ?_)
  · obtain ⟨c, G, w, H, e1, e2, e3⟩ := dJ_roomBelow Φ h r1
    rw [if_pos g1, e1, bdN_s, if_pos g1, e2, bdN_s]
    exact fin H e3
  refine W_ite (fun _ => ?_) (fun _ => ?_)
  · obtain ⟨v, w, H, e1, e2, e3⟩ := dJ_mostAdopted Φ h
    rw [e1, bdP_s, e2, bdN_s]
    exact fin H e3
  refine W_ite (fun _ => ?_) (fun _ => ?_)
  · obtain ⟨c, G, w, H, e1, e2, e3⟩ := dJ_adopters Φ h r1
    rw [if_pos g1, e1, bdN_s, if_pos g1, e2, bdN_s]
    exact fin H e3
  refine W_ite (fun _ => ?_) (fun _ => ?_)
  · obtain ⟨c, G, w, H, e1, e2, e3, e4, e5⟩ := dJ_betterCode Φ h r1
    rw [if_pos g1, e1, bdN_s, if_pos g1, e2, bdN_s]
    exact fin H e3
  refine W_ite (fun _ => ?_) (fun _ => ?_)
  · obtain ⟨c, G, w, H, e1, e2, e3, e4, e5⟩ := dJ_wouldRun Φ h r1 r2
    rw [if_pos g1, if_pos g2, e1, bdN_s, if_pos g1, if_pos g2, e2, bdN_s]
    exact fin H e3
  refine W_ite (fun _ => ?_) (fun _ => ?_)
  · obtain ⟨v, w, H, e1, e2, e3⟩ := dJ_readShare Φ h
    rw [e1, bdP_s, e2, bdN_s]
    exact fin H e3
  refine W_ite (fun _ => ?_) (fun _ => ?_)
  · obtain ⟨c, G, w, H, e1, e2, e3⟩ := dJ_apart Φ h r1 r2
    rw [if_pos g1, if_pos g2, e1, bdN_s, if_pos g1, if_pos g2, e2, bdN_s]
    exact fin H e3
  refine W_ite (fun _ => ?_) (fun _ => ?_)
  · obtain ⟨c, G, w, H, e1, e2, e3, e4, e5⟩ := dJ_relieve Φ h r1
    rw [if_pos g1, e1, bdN_s, if_pos g1, e2, bdN_s]
    exact fin H e3
  refine W_ite (fun _ => ?_) (fun _ => ?_)
  · obtain ⟨c, G, w, H, e1, e2, e3, e4, e5⟩ := dJ_wouldHold Φ h r1 r2 r3
    rw [if_pos g1, if_pos g2, if_pos g3, e1, bdN_s, if_pos g1, if_pos g2, if_pos g3, e2, bdN_s]
    exact fin H e3
  refine W_ite (fun _ => ?_) (fun _ => ?_)
  · obtain ⟨c, G, w, H, e1, e2, e3, e4, e5⟩ := dJ_dutyLife Φ h r1
    rw [if_pos g1, e1, bdN_s, if_pos g1, e2, bdN_s]
    exact fin H e3
  refine W_ite (fun _ => ?_) (fun _ => ?_)
  · obtain ⟨c, G, w, H, e1, e2, e3⟩ := dJ_heaviest Φ h r1
    rw [if_pos g1, e1, bdN_s, if_pos g1, e2, bdN_s]
    exact fin H e3
  refine W_ite (fun _ => ?_) (fun _ => ?_)
  · obtain ⟨c, G, w, H, e1, e2, e3⟩ := dJ_groupsBelow Φ h r1
    rw [if_pos g1, e1, bdN_s, if_pos g1, e2, bdN_s]
    exact fin H e3
  refine W_ite (fun _ => ?_) (fun _ => ?_)
  · obtain ⟨c, G, w, H, e1, e2, e3⟩ := dJ_strangers Φ h r1
    rw [if_pos g1, e1, bdN_s, if_pos g1, e2, bdN_s]
    exact fin H e3
  refine W_ite (fun _ => ?_) (fun _ => ?_)
  · obtain ⟨c, G, w, H, e1, e2, e3⟩ := dJ_print Φ h r1 r2
    rw [if_pos g1, if_pos g2, e1, bdN_s, if_pos g1, if_pos g2, e2, bdN_s]
    exact fin H e3
  refine W_ite (fun _ => ?_) (fun _ => ?_)
  · obtain ⟨v, w, H, e1, e2, e3⟩ := dJ_outputByte Φ h r1
    rw [if_pos g1, e1, bdP_s, if_pos g1, e2, bdN_s]
    exact fin H e3
  refine W_ite (fun _ => ?_) (fun _ => ?_)
  · obtain ⟨v, G, w, H, e1, e2, e3, e4⟩ := dJ_undo Φ h
    rw [e1, bdN_s, e2, bdN_s]
    exact fin H e3
  refine W_ite (fun _ => ?_) (fun _ => ?_)
  · obtain ⟨v, G, w, H, e1, e2, e3, e4⟩ := dJ_saveState Φ h
    rw [e1, bdN_s, e2, bdN_s]
    exact fin H e3
  refine W_ite (fun _ => ?_) (fun _ => ?_)
  · obtain ⟨c, G, w, H, e1, e2, e3, e4, e5⟩ := dJ_restoreState Φ h
    rw [e1, bdN_s, e2, bdN_s]
    exact fin H e3
  exact fin g h
/-- the whole loop -/
theorem lW_ok {Φ : ev_P} (hs : ScrOK Φ L sc) : ∀ (n : Nat) (v4 : Int) (g : gH), JJ g → 0 ≤ v4 → v4 ≤ L + 6 → (L + 6 - v4).toNat < n → ∃ H, lW_law_23 sc L n v4 g = some (1, H) := by
  intro n
  have hL : 0 ≤ L ∧ L ≤ 5000 := by have := hs.1; have := hs.2.1; omega
  induction n with
  | zero => intro v4 g _ _ _ h; exact absurd h (Nat.not_lt_zero _)
  | succ n ih =>
    intro v4 g h h0 h1 hn
    show ∃ H, bW_law_23 sc L (lW_law_23 sc L n) v4 g = some (1, H)
    by_cases hv : v4 + 6 ≤ L
    · obtain ⟨H, hH, e⟩ := bW_ok (X := lW_law_23 sc L n) hs h ⟨h0, hv⟩
      rw [e, w32_r (by omega)]
      exact ih (v4 + 6) H hH (by omega) (by omega) (by omega)
    · rw [bW_law_23, if_pos (by rw [w32_r (by omega)]; omega)]
      exact ⟨g, rfl⟩
end LAW96
