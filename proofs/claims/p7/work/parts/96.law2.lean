/-! ===== the law's loop: it never answers false (own work, by program: wip/p2/gen_law2.py) ===== -/
section LAW96
variable {g g' G H K : gH} {a b c d k v w v4 L l : Int} {sc : Int → Int}
theorem MInv_x (h : MInv G) (e : ∀ x, 624 ≤ x → x < 635 → H x = G x) : MInv H := by
  unfold MInv MS at *
  rw [e 624 (by omega) (by omega), e 625 (by omega) (by omega), e 628 (by omega) (by omega), e 629 (by omega) (by omega), e 630 (by omega) (by omega)]
  exact h
theorem CInv_x (h : CInv G) (e : ∀ x, x < 624 → H x = G x) : CInv H := by
  obtain ⟨⟨h1, h2, h3, h4, h5, h6, h7⟩, ht, hl⟩ := h
  refine ⟨⟨by rw [e 0 (by omega)]; exact h1, by rw [e 133 (by omega)]; exact h2, by rw [e 134 (by omega)]; exact h3, by rw [e 575 (by omega)]; exact h4, by rw [e 575 (by omega)]; exact h5, by rw [e 576 (by omega)]; exact h6, by rw [e 622 (by omega)]; exact h7⟩, fun S hS => ?_, by rw [e 576 (by omega)]; exact hl⟩
  have o := out_Ts S hS
  exact TI_F (ht S hS) (fun x x0 x1 => e x (by omega))
/-- between two calls: class and reference stand, with one input and one error -/
def JJ (g : gH) : Prop := HR g ∧ CInv g ∧ MInv g ∧ g 624 10 = g 576 1 ∧ BB g g ∧ g 575 2 = g 624 11 ∧ g 575 3 = g 624 12
theorem hr_N {Φ : ev_P} {P : Nat → ev_M} {t : Nat} {X : Option (Int × gH)} {D : Nat} {M : ev_M} {pc : Nat} {loc : ev_L} {st : List ev_V} {c s : Nat} (h : Go Φ P fN t X D M pc loc st g c s) (e : X = some (v, G)) : HR G := (h _ e).2.1
def JW (g H : gH) : Prop := CInv H ∧ (∀ x, (575 ≤ x ∧ x ≤ 577) ∨ 624 ≤ x → ¬ x = 635 → H x = g x) ∧ H 576 1 = g 576 1
theorem JW_c (h : CO g G) : JW g G := ⟨h.1, fun x x0 _ => h.2.1 x x0, h.2.2⟩
theorem JW_o (h : CO g G) : JW g (pU G 635 0 v) := ⟨CInv_x h.1 (fun x x0 => pU_n (by omega)), fun x x0 x1 => (pU_n x1).trans (h.2.1 x x0), by rw [pU_n (by omega)]; exact h.2.2⟩
theorem c635 : kd 635 = 23 ∧ (0 : Int) ≤ 0 ∧ 0 < sz 635 := by decide +kernel
theorem W_dN {X : Option (Int × gH)} (h : JJ g) (hq : WN (fun _ H => JW g H) X) (hr : ∀ v H, X = some (v, H) → HR H) : WN (fun _ H => JJ H) X := by
  obtain ⟨v, H, e, h1, h2, h3⟩ := hq
  refine ⟨v, H, e, hr v H e, h1, MInv_x h.2.2.1 (fun x x0 x1 => h2 x (Or.inr x0) (by omega)), ?_, ?_⟩
  · rw [h3, h2 624 (by omega) (by omega)]
    exact h.2.2.2.1
  · unfold BB
    rw [h2 575 (by omega) (by omega), h2 576 (by omega) (by omega), h2 577 (by omega) (by omega), h2 624 (by omega) (by omega), h2 631 (by omega) (by omega)]
    exact h.2.2.2.2
theorem W_dM {X : Option (Int × gH)} (h : JJ g) (hp : PO g X) (hr : ∀ v H, X = some (v, H) → HR H) : WN (fun _ H => JJ H) X := by
  obtain ⟨v, H, e, h1, h2, h3⟩ := hp
  refine ⟨v, H, e, hr v H e, CInv_x h.2.1 (fun x x0 => h2 x (by omega)), h1, ?_, ?_⟩
  · rw [h3.1 10 (by omega) (by omega), h2 576 (by omega)]
    exact h.2.2.2.1
  · unfold BB
    rw [h2 575 (by omega), h2 576 (by omega), h2 577 (by omega), h3.1 10 (by omega) (by omega), h3.1 11 (by omega) (by omega), h3.1 12 (by omega) (by omega), h3.2]
    exact h.2.2.2.2
theorem BB_g (h : JJ g) (q : ∀ x, 624 ≤ x → G x = g x) : BB g G := by
  unfold BB
  rw [q 624 (by omega), q 631 (by omega)]
  exact h.2.2.2.2.1
theorem same {X : Option (Int × gH)} (h : X = some (v, G)) (h' : X = some (w, H)) : v = w ∧ G = H := by
  have := Prod.mk.inj (Option.some.inj (h.symm.trans h'))
  exact this
theorem dM_errorCode (Φ : ev_P) (h : JJ g) : WN (fun _ G => JJ G) (fM_errorCode g 624) := W_dM h (oM_errorCode h.2.2.1) (fun v H e => hr_N (tfM_errorCode (Φ := Φ) (d := 200) (by decide) h.1 kd_c624) e)
theorem dM_errorOffset (Φ : ev_P) (h : JJ g) : WN (fun _ G => JJ G) (fM_errorOffset g 624) := W_dM h (oM_errorOffset h.2.2.1) (fun v H e => hr_N (tfM_errorOffset (Φ := Φ) (d := 200) (by decide) h.1 kd_c624) e)
theorem dW_count (Φ : ev_P) (h : JJ g) (r1 : InR a) : WN (fun _ G => JJ G) (fW_count g 0 a 635) := by
  refine W_dN h ?_ (fun v H e => hr_N (tfW_count (Φ := Φ) (d := 200) (by decide) h.1 (rfR_of (by decide)) r1 (rfR_of (by decide))) e)
  rw [fW_count, if_pos kd_c0]
  refine W_bdQ (tC_count h.2.1) (fun y _ => ?_) (fun e he => ?_)
  · rw [if_pos c635, bnd_s]; exact WN_i (JW_o (CO_r h.2.1))
  · rcases he with rfl <;> exact ⟨_, _, rfl, JW_c (CO_r h.2.1)⟩
theorem dM_count (Φ : ev_P) (h : JJ g) (r1 : InR a) : WN (fun _ G => JJ G) (fM_count g 624 a) := W_dM h (oM_count h.2.2.1) (fun v H e => hr_N (tfM_count (Φ := Φ) (d := 200) (by decide) h.1 kd_c624 r1) e)
theorem dW_process (Φ : ev_P) (h : JJ g) (r1 : InR a) (r2 : InR b) : WN (fun _ G => JJ G) (fW_process g 0 a b 635) := by
  refine W_dN h ?_ (fun v H e => hr_N (tfW_process (Φ := Φ) (d := 200) (by decide) h.1 (rfR_of (by decide)) r1 r2 (rfR_of (by decide))) e)
  rw [fW_process, if_pos kd_c0]
  refine W_bdQ (tC_process h.2.1) (fun y _ => ?_) (fun e he => ?_)
  · rw [if_pos c635, bnd_s]; exact WN_i (JW_o (CO_r h.2.1))
  · rcases he with rfl | rfl <;> exact ⟨_, _, rfl, JW_c (CO_r h.2.1)⟩
theorem dM_process (Φ : ev_P) (h : JJ g) (r1 : InR a) (r2 : InR b) : WN (fun _ G => JJ G) (fM_process g 624 a b) := W_dM h (oM_process h.2.2.1) (fun v H e => hr_N (tfM_process (Φ := Φ) (d := 200) (by decide) h.1 kd_c624 r1 r2) e)
theorem dW_holder (Φ : ev_P) (h : JJ g) (r1 : InR a) : WN (fun _ G => JJ G) (fW_holder g 0 a 635) := by
  refine W_dN h ?_ (fun v H e => hr_N (tfW_holder (Φ := Φ) (d := 200) (by decide) h.1 (rfR_of (by decide)) r1 (rfR_of (by decide))) e)
  rw [fW_holder, if_pos kd_c0]
  refine W_bdQ (tC_holder h.2.1) (fun y _ => ?_) (fun e he => ?_)
  · rw [if_pos c635, bnd_s]; exact WN_i (JW_o (CO_r h.2.1))
  · rcases he with rfl <;> exact ⟨_, _, rfl, JW_c (CO_r h.2.1)⟩
theorem dM_holder (Φ : ev_P) (h : JJ g) (r1 : InR a) : WN (fun _ G => JJ G) (fM_holder g 624 a) := W_dM h (oM_holder h.2.2.1) (fun v H e => hr_N (tfM_holder (Φ := Φ) (d := 200) (by decide) h.1 kd_c624 r1) e)
theorem dM_rule (Φ : ev_P) (h : JJ g) (r1 : InR a) : WN (fun _ G => JJ G) (fM_rule g 624 a) := W_dM h (oM_rule h.2.2.1) (fun v H e => hr_N (tfM_rule (Φ := Φ) (d := 200) (by decide) h.1 kd_c624 r1) e)
theorem dW_depth (Φ : ev_P) (h : JJ g) (r1 : InR a) : WN (fun _ G => JJ G) (fW_depth g 0 a 635) := by
  refine W_dN h ?_ (fun v H e => hr_N (tfW_depth (Φ := Φ) (d := 200) (by decide) h.1 (rfR_of (by decide)) r1 (rfR_of (by decide))) e)
  rw [fW_depth, if_pos kd_c0]
  refine W_bdQ (tC_depth h.2.1) (fun y _ => ?_) (fun e he => ?_)
  · rw [if_pos c635, bnd_s]; exact WN_i (JW_o (CO_r h.2.1))
  · rcases he with rfl | rfl <;> exact ⟨_, _, rfl, JW_c (CO_r h.2.1)⟩
theorem dM_depth (Φ : ev_P) (h : JJ g) (r1 : InR a) : WN (fun _ G => JJ G) (fM_depth g 624 a) := W_dM h (oM_depth h.2.2.1) (fun v H e => hr_N (tfM_depth (Φ := Φ) (d := 200) (by decide) h.1 kd_c624 r1) e)
theorem dW_isAbove (Φ : ev_P) (h : JJ g) (r1 : InR a) (r2 : InR b) : WN (fun _ G => JJ G) (fW_isAbove g 0 a b 635) := by
  refine W_dN h ?_ (fun v H e => hr_N (tfW_isAbove (Φ := Φ) (d := 200) (by decide) h.1 (rfR_of (by decide)) r1 r2 (rfR_of (by decide))) e)
  rw [fW_isAbove, if_pos kd_c0]
  refine W_bdQ (tC_isAbove h.2.1) (fun y _ => ?_) (fun e he => ?_)
  · rw [if_pos c635, if_pos c635, bnd_s, bnd_s]; exact W_ite (fun _ => WN_i (JW_o (CO_r h.2.1))) (fun _ => WN_i (JW_o (CO_r h.2.1)))
  · rcases he with rfl <;> exact ⟨_, _, rfl, JW_c (CO_r h.2.1)⟩
theorem dM_isAbove (Φ : ev_P) (h : JJ g) (r1 : InR a) (r2 : InR b) : WN (fun _ G => JJ G) (fM_isAbove g 624 a b) := W_dM h (oM_isAbove h.2.2.1) (fun v H e => hr_N (tfM_isAbove (Φ := Φ) (d := 200) (by decide) h.1 kd_c624 r1 r2) e)
theorem dW_meet (Φ : ev_P) (h : JJ g) (r1 : InR a) (r2 : InR b) : WN (fun _ G => JJ G) (fW_meet g 0 a b 635) := by
  refine W_dN h ?_ (fun v H e => hr_N (tfW_meet (Φ := Φ) (d := 200) (by decide) h.1 (rfR_of (by decide)) r1 r2 (rfR_of (by decide))) e)
  rw [fW_meet, if_pos kd_c0]
  refine W_bdQ (tC_meet h.2.1) (fun y _ => ?_) (fun e he => ?_)
  · rw [if_pos c635, bnd_s]; exact WN_i (JW_o (CO_r h.2.1))
  · rcases he with rfl | rfl <;> exact ⟨_, _, rfl, JW_c (CO_r h.2.1)⟩
theorem dM_meet (Φ : ev_P) (h : JJ g) (r1 : InR a) (r2 : InR b) : WN (fun _ G => JJ G) (fM_meet g 624 a b) := W_dM h (oM_meet h.2.2.1) (fun v H e => hr_N (tfM_meet (Φ := Φ) (d := 200) (by decide) h.1 kd_c624 r1 r2) e)
theorem dW_below (Φ : ev_P) (h : JJ g) (r1 : InR a) : WN (fun _ G => JJ G) (fW_below g 0 a 635) := by
  refine W_dN h ?_ (fun v H e => hr_N (tfW_below (Φ := Φ) (d := 200) (by decide) h.1 (rfR_of (by decide)) r1 (rfR_of (by decide))) e)
  rw [fW_below, if_pos kd_c0]
  refine W_bdQ (tC_below h.2.1) (fun y _ => ?_) (fun e he => ?_)
  · rw [if_pos c635, bnd_s]; exact WN_i (JW_o (CO_r h.2.1))
  · rcases he with rfl <;> exact ⟨_, _, rfl, JW_c (CO_r h.2.1)⟩
theorem dM_below (Φ : ev_P) (h : JJ g) (r1 : InR a) : WN (fun _ G => JJ G) (fM_below g 624 a) := W_dM h (oM_below h.2.2.1) (fun v H e => hr_N (tfM_below (Φ := Φ) (d := 200) (by decide) h.1 kd_c624 r1) e)
theorem dW_walked (Φ : ev_P) (h : JJ g) (r1 : InR a) : WN (fun _ G => JJ G) (fW_walked g 0 a 635) := by
  refine W_dN h ?_ (fun v H e => hr_N (tfW_walked (Φ := Φ) (d := 200) (by decide) h.1 (rfR_of (by decide)) r1 (rfR_of (by decide))) e)
  rw [fW_walked, if_pos kd_c0]
  refine W_bdQ (tC_walked h.2.1) (fun y _ => ?_) (fun e he => ?_)
  · rw [if_pos c635, bnd_s]; exact WN_i (JW_o (CO_r h.2.1))
  · rcases he with rfl <;> exact ⟨_, _, rfl, JW_c (CO_r h.2.1)⟩
theorem dM_walked (Φ : ev_P) (h : JJ g) (r1 : InR a) : WN (fun _ G => JJ G) (fM_walked g 624 a) := W_dM h (oM_walked h.2.2.1) (fun v H e => hr_N (tfM_walked (Φ := Φ) (d := 200) (by decide) h.1 kd_c624 r1) e)
theorem dM_atDepth (Φ : ev_P) (h : JJ g) (r1 : InR a) : WN (fun _ G => JJ G) (fM_atDepth g 624 a) := W_dM h (oM_atDepth h.2.2.1) (fun v H e => hr_N (tfM_atDepth (Φ := Φ) (d := 200) (by decide) h.1 kd_c624 r1) e)
theorem dM_height (Φ : ev_P) (h : JJ g) : WN (fun _ G => JJ G) (fM_height g 624) := W_dM h (oM_height h.2.2.1) (fun v H e => hr_N (tfM_height (Φ := Φ) (d := 200) (by decide) h.1 kd_c624) e)
theorem dW_spawn (Φ : ev_P) (h : JJ g) (r1 : InR a) (r2 : InR b) (r3 : InR c) (r4 : InR d) : WN (fun _ G => JJ G) (fW_spawn g 0 a b c d 635) := by
  refine W_dN h ?_ (fun v H e => hr_N (tfW_spawn (Φ := Φ) (d := 200) (by decide) h.1 (rfR_of (by decide)) r1 r2 r3 r4 (rfR_of (by decide))) e)
  rw [fW_spawn, if_pos kd_c0]
  refine W_bdT (tC_spawn (CO_r h.2.1)) (fun y G hG => ?_) (fun e G he => ?_)
  · rw [if_pos c635, bnd_s]; exact WN_i (JW_o (hG))
  · obtain ⟨he, hG⟩ := he
    rcases he with rfl | rfl | rfl <;> exact ⟨_, _, rfl, JW_c hG⟩
theorem dM_spawn (Φ : ev_P) (h : JJ g) (r1 : InR a) (r2 : InR b) (r3 : InR c) (r4 : InR d) : WN (fun _ G => JJ G) (fM_spawn g 624 a b c d) := W_dM h (oM_spawn h.2.2.1) (fun v H e => hr_N (tfM_spawn (Φ := Φ) (d := 200) (by decide) h.1 kd_c624 r1 r2 r3 r4) e)
theorem dW_exit (Φ : ev_P) (h : JJ g) (r1 : InR a) (r2 : InR b) : WN (fun _ G => JJ G) (fW_exit g 0 a b 635) := by
  refine W_dN h ?_ (fun v H e => hr_N (tfW_exit (Φ := Φ) (d := 200) (by decide) h.1 (rfR_of (by decide)) r1 r2 (rfR_of (by decide))) e)
  rw [fW_exit, if_pos kd_c0]
  refine W_bdT (tC_exit (CO_r h.2.1)) (fun y G hG => ?_) (fun e G he => ?_)
  · rw [if_pos c635, bnd_s]; exact WN_i (JW_o (hG))
  · obtain ⟨he, hG⟩ := he
    rcases he with rfl | rfl | rfl <;> exact ⟨_, _, rfl, JW_c hG⟩
theorem dM_exit (Φ : ev_P) (h : JJ g) (r1 : InR a) (r2 : InR b) : WN (fun _ G => JJ G) (fM_exit g 624 a b) := W_dM h (oM_exit h.2.2.1) (fun v H e => hr_N (tfM_exit (Φ := Φ) (d := 200) (by decide) h.1 kd_c624 r1 r2) e)
theorem dW_kill (Φ : ev_P) (h : JJ g) (r1 : InR a) (r2 : InR b) : WN (fun _ G => JJ G) (fW_kill g 0 a b 635) := by
  refine W_dN h ?_ (fun v H e => hr_N (tfW_kill (Φ := Φ) (d := 200) (by decide) h.1 (rfR_of (by decide)) r1 r2 (rfR_of (by decide))) e)
  rw [fW_kill, if_pos kd_c0]
  refine W_bdT (tC_kill (CO_r h.2.1)) (fun y G hG => ?_) (fun e G he => ?_)
  · rw [if_pos c635, bnd_s]; exact WN_i (JW_o (hG))
  · obtain ⟨he, hG⟩ := he
    rcases he with rfl <;> exact ⟨_, _, rfl, JW_c hG⟩
theorem dM_kill (Φ : ev_P) (h : JJ g) (r1 : InR a) (r2 : InR b) : WN (fun _ G => JJ G) (fM_kill g 624 a b) := W_dM h (oM_kill h.2.2.1) (fun v H e => hr_N (tfM_kill (Φ := Φ) (d := 200) (by decide) h.1 kd_c624 r1 r2) e)
theorem dW_read (Φ : ev_P) (h : JJ g) (r1 : InR a) : WN (fun _ G => JJ G) (fW_read g 0 a 635) := by
  refine W_dN h ?_ (fun v H e => hr_N (tfW_read (Φ := Φ) (d := 200) (by decide) h.1 (rfR_of (by decide)) r1 (rfR_of (by decide))) e)
  rw [fW_read, if_pos kd_c0]
  refine W_bdT (tC_read (CO_r h.2.1)) (fun y G hG => ?_) (fun e G he => ?_)
  · rw [if_pos c635, bnd_s]; exact WN_i (JW_o (hG))
  · obtain ⟨he, hG⟩ := he
    rcases he with rfl | rfl | rfl <;> exact ⟨_, _, rfl, JW_c hG⟩
theorem dM_read (Φ : ev_P) (h : JJ g) (r1 : InR a) : WN (fun _ G => JJ G) (fM_read g 624 a) := W_dM h (oM_read h.2.2.1) (fun v H e => hr_N (tfM_read (Φ := Φ) (d := 200) (by decide) h.1 kd_c624 r1) e)
theorem dW_refuse (Φ : ev_P) (h : JJ g) (r1 : InR a) (r2 : InR b) : WN (fun _ G => JJ G) (fW_refuse g 0 a b 635) := by
  refine W_dN h ?_ (fun v H e => hr_N (tfW_refuse (Φ := Φ) (d := 200) (by decide) h.1 (rfR_of (by decide)) r1 r2 (rfR_of (by decide))) e)
  rw [fW_refuse, if_pos kd_c0]
  refine W_bdT (tC_refuse (CO_r h.2.1)) (fun y G hG => ?_) (fun e G he => ?_)
  · rw [if_pos c635, bnd_s]; exact WN_i (JW_o (hG))
  · obtain ⟨he, hG⟩ := he
    rcases he with rfl | rfl | rfl <;> exact ⟨_, _, rfl, JW_c hG⟩
theorem dM_refuse (Φ : ev_P) (h : JJ g) (r1 : InR a) (r2 : InR b) : WN (fun _ G => JJ G) (fM_refuse g 624 a b) := W_dM h (oM_refuse h.2.2.1) (fun v H e => hr_N (tfM_refuse (Φ := Φ) (d := 200) (by decide) h.1 kd_c624 r1 r2) e)
theorem dW_accept (Φ : ev_P) (h : JJ g) (r1 : InR a) (r2 : InR b) : WN (fun _ G => JJ G) (fW_accept g 0 a b 635) := by
  refine W_dN h ?_ (fun v H e => hr_N (tfW_accept (Φ := Φ) (d := 200) (by decide) h.1 (rfR_of (by decide)) r1 r2 (rfR_of (by decide))) e)
  rw [fW_accept, if_pos kd_c0]
  refine W_bdT (tC_accept (CO_r h.2.1)) (fun y G hG => ?_) (fun e G he => ?_)
  · rw [if_pos c635, if_pos c635, bnd_s, bnd_s]; exact W_ite (fun _ => WN_i (JW_o (hG))) (fun _ => WN_i (JW_o (hG)))
  · obtain ⟨he, hG⟩ := he
    rcases he with rfl | rfl | rfl <;> exact ⟨_, _, rfl, JW_c hG⟩
theorem dM_accept (Φ : ev_P) (h : JJ g) (r1 : InR a) (r2 : InR b) : WN (fun _ G => JJ G) (fM_accept g 624 a b) := W_dM h (oM_accept h.2.2.1) (fun v H e => hr_N (tfM_accept (Φ := Φ) (d := 200) (by decide) h.1 kd_c624 r1 r2) e)
theorem dW_move (Φ : ev_P) (h : JJ g) (r1 : InR a) (r2 : InR b) : WN (fun _ G => JJ G) (fW_move g 0 a b 635) := by
  refine W_dN h ?_ (fun v H e => hr_N (tfW_move (Φ := Φ) (d := 200) (by decide) h.1 (rfR_of (by decide)) r1 r2 (rfR_of (by decide))) e)
  rw [fW_move, if_pos kd_c0]
  refine W_bdT (tC_move (CO_r h.2.1)) (fun y G hG => ?_) (fun e G he => ?_)
  · rw [if_pos c635, bnd_s]; exact WN_i (JW_o (hG))
  · obtain ⟨he, hG⟩ := he
    rcases he with rfl | rfl <;> exact ⟨_, _, rfl, JW_c hG⟩
theorem dM_move (Φ : ev_P) (h : JJ g) (r1 : InR a) (r2 : InR b) : WN (fun _ G => JJ G) (fM_move g 624 a b) := W_dM h (oM_move h.2.2.1) (fun v H e => hr_N (tfM_move (Φ := Φ) (d := 200) (by decide) h.1 kd_c624 r1 r2) e)
theorem dW_setCapacity (Φ : ev_P) (h : JJ g) (r1 : InR a) (r2 : InR b) : WN (fun _ G => JJ G) (fW_setCapacity g 0 a b 635) := by
  refine W_dN h ?_ (fun v H e => hr_N (tfW_setCapacity (Φ := Φ) (d := 200) (by decide) h.1 (rfR_of (by decide)) r1 r2 (rfR_of (by decide))) e)
  rw [fW_setCapacity, if_pos kd_c0]
  refine W_bdT (tC_setCapacity (CO_r h.2.1)) (fun y G hG => ?_) (fun e G he => ?_)
  · rw [if_pos c635, bnd_s]; exact WN_i (JW_o (hG))
  · obtain ⟨he, hG⟩ := he
    rcases he with rfl | rfl | rfl <;> exact ⟨_, _, rfl, JW_c hG⟩
theorem dM_setCapacity (Φ : ev_P) (h : JJ g) (r1 : InR a) (r2 : InR b) : WN (fun _ G => JJ G) (fM_setCapacity g 624 a b) := W_dM h (oM_setCapacity h.2.2.1) (fun v H e => hr_N (tfM_setCapacity (Φ := Φ) (d := 200) (by decide) h.1 kd_c624 r1 r2) e)
theorem dW_setBudget (Φ : ev_P) (h : JJ g) (r1 : InR a) (r2 : InR b) : WN (fun _ G => JJ G) (fW_setBudget g 0 a b 635) := by
  refine W_dN h ?_ (fun v H e => hr_N (tfW_setBudget (Φ := Φ) (d := 200) (by decide) h.1 (rfR_of (by decide)) r1 r2 (rfR_of (by decide))) e)
  rw [fW_setBudget, if_pos kd_c0]
  refine W_bdT (tC_setBudget (CO_r h.2.1)) (fun y G hG => ?_) (fun e G he => ?_)
  · rw [if_pos c635, bnd_s]; exact WN_i (JW_o (hG))
  · obtain ⟨he, hG⟩ := he
    rcases he with rfl | rfl | rfl <;> exact ⟨_, _, rfl, JW_c hG⟩
theorem dM_setBudget (Φ : ev_P) (h : JJ g) (r1 : InR a) (r2 : InR b) : WN (fun _ G => JJ G) (fM_setBudget g 624 a b) := W_dM h (oM_setBudget h.2.2.1) (fun v H e => hr_N (tfM_setBudget (Φ := Φ) (d := 200) (by decide) h.1 kd_c624 r1 r2) e)
theorem dW_setHeir (Φ : ev_P) (h : JJ g) (r1 : InR a) (r2 : InR b) : WN (fun _ G => JJ G) (fW_setHeir g 0 a b 635) := by
  refine W_dN h ?_ (fun v H e => hr_N (tfW_setHeir (Φ := Φ) (d := 200) (by decide) h.1 (rfR_of (by decide)) r1 r2 (rfR_of (by decide))) e)
  rw [fW_setHeir, if_pos kd_c0]
  refine W_bdT (tC_setHeir (CO_r h.2.1)) (fun y G hG => ?_) (fun e G he => ?_)
  · rw [if_pos c635, bnd_s]; exact WN_i (JW_o (hG))
  · obtain ⟨he, hG⟩ := he
    rcases he with rfl | rfl | rfl <;> exact ⟨_, _, rfl, JW_c hG⟩
theorem dM_setHeir (Φ : ev_P) (h : JJ g) (r1 : InR a) (r2 : InR b) : WN (fun _ G => JJ G) (fM_setHeir g 624 a b) := W_dM h (oM_setHeir h.2.2.1) (fun v H e => hr_N (tfM_setHeir (Φ := Φ) (d := 200) (by decide) h.1 kd_c624 r1 r2) e)
theorem dW_give (Φ : ev_P) (h : JJ g) (r1 : InR a) (r2 : InR b) : WN (fun _ G => JJ G) (fW_give g 0 a b 635) := by
  refine W_dN h ?_ (fun v H e => hr_N (tfW_give (Φ := Φ) (d := 200) (by decide) h.1 (rfR_of (by decide)) r1 r2 (rfR_of (by decide))) e)
  rw [fW_give, if_pos kd_c0]
  refine W_bdT (tC_give (CO_r h.2.1)) (fun y G hG => ?_) (fun e G he => ?_)
  · rw [if_pos c635, bnd_s]; exact WN_i (JW_o (hG))
  · obtain ⟨he, hG⟩ := he
    rcases he with rfl | rfl | rfl <;> exact ⟨_, _, rfl, JW_c hG⟩
theorem dM_give (Φ : ev_P) (h : JJ g) (r1 : InR a) (r2 : InR b) : WN (fun _ G => JJ G) (fM_give g 624 a b) := W_dM h (oM_give h.2.2.1) (fun v H e => hr_N (tfM_give (Φ := Φ) (d := 200) (by decide) h.1 kd_c624 r1 r2) e)
theorem dW_adopter (Φ : ev_P) (h : JJ g) (r1 : InR a) : WN (fun _ G => JJ G) (fW_adopter g 0 a 635) := by
  refine W_dN h ?_ (fun v H e => hr_N (tfW_adopter (Φ := Φ) (d := 200) (by decide) h.1 (rfR_of (by decide)) r1 (rfR_of (by decide))) e)
  rw [fW_adopter, if_pos kd_c0]
  refine W_bdQ (tC_adopter h.2.1) (fun y _ => ?_) (fun e he => ?_)
  · rw [if_pos c635, bnd_s]; exact WN_i (JW_o (CO_r h.2.1))
  · rcases he with rfl | rfl <;> exact ⟨_, _, rfl, JW_c (CO_r h.2.1)⟩
theorem dM_adopter (Φ : ev_P) (h : JJ g) (r1 : InR a) : WN (fun _ G => JJ G) (fM_adopter g 624 a) := W_dM h (oM_adopter h.2.2.1) (fun v H e => hr_N (tfM_adopter (Φ := Φ) (d := 200) (by decide) h.1 kd_c624 r1) e)
theorem dW_heirNow (Φ : ev_P) (h : JJ g) (r1 : InR a) : WN (fun _ G => JJ G) (fW_heirNow g 0 a 635) := by
  refine W_dN h ?_ (fun v H e => hr_N (tfW_heirNow (Φ := Φ) (d := 200) (by decide) h.1 (rfR_of (by decide)) r1 (rfR_of (by decide))) e)
  rw [fW_heirNow, if_pos kd_c0]
  refine W_bdQ (tC_heirNow h.2.1) (fun y _ => ?_) (fun e he => ?_)
  · rw [if_pos c635, bnd_s]; exact WN_i (JW_o (CO_r h.2.1))
  · rcases he with rfl | rfl <;> exact ⟨_, _, rfl, JW_c (CO_r h.2.1)⟩
theorem dM_heirNow (Φ : ev_P) (h : JJ g) (r1 : InR a) : WN (fun _ G => JJ G) (fM_heirNow g 624 a) := W_dM h (oM_heirNow h.2.2.1) (fun v H e => hr_N (tfM_heirNow (Φ := Φ) (d := 200) (by decide) h.1 kd_c624 r1) e)
theorem dW_wouldFall (Φ : ev_P) (h : JJ g) (r1 : InR a) (r2 : InR b) : WN (fun _ G => JJ G) (fW_wouldFall g 0 a b 635) := by
  refine W_dN h ?_ (fun v H e => hr_N (tfW_wouldFall (Φ := Φ) (d := 200) (by decide) h.1 (rfR_of (by decide)) r1 r2 (rfR_of (by decide))) e)
  rw [fW_wouldFall, if_pos kd_c0]
  refine W_bdT (tC_wouldFall (CO_r h.2.1)) (fun y G hG => ?_) (fun e G he => ?_)
  · rw [if_pos c635, bnd_s]; exact WN_i (JW_o (hG))
  · obtain ⟨he, hG⟩ := he
    rcases he with rfl | rfl | rfl <;> exact ⟨_, _, rfl, JW_c hG⟩
theorem dM_wouldFall (Φ : ev_P) (h : JJ g) (r1 : InR a) (r2 : InR b) : WN (fun _ G => JJ G) (fM_wouldFall g 624 a b) := W_dM h (oM_wouldFall h.2.2.1) (fun v H e => hr_N (tfM_wouldFall (Φ := Φ) (d := 200) (by decide) h.1 kd_c624 r1 r2) e)
theorem dW_wouldStand (Φ : ev_P) (h : JJ g) (r1 : InR a) (r2 : InR b) : WN (fun _ G => JJ G) (fW_wouldStand g 0 a b 635) := by
  refine W_dN h ?_ (fun v H e => hr_N (tfW_wouldStand (Φ := Φ) (d := 200) (by decide) h.1 (rfR_of (by decide)) r1 r2 (rfR_of (by decide))) e)
  rw [fW_wouldStand, if_pos kd_c0]
  refine W_bdT (tC_wouldStand (CO_r h.2.1)) (fun y G hG => ?_) (fun e G he => ?_)
  · rw [if_pos c635, bnd_s]; exact WN_i (JW_o (hG))
  · obtain ⟨he, hG⟩ := he
    rcases he with rfl | rfl | rfl <;> exact ⟨_, _, rfl, JW_c hG⟩
theorem dM_wouldStand (Φ : ev_P) (h : JJ g) (r1 : InR a) (r2 : InR b) : WN (fun _ G => JJ G) (fM_wouldStand g 624 a b) := W_dM h (oM_wouldStand h.2.2.1) (fun v H e => hr_N (tfM_wouldStand (Φ := Φ) (d := 200) (by decide) h.1 kd_c624 r1 r2) e)
theorem dW_wouldHave (Φ : ev_P) (h : JJ g) (r1 : InR a) (r2 : InR b) (r3 : InR c) : WN (fun _ G => JJ G) (fW_wouldHave g 0 a b c 635) := by
  refine W_dN h ?_ (fun v H e => hr_N (tfW_wouldHave (Φ := Φ) (d := 200) (by decide) h.1 (rfR_of (by decide)) r1 r2 r3 (rfR_of (by decide))) e)
  rw [fW_wouldHave, if_pos kd_c0]
  refine W_bdT (tC_wouldHave (CO_r h.2.1)) (fun y G hG => ?_) (fun e G he => ?_)
  · rw [if_pos c635, bnd_s]; exact WN_i (JW_o (hG))
  · obtain ⟨he, hG⟩ := he
    rcases he with rfl | rfl | rfl <;> exact ⟨_, _, rfl, JW_c hG⟩
theorem dM_wouldHave (Φ : ev_P) (h : JJ g) (r1 : InR a) (r2 : InR b) (r3 : InR c) : WN (fun _ G => JJ G) (fM_wouldHave g 624 a b c) := W_dM h (oM_wouldHave h.2.2.1) (fun v H e => hr_N (tfM_wouldHave (Φ := Φ) (d := 200) (by decide) h.1 kd_c624 r1 r2 r3) e)
theorem dW_wouldFallBy (Φ : ev_P) (h : JJ g) (r1 : InR a) (r2 : InR b) : WN (fun _ G => JJ G) (fW_wouldFallBy g 0 a b 635) := by
  refine W_dN h ?_ (fun v H e => hr_N (tfW_wouldFallBy (Φ := Φ) (d := 200) (by decide) h.1 (rfR_of (by decide)) r1 r2 (rfR_of (by decide))) e)
  rw [fW_wouldFallBy, if_pos kd_c0]
  refine W_bdT (tC_wouldFallBy (CO_r h.2.1)) (fun y G hG => ?_) (fun e G he => ?_)
  · rw [if_pos c635, bnd_s]; exact WN_i (JW_o (hG))
  · obtain ⟨he, hG⟩ := he
    rcases he with rfl <;> exact ⟨_, _, rfl, JW_c hG⟩
theorem dM_wouldFallBy (Φ : ev_P) (h : JJ g) (r1 : InR a) (r2 : InR b) : WN (fun _ G => JJ G) (fM_wouldFallBy g 624 a b) := W_dM h (oM_wouldFallBy h.2.2.1) (fun v H e => hr_N (tfM_wouldFallBy (Φ := Φ) (d := 200) (by decide) h.1 kd_c624 r1 r2) e)
theorem dW_weakest (Φ : ev_P) (h : JJ g) (r1 : InR a) : WN (fun _ G => JJ G) (fW_weakest g 0 a 635) := by
  refine W_dN h ?_ (fun v H e => hr_N (tfW_weakest (Φ := Φ) (d := 200) (by decide) h.1 (rfR_of (by decide)) r1 (rfR_of (by decide))) e)
  rw [fW_weakest, if_pos kd_c0]
  refine W_bdT (tC_weakest (CO_r h.2.1)) (fun y G hG => ?_) (fun e G he => ?_)
  · rw [if_pos c635, bnd_s]; exact WN_i (JW_o (hG))
  · obtain ⟨he, hG⟩ := he
    rcases he with rfl <;> exact ⟨_, _, rfl, JW_c hG⟩
theorem dM_weakest (Φ : ev_P) (h : JJ g) (r1 : InR a) : WN (fun _ G => JJ G) (fM_weakest g 624 a) := W_dM h (oM_weakest h.2.2.1) (fun v H e => hr_N (tfM_weakest (Φ := Φ) (d := 200) (by decide) h.1 kd_c624 r1) e)
theorem dW_roomiest (Φ : ev_P) (h : JJ g) (r1 : InR a) : WN (fun _ G => JJ G) (fW_roomiest g 0 a 635) := by
  refine W_dN h ?_ (fun v H e => hr_N (tfW_roomiest (Φ := Φ) (d := 200) (by decide) h.1 (rfR_of (by decide)) r1 (rfR_of (by decide))) e)
  rw [fW_roomiest, if_pos kd_c0]
  refine W_bdQ (tC_roomiest h.2.1) (fun y _ => ?_) (fun e he => ?_)
  · rw [if_pos c635, bnd_s]; exact WN_i (JW_o (CO_r h.2.1))
  · rcases he with rfl <;> exact ⟨_, _, rfl, JW_c (CO_r h.2.1)⟩
theorem dM_roomiest (Φ : ev_P) (h : JJ g) (r1 : InR a) : WN (fun _ G => JJ G) (fM_roomiest g 624 a) := W_dM h (oM_roomiest h.2.2.1) (fun v H e => hr_N (tfM_roomiest (Φ := Φ) (d := 200) (by decide) h.1 kd_c624 r1) e)
theorem dM_allRoom (Φ : ev_P) (h : JJ g) : WN (fun _ G => JJ G) (fM_allRoom g 624) := W_dM h (oM_allRoom h.2.2.1) (fun v H e => hr_N (tfM_allRoom (Φ := Φ) (d := 200) (by decide) h.1 kd_c624) e)
theorem dM_overfull (Φ : ev_P) (h : JJ g) : WN (fun _ G => JJ G) (fM_overfull g 624) := W_dM h (oM_overfull h.2.2.1) (fun v H e => hr_N (tfM_overfull (Φ := Φ) (d := 200) (by decide) h.1 kd_c624) e)
theorem dW_ofGroup (Φ : ev_P) (h : JJ g) (r1 : InR a) : WN (fun _ G => JJ G) (fW_ofGroup g 0 a 635) := by
  refine W_dN h ?_ (fun v H e => hr_N (tfW_ofGroup (Φ := Φ) (d := 200) (by decide) h.1 (rfR_of (by decide)) r1 (rfR_of (by decide))) e)
  rw [fW_ofGroup, if_pos kd_c0]
  refine W_bdQ (tC_ofGroup h.2.1) (fun y _ => ?_) (fun e he => ?_)
  · rw [if_pos c635, bnd_s]; exact WN_i (JW_o (CO_r h.2.1))
  · rcases he with rfl <;> exact ⟨_, _, rfl, JW_c (CO_r h.2.1)⟩
theorem dM_ofGroup (Φ : ev_P) (h : JJ g) (r1 : InR a) : WN (fun _ G => JJ G) (fM_ofGroup g 624 a) := W_dM h (oM_ofGroup h.2.2.1) (fun v H e => hr_N (tfM_ofGroup (Φ := Φ) (d := 200) (by decide) h.1 kd_c624 r1) e)
theorem dW_nextTestament (Φ : ev_P) (h : JJ g) (r1 : InR a) : WN (fun _ G => JJ G) (fW_nextTestament g 0 a 635) := by
  refine W_dN h ?_ (fun v H e => hr_N (tfW_nextTestament (Φ := Φ) (d := 200) (by decide) h.1 (rfR_of (by decide)) r1 (rfR_of (by decide))) e)
  rw [fW_nextTestament, if_pos kd_c0]
  refine W_bdQ (tC_nextTestament h.2.1) (fun y _ => ?_) (fun e he => ?_)
  · rw [if_pos c635, bnd_s]; exact WN_i (JW_o (CO_r h.2.1))
  · rcases he with rfl <;> exact ⟨_, _, rfl, JW_c (CO_r h.2.1)⟩
theorem dM_nextTestament (Φ : ev_P) (h : JJ g) (r1 : InR a) : WN (fun _ G => JJ G) (fM_nextTestament g 624 a) := W_dM h (oM_nextTestament h.2.2.1) (fun v H e => hr_N (tfM_nextTestament (Φ := Φ) (d := 200) (by decide) h.1 kd_c624 r1) e)
theorem dW_exited (Φ : ev_P) (h : JJ g) (r1 : InR a) : WN (fun _ G => JJ G) (fW_exited g 0 a 635) := by
  refine W_dN h ?_ (fun v H e => hr_N (tfW_exited (Φ := Φ) (d := 200) (by decide) h.1 (rfR_of (by decide)) r1 (rfR_of (by decide))) e)
  rw [fW_exited, if_pos kd_c0]
  refine W_bdQ (tC_exited h.2.1) (fun y _ => ?_) (fun e he => ?_)
  · rw [if_pos c635, bnd_s]; exact WN_i (JW_o (CO_r h.2.1))
  · rcases he with rfl <;> exact ⟨_, _, rfl, JW_c (CO_r h.2.1)⟩
theorem dM_exited (Φ : ev_P) (h : JJ g) (r1 : InR a) : WN (fun _ G => JJ G) (fM_exited g 624 a) := W_dM h (oM_exited h.2.2.1) (fun v H e => hr_N (tfM_exited (Φ := Φ) (d := 200) (by decide) h.1 kd_c624 r1) e)
theorem dM_meanDepth (Φ : ev_P) (h : JJ g) : WN (fun _ G => JJ G) (fM_meanDepth g 624) := W_dM h (oM_meanDepth h.2.2.1) (fun v H e => hr_N (tfM_meanDepth (Φ := Φ) (d := 200) (by decide) h.1 kd_c624) e)
theorem dM_rootShare (Φ : ev_P) (h : JJ g) : WN (fun _ G => JJ G) (fM_rootShare g 624) := W_dM h (oM_rootShare h.2.2.1 h.1) (fun v H e => hr_N (tfM_rootShare (Φ := Φ) (d := 200) (by decide) h.1 kd_c624) e)
theorem dW_prune (Φ : ev_P) (h : JJ g) (r1 : InR a) (r2 : InR b) : WN (fun _ G => JJ G) (fW_prune g 0 a b 635) := by
  refine W_dN h ?_ (fun v H e => hr_N (tfW_prune (Φ := Φ) (d := 200) (by decide) h.1 (rfR_of (by decide)) r1 r2 (rfR_of (by decide))) e)
  rw [fW_prune, if_pos kd_c0]
  refine W_bdT (tC_prune (CO_r h.2.1)) (fun y G hG => ?_) (fun e G he => ?_)
  · rw [if_pos c635, bnd_s]; exact WN_i (JW_o (hG))
  · obtain ⟨he, hG⟩ := he
    rcases he with rfl | rfl | rfl <;> exact ⟨_, _, rfl, JW_c hG⟩
theorem dM_prune (Φ : ev_P) (h : JJ g) (r1 : InR a) (r2 : InR b) : WN (fun _ G => JJ G) (fM_prune g 624 a b) := W_dM h (oM_prune h.2.2.1) (fun v H e => hr_N (tfM_prune (Φ := Φ) (d := 200) (by decide) h.1 kd_c624 r1 r2) e)
theorem dW_exchange (Φ : ev_P) (h : JJ g) (r1 : InR a) (r2 : InR b) : WN (fun _ G => JJ G) (fW_exchange g 0 a b 635) := by
  refine W_dN h ?_ (fun v H e => hr_N (tfW_exchange (Φ := Φ) (d := 200) (by decide) h.1 (rfR_of (by decide)) r1 r2 (rfR_of (by decide))) e)
  rw [fW_exchange, if_pos kd_c0]
  refine W_bdT (tC_exchange (CO_r h.2.1)) (fun y G hG => ?_) (fun e G he => ?_)
  · rw [if_pos c635, bnd_s]; exact WN_i (JW_o (hG))
  · obtain ⟨he, hG⟩ := he
    rcases he with rfl | rfl <;> exact ⟨_, _, rfl, JW_c hG⟩
theorem dM_exchange (Φ : ev_P) (h : JJ g) (r1 : InR a) (r2 : InR b) : WN (fun _ G => JJ G) (fM_exchange g 624 a b) := W_dM h (oM_exchange h.2.2.1) (fun v H e => hr_N (tfM_exchange (Φ := Φ) (d := 200) (by decide) h.1 kd_c624 r1 r2) e)
theorem dW_readAll (Φ : ev_P) (h : JJ g) (r1 : InR a) : WN (fun _ G => JJ G) (fW_readAll g 0 a 635) := by
  refine W_dN h ?_ (fun v H e => hr_N (tfW_readAll (Φ := Φ) (d := 200) (by decide) h.1 (rfR_of (by decide)) r1 (rfR_of (by decide))) e)
  rw [fW_readAll, if_pos kd_c0]
  refine W_bdT (tC_readAll (CO_r h.2.1)) (fun y G hG => ?_) (fun e G he => ?_)
  · rw [if_pos c635, bnd_s]; exact WN_i (JW_o (hG))
  · obtain ⟨he, hG⟩ := he
    rcases he with rfl | rfl <;> exact ⟨_, _, rfl, JW_c hG⟩
theorem dM_readAll (Φ : ev_P) (h : JJ g) (r1 : InR a) : WN (fun _ G => JJ G) (fM_readAll g 624 a) := W_dM h (oM_readAll h.2.2.1) (fun v H e => hr_N (tfM_readAll (Φ := Φ) (d := 200) (by decide) h.1 kd_c624 r1) e)
theorem dW_testamentsBelow (Φ : ev_P) (h : JJ g) (r1 : InR a) : WN (fun _ G => JJ G) (fW_testamentsBelow g 0 a 635) := by
  refine W_dN h ?_ (fun v H e => hr_N (tfW_testamentsBelow (Φ := Φ) (d := 200) (by decide) h.1 (rfR_of (by decide)) r1 (rfR_of (by decide))) e)
  rw [fW_testamentsBelow, if_pos kd_c0]
  refine W_bdQ (tC_testamentsBelow h.2.1) (fun y _ => ?_) (fun e he => ?_)
  · rw [if_pos c635, bnd_s]; exact WN_i (JW_o (CO_r h.2.1))
  · rcases he with rfl <;> exact ⟨_, _, rfl, JW_c (CO_r h.2.1)⟩
theorem dM_testamentsBelow (Φ : ev_P) (h : JJ g) (r1 : InR a) : WN (fun _ G => JJ G) (fM_testamentsBelow g 624 a) := W_dM h (oM_testamentsBelow h.2.2.1) (fun v H e => hr_N (tfM_testamentsBelow (Φ := Φ) (d := 200) (by decide) h.1 kd_c624 r1) e)
theorem dW_roomBelow (Φ : ev_P) (h : JJ g) (r1 : InR a) : WN (fun _ G => JJ G) (fW_roomBelow g 0 a 635) := by
  refine W_dN h ?_ (fun v H e => hr_N (tfW_roomBelow (Φ := Φ) (d := 200) (by decide) h.1 (rfR_of (by decide)) r1 (rfR_of (by decide))) e)
  rw [fW_roomBelow, if_pos kd_c0]
  refine W_bdQ (tC_roomBelow h.2.1) (fun y _ => ?_) (fun e he => ?_)
  · rw [if_pos c635, bnd_s]; exact WN_i (JW_o (CO_r h.2.1))
  · rcases he with rfl <;> exact ⟨_, _, rfl, JW_c (CO_r h.2.1)⟩
theorem dM_roomBelow (Φ : ev_P) (h : JJ g) (r1 : InR a) : WN (fun _ G => JJ G) (fM_roomBelow g 624 a) := W_dM h (oM_roomBelow h.2.2.1) (fun v H e => hr_N (tfM_roomBelow (Φ := Φ) (d := 200) (by decide) h.1 kd_c624 r1) e)
theorem dM_mostAdopted (Φ : ev_P) (h : JJ g) : WN (fun _ G => JJ G) (fM_mostAdopted g 624) := W_dM h (oM_mostAdopted h.2.2.1) (fun v H e => hr_N (tfM_mostAdopted (Φ := Φ) (d := 200) (by decide) h.1 kd_c624) e)
theorem dW_adopters (Φ : ev_P) (h : JJ g) (r1 : InR a) : WN (fun _ G => JJ G) (fW_adopters g 0 a 635) := by
  refine W_dN h ?_ (fun v H e => hr_N (tfW_adopters (Φ := Φ) (d := 200) (by decide) h.1 (rfR_of (by decide)) r1 (rfR_of (by decide))) e)
  rw [fW_adopters, if_pos kd_c0]
  refine W_bdQ (tC_adopters h.2.1) (fun y _ => ?_) (fun e he => ?_)
  · rw [if_pos c635, bnd_s]; exact WN_i (JW_o (CO_r h.2.1))
  · rcases he with rfl | rfl <;> exact ⟨_, _, rfl, JW_c (CO_r h.2.1)⟩
theorem dM_adopters (Φ : ev_P) (h : JJ g) (r1 : InR a) : WN (fun _ G => JJ G) (fM_adopters g 624 a) := W_dM h (oM_adopters h.2.2.1) (fun v H e => hr_N (tfM_adopters (Φ := Φ) (d := 200) (by decide) h.1 kd_c624 r1) e)
theorem dW_betterCode (Φ : ev_P) (h : JJ g) (r1 : InR a) : WN (fun _ G => JJ G) (fW_betterCode g 0 a 635) := by
  refine W_dN h ?_ (fun v H e => hr_N (tfW_betterCode (Φ := Φ) (d := 200) (by decide) h.1 (rfR_of (by decide)) r1 (rfR_of (by decide))) e)
  rw [fW_betterCode, if_pos kd_c0]
  refine W_bdT (tC_betterCode (CO_r h.2.1)) (fun y G hG => ?_) (fun e G he => ?_)
  · rw [if_pos c635, bnd_s]; exact WN_i (JW_o (hG))
  · obtain ⟨he, hG⟩ := he
    rcases he with rfl | rfl <;> exact ⟨_, _, rfl, JW_c hG⟩
theorem dM_betterCode (Φ : ev_P) (h : JJ g) (r1 : InR a) : WN (fun _ G => JJ G) (fM_betterCode g 624 a) := W_dM h (oM_betterCode h.2.2.1) (fun v H e => hr_N (tfM_betterCode (Φ := Φ) (d := 200) (by decide) h.1 kd_c624 r1) e)
theorem dW_wouldRun (Φ : ev_P) (h : JJ g) (r1 : InR a) (r2 : InR b) : WN (fun _ G => JJ G) (fW_wouldRun g 0 a b 635) := by
  refine W_dN h ?_ (fun v H e => hr_N (tfW_wouldRun (Φ := Φ) (d := 200) (by decide) h.1 (rfR_of (by decide)) r1 r2 (rfR_of (by decide))) e)
  rw [fW_wouldRun, if_pos kd_c0]
  refine W_bdT (tC_wouldRun (CO_r h.2.1)) (fun y G hG => ?_) (fun e G he => ?_)
  · rw [if_pos c635, bnd_s]; exact WN_i (JW_o (hG))
  · obtain ⟨he, hG⟩ := he
    rcases he with rfl <;> exact ⟨_, _, rfl, JW_c hG⟩
theorem dM_wouldRun (Φ : ev_P) (h : JJ g) (r1 : InR a) (r2 : InR b) : WN (fun _ G => JJ G) (fM_wouldRun g 624 a b) := W_dM h (oM_wouldRun h.2.2.1) (fun v H e => hr_N (tfM_wouldRun (Φ := Φ) (d := 200) (by decide) h.1 kd_c624 r1 r2) e)
theorem dM_readShare (Φ : ev_P) (h : JJ g) : WN (fun _ G => JJ G) (fM_readShare g 624) := W_dM h (oM_readShare h.2.2.1) (fun v H e => hr_N (tfM_readShare (Φ := Φ) (d := 200) (by decide) h.1 kd_c624) e)
theorem dW_apart (Φ : ev_P) (h : JJ g) (r1 : InR a) (r2 : InR b) : WN (fun _ G => JJ G) (fW_apart g 0 a b 635) := by
  refine W_dN h ?_ (fun v H e => hr_N (tfW_apart (Φ := Φ) (d := 200) (by decide) h.1 (rfR_of (by decide)) r1 r2 (rfR_of (by decide))) e)
  rw [fW_apart, if_pos kd_c0]
  refine W_bdQ (tC_apart h.2.1) (fun y _ => ?_) (fun e he => ?_)
  · rw [if_pos c635, bnd_s]; exact WN_i (JW_o (CO_r h.2.1))
  · rcases he with rfl | rfl <;> exact ⟨_, _, rfl, JW_c (CO_r h.2.1)⟩
theorem dM_apart (Φ : ev_P) (h : JJ g) (r1 : InR a) (r2 : InR b) : WN (fun _ G => JJ G) (fM_apart g 624 a b) := W_dM h (oM_apart h.2.2.1) (fun v H e => hr_N (tfM_apart (Φ := Φ) (d := 200) (by decide) h.1 kd_c624 r1 r2) e)
theorem dW_relieve (Φ : ev_P) (h : JJ g) (r1 : InR a) : WN (fun _ G => JJ G) (fW_relieve g 0 a 635) := by
  refine W_dN h ?_ (fun v H e => hr_N (tfW_relieve (Φ := Φ) (d := 200) (by decide) h.1 (rfR_of (by decide)) r1 (rfR_of (by decide))) e)
  rw [fW_relieve, if_pos kd_c0]
  refine W_bdT (tC_relieve (CO_r h.2.1)) (fun y G hG => ?_) (fun e G he => ?_)
  · rw [if_pos c635, bnd_s]; exact WN_i (JW_o (hG))
  · obtain ⟨he, hG⟩ := he
    rcases he with rfl | rfl <;> exact ⟨_, _, rfl, JW_c hG⟩
theorem dM_relieve (Φ : ev_P) (h : JJ g) (r1 : InR a) : WN (fun _ G => JJ G) (fM_relieve g 624 a) := W_dM h (oM_relieve h.2.2.1) (fun v H e => hr_N (tfM_relieve (Φ := Φ) (d := 200) (by decide) h.1 kd_c624 r1) e)
theorem dW_wouldHold (Φ : ev_P) (h : JJ g) (r1 : InR a) (r2 : InR b) (r3 : InR c) : WN (fun _ G => JJ G) (fW_wouldHold g 0 a b c 635) := by
  refine W_dN h ?_ (fun v H e => hr_N (tfW_wouldHold (Φ := Φ) (d := 200) (by decide) h.1 (rfR_of (by decide)) r1 r2 r3 (rfR_of (by decide))) e)
  rw [fW_wouldHold, if_pos kd_c0]
  refine W_bdT (tC_wouldHold (CO_r h.2.1)) (fun y G hG => ?_) (fun e G he => ?_)
  · rw [if_pos c635, bnd_s]; exact WN_i (JW_o (hG))
  · obtain ⟨he, hG⟩ := he
    rcases he with rfl | rfl | rfl <;> exact ⟨_, _, rfl, JW_c hG⟩
theorem dM_wouldHold (Φ : ev_P) (h : JJ g) (r1 : InR a) (r2 : InR b) (r3 : InR c) : WN (fun _ G => JJ G) (fM_wouldHold g 624 a b c) := W_dM h (oM_wouldHold h.2.2.1) (fun v H e => hr_N (tfM_wouldHold (Φ := Φ) (d := 200) (by decide) h.1 kd_c624 r1 r2 r3) e)
theorem dW_dutyLife (Φ : ev_P) (h : JJ g) (r1 : InR a) : WN (fun _ G => JJ G) (fW_dutyLife g 0 a 635) := by
  refine W_dN h ?_ (fun v H e => hr_N (tfW_dutyLife (Φ := Φ) (d := 200) (by decide) h.1 (rfR_of (by decide)) r1 (rfR_of (by decide))) e)
  rw [fW_dutyLife, if_pos kd_c0]
  refine W_bdT (tC_dutyLife (CO_r h.2.1)) (fun y G hG => ?_) (fun e G he => ?_)
  · rw [if_pos c635, bnd_s]; exact WN_i (JW_o (hG))
  · obtain ⟨he, hG⟩ := he
    rcases he with rfl <;> exact ⟨_, _, rfl, JW_c hG⟩
theorem dM_dutyLife (Φ : ev_P) (h : JJ g) (r1 : InR a) : WN (fun _ G => JJ G) (fM_dutyLife g 624 a) := W_dM h (oM_dutyLife h.2.2.1) (fun v H e => hr_N (tfM_dutyLife (Φ := Φ) (d := 200) (by decide) h.1 kd_c624 r1) e)
theorem dW_heaviest (Φ : ev_P) (h : JJ g) (r1 : InR a) : WN (fun _ G => JJ G) (fW_heaviest g 0 a 635) := by
  refine W_dN h ?_ (fun v H e => hr_N (tfW_heaviest (Φ := Φ) (d := 200) (by decide) h.1 (rfR_of (by decide)) r1 (rfR_of (by decide))) e)
  rw [fW_heaviest, if_pos kd_c0]
  refine W_bdQ (tC_heaviest h.2.1) (fun y _ => ?_) (fun e he => ?_)
  · rw [if_pos c635, bnd_s]; exact WN_i (JW_o (CO_r h.2.1))
  · rcases he with rfl <;> exact ⟨_, _, rfl, JW_c (CO_r h.2.1)⟩
theorem dM_heaviest (Φ : ev_P) (h : JJ g) (r1 : InR a) : WN (fun _ G => JJ G) (fM_heaviest g 624 a) := W_dM h (oM_heaviest h.2.2.1) (fun v H e => hr_N (tfM_heaviest (Φ := Φ) (d := 200) (by decide) h.1 kd_c624 r1) e)
theorem dW_groupsBelow (Φ : ev_P) (h : JJ g) (r1 : InR a) : WN (fun _ G => JJ G) (fW_groupsBelow g 0 a 635) := by
  refine W_dN h ?_ (fun v H e => hr_N (tfW_groupsBelow (Φ := Φ) (d := 200) (by decide) h.1 (rfR_of (by decide)) r1 (rfR_of (by decide))) e)
  rw [fW_groupsBelow, if_pos kd_c0]
  refine W_bdQ (tC_groupsBelow h.2.1) (fun y _ => ?_) (fun e he => ?_)
  · rw [if_pos c635, bnd_s]; exact WN_i (JW_o (CO_r h.2.1))
  · rcases he with rfl <;> exact ⟨_, _, rfl, JW_c (CO_r h.2.1)⟩
theorem dM_groupsBelow (Φ : ev_P) (h : JJ g) (r1 : InR a) : WN (fun _ G => JJ G) (fM_groupsBelow g 624 a) := W_dM h (oM_groupsBelow h.2.2.1) (fun v H e => hr_N (tfM_groupsBelow (Φ := Φ) (d := 200) (by decide) h.1 kd_c624 r1) e)
theorem dW_strangers (Φ : ev_P) (h : JJ g) (r1 : InR a) : WN (fun _ G => JJ G) (fW_strangers g 0 a 635) := by
  refine W_dN h ?_ (fun v H e => hr_N (tfW_strangers (Φ := Φ) (d := 200) (by decide) h.1 (rfR_of (by decide)) r1 (rfR_of (by decide))) e)
  rw [fW_strangers, if_pos kd_c0]
  refine W_bdQ (tC_strangers h.2.1) (fun y _ => ?_) (fun e he => ?_)
  · rw [if_pos c635, bnd_s]; exact WN_i (JW_o (CO_r h.2.1))
  · rcases he with rfl <;> exact ⟨_, _, rfl, JW_c (CO_r h.2.1)⟩
theorem dM_strangers (Φ : ev_P) (h : JJ g) (r1 : InR a) : WN (fun _ G => JJ G) (fM_strangers g 624 a) := W_dM h (oM_strangers h.2.2.1) (fun v H e => hr_N (tfM_strangers (Φ := Φ) (d := 200) (by decide) h.1 kd_c624 r1) e)
theorem dW_print (Φ : ev_P) (h : JJ g) (r1 : InR a) (r2 : InR b) : WN (fun _ G => JJ G) (fW_print g 0 a b 635) := by
  refine W_dN h ?_ (fun v H e => hr_N (tfW_print (Φ := Φ) (d := 200) (by decide) h.1 (rfR_of (by decide)) r1 r2 (rfR_of (by decide))) e)
  rw [fW_print, if_pos kd_c0]
  refine W_bdT (tC_print (CO_r h.2.1)) (fun y G hG => ?_) (fun e G he => ?_)
  · rw [if_pos c635, bnd_s]; exact WN_i (JW_o (hG))
  · obtain ⟨he, hG⟩ := he
    rcases he with rfl | rfl | rfl <;> exact ⟨_, _, rfl, JW_c hG⟩
theorem dM_print (Φ : ev_P) (h : JJ g) (r1 : InR a) (r2 : InR b) : WN (fun _ G => JJ G) (fM_print g 624 a b) := W_dM h (oM_print h.2.2.1) (fun v H e => hr_N (tfM_print (Φ := Φ) (d := 200) (by decide) h.1 kd_c624 r1 r2) e)
theorem dM_outputByte (Φ : ev_P) (h : JJ g) (r1 : InR a) : WN (fun _ G => JJ G) (fM_outputByte g 624 a) := W_dM h (oM_outputByte h.2.2.1) (fun v H e => hr_N (tfM_outputByte (Φ := Φ) (d := 200) (by decide) h.1 kd_c624 r1) e)
theorem dC_undo (Φ : ev_P) (h : JJ g) : WN (fun _ G => JJ G) (fC_undo g 0) := W_dN h (WN_m (tC_undo (CO_r h.2.1)) (fun _ _ hG => JW_c hG)) (fun v H e => hr_N (tfC_undo (Φ := Φ) (d := 200) (by decide) h.1 kd_c0) e)
theorem dM_undo (Φ : ev_P) (h : JJ g) : WN (fun _ G => JJ G) (fM_undo g 624) := W_dM h (oM_undo h.2.2.1) (fun v H e => hr_N (tfM_undo (Φ := Φ) (d := 200) (by decide) h.1 kd_c624) e)
theorem dC_saveState (Φ : ev_P) (h : JJ g) : WN (fun _ G => JJ G) (fC_saveState g 0) := W_dN h (WN_m (tC_saveState (CO_r h.2.1)) (fun _ _ hG => JW_c hG)) (fun v H e => hr_N (tfC_saveState (Φ := Φ) (d := 200) (by decide) h.1 kd_c0) e)
theorem dM_saveState (Φ : ev_P) (h : JJ g) : WN (fun _ G => JJ G) (fM_saveState g 624) := W_dM h (oM_saveState h.2.2.1) (fun v H e => hr_N (tfM_saveState (Φ := Φ) (d := 200) (by decide) h.1 kd_c624) e)
theorem dW_restoreState (Φ : ev_P) (h : JJ g) : WN (fun _ G => JJ G) (fW_restoreState g 0 635) := by
  refine W_dN h ?_ (fun v H e => hr_N (tfW_restoreState (Φ := Φ) (d := 200) (by decide) h.1 (rfR_of (by decide)) (rfR_of (by decide))) e)
  rw [fW_restoreState, if_pos kd_c0]
  refine W_bdT (tC_restoreState (CO_r h.2.1)) (fun y G hG => ?_) (fun e G he => ?_)
  · rw [if_pos c635, bnd_s]; exact WN_i (JW_o (hG))
  · obtain ⟨he, hG⟩ := he
    rcases he with rfl <;> exact ⟨_, _, rfl, JW_c hG⟩
theorem dM_restoreState (Φ : ev_P) (h : JJ g) : WN (fun _ G => JJ G) (fM_restoreState g 624) := W_dM h (oM_restoreState h.2.2.1) (fun v H e => hr_N (tfM_restoreState (Φ := Φ) (d := 200) (by decide) h.1 kd_c624) e)
theorem okf2 {x y : Int} (hy : toI y ≠ 0) : okf2d (gfdiv (gi2f x) (gi2f y)) = true := by
  have h := FP.Core.fdiv_out (FP.Core.FFin.notNaN (FP.Core.i2f_fin (toI x))) (FP.Core.i2f_fin (toI y)) (fun hz => FP.Core.i2f_ne_zero hy ((FP.Core.zero_bits232 _).mp hz))
  unfold okf2d gfdiv gi2f
  rw [Int.toNat_natCast, Int.toNat_natCast, Int.toNat_natCast, UInt32.ofNat_toNat, UInt32.ofNat_toNat, UInt32.ofNat_toNat]
  exact n64_ok ((FP.f2d_nan _).trans h)
theorem okf2_0 : okf2d 0 = true := by decide +kernel
theorem tC_rootShare2 (h : CInv g) (hr : HR g) : WP (fun v => okf2d v = true) (fC_rootShare g 0) := by
  obtain ⟨T, hT, e0, ht, e3, e5⟩ := CI_T h
  rw [fC_rootShare, e0, if_pos (kdT hT)]
  exact W_ite (fun _ => WP_i okf2_0) (fun hz => W_g (okf (toI_ne (HR_T hr hT (by omega)) hz)) (WP_i (okf2 (toI_ne (HR_T hr hT (by omega)) hz))))
theorem oM_rootShare2 (hi : MInv g) (hg : HR g) : ∃ v G, fM_rootShare g 624 = some (v, G) ∧ okf2d v = true := by
  have o1 := o0 hi
  have h0 := o1.1.1.1
  have hE := HR_th (k := 2) hg
  rw [fM_rootShare, bnd_s, o8 hi]
  simp (disch := omega) only [h0, kd_625, sz_625, w32_r, true_and, le_t, lt_t, and_true, ↓reduceIte]
  split
  · exact ⟨_, _, rfl, okf2_0⟩
  · next hz =>
    rw [if_pos (okf (toI_ne hE hz))]
    exact ⟨_, _, rfl, okf2 (toI_ne hE hz)⟩
theorem dM_rootShare2 (Φ : ev_P) (h : JJ g) : WN (fun v G => JJ G ∧ okf2d v = true) (fM_rootShare g 624) := by
  obtain ⟨v, G, e1, h1⟩ := dM_rootShare Φ h
  obtain ⟨v', G', e2, h2⟩ := oM_rootShare2 h.2.2.1 h.1
  rw [e1] at e2
  injection e2 with e2
  injection e2 with e2 e3
  exact ⟨v, G, e1, h1, by rw [e2]; exact h2⟩
theorem d_append (Φ : ev_P) (h : JJ g) (r1 : InR a) (r2 : InR b) (r3 : InR c) (r4 : InR d) (r5 : InR k) : ∃ v G H, fC_appendInput g 0 a b c d k = some (v, G) ∧ fM_appendInput G 624 a b c d k = some (v, H) ∧ JJ H := by
  obtain ⟨G, e1, q1, q2, q3⟩ := tC_appendInput (a := a) (b := b) (c := c) (d := d) (k := k) h.2.1
  have hG : HR G := hr_N (tfC_appendInput (Φ := Φ) (d := 200) (by decide) h.1 kd_c0 r1 r2 r3 r4 r5) e1
  have mG : MInv G := MInv_x h.2.2.1 (fun x x0 _ => q2 x x0)
  obtain ⟨H, e2, m1, m2, m3⟩ := oM_appendInput (a := a) (b := b) (c := c) (d := d) (k := k) mG
  have hH : HR H := hr_N (tfM_appendInput (Φ := Φ) (d := 200) (by decide) hG kd_c624 r1 r2 r3 r4 r5) e2
  obtain ⟨v, G', H', f1, f2, f3, f4, f5, f6⟩ := ap_input (g1 := G) (a := a) (b := b) (c := c) (d := d) (k := k) h.2.1 mG (BB_g h q2)
  have eG := (same f1 e1).2
  have eH := (same f2 e2).2
  subst eG
  subst eH
  refine ⟨v, G', H', f1, f2, hH, CInv_x q1 (fun x x0 => m2 x (by omega)), m1, ?_, ?_⟩
  · rw [m2 576 (by omega)]
    exact f3.1.symm
  · unfold BB at f3 ⊢
    rw [m2 575 (by omega), m2 576 (by omega), m2 577 (by omega), f4, f5, f6, q2 624 (by omega)]
    exact ⟨f3, h.2.2.2.2.2⟩
theorem d_truncate (Φ : ev_P) (h : JJ g) (r1 : InR a) : ∃ v G H, fC_truncateInput g 0 a = some (v, G) ∧ fM_truncateInput G 624 a = some (v, H) ∧ JJ H := by
  obtain ⟨G, e1, q1, q2, q3⟩ := tC_truncateInput (v := a) h.2.1
  have hG : HR G := hr_N (tfC_truncateInput (Φ := Φ) (d := 200) (by decide) h.1 kd_c0 r1) e1
  have mG : MInv G := MInv_x h.2.2.1 (fun x x0 _ => q2 x x0)
  obtain ⟨H, e2, m1, m2, m3⟩ := oM_truncateInput (a := a) mG
  have hH : HR H := hr_N (tfM_truncateInput (Φ := Φ) (d := 200) (by decide) hG kd_c624 r1) e2
  obtain ⟨v, G', H', f1, f2, f3, f4, f5, f6⟩ := tr_input (g1 := G) (a := a) h.2.1 mG (BB_g h q2)
  have eG := (same f1 e1).2
  have eH := (same f2 e2).2
  subst eG
  subst eH
  refine ⟨v, G', H', f1, f2, hH, CInv_x q1 (fun x x0 => m2 x (by omega)), m1, ?_, ?_⟩
  · rw [m2 576 (by omega)]
    exact f3.1.symm
  · unfold BB at f3 ⊢
    rw [m2 575 (by omega), m2 576 (by omega), m2 577 (by omega), f4, f5, f6, q2 624 (by omega)]
    exact ⟨f3, h.2.2.2.2.2⟩
theorem d_load (Φ : ev_P) (h : JJ g) : ∃ v G H, fC_loadTree g 0 = some (v, G) ∧ fM_loadTree G 624 = some (v, H) ∧ JJ H := by
  obtain ⟨v, G, e1, q1, q2, q3⟩ := tC_loadTree h.2.1
  have hG : HR G := hr_N (tfC_loadTree (Φ := Φ) (d := 200) (by decide) h.1 kd_c0) e1
  have mG : MInv G := MInv_x h.2.2.1 (fun x x0 _ => q2 x x0)
  obtain ⟨w, H, e2, m1, m2, m3⟩ := oM_loadTree mG
  have hH : HR H := hr_N (tfM_loadTree (Φ := Φ) (d := 200) (by decide) hG kd_c624) e2
  obtain ⟨u, G', H', f1, f2, ⟨f3, f4⟩, f5, f6⟩ := ld_both (g1 := G) h.2.1 mG (BB_g h q2)
  have eG := (same f1 e1).2
  have eH := (same f2 e2).2
  subst eG
  subst eH
  refine ⟨u, G', H', f1, f2, hH, CInv_x q1 (fun x x0 => m2 x (by omega)), m1, ?_, ?_⟩
  · rw [m2 576 (by omega), f5]
    exact f6
  · unfold BB
    rw [m2 575 (by omega), m2 576 (by omega), m2 577 (by omega), f5, f6]
    exact ⟨⟨rfl, fun k k0 k1 => absurd k0 (by omega)⟩, f3, f4⟩
theorem ce_code (h : CInv g) : fC_errorCode g 0 = some (g 575 2) := by
  have e4 : g 0 4 = 575 := h.1.1.2.2.2.2.1
  rw [fC_errorCode, e4, if_pos kd_575]
theorem ce_offset (h : CInv g) : fC_errorOffset g 0 = some (g 575 3) := by
  have e4 : g 0 4 = 575 := h.1.1.2.2.2.2.1
  rw [fC_errorOffset, e4, if_pos kd_575]
theorem d_code (Φ : ev_P) (h : JJ g) : ∃ H, fC_errorCode g 0 = some (g 575 2) ∧ fM_errorCode g 624 = some (g 575 2, H) ∧ JJ H := by
  obtain ⟨w, H, e, hH⟩ := dM_errorCode Φ h
  have e1 := e
  rw [fM_errorCode, bnd_s] at e1
  have e2 := (Prod.mk.inj (Option.some.inj e1)).1
  rw [pU_y (by omega), ← h.2.2.2.2.2.1] at e2
  rw [← e2] at e
  exact ⟨H, ce_code h.2.1, e, hH⟩
theorem d_offset (Φ : ev_P) (h : JJ g) : ∃ H, fC_errorOffset g 0 = some (g 575 3) ∧ fM_errorOffset g 624 = some (g 575 3, H) ∧ JJ H := by
  obtain ⟨w, H, e, hH⟩ := dM_errorOffset Φ h
  have e1 := e
  rw [fM_errorOffset, bnd_s] at e1
  have e2 := (Prod.mk.inj (Option.some.inj e1)).1
  rw [pU_y (by omega), ← h.2.2.2.2.2.2] at e2
  rw [← e2] at e
  exact ⟨H, ce_offset h.2.1, e, hH⟩
theorem scr_in {Φ : ev_P} {j : Int} (hs : ScrOK Φ L sc) (h : 0 ≤ j ∧ j < L) : InR (sc j) := by
  obtain ⟨n, rfl⟩ := Int.eq_ofNat_of_zero_le h.1
  exact (hs.2.2 n (by have := hs.1; omega)).1
/-- the loop goes on from a heap that stands -/
def Wx (X : Int → gH → Option (Int × gH)) (v4 : Int) (Y : Option (Int × gH)) : Prop := ∃ K, JJ K ∧ Y = X (w32 (v4 + 6)) K
/-- one call -/
theorem bW_ok {Φ : ev_P} (hs : ScrOK Φ L sc) {X : Int → gH → Option (Int × gH)} (h : JJ g) (hv : 0 ≤ v4 ∧ v4 + 6 ≤ L) : Wx X v4 (bW_law_23 sc L X v4 g) := by
  have hL : L ≤ 5000 := by have := hs.1; have := hs.2.1; omega
  have g1 : (0 : Int) ≤ w32 (v4 + 1) ∧ w32 (v4 + 1) < L := by rw [w32_r (by omega)]; omega
  have r1 : InR (sc (w32 (v4 + 1))) := scr_in hs g1
  have g2 : (0 : Int) ≤ w32 (v4 + 2) ∧ w32 (v4 + 2) < L := by rw [w32_r (by omega)]; omega
  have r2 : InR (sc (w32 (v4 + 2))) := scr_in hs g2
  have g3 : (0 : Int) ≤ w32 (v4 + 3) ∧ w32 (v4 + 3) < L := by rw [w32_r (by omega)]; omega
  have r3 : InR (sc (w32 (v4 + 3))) := scr_in hs g3
  have g4 : (0 : Int) ≤ w32 (v4 + 4) ∧ w32 (v4 + 4) < L := by rw [w32_r (by omega)]; omega
  have r4 : InR (sc (w32 (v4 + 4))) := scr_in hs g4
  have g5 : (0 : Int) ≤ w32 (v4 + 5) ∧ w32 (v4 + 5) < L := by rw [w32_r (by omega)]; omega
  have r5 : InR (sc (w32 (v4 + 5))) := scr_in hs g5
  have fin : ∀ H, JJ H → Wx X v4 (X (w32 (v4 + 6)) H) := fun H hH => ⟨H, hH, rfl⟩
  rw [bW_law_23]
  refine W_n (by rw [w32_r (by omega)]; omega) (W_g (show (0 : Int) ≤ v4 ∧ v4 < L from ⟨hv.1, by omega⟩) ?_)
  refine W_ite (fun _ => ?_) (fun _ => ?_)
  · obtain ⟨v, G, H, e1, e2, e3⟩ := d_append Φ h r1 r2 r3 r4 r5
    rw [if_pos g1, if_pos g2, if_pos g3, if_pos g4, if_pos g5, e1, bdN_s, if_pos g1, if_pos g2, if_pos g3, if_pos g4, if_pos g5, e2, bdN_s]
    exact fin H e3
  refine W_ite (fun _ => ?_) (fun _ => ?_)
  · obtain ⟨v, G, H, e1, e2, e3⟩ := d_truncate Φ h r1
    rw [if_pos g1, e1, bdN_s, if_pos g1, e2, bdN_s]
    exact fin H e3
  refine W_ite (fun _ => ?_) (fun _ => ?_)
  · obtain ⟨v, G, H, e1, e2, e3⟩ := d_load Φ h
    rw [e1, bdN_s, e2, bdN_s]
    exact fin H e3
  refine W_ite (fun _ => ?_) (fun _ => ?_)
  · obtain ⟨H, e1, e2, e3⟩ := d_code Φ h
    rw [e1, bdP_s, e2, bdN_s]
    exact fin H e3
  refine W_ite (fun _ => ?_) (fun _ => ?_)
  · obtain ⟨H, e1, e2, e3⟩ := d_offset Φ h
    rw [e1, bdP_s, e2, bdN_s, if_pos rfl]
    exact fin H e3
  refine W_ite (fun _ => ?_) (fun _ => ?_)
  · exact W_g g1 (W_bdN (dW_count Φ h r1) (fun _ G hG => W_g g1 (W_bdN (dM_count Φ hG r1) (fun _ H hH => fin H hH))))
  refine W_ite (fun _ => ?_) (fun _ => ?_)
  · exact W_g g1 (W_g g2 (W_bdN (dW_process Φ h r1 r2) (fun _ G hG => W_g g1 (W_g g2 (W_bdN (dM_process Φ hG r1 r2) (fun _ H hH => fin H hH))))))
  refine W_ite (fun _ => ?_) (fun _ => ?_)
  · exact W_g g1 (W_bdN (dW_holder Φ h r1) (fun _ G hG => W_g g1 (W_bdN (dM_holder Φ hG r1) (fun _ H hH => fin H hH))))
  refine W_ite (fun _ => ?_) (fun _ => ?_)
  · exact W_g g1 (W_bdP (tC_rule h.2.1) (fun _ _ => W_g g1 (W_bdN (dM_rule Φ h r1) (fun _ H hH => fin H hH))))
  refine W_ite (fun _ => ?_) (fun _ => ?_)
  · exact W_g g1 (W_bdN (dW_depth Φ h r1) (fun _ G hG => W_g g1 (W_bdN (dM_depth Φ hG r1) (fun _ H hH => fin H hH))))
  refine W_ite (fun _ => ?_) (fun _ => ?_)
  · exact W_g g1 (W_g g2 (W_bdN (dW_isAbove Φ h r1 r2) (fun _ G hG => W_g g1 (W_g g2 (W_bdN (dM_isAbove Φ hG r1 r2) (fun _ H hH => fin H hH))))))
  refine W_ite (fun _ => ?_) (fun _ => ?_)
  · exact W_g g1 (W_g g2 (W_bdN (dW_meet Φ h r1 r2) (fun _ G hG => W_g g1 (W_g g2 (W_bdN (dM_meet Φ hG r1 r2) (fun _ H hH => fin H hH))))))
  refine W_ite (fun _ => ?_) (fun _ => ?_)
  · exact W_g g1 (W_bdN (dW_below Φ h r1) (fun _ G hG => W_g g1 (W_bdN (dM_below Φ hG r1) (fun _ H hH => fin H hH))))
  refine W_ite (fun _ => ?_) (fun _ => ?_)
  · exact W_g g1 (W_bdN (dW_walked Φ h r1) (fun _ G hG => W_g g1 (W_bdN (dM_walked Φ hG r1) (fun _ H hH => fin H hH))))
  refine W_ite (fun _ => ?_) (fun _ => ?_)
  · exact W_g g1 (W_bdP (tC_atDepth h.2.1) (fun _ _ => W_g g1 (W_bdN (dM_atDepth Φ h r1) (fun _ H hH => fin H hH))))
  refine W_ite (fun _ => ?_) (fun _ => ?_)
  · exact W_bdP (tC_height h.2.1) (fun _ _ => W_bdN (dM_height Φ h) (fun _ H hH => fin H hH))
  refine W_ite (fun _ => ?_) (fun _ => ?_)
  · exact W_g g1 (W_g g2 (W_g g3 (W_g g4 (W_bdN (dW_spawn Φ h r1 r2 r3 r4) (fun _ G hG => W_g g1 (W_g g2 (W_g g3 (W_g g4 (W_bdN (dM_spawn Φ hG r1 r2 r3 r4) (fun _ H hH => fin H hH))))))))))
  refine W_ite (fun _ => ?_) (fun _ => ?_)
  · exact W_g g1 (W_g g2 (W_bdN (dW_exit Φ h r1 r2) (fun _ G hG => W_g g1 (W_g g2 (W_bdN (dM_exit Φ hG r1 r2) (fun _ H hH => fin H hH))))))
  refine W_ite (fun _ => ?_) (fun _ => ?_)
  · exact W_g g1 (W_g g2 (W_bdN (dW_kill Φ h r1 r2) (fun _ G hG => W_g g1 (W_g g2 (W_bdN (dM_kill Φ hG r1 r2) (fun _ H hH => fin H hH))))))
  refine W_ite (fun _ => ?_) (fun _ => ?_)
  · exact W_g g1 (W_bdN (dW_read Φ h r1) (fun _ G hG => W_g g1 (W_bdN (dM_read Φ hG r1) (fun _ H hH => fin H hH))))
  refine W_ite (fun _ => ?_) (fun _ => ?_)
  · exact W_g g1 (W_g g2 (W_bdN (dW_refuse Φ h r1 r2) (fun _ G hG => W_g g1 (W_g g2 (W_bdN (dM_refuse Φ hG r1 r2) (fun _ H hH => fin H hH))))))
  refine W_ite (fun _ => ?_) (fun _ => ?_)
  · exact W_g g1 (W_g g2 (W_bdN (dW_accept Φ h r1 r2) (fun _ G hG => W_g g1 (W_g g2 (W_bdN (dM_accept Φ hG r1 r2) (fun _ H hH => fin H hH))))))
  refine W_ite (fun _ => ?_) (fun _ => ?_)
  · exact W_g g1 (W_g g2 (W_bdN (dW_move Φ h r1 r2) (fun _ G hG => W_g g1 (W_g g2 (W_bdN (dM_move Φ hG r1 r2) (fun _ H hH => fin H hH))))))
  refine W_ite (fun _ => ?_) (fun _ => ?_)
  · exact W_g g1 (W_g g2 (W_bdN (dW_setCapacity Φ h r1 r2) (fun _ G hG => W_g g1 (W_g g2 (W_bdN (dM_setCapacity Φ hG r1 r2) (fun _ H hH => fin H hH))))))
  refine W_ite (fun _ => ?_) (fun _ => ?_)
  · exact W_g g1 (W_g g2 (W_bdN (dW_setBudget Φ h r1 r2) (fun _ G hG => W_g g1 (W_g g2 (W_bdN (dM_setBudget Φ hG r1 r2) (fun _ H hH => fin H hH))))))
  refine W_ite (fun _ => ?_) (fun _ => ?_)
  · exact W_g g1 (W_g g2 (W_bdN (dW_setHeir Φ h r1 r2) (fun _ G hG => W_g g1 (W_g g2 (W_bdN (dM_setHeir Φ hG r1 r2) (fun _ H hH => fin H hH))))))
  refine W_ite (fun _ => ?_) (fun _ => ?_)
  · exact W_g g1 (W_g g2 (W_bdN (dW_give Φ h r1 r2) (fun _ G hG => W_g g1 (W_g g2 (W_bdN (dM_give Φ hG r1 r2) (fun _ H hH => fin H hH))))))
  refine W_ite (fun _ => ?_) (fun _ => ?_)
  · exact W_g g1 (W_bdN (dW_adopter Φ h r1) (fun _ G hG => W_g g1 (W_bdN (dM_adopter Φ hG r1) (fun _ H hH => fin H hH))))
  refine W_ite (fun _ => ?_) (fun _ => ?_)
  · exact W_g g1 (W_bdN (dW_heirNow Φ h r1) (fun _ G hG => W_g g1 (W_bdN (dM_heirNow Φ hG r1) (fun _ H hH => fin H hH))))
  refine W_ite (fun _ => ?_) (fun _ => ?_)
  · exact W_g g1 (W_g g2 (W_bdN (dW_wouldFall Φ h r1 r2) (fun _ G hG => W_g g1 (W_g g2 (W_bdN (dM_wouldFall Φ hG r1 r2) (fun _ H hH => fin H hH))))))
  refine W_ite (fun _ => ?_) (fun _ => ?_)
  · exact W_g g1 (W_g g2 (W_bdN (dW_wouldStand Φ h r1 r2) (fun _ G hG => W_g g1 (W_g g2 (W_bdN (dM_wouldStand Φ hG r1 r2) (fun _ H hH => fin H hH))))))
  refine W_ite (fun _ => ?_) (fun _ => ?_)
  · exact W_g g1 (W_g g2 (W_g g3 (W_bdN (dW_wouldHave Φ h r1 r2 r3) (fun _ G hG => W_g g1 (W_g g2 (W_g g3 (W_bdN (dM_wouldHave Φ hG r1 r2 r3) (fun _ H hH => fin H hH))))))))
  refine W_ite (fun _ => ?_) (fun _ => ?_)
  · exact W_g g1 (W_g g2 (W_bdN (dW_wouldFallBy Φ h r1 r2) (fun _ G hG => W_g g1 (W_g g2 (W_bdN (dM_wouldFallBy Φ hG r1 r2) (fun _ H hH => fin H hH))))))
  refine W_ite (fun _ => ?_) (fun _ => ?_)
  · exact W_g g1 (W_bdN (dW_weakest Φ h r1) (fun _ G hG => W_g g1 (W_bdN (dM_weakest Φ hG r1) (fun _ H hH => fin H hH))))
  refine W_ite (fun _ => ?_) (fun _ => ?_)
  · exact W_g g1 (W_bdN (dW_roomiest Φ h r1) (fun _ G hG => W_g g1 (W_bdN (dM_roomiest Φ hG r1) (fun _ H hH => fin H hH))))
  refine W_ite (fun _ => ?_) (fun _ => ?_)
  · exact W_bdP (tC_allRoom h.2.1) (fun _ _ => W_bdN (dM_allRoom Φ h) (fun _ H hH => fin H hH))
  refine W_ite (fun _ => ?_) (fun _ => ?_)
  · exact W_bdP (tC_overfull h.2.1) (fun _ _ => W_bdN (dM_overfull Φ h) (fun _ H hH => fin H hH))
  refine W_ite (fun _ => ?_) (fun _ => ?_)
  · exact W_g g1 (W_bdN (dW_ofGroup Φ h r1) (fun _ G hG => W_g g1 (W_bdN (dM_ofGroup Φ hG r1) (fun _ H hH => fin H hH))))
  refine W_ite (fun _ => ?_) (fun _ => ?_)
  · exact W_g g1 (W_bdN (dW_nextTestament Φ h r1) (fun _ G hG => W_g g1 (W_bdN (dM_nextTestament Φ hG r1) (fun _ H hH => fin H hH))))
  refine W_ite (fun _ => ?_) (fun _ => ?_)
  · exact W_g g1 (W_bdN (dW_exited Φ h r1) (fun _ G hG => W_g g1 (W_bdN (dM_exited Φ hG r1) (fun _ H hH => fin H hH))))
  refine W_ite (fun _ => ?_) (fun _ => ?_)
  · exact W_bdP (tC_meanDepth h.2.1) (fun _ _ => W_bdN (dM_meanDepth Φ h) (fun _ H hH => fin H hH))
  refine W_ite (fun _ => ?_) (fun _ => ?_)
  · exact W_bdP (tC_rootShare2 h.2.1 h.1) (fun _ q1 => W_g q1 (W_bdN (dM_rootShare2 Φ h) (fun _ H hH => W_g hH.2 (fin H hH.1))))
  refine W_ite (fun _ => ?_) (fun _ => ?_)
  · exact W_g g1 (W_g g2 (W_bdN (dW_prune Φ h r1 r2) (fun _ G hG => W_g g1 (W_g g2 (W_bdN (dM_prune Φ hG r1 r2) (fun _ H hH => fin H hH))))))
  refine W_ite (fun _ => ?_) (fun _ => ?_)
  · exact W_g g1 (W_g g2 (W_bdN (dW_exchange Φ h r1 r2) (fun _ G hG => W_g g1 (W_g g2 (W_bdN (dM_exchange Φ hG r1 r2) (fun _ H hH => fin H hH))))))
  refine W_ite (fun _ => ?_) (fun _ => ?_)
  · exact W_g g1 (W_bdN (dW_readAll Φ h r1) (fun _ G hG => W_g g1 (W_bdN (dM_readAll Φ hG r1) (fun _ H hH => fin H hH))))
  refine W_ite (fun _ => ?_) (fun _ => ?_)
  · exact W_g g1 (W_bdN (dW_testamentsBelow Φ h r1) (fun _ G hG => W_g g1 (W_bdN (dM_testamentsBelow Φ hG r1) (fun _ H hH => fin H hH))))
  refine W_ite (fun _ => ?_) (fun _ => ?_)
  · exact W_g g1 (W_bdN (dW_roomBelow Φ h r1) (fun _ G hG => W_g g1 (W_bdN (dM_roomBelow Φ hG r1) (fun _ H hH => fin H hH))))
  refine W_ite (fun _ => ?_) (fun _ => ?_)
  · exact W_bdP (tC_mostAdopted h.2.1) (fun _ _ => W_bdN (dM_mostAdopted Φ h) (fun _ H hH => fin H hH))
  refine W_ite (fun _ => ?_) (fun _ => ?_)
  · exact W_g g1 (W_bdN (dW_adopters Φ h r1) (fun _ G hG => W_g g1 (W_bdN (dM_adopters Φ hG r1) (fun _ H hH => fin H hH))))
  refine W_ite (fun _ => ?_) (fun _ => ?_)
  · exact W_g g1 (W_bdN (dW_betterCode Φ h r1) (fun _ G hG => W_g g1 (W_bdN (dM_betterCode Φ hG r1) (fun _ H hH => fin H hH))))
  refine W_ite (fun _ => ?_) (fun _ => ?_)
  · exact W_g g1 (W_g g2 (W_bdN (dW_wouldRun Φ h r1 r2) (fun _ G hG => W_g g1 (W_g g2 (W_bdN (dM_wouldRun Φ hG r1 r2) (fun _ H hH => fin H hH))))))
  refine W_ite (fun _ => ?_) (fun _ => ?_)
  · exact W_bdP (tC_readShare h.2.1 h.1) (fun _ _ => W_bdN (dM_readShare Φ h) (fun _ H hH => fin H hH))
  refine W_ite (fun _ => ?_) (fun _ => ?_)
  · exact W_g g1 (W_g g2 (W_bdN (dW_apart Φ h r1 r2) (fun _ G hG => W_g g1 (W_g g2 (W_bdN (dM_apart Φ hG r1 r2) (fun _ H hH => fin H hH))))))
  refine W_ite (fun _ => ?_) (fun _ => ?_)
  · exact W_g g1 (W_bdN (dW_relieve Φ h r1) (fun _ G hG => W_g g1 (W_bdN (dM_relieve Φ hG r1) (fun _ H hH => fin H hH))))
  refine W_ite (fun _ => ?_) (fun _ => ?_)
  · exact W_g g1 (W_g g2 (W_g g3 (W_bdN (dW_wouldHold Φ h r1 r2 r3) (fun _ G hG => W_g g1 (W_g g2 (W_g g3 (W_bdN (dM_wouldHold Φ hG r1 r2 r3) (fun _ H hH => fin H hH))))))))
  refine W_ite (fun _ => ?_) (fun _ => ?_)
  · exact W_g g1 (W_bdN (dW_dutyLife Φ h r1) (fun _ G hG => W_g g1 (W_bdN (dM_dutyLife Φ hG r1) (fun _ H hH => fin H hH))))
  refine W_ite (fun _ => ?_) (fun _ => ?_)
  · exact W_g g1 (W_bdN (dW_heaviest Φ h r1) (fun _ G hG => W_g g1 (W_bdN (dM_heaviest Φ hG r1) (fun _ H hH => fin H hH))))
  refine W_ite (fun _ => ?_) (fun _ => ?_)
  · exact W_g g1 (W_bdN (dW_groupsBelow Φ h r1) (fun _ G hG => W_g g1 (W_bdN (dM_groupsBelow Φ hG r1) (fun _ H hH => fin H hH))))
  refine W_ite (fun _ => ?_) (fun _ => ?_)
  · exact W_g g1 (W_bdN (dW_strangers Φ h r1) (fun _ G hG => W_g g1 (W_bdN (dM_strangers Φ hG r1) (fun _ H hH => fin H hH))))
  refine W_ite (fun _ => ?_) (fun _ => ?_)
  · exact W_g g1 (W_g g2 (W_bdN (dW_print Φ h r1 r2) (fun _ G hG => W_g g1 (W_g g2 (W_bdN (dM_print Φ hG r1 r2) (fun _ H hH => fin H hH))))))
  refine W_ite (fun _ => ?_) (fun _ => ?_)
  · exact W_g g1 (W_bdP (tC_outputByte h.2.1) (fun _ _ => W_g g1 (W_bdN (dM_outputByte Φ h r1) (fun _ H hH => fin H hH))))
  refine W_ite (fun _ => ?_) (fun _ => ?_)
  · exact W_bdN (dC_undo Φ h) (fun _ G hG => W_bdN (dM_undo Φ hG) (fun _ H hH => fin H hH))
  refine W_ite (fun _ => ?_) (fun _ => ?_)
  · exact W_bdN (dC_saveState Φ h) (fun _ G hG => W_bdN (dM_saveState Φ hG) (fun _ H hH => fin H hH))
  refine W_ite (fun _ => ?_) (fun _ => ?_)
  · exact W_bdN (dW_restoreState Φ h) (fun _ G hG => W_bdN (dM_restoreState Φ hG) (fun _ H hH => fin H hH))
  exact fin g h
/-- the whole loop -/
theorem lW_ok {Φ : ev_P} (hs : ScrOK Φ L sc) : ∀ (n : Nat) (v4 : Int) (g : gH), JJ g → 0 ≤ v4 → v4 ≤ L + 6 → (L + 6 - v4).toNat < n → ∃ H, lW_law_23 sc L n v4 g = some (1, H) := by
  intro n
  have hL : 0 ≤ L ∧ L ≤ 5000 := by have := hs.1; have := hs.2.1; omega
  induction n with
  | zero => intro v4 g _ _ _ h; exact absurd h (Nat.not_lt_zero _)
  | succ n ih =>
    intro v4 g h h0 h1 hn
    show ∃ H, bW_law_23 sc L (lW_law_23 sc L n) v4 g = some (1, H)
    by_cases hv : v4 + 6 ≤ L
    · obtain ⟨H, hH, e⟩ := bW_ok (X := lW_law_23 sc L n) hs h ⟨h0, hv⟩
      rw [e, w32_r (by omega)]
      exact ih (v4 + 6) H hH (by omega) (by omega) (by omega)
    · rw [bW_law_23, if_pos (by rw [w32_r (by omega)]; omega)]
      exact ⟨g, rfl⟩
end LAW96
