/-! ===== both readers in step: numbers, ends (own work) ===== -/
section PAR6
variable {C : gH → (Int → Int) → Prop} {g g' G H K A : gH} {r r' : Int → Int} {a b c d e i j k l m n p q s t u v w x y z S : Int}
theorem TK_b (h : RLs C g g' G H) : 0 ≤ H 624 16 ∧ H 624 16 ≤ H 624 15 ∧ H 624 15 ≤ H 624 10 ∧ H 624 10 ≤ 500 := by
  have h1 := h.2.1.2.2.2.2.1
  have h2 := h.2.1.1.2.2.2.2.2.1
  unfold TK at h1
  omega
/-- both fail, whatever is done with the answer 0 -/
theorem rr_fail {Φ : Int → gH → Int → gH → Prop} {X Y : Int → gH → Option (Int × gH)} (h : RT C g g' G H) (hc : ¬ c = 0) (hX : ∀ G, X 0 G = some (0, G)) (hY : ∀ G, Y 0 G = some (0, G)) (hE : ∀ G H, RE g g' G H → Φ 0 G 0 H) : RR Φ (bdN (fS_fail G 575 c) X) (bdN (fM_failsAt H 624 c) Y) := by
  refine RR_b (rt_fail h hc) (fun v G w H hz => ?_)
  obtain ⟨rfl, rfl, e⟩ := hz
  rw [hX, hY]
  exact RR_i (hE G H e)
/-- a number between a and b of both -/
theorem rr_number {Φ : Int → gH → Int → gH → Prop} (h : RA C g g' G H) (hE : ∀ G H, RE g g' G H → Φ 0 G 0 H) (hN : ∀ K, RT C g g' K H → (a ≤ H 624 17 ∧ H 624 17 ≤ b) → K 575 7 = H 624 17 → (H 624 18 = 2 ∧ H 624 15 - H 624 16 ≤ 2) → RJ g G K → FBt G K → Φ 1 K 1 H) : RR Φ (fS_takeNumber G 575 a b) (fM_isNumber H 624 a b) := by
  rw [fS_takeNumber]
  refine RR_l (ra_class h) (fun _ K hK => ?_)
  obtain ⟨hT, kJ, kF⟩ := hK
  have tb := TK_b hT.1
  obtain ⟨⟨q1, q2⟩, q3, q4, q5⟩ := hT.2
  rw [fM_isNumber, fM_tokenLength]
  by_cases c1 : H 624 18 = 2
  · rw [if_pos c1, bdP_s, w32_r (by omega)]
    by_cases c2 : 2 < H 624 15 - H 624 16
    · have q4' : K 575 4 = 4 := by rw [q4]; exact if_pos ⟨c1, c2⟩
      rw [if_pos c2, q4', if_neg (show ¬ (4 : Int) = 2 by omega)]
      exact rr_fail hT (by omega) (fun _ => rfl) (fun _ => rfl) hE
    · have q4' : K 575 4 = 2 := by rw [q4, c1]; exact if_neg (fun z => c2 z.2)
      obtain ⟨v1, v2, v3⟩ := q5 c1 (by omega)
      rw [if_neg c2, q4', if_pos (show (2 : Int) = 2 from rfl), vM_inRange, bdP_s, v1]
      by_cases c3 : a ≤ H 624 17 ∧ H 624 17 ≤ b
      · rw [if_pos c3, if_neg f0, if_neg (show ¬ H 624 17 < a by omega), if_neg (show ¬ b < H 624 17 by omega)]
        exact RR_i (hN K hT c3 v1 ⟨c1, by omega⟩ kJ kF)
      · rw [if_neg c3, if_pos (show (0 : Int) = 0 from rfl)]
        have l34 : RR Φ (jS_takeNumber_34 K 575) (bdN (fM_failsAt H 624 2) (fun y21 g23 => if y21 = 0 then some (0, g23) else some (1, g23))) := by
          rw [jS_takeNumber_34]
          exact rr_fail hT (by omega) (fun _ => if_pos rfl) (fun _ => if_pos rfl) hE
        by_cases c4 : H 624 17 < a
        · rw [if_pos c4]; exact l34
        · rw [if_neg c4, if_pos (show b < H 624 17 by omega)]; exact l34
  · have q4' : ¬ K 575 4 = 2 := by
      rw [q4, if_neg (fun z => c1 z.1)]
      exact c1
    rw [if_neg c1, if_neg q4']
    exact rr_fail hT (by omega) (fun _ => rfl) (fun _ => rfl) hE
/-- the reference keeps a number and goes on -/
theorem rt_keep (h : RT C g g' K H) (hk : 0 ≤ k ∧ k < 4) : WN (fun y L => y = 1 ∧ RA C g g' K L ∧ L 625 = H 625 ∧ L 632 k = H 624 17 ∧ ∀ j, ¬ j = k → L 632 j = H 632 j) (bnd (pU H (H 624 20) k (H 624 17)) (fun g10 => bdN (fM_advanceToken g10 624) (fun y12 g14 => some (1, g14)))) := by
  have h20 : H 624 20 = 632 := h.1.2.1.1.1.2.2.2.2.2.2.1
  rw [bnd_s, h20]
  have e4 : pU H 632 k (H 624 17) 624 = H 624 := pU_n (by omega)
  have e5 : pU H 632 k (H 624 17) 625 = H 625 := pU_n (by omega)
  have e1 : pU H 632 k (H 624 17) 631 = H 631 := pU_n (by omega)
  have hT : RT C g g' K (pU H 632 k (H 624 17)) := by
    obtain ⟨⟨h1, h2, h3, h4, h5, h6, h7⟩, hq⟩ := h
    refine ⟨⟨h1, RD_632 h2, ?_, by rw [e5]; exact h4, h5, by rw [e4]; exact h6, ?_⟩, ?_⟩
    · unfold BB; rw [e4, e1]; exact h3
    · unfold ON; rw [e4]; exact h7
    · unfold TQ; rw [e4, e1]; exact hq
  refine W_bdN (rt_model hT) (fun _ L hL => WN_i ⟨rfl, hL.1, ?_, ?_, fun j hj => ?_⟩)
  · rw [hL.2.1 625 (by omega)]; exact e5
  · rw [hL.2.1 632 (by omega), pU_s, u1_s]
  · rw [hL.2.1 632 (by omega), pU_s, u1_n hj]
/-- a number is taken by both -/
theorem rr_takes {Φ : Int → gH → Int → gH → Prop} {X Y : gH → Option (Int × gH)} (h : RA C g g' G H) (hk : 0 ≤ k ∧ k < 4) (hE : ∀ G H, RE g g' G H → Φ 0 G 0 H) (hN : ∀ K L, RA C g g' K L → (a ≤ L 632 k ∧ L 632 k ≤ b) → K 575 7 = L 632 k → L 625 = H 625 → (∀ j, ¬ j = k → L 632 j = H 632 j) → RJ g G K → FBt G K → RR Φ (X K) (Y L)) : RR Φ (bdN (fS_takeNumber G 575 a b) (fun y g => if y = 0 then some (0, g) else X g)) (bdN (fM_takes H 624 k a b) (fun y g => if y = 0 then some (0, g) else Y g)) := by
  obtain ⟨v, K, w, L, e1, e2, z⟩ := rr_number (a := a) (b := b) (Φ := fun v K w L => (v = 0 ∧ w = 0 ∧ RE g g' K L) ∨ (v = 1 ∧ w = 1 ∧ L = H ∧ RT C g g' K H ∧ (a ≤ H 624 17 ∧ H 624 17 ≤ b) ∧ K 575 7 = H 624 17 ∧ RJ g G K ∧ FBt G K)) h (fun _ _ x => Or.inl ⟨rfl, rfl, x⟩) (fun K x1 x2 x3 _ x4 x5 => Or.inr ⟨rfl, rfl, rfl, x1, x2, x3, x4, x5⟩)
  rw [fM_takes, e1, e2, bdN_s, bdN_s]
  rcases z with ⟨rfl, rfl, z⟩ | ⟨rfl, rfl, rfl, z1, z2, z3, z4, z5⟩
  · rw [if_pos rfl, if_pos rfl, bdN_s, if_pos rfl]
    exact RR_i (hE K L z)
  · have h20 : L 624 20 = 632 := z1.1.2.1.1.1.2.2.2.2.2.2.1
    rw [if_neg f0, if_neg f0, if_pos (show kd (L 624 20) = 20 ∧ (0 : Int) ≤ k ∧ k < sz (L 624 20) by rw [h20, sz_632]; exact ⟨kd_632, by omega, by omega⟩)]
    obtain ⟨y, M, e3, ey, m1, m2, m3, m4⟩ := rt_keep z1 hk
    rw [e3, bdN_s, ey, if_neg f0]
    exact hN K M m1 (by rw [m3]; exact z2) (by rw [m3]; exact z3) m2 m4 z4 z5
/-- a number that was looked at is taken -/
theorem rt_take (h : RT C g g' K H) (hk : 0 ≤ k ∧ k < 4) (hn : H 624 18 = 2 ∧ H 624 15 - H 624 16 ≤ 2) (hr : a ≤ H 624 17 ∧ H 624 17 ≤ b) : WN (fun y L => y = 1 ∧ RA C g g' K L ∧ L 625 = H 625 ∧ L 632 k = H 624 17 ∧ ∀ j, ¬ j = k → L 632 j = H 632 j) (fM_takes H 624 k a b) := by
  have tb := TK_b h.1
  have h20 : H 624 20 = 632 := h.1.2.1.1.1.2.2.2.2.2.2.1
  rw [fM_takes, fM_isNumber, if_pos hn.1, fM_tokenLength, bdP_s, w32_r (by omega), if_neg (show ¬ 2 < H 624 15 - H 624 16 by omega), vM_inRange, bdP_s, if_pos hr, if_neg f0, bdN_s, if_neg f0, if_pos (show kd (H 624 20) = 20 ∧ (0 : Int) ≤ k ∧ k < sz (H 624 20) by rw [h20, sz_632]; exact ⟨kd_632, by omega, by omega⟩)]
  exact rt_keep h hk
/-- how a statement ends: both at its semicolon, or both with one error -/
def SE (C : gH → (Int → Int) → Prop) (g g' : gH) (v : Int) (G : gH) (w : Int) (H : gH) : Prop := (v = 1 ∧ w = 1 ∧ RT C g g' G H) ∨ (v = 0 ∧ w = 0 ∧ RE g g' G H)
theorem SE_e : ∀ G H, RE g g' G H → SE C g g' 0 G 0 H := fun _ _ h => Or.inr ⟨rfl, rfl, h⟩
/-- what the reference does behind a statement, up to its next token -/
noncomputable def mt (y : Int) (H : gH) : Option (Int × gH) := if y = 0 then some (0, H) else if H 624 18 = 3 then some (1, H) else bdN (fM_failsAt H 624 1) (fun y17 g19 => some (y17, g19))
/-- the semicolon -/
theorem rr_semi (h : RA C g g' G H) : RR (SE C g g') (fS_takeSemicolon G 575) (mt 1 H) := by
  rw [fS_takeSemicolon]
  refine RR_l (ra_class h) (fun _ K hK => ?_)
  obtain ⟨hT, -, -⟩ := hK
  obtain ⟨⟨q1, q2⟩, q3, q4, q5⟩ := hT.2
  unfold mt
  rw [if_neg f0]
  by_cases c : H 624 18 = 3
  · have q4' : K 575 4 = 3 := by rw [q4, if_neg (fun z => by omega)]; exact c
    rw [if_pos c, q4', if_pos (show (3 : Int) = 3 from rfl)]
    exact RR_i (Or.inl ⟨rfl, rfl, hT⟩)
  · have q4' : ¬ K 575 4 = 3 := by
      rw [q4]
      by_cases c2 : H 624 18 = 2 ∧ 2 < H 624 15 - H 624 16
      · rw [if_pos c2]; omega
      · rw [if_neg c2]; exact c
    rw [if_neg c, if_neg q4']
    exact rr_fail hT (by omega) (fun _ => if_pos rfl) (fun _ => rfl) SE_e
end PAR6
