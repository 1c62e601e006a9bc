/-! ===== both readers in step: statements (own work) ===== -/
theorem onb : ∀ x : Fin 2, ∀ y : Fin 2, ∀ z : Fin 2, (opI 1 ((x.val : Int) + 2 * (y.val : Int) + 4 * (z.val : Int)) 1 = (x.val : Int) ∧ opI 1 ((x.val : Int) + 2 * (y.val : Int) + 4 * (z.val : Int)) 2 = 2 * (y.val : Int) ∧ opI 1 ((x.val : Int) + 2 * (y.val : Int) + 4 * (z.val : Int)) 4 = 4 * (z.val : Int)) ∧ (x.val = 0 → opI 2 ((x.val : Int) + 2 * (y.val : Int) + 4 * (z.val : Int)) 1 = 1 + 2 * (y.val : Int) + 4 * (z.val : Int)) ∧ (y.val = 0 → opI 2 ((x.val : Int) + 2 * (y.val : Int) + 4 * (z.val : Int)) 2 = (x.val : Int) + 2 + 4 * (z.val : Int)) ∧ (z.val = 0 → opI 2 ((x.val : Int) + 2 * (y.val : Int) + 4 * (z.val : Int)) 4 = (x.val : Int) + 2 * (y.val : Int) + 4) := by decide +kernel
section PAR7
variable {C C' : gH → (Int → Int) → Prop} {g g' G H K A : gH} {r r' : Int → Int} {a b c d e i j k l m n p q s t u v w x y z S : Int}
theorem f2 (h : x = 0 ∨ x = 1) : ∃ f : Fin 2, x = (f.val : Int) := by
  rcases h with h | h
  · exact ⟨0, h⟩
  · exact ⟨1, h⟩
/-- the bit of what was told once, and it told now -/
theorem ON_bit (h : ON G H) (hb : (b = 8 ∧ m = 1) ∨ (b = 9 ∧ m = 2) ∨ (b = 10 ∧ m = 4)) : (opI 1 (H 624 19) m = 0 ↔ G 575 b = 0) ∧ (G 575 b = 0 → ON (pU G 575 b 1) (pU H 624 19 (opI 2 (H 624 19) m))) := by
  obtain ⟨⟨h1, h2, h3⟩, h4⟩ := h
  obtain ⟨x, ex⟩ := f2 h1
  obtain ⟨y, ey⟩ := f2 h2
  obtain ⟨z, ez⟩ := f2 h3
  obtain ⟨⟨o1, o2, o3⟩, o4, o5, o6⟩ := onb x y z
  rw [ex, ey, ez] at h4
  rw [← h4] at o1 o2 o3 o4 o5 o6
  rcases hb with ⟨rfl, rfl⟩ | ⟨rfl, rfl⟩ | ⟨rfl, rfl⟩
  · refine ⟨by rw [o1, ex], fun e => ?_⟩
    unfold ON
    rw [pU_s, u1_s, pU_s, u1_n (show ¬ (9 : Int) = 8 by omega), u1_n (show ¬ (10 : Int) = 8 by omega), u1_s, o4 (by omega)]
    exact ⟨⟨Or.inr rfl, h2, h3⟩, by omega⟩
  · refine ⟨by rw [o2, ey]; omega, fun e => ?_⟩
    unfold ON
    rw [pU_s, u1_n (show ¬ (8 : Int) = 9 by omega), u1_s, u1_n (show ¬ (10 : Int) = 9 by omega), pU_s, u1_s, o5 (by omega)]
    exact ⟨⟨h1, Or.inr rfl, h3⟩, by omega⟩
  · refine ⟨by rw [o3, ez]; omega, fun e => ?_⟩
    unfold ON
    rw [pU_s, u1_n (show ¬ (8 : Int) = 10 by omega), u1_n (show ¬ (9 : Int) = 10 by omega), u1_s, pU_s, u1_s, o6 (by omega)]
    exact ⟨⟨h1, h2, Or.inr rfl⟩, by omega⟩
/-- a statement that stands once -/
theorem rr_once {Φ : Int → gH → Int → gH → Prop} {X Y : gH → Option (Int × gH)} (h : RT C g g' G H) (hb : (b = 8 ∧ m = 1) ∨ (b = 9 ∧ m = 2) ∨ (b = 10 ∧ m = 4)) (hE : ∀ G H, RE g g' G H → Φ 0 G 0 H) (hN : ∀ L, RA C g g' (pU G 575 b 1) L → L 625 = H 625 → RR Φ (X (pU G 575 b 1)) (Y L)) : RR Φ (if G 575 b = 0 then bnd (pU G 575 b 1) (fun g4 => X g4) else bdN (fS_fail G 575 3) (fun y16 g18 => some (y16, g18))) (bdN (fM_startsOnce H 624 m) (fun y g => if y = 0 then some (0, g) else Y g)) := by
  obtain ⟨o1, o2⟩ := ON_bit h.1.2.2.2.2.2.2.1 hb
  rw [fM_startsOnce]
  by_cases c : G 575 b = 0
  · rw [if_pos c, if_pos (o1.mpr c), bnd_s, bnd_s]
    have eP : PF H (pU H 624 19 (opI 2 (H 624 19) m)) := PF_u PF_r (by omega)
    have e9 : ∀ k, ¬ k = 19 → pU H 624 19 (opI 2 (H 624 19) m) 624 k = H 624 k := fun k hk => pU_y hk
    have ex : ∀ x, ¬ x = 624 → pU H 624 19 (opI 2 (H 624 19) m) x = H x := fun x hx => pU_n hx
    have o3 := o2 c
    have hT : RT C g g' (pU G 575 b 1) (pU H 624 19 (opI 2 (H 624 19) m)) := by
      have hM := RL_M h.1
      obtain ⟨⟨h1, h2, h3, h4, h5, h6, h7⟩, hq⟩ := h
      have f6 : pU G 575 b 1 576 = G 576 := pU_n (by omega)
      have f7 : pU G 575 b 1 577 = G 577 := pU_n (by omega)
      have fy : ∀ y, ¬ y = b → pU G 575 b 1 575 y = G 575 y := fun y hy => pU_y hy
      generalize pU H 624 19 (opI 2 (H 624 19) m) = L at *
      have t := h2.2.2.2.2.1
      refine ⟨⟨RI_5 h1 (by omega), RD_PF h2 eP (by unfold TK at t ⊢; rw [e9 16 (by omega), e9 15 (by omega), e9 10 (by omega)]; exact t), ?_, ?_, ?_, ?_, ⟨o3, fun x hx => (pU_n (by omega)).trans (h7.2 x hx)⟩⟩, ?_⟩
      · unfold BB
        rw [f6, f7, e9 10 (by omega), ex 631 (by omega)]
        exact h3
      · rw [ex 625 (by omega)]
        exact ⟨h4.1, h4.1 _ _ _ h4.2 hM (fun x x0 x1 => pU_n (by omega))⟩
      · rw [fy 2 (by omega), fy 3 (by omega)]; exact h5
      · rw [e9 13 (by omega), e9 14 (by omega)]; exact h6
      · unfold TQ
        rw [fy 5 (by omega), fy 6 (by omega), fy 4 (by omega), fy 7 (by omega), ex 631 (by omega), e9 10 (by omega), e9 15 (by omega), e9 16 (by omega), e9 17 (by omega), e9 18 (by omega)]
        exact hq
    obtain ⟨y, L, e, l1, l2⟩ := rt_model hT
    rw [e, bdN_s, bdN_s, if_neg f0]
    exact hN L l1 (by rw [l2.1 625 (by omega), ex 625 (by omega)])
  · rw [if_neg c, if_neg (fun z => c (o1.mp z))]
    obtain ⟨v, K, w, L, e1, e2, rfl, rfl, z⟩ := rt_fail (c := 3) h (by omega)
    rw [e1, e2, bdN_s, bdN_s, bdN_s, if_pos rfl]
    exact RR_i (hE K L z)
theorem bdN_id {X : Option (Int × gH)} : bdN X (fun y g => some (y, g)) = X := by
  cases X with
  | none => rfl
  | some z => rfl
theorem RR_gl {Φ : Int → gH → Int → gH → Prop} {c : Prop} [Decidable c] {X Y Z : Option (Int × gH)} (h : c) (z : RR Φ X Y) : RR Φ (if c then X else Z) Y := by
  rw [if_pos h]; exact z
theorem RR_gm {Φ : Int → gH → Int → gH → Prop} {c : Prop} [Decidable c] {X Y Z : Option (Int × gH)} {f : Int → gH → Option (Int × gH)} (h : c) (z : RR Φ X (bdN Y f)) : RR Φ X (bdN (if c then Y else Z) f) := by
  rw [if_pos h]; exact z
theorem mt_0 : mt 0 G = some (0, G) := if_pos rfl
theorem bdN_mt {X : Option (Int × gH)} {Y : gH → Option (Int × gH)} : bdN (bdN X (fun y g => if y = 0 then some (0, g) else Y g)) mt = bdN X (fun y g => if y = 0 then some (0, g) else bdN (Y g) mt) := by
  cases X with
  | none => rfl
  | some z =>
    obtain ⟨y, K⟩ := z
    show bdN (if y = 0 then some (0, K) else Y K) mt = if y = 0 then some (0, K) else bdN (Y K) mt
    by_cases c : y = 0
    · rw [if_pos c, if_pos c, bdN_s, mt_0]
    · rw [if_neg c, if_neg c]
/-- both fail, the reference up to its next token -/
theorem rr_failm {X : Int → gH → Option (Int × gH)} (h : RT C g g' G H) (hc : ¬ c = 0) (hX : ∀ G, X 0 G = some (0, G)) : RR (SE C' g g') (bdN (fS_fail G 575 c) X) (bdN (bdN (fM_failsAt H 624 c) (fun y g => some (y, g))) mt) := by
  rw [bdN_id]
  exact rr_fail h hc hX (fun _ => mt_0) SE_e
/-- the tree and the row change, the tokens don't -/
theorem RL_up {K' M M' : gH} (h : RLs C g g' K M) (hC : CF C') (hK : RI g K') (eK : ∀ x, x < 578 → K' x = K x) (hM : RD g' M') (eM : ∀ x, ¬ x = 625 → M' x = M x) (hc : C' K' (M' 625)) : RLs C' g g' K' M' := by
  obtain ⟨h1, h2, h3, h4, h5, h6, h7⟩ := h
  have k5 := eK 575 (by omega)
  have m4 := eM 624 (by omega)
  have m1 := eM 631 (by omega)
  refine ⟨hK, hM, ?_, ⟨hC, hc⟩, by rw [k5]; exact h5, by rw [m4]; exact h6, ?_⟩
  · unfold BB
    rw [eK 576 (by omega), eK 577 (by omega), m4, m1]
    exact h3
  · refine ⟨?_, fun x hx => (eK x (by omega)).trans (h7.2 x hx)⟩
    unfold ON
    rw [k5, m4]
    exact h7.1
theorem RA_up {K' M M' : gH} (h : RA C g g' K M) (hC : CF C') (hK : RI g K') (eK : ∀ x, x < 578 → K' x = K x) (hM : RD g' M') (eM : ∀ x, ¬ x = 625 → M' x = M x) (hc : C' K' (M' 625)) : RA C' g g' K' M' := by
  refine ⟨RL_up h.1 hC hK eK hM eM hc, ?_⟩
  have ha := h.2
  unfold TA at ha ⊢
  rw [eK 575 (by omega), eM 624 (by omega), eM 631 (by omega)]
  exact ha
theorem RT_up {K' M M' : gH} (h : RT C g g' K M) (hC : CF C') (hK : RI g K') (eK : ∀ x, x < 578 → K' x = K x) (hM : RD g' M') (eM : ∀ x, ¬ x = 625 → M' x = M x) (hc : C' K' (M' 625)) : RT C' g g' K' M' := by
  refine ⟨RL_up h.1 hC hK eK hM eM hc, ?_⟩
  have ha := h.2
  unfold TQ at ha ⊢
  rw [eK 575 (by omega), eM 624 (by omega), eM 631 (by omega)]
  exact ha
theorem RL_1 (h : RLs C g g' G H) : H 625 1 ≤ 40 := by
  have h0 := RL_M h
  have hx := h.2.1.1.2.1.2.2.2.1.1
  omega
theorem rr_deep (h : RT (CQ 578) g g' G H) : RR (SE (CQ 578) g g') (fS_takeDeep G 575) (bdN (fM_readDeep H 624) mt) := by
  rw [fS_takeDeep, fM_readDeep, bdN_mt]
  refine rr_once h (Or.inr (Or.inl ⟨rfl, rfl⟩)) SE_e (fun L hL eL => ?_)
  rw [bdN_mt]
  refine rr_takes hL (by omega) SE_e (fun K M hM bM vM eM _ kJ kF => ?_)
  have hI := hM.1.1
  have hD := hM.1.2.1
  have m0 := hD.1.1.1
  have m20 : M 624 20 = 632 := hD.1.1.2.2.2.2.2.2.1
  rw [if_pos (kd578 hI.1), r578 hI.1, bnd_s, bdN_id, vM]
  simp (disch := omega) only [m0, m20, kd_625, sz_625, kd_632, sz_632, true_and, le_t, lt_t, and_true, ↓reduceIte, bnd_s, bdN_s]
  have hb := RL_M hM.1
  have hcp := hM.1.2.2.2.1.2
  have e9 : ∀ k, ¬ k = 59 → pU M 625 59 (M 632 0) 625 k = M 625 k := fun k hk => pU_y hk
  have cK : ∀ x y, ¬ (x = 578 ∧ y = 4) → pU K 578 4 (M 632 0) x y = K x y := fun x y z => by
    unfold pU
    rw [if_neg z]
  obtain ⟨⟨p1, p2, p3, p4, p5, p6⟩, q2, q3, -⟩ := hcp
  refine rr_semi (RA_up hM CF_CQ (RI_w hI (by omega)) (fun x hx => pU_n (by omega)) (RD_row hD (WBF_59 hD.1.2.1) (by omega) (by omega)) (fun x hx => pU_n hx) ?_)
  refine CQ_hd hM.1.2.2.2.1.2 hb (RL_1 hM.1) (fun k hk => e9 k (by omega)) (fun x x0 x1 _ _ => pU_n (by omega)) ?_ (fun i i0 i1 => ?_) (fun d d0 d1 => ?_) (RU_e hM.1.2.2.2.1.2.2.2.2.2.2.2.1 (fun k k0 k1 => e9 k (by omega)))
  · rw [cK 578 5 (by omega), cK 578 6 (by omega), cK 578 7 (by omega), cK 578 8 (by omega), cK 578 9 (by omega), e9 2 (by omega), e9 3 (by omega), e9 4 (by omega), pU_s, u1_s, pU_s, u1_s]
    exact ⟨p1, p2, p3, p4, p5, rfl⟩
  · rw [cK _ _ (by omega), e9 5 (by omega), e9 _ (by omega)]
    exact q2 i i0 i1
  · rw [cK _ _ (by omega), e9 _ (by omega)]
    exact q3 d d0 d1
end PAR7
