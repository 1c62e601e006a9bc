/-! ===== both readers in step: numbers, ends (own work) ===== -/
section PAR6
variable {C : gH → (Int → Int) → Prop} {g g' G H K A : gH} {r r' : Int → Int} {a b c d e i j k l m n p q s t u v w x y z S : Int}
theorem TK_b (h : RLs C g g' G H) : 0 ≤ H 624 16 ∧ H 624 16 ≤ H 624 15 ∧ H 624 15 ≤ H 624 10 ∧ H 624 10 ≤ 500 := by
  have h1 := h.2.1.2.2.2.2.1
  have h2 := h.2.1.1.2.2.2.2.2.1
  unfold TK at h1
  omega
/-- both fail, whatever is done with the answer 0 -/
theorem rr_fail {Φ : Int → gH → Int → gH → Prop} {X Y : Int → gH → Option (Int × gH)} (h : RT C g g' G H) (hc : ¬ c = 0) (hX : ∀ G, X 0 G = some (0, G)) (hY : ∀ G, Y 0 G = some (0, G)) (hE : ∀ G H, RE g g' G H → Φ 0 G 0 H) : RR Φ (bdN (fS_fail G 575 c) X) (bdN (fM_failsAt H 624 c) Y) := by
  refine RR_b (rt_fail h hc) (fun v G w H hz => ?_)
  obtain ⟨rfl, rfl, e⟩ := hz
  rw [hX, hY]
  exact RR_i (hE G H e)
/-- a number between a and b of both -/
theorem rr_number {Φ : Int → gH → Int → gH → Prop} (h : RA C g g' G H) (hE : ∀ G H, RE g g' G H → Φ 0 G 0 H) (hN : ∀ K, RT C g g' K H → (a ≤ H 624 17 ∧ H 624 17 ≤ b) → K 575 7 = H 624 17 → (H 624 18 = 2 ∧ H 624 15 - H 624 16 ≤ 2) → RJ g G K → FBt G K → Φ 1 K 1 H) : RR Φ (fS_takeNumber G 575 a b) (fM_isNumber H 624 a b) := by
  rw [fS_takeNumber]
  refine RR_l (ra_class h) (fun _ K hK => ?_)
  obtain ⟨hT, kJ, kF⟩ := hK
  have tb := TK_b hT.1
  obtain ⟨⟨q1, q2⟩, q3, q4, q5⟩ := hT.2
  rw [fM_isNumber, fM_tokenLength]
  by_cases c1 : H 624 18 = 2
  · rw [if_pos c1, bdP_s, w32_r (by omega)]
    by_cases c2 : 2 < H 624 15 - H 624 16
    · have q4' : K 575 4 = 4 := by rw [q4]; exact if_pos ⟨c1, c2⟩
      rw [if_pos c2, q4', if_neg (show ¬ (4 : Int) = 2 by omega)]
      exact rr_fail hT (by omega) (fun _ => rfl) (fun _ => rfl) hE
    · have q4' : K 575 4 = 2 := by rw [q4, c1]; exact if_neg (fun z => c2 z.2)
      obtain ⟨v1, v2, v3⟩ := q5 c1 (by omega)
      rw [if_neg c2, q4', if_pos (show (2 : Int) = 2 from rfl), vM_inRange, bdP_s, v1]
      by_cases c3 : a ≤ H 624 17 ∧ H 624 17 ≤ b
      · rw [if_pos c3, if_neg f0, if_neg (show ¬ H 624 17 < a by omega), if_neg (show ¬ b < H 624 17 by omega)]
        exact RR_i (hN K hT c3 v1 ⟨c1, by omega⟩ kJ kF)
      · rw [if_neg c3, if_pos (show (0 : Int) = 0 from rfl)]
        have l34 : RR Φ (jS_takeNumber_34 K 575) (bdN (fM_failsAt H 624 2) (fun y21 g23 => if y21 = 0 then some (0, g23) else some (1, g23))) := by
          rw [jS_takeNumber_34]
          exact rr_fail hT (by omega) (fun _ => if_pos rfl) (fun _ => if_pos rfl) hE
        by_cases c4 : H 624 17 < a
        · rw [if_pos c4]; exact l34
        · rw [if_neg c4, if_pos (show b < H 624 17 by omega)]; exact l34
  · have q4' : ¬ K 575 4 = 2 := by
      rw [q4, if_neg (fun z => c1 z.1)]
      exact c1
    rw [if_neg c1, if_neg q4']
    exact rr_fail hT (by omega) (fun _ => rfl) (fun _ => rfl) hE
/-- the reference keeps a number and goes on -/
theorem rt_keep (h : RT C g g' K H) (hk : 0 ≤ k ∧ k < 4) : WN (fun y L => y = 1 ∧ RA C g g' K L ∧ L 625 = H 625 ∧ L 632 k = H 624 17 ∧ ∀ j, ¬ j = k → L 632 j = H 632 j) (bnd (pU H (H 624 20) k (H 624 17)) (fun g10 => bdN (fM_advanceToken g10 624) (fun y12 g14 => some (1, g14)))) := by
  have h20 : H 624 20 = 632 := h.1.2.1.1.1.2.2.2.2.2.2.1
  rw [bnd_s, h20]
  have e4 : pU H 632 k (H 624 17) 624 = H 624 := pU_n (by omega)
  have e5 : pU H 632 k (H 624 17) 625 = H 625 := pU_n (by omega)
  have e1 : pU H 632 k (H 624 17) 631 = H 631 := pU_n (by omega)
  have hT : RT C g g' K (pU H 632 k (H 624 17)) := by
    obtain ⟨⟨h1, h2, h3, h4, h5, h6, h7⟩, hq⟩ := h
    refine ⟨⟨h1, RD_632 h2, ?_, by rw [e5]; exact h4, h5, by rw [e4]; exact h6, ?_⟩, ?_⟩
    · unfold BB; rw [e4, e1]; exact h3
    · unfold ON; rw [e4]; exact h7
    · unfold TQ; rw [e4, e1]; exact hq
  refine W_bdN (rt_model hT) (fun _ L hL => WN_i ⟨rfl, hL.1, ?_, ?_, fun j hj => ?_⟩)
  · rw [hL.2.1 625 (by omega)]; exact e5
  · rw [hL.2.1 632 (by omega), pU_s, u1_s]
  · rw [hL.2.1 632 (by omega), pU_s, u1_n hj]
/-- a number is taken by both -/
theorem rr_takes {Φ : Int → gH → Int → gH → Prop} {X Y : gH → Option (Int × gH)} (h : RA C g g' G H) (hk : 0 ≤ k ∧ k < 4) (hE : ∀ G H, RE g g' G H → Φ 0 G 0 H) (hN : ∀ K L, RA C g g' K L → (a ≤ L 632 k ∧ L 632 k ≤ b) → K 575 7 = L 632 k → L 625 = H 625 → (∀ j, ¬ j = k → L 632 j = H 632 j) → RJ g G K → FBt G K → RR Φ (X K) (Y L)) : RR Φ (bdN (fS_takeNumber G 575 a b) (fun y g => if y = 0 then some (0, g) else X g)) (bdN (fM_takes H 624 k a b) (fun y g => if y = 0 then some (0, g) else Y g)) := by
  obtain ⟨v, K, w, L, e1, e2, z⟩ := rr_number (a := a) (b := b) (Φ := fun v K w L => (v = 0 ∧ w = 0 ∧ RE g g' K L) ∨ (v = 1 ∧ w = 1 ∧ L = H ∧ RT C g g' K H ∧ (a ≤ H 624 17 ∧ H 624 17 ≤ b) ∧ K 575 7 = H 624 17 ∧ RJ g G K ∧ FBt G K)) h (fun _ _ x => Or.inl ⟨rfl, rfl, x⟩) (fun K x1 x2 x3 _ x4 x5 => Or.inr ⟨rfl, rfl, rfl, x1, x2, x3, x4, x5⟩)
  rw [fM_takes, e1, e2, bdN_s, bdN_s]
  rcases z with ⟨rfl, rfl, z⟩ | ⟨rfl, rfl, rfl, z1, z2, z3, z4, z5⟩
  · rw [if_pos rfl, if_pos rfl, bdN_s, if_pos rfl]
    exact RR_i (hE K L z)
  · have h20 : L 624 20 = 632 := z1.1.2.1.1.1.2.2.2.2.2.2.1
    rw [if_neg f0, if_neg f0, if_pos (show kd (L 624 20) = 20 ∧ (0 : Int) ≤ k ∧ k < sz (L 624 20) by rw [h20, sz_632]; exact ⟨kd_632, by omega, by omega⟩)]
    obtain ⟨y, M, e3, ey, m1, m2, m3, m4⟩ := rt_keep z1 hk
    rw [e3, bdN_s, ey, if_neg f0]
    exact hN K M m1 (by rw [m3]; exact z2) (by rw [m3]; exact z3) m2 m4 z4 z5
/-- a number that was looked at is taken -/
theorem rt_take (h : RT C g g' K H) (hk : 0 ≤ k ∧ k < 4) (hn : H 624 18 = 2 ∧ H 624 15 - H 624 16 ≤ 2) (hr : a ≤ H 624 17 ∧ H 624 17 ≤ b) : WN (fun y L => y = 1 ∧ RA C g g' K L ∧ L 625 = H 625 ∧ L 632 k = H 624 17 ∧ ∀ j, ¬ j = k → L 632 j = H 632 j) (fM_takes H 624 k a b) := by
  have tb := TK_b h.1
  have h20 : H 624 20 = 632 := h.1.2.1.1.1.2.2.2.2.2.2.1
  rw [fM_takes, fM_isNumber, if_pos hn.1, fM_tokenLength, bdP_s, w32_r (by omega), if_neg (show ¬ 2 < H 624 15 - H 624 16 by omega), vM_inRange, bdP_s, if_pos hr, if_neg f0, bdN_s, if_neg f0, if_pos (show kd (H 624 20) = 20 ∧ (0 : Int) ≤ k ∧ k < sz (H 624 20) by rw [h20, sz_632]; exact ⟨kd_632, by omega, by omega⟩)]
  exact rt_keep h hk
/-- how a statement ends: both at its semicolon, or both with one error -/
def SE (C : gH → (Int → Int) → Prop) (g g' : gH) (v : Int) (G : gH) (w : Int) (H : gH) : Prop := (v = 1 ∧ w = 1 ∧ RT C g g' G H) ∨ (v = 0 ∧ w = 0 ∧ RE g g' G H)
theorem SE_e : ∀ G H, RE g g' G H → SE C g g' 0 G 0 H := fun _ _ h => Or.inr ⟨rfl, rfl, h⟩
/-- what the reference does behind a statement, up to its next token -/
noncomputable def mt (y : Int) (H : gH) : Option (Int × gH) := if y = 0 then some (0, H) else if H 624 18 = 3 then some (1, H) else bdN (fM_failsAt H 624 1) (fun y17 g19 => some (y17, g19))
/-- the semicolon -/
theorem rr_semi (h : RA C g g' G H) : RR (SE C g g') (fS_takeSemicolon G 575) (mt 1 H) := by
  rw [fS_takeSemicolon]
  refine RR_l (ra_class h) (fun _ K hK => ?_)
  obtain ⟨hT, -, -⟩ := hK
  obtain ⟨⟨q1, q2⟩, q3, q4, q5⟩ := hT.2
  unfold mt
  rw [if_neg f0]
  by_cases c : H 624 18 = 3
  · have q4' : K 575 4 = 3 := by rw [q4, if_neg (fun z => by omega)]; exact c
    rw [if_pos c, q4', if_pos (show (3 : Int) = 3 from rfl)]
    exact RR_i (Or.inl ⟨rfl, rfl, hT⟩)
  · have q4' : ¬ K 575 4 = 3 := by
      rw [q4]
      by_cases c2 : H 624 18 = 2 ∧ 2 < H 624 15 - H 624 16
      · rw [if_pos c2]; omega
      · rw [if_neg c2]; exact c
    rw [if_neg c, if_neg q4']
    exact rr_fail hT (by omega) (fun _ => if_pos rfl) (fun _ => rfl) SE_e
end PAR6
/-! ===== both readers in step: statements (own work) ===== -/
theorem onb : ∀ x : Fin 2, ∀ y : Fin 2, ∀ z : Fin 2, (opI 1 ((x.val : Int) + 2 * (y.val : Int) + 4 * (z.val : Int)) 1 = (x.val : Int) ∧ opI 1 ((x.val : Int) + 2 * (y.val : Int) + 4 * (z.val : Int)) 2 = 2 * (y.val : Int) ∧ opI 1 ((x.val : Int) + 2 * (y.val : Int) + 4 * (z.val : Int)) 4 = 4 * (z.val : Int)) ∧ (x.val = 0 → opI 2 ((x.val : Int) + 2 * (y.val : Int) + 4 * (z.val : Int)) 1 = 1 + 2 * (y.val : Int) + 4 * (z.val : Int)) ∧ (y.val = 0 → opI 2 ((x.val : Int) + 2 * (y.val : Int) + 4 * (z.val : Int)) 2 = (x.val : Int) + 2 + 4 * (z.val : Int)) ∧ (z.val = 0 → opI 2 ((x.val : Int) + 2 * (y.val : Int) + 4 * (z.val : Int)) 4 = (x.val : Int) + 2 * (y.val : Int) + 4) := by decide +kernel
section PAR7
variable {C C' : gH → (Int → Int) → Prop} {g g' G H K A : gH} {r r' : Int → Int} {a b c d e i j k l m n p q s t u v w x y z S : Int}
theorem f2 (h : x = 0 ∨ x = 1) : ∃ f : Fin 2, x = (f.val : Int) := by
  rcases h with h | h
  · exact ⟨0, h⟩
  · exact ⟨1, h⟩
/-- the bit of what was told once, and it told now -/
theorem ON_bit (h : ON G H) (hb : (b = 8 ∧ m = 1) ∨ (b = 9 ∧ m = 2) ∨ (b = 10 ∧ m = 4)) : (opI 1 (H 624 19) m = 0 ↔ G 575 b = 0) ∧ (G 575 b = 0 → ON (pU G 575 b 1) (pU H 624 19 (opI 2 (H 624 19) m))) := by
  obtain ⟨⟨h1, h2, h3⟩, h4⟩ := h
  obtain ⟨x, ex⟩ := f2 h1
  obtain ⟨y, ey⟩ := f2 h2
  obtain ⟨z, ez⟩ := f2 h3
  obtain ⟨⟨o1, o2, o3⟩, o4, o5, o6⟩ := onb x y z
  rw [ex, ey, ez] at h4
  rw [← h4] at o1 o2 o3 o4 o5 o6
  rcases hb with ⟨rfl, rfl⟩ | ⟨rfl, rfl⟩ | ⟨rfl, rfl⟩
  · refine ⟨by rw [o1, ex], fun e => ?_⟩
    unfold ON
    rw [pU_s, u1_s, pU_s, u1_n (show ¬ (9 : Int) = 8 by omega), u1_n (show ¬ (10 : Int) = 8 by omega), u1_s, o4 (by omega)]
    exact ⟨⟨Or.inr rfl, h2, h3⟩, by omega⟩
  · refine ⟨by rw [o2, ey]; omega, fun e => ?_⟩
    unfold ON
    rw [pU_s, u1_n (show ¬ (8 : Int) = 9 by omega), u1_s, u1_n (show ¬ (10 : Int) = 9 by omega), pU_s, u1_s, o5 (by omega)]
    exact ⟨⟨h1, Or.inr rfl, h3⟩, by omega⟩
  · refine ⟨by rw [o3, ez]; omega, fun e => ?_⟩
    unfold ON
    rw [pU_s, u1_n (show ¬ (8 : Int) = 10 by omega), u1_n (show ¬ (9 : Int) = 10 by omega), u1_s, pU_s, u1_s, o6 (by omega)]
    exact ⟨⟨h1, h2, Or.inr rfl⟩, by omega⟩
/-- a statement that stands once -/
theorem rr_once {Φ : Int → gH → Int → gH → Prop} {X Y : gH → Option (Int × gH)} (h : RT C g g' G H) (hb : (b = 8 ∧ m = 1) ∨ (b = 9 ∧ m = 2) ∨ (b = 10 ∧ m = 4)) (hE : ∀ G H, RE g g' G H → Φ 0 G 0 H) (hN : ∀ L, RA C g g' (pU G 575 b 1) L → L 625 = H 625 → RR Φ (X (pU G 575 b 1)) (Y L)) : RR Φ (if G 575 b = 0 then bnd (pU G 575 b 1) (fun g4 => X g4) else bdN (fS_fail G 575 3) (fun y16 g18 => some (y16, g18))) (bdN (fM_startsOnce H 624 m) (fun y g => if y = 0 then some (0, g) else Y g)) := by
  obtain ⟨o1, o2⟩ := ON_bit h.1.2.2.2.2.2.2.1 hb
  rw [fM_startsOnce]
  by_cases c : G 575 b = 0
  · rw [if_pos c, if_pos (o1.mpr c), bnd_s, bnd_s]
    have eP : PF H (pU H 624 19 (opI 2 (H 624 19) m)) := PF_u PF_r (by omega)
    have e9 : ∀ k, ¬ k = 19 → pU H 624 19 (opI 2 (H 624 19) m) 624 k = H 624 k := fun k hk => pU_y hk
    have ex : ∀ x, ¬ x = 624 → pU H 624 19 (opI 2 (H 624 19) m) x = H x := fun x hx => pU_n hx
    have o3 := o2 c
    have hT : RT C g g' (pU G 575 b 1) (pU H 624 19 (opI 2 (H 624 19) m)) := by
      have hM := RL_M h.1
      obtain ⟨⟨h1, h2, h3, h4, h5, h6, h7⟩, hq⟩ := h
      have f6 : pU G 575 b 1 576 = G 576 := pU_n (by omega)
      have f7 : pU G 575 b 1 577 = G 577 := pU_n (by omega)
      have fy : ∀ y, ¬ y = b → pU G 575 b 1 575 y = G 575 y := fun y hy => pU_y hy
      generalize pU H 624 19 (opI 2 (H 624 19) m) = L at *
      have t := h2.2.2.2.2.1
      refine ⟨⟨RI_5 h1 (by omega), RD_PF h2 eP (by unfold TK at t ⊢; rw [e9 16 (by omega), e9 15 (by omega), e9 10 (by omega)]; exact t), ?_, ?_, ?_, ?_, ⟨o3, fun x hx => (pU_n (by omega)).trans (h7.2 x hx)⟩⟩, ?_⟩
      · unfold BB
        rw [f6, f7, e9 10 (by omega), ex 631 (by omega)]
        exact h3
      · rw [ex 625 (by omega)]
        exact ⟨h4.1, h4.1 _ _ _ h4.2 hM (fun x x0 x1 => pU_n (by omega))⟩
      · rw [fy 2 (by omega), fy 3 (by omega)]; exact h5
      · rw [e9 13 (by omega), e9 14 (by omega)]; exact h6
      · unfold TQ
        rw [fy 5 (by omega), fy 6 (by omega), fy 4 (by omega), fy 7 (by omega), ex 631 (by omega), e9 10 (by omega), e9 15 (by omega), e9 16 (by omega), e9 17 (by omega), e9 18 (by omega)]
        exact hq
    obtain ⟨y, L, e, l1, l2⟩ := rt_model hT
    rw [e, bdN_s, bdN_s, if_neg f0]
    exact hN L l1 (by rw [l2.1 625 (by omega), ex 625 (by omega)])
  · rw [if_neg c, if_neg (fun z => c (o1.mp z))]
    obtain ⟨v, K, w, L, e1, e2, rfl, rfl, z⟩ := rt_fail (c := 3) h (by omega)
    rw [e1, e2, bdN_s, bdN_s, bdN_s, if_pos rfl]
    exact RR_i (hE K L z)
theorem bdN_id {X : Option (Int × gH)} : bdN X (fun y g => some (y, g)) = X := by
  cases X with
  | none => rfl
  | some z => rfl
theorem RR_gl {Φ : Int → gH → Int → gH → Prop} {c : Prop} [Decidable c] {X Y Z : Option (Int × gH)} (h : c) (z : RR Φ X Y) : RR Φ (if c then X else Z) Y := by
  rw [if_pos h]; exact z
theorem RR_gm {Φ : Int → gH → Int → gH → Prop} {c : Prop} [Decidable c] {X Y Z : Option (Int × gH)} {f : Int → gH → Option (Int × gH)} (h : c) (z : RR Φ X (bdN Y f)) : RR Φ X (bdN (if c then Y else Z) f) := by
  rw [if_pos h]; exact z
theorem mt_0 : mt 0 G = some (0, G) := if_pos rfl
theorem bdN_mt {X : Option (Int × gH)} {Y : gH → Option (Int × gH)} : bdN (bdN X (fun y g => if y = 0 then some (0, g) else Y g)) mt = bdN X (fun y g => if y = 0 then some (0, g) else bdN (Y g) mt) := by
  cases X with
  | none => rfl
  | some z =>
    obtain ⟨y, K⟩ := z
    show bdN (if y = 0 then some (0, K) else Y K) mt = if y = 0 then some (0, K) else bdN (Y K) mt
    by_cases c : y = 0
    · rw [if_pos c, if_pos c, bdN_s, mt_0]
    · rw [if_neg c, if_neg c]
/-- both fail, the reference up to its next token -/
theorem rr_failm {X : Int → gH → Option (Int × gH)} (h : RT C g g' G H) (hc : ¬ c = 0) (hX : ∀ G, X 0 G = some (0, G)) : RR (SE C' g g') (bdN (fS_fail G 575 c) X) (bdN (bdN (fM_failsAt H 624 c) (fun y g => some (y, g))) mt) := by
  rw [bdN_id]
  exact rr_fail h hc hX (fun _ => mt_0) SE_e
/-- the tree and the row change, the tokens don't -/
theorem RL_up {K' M M' : gH} (h : RLs C g g' K M) (hC : CF C') (hK : RI g K') (eK : ∀ x, x < 578 → K' x = K x) (hM : RD g' M') (eM : ∀ x, ¬ x = 625 → M' x = M x) (hc : C' K' (M' 625)) : RLs C' g g' K' M' := by
  obtain ⟨h1, h2, h3, h4, h5, h6, h7⟩ := h
  have k5 := eK 575 (by omega)
  have m4 := eM 624 (by omega)
  have m1 := eM 631 (by omega)
  refine ⟨hK, hM, ?_, ⟨hC, hc⟩, by rw [k5]; exact h5, by rw [m4]; exact h6, ?_⟩
  · unfold BB
    rw [eK 576 (by omega), eK 577 (by omega), m4, m1]
    exact h3
  · refine ⟨?_, fun x hx => (eK x (by omega)).trans (h7.2 x hx)⟩
    unfold ON
    rw [k5, m4]
    exact h7.1
theorem RA_up {K' M M' : gH} (h : RA C g g' K M) (hC : CF C') (hK : RI g K') (eK : ∀ x, x < 578 → K' x = K x) (hM : RD g' M') (eM : ∀ x, ¬ x = 625 → M' x = M x) (hc : C' K' (M' 625)) : RA C' g g' K' M' := by
  refine ⟨RL_up h.1 hC hK eK hM eM hc, ?_⟩
  have ha := h.2
  unfold TA at ha ⊢
  rw [eK 575 (by omega), eM 624 (by omega), eM 631 (by omega)]
  exact ha
theorem RT_up {K' M M' : gH} (h : RT C g g' K M) (hC : CF C') (hK : RI g K') (eK : ∀ x, x < 578 → K' x = K x) (hM : RD g' M') (eM : ∀ x, ¬ x = 625 → M' x = M x) (hc : C' K' (M' 625)) : RT C' g g' K' M' := by
  refine ⟨RL_up h.1 hC hK eK hM eM hc, ?_⟩
  have ha := h.2
  unfold TQ at ha ⊢
  rw [eK 575 (by omega), eM 624 (by omega), eM 631 (by omega)]
  exact ha
theorem RL_1 (h : RLs C g g' G H) : H 625 1 ≤ 40 := by
  have h0 := RL_M h
  have hx := h.2.1.1.2.1.2.2.2.1.1
  omega
theorem rr_deep (h : RT (CQ 578) g g' G H) : RR (SE (CQ 578) g g') (fS_takeDeep G 575) (bdN (fM_readDeep H 624) mt) := by
  rw [fS_takeDeep, fM_readDeep, bdN_mt]
  refine rr_once h (Or.inr (Or.inl ⟨rfl, rfl⟩)) SE_e (fun L hL eL => ?_)
  rw [bdN_mt]
  refine rr_takes hL (by omega) SE_e (fun K M hM bM vM eM _ kJ kF => ?_)
  have hI := hM.1.1
  have hD := hM.1.2.1
  have m0 := hD.1.1.1
  have m20 : M 624 20 = 632 := hD.1.1.2.2.2.2.2.2.1
  rw [if_pos (kd578 hI.1), r578 hI.1, bnd_s, bdN_id, vM]
  simp (disch := omega) only [m0, m20, kd_625, sz_625, kd_632, sz_632, true_and, le_t, lt_t, and_true, ↓reduceIte, bnd_s, bdN_s]
  have hb := RL_M hM.1
  have hcp := hM.1.2.2.2.1.2
  have e9 : ∀ k, ¬ k = 59 → pU M 625 59 (M 632 0) 625 k = M 625 k := fun k hk => pU_y hk
  have cK : ∀ x y, ¬ (x = 578 ∧ y = 4) → pU K 578 4 (M 632 0) x y = K x y := fun x y z => by
    unfold pU
    rw [if_neg z]
  obtain ⟨⟨p1, p2, p3, p4, p5, p6⟩, q2, q3, -⟩ := hcp
  refine rr_semi (RA_up hM CF_CQ (RI_w hI (by omega)) (fun x hx => pU_n (by omega)) (RD_row hD (WBF_59 hD.1.2.1) (by omega) (by omega)) (fun x hx => pU_n hx) ?_)
  refine CQ_hd hM.1.2.2.2.1.2 hb (RL_1 hM.1) (fun k hk => e9 k (by omega)) (fun x x0 x1 _ _ => pU_n (by omega)) ?_ (fun i i0 i1 => ?_) (fun d d0 d1 => ?_) (RU_e hM.1.2.2.2.1.2.2.2.2.2.2.2.1 (fun k k0 k1 => e9 k (by omega)))
  · rw [cK 578 5 (by omega), cK 578 6 (by omega), cK 578 7 (by omega), cK 578 8 (by omega), cK 578 9 (by omega), e9 2 (by omega), e9 3 (by omega), e9 4 (by omega), pU_s, u1_s, pU_s, u1_s]
    exact ⟨p1, p2, p3, p4, p5, rfl⟩
  · rw [cK _ _ (by omega), e9 5 (by omega), e9 _ (by omega)]
    exact q2 i i0 i1
  · rw [cK _ _ (by omega), e9 _ (by omega)]
    exact q3 d d0 d1
end PAR7
/-! ===== both readers in step: a process by its number (own work) ===== -/
section PAR8
variable {C : gH → (Int → Int) → Prop} {g g' G H K A : gH} {r r' : Int → Int} {a b c d e i j k l m n p q s t u v w x y z S : Int}
theorem aT_at (h : TI G S) (hS : isT S) (h0 : 0 ≤ v) (h1 : v < G S 5) : fT_at G S v = some (pc S v) := by
  have hc := h.2.1
  rw [fT_at, if_neg (show ¬ v < 0 by omega), if_pos h1, if_pos (show v < 40 by omega), TS_1 h.1, if_pos (show kd (S + 2) = 24 ∧ (0 : Int) ≤ v ∧ v < sz (S + 2) by rw [szT2 hS]; exact ⟨kdT2 hS, h0, by omega⟩), (h.1.2 v h0 (by omega)).1]
theorem rr_named {Φ : Int → gH → Int → gH → Prop} {X : Int → gH → Option (Int × gH)} {Y : gH → Option (Int × gH)} (h : RA (CQ 578) g g' G H) (ha : 0 ≤ a) (hE : ∀ G H, RE g g' G H → Φ 0 G 0 H) (hN : ∀ K, RT (CQ 578) g g' K H → (a ≤ H 624 17 ∧ H 624 17 < H 625 0) → K 575 7 = H 624 17 → (H 624 18 = 2 ∧ H 624 15 - H 624 16 ≤ 2) → RJ g G K → FBt G K → RR Φ (X (pc 578 (H 624 17)) K) (Y H)) : RR Φ (bdN (fS_takeNamed G 575 a) (fun y g => if y < 0 then some (0, g) else X y g)) (bdN (fM_isNumber H 624 a (w32 (H 625 0 - 1))) (fun y g => if y = 0 then some (0, g) else Y g)) := by
  have hM := RL_M h.1
  have c5 : G 578 5 = H 625 0 := h.1.2.2.2.1.2.1.1
  have hI := h.1.1
  obtain ⟨v, K, w, L, e1, e2, z⟩ := rr_number (a := a) (b := w32 (H 625 0 - 1)) (Φ := fun v K w L => (v = 0 ∧ w = 0 ∧ RE g g' K L) ∨ (v = 1 ∧ w = 1 ∧ L = H ∧ RT (CQ 578) g g' K H ∧ (a ≤ H 624 17 ∧ H 624 17 ≤ w32 (H 625 0 - 1)) ∧ K 575 7 = H 624 17 ∧ (H 624 18 = 2 ∧ H 624 15 - H 624 16 ≤ 2) ∧ RJ g G K ∧ FBt G K)) h (fun _ _ x => Or.inl ⟨rfl, rfl, x⟩) (fun K x1 x2 x3 x6 x4 x5 => Or.inr ⟨rfl, rfl, rfl, x1, x2, x3, x6, x4, x5⟩)
  rw [fS_takeNamed, if_pos (kd578 hI.1), r578 hI.1, c5, e1, e2, bdN_s, bdN_s]
  rcases z with ⟨rfl, rfl, z⟩ | ⟨rfl, rfl, rfl, z1, z2, z3, z6, z4, z5⟩
  · rw [if_pos rfl, bdN_s, if_pos (show (-1 : Int) < 0 by omega), if_pos rfl]
    exact RR_i (hE K L z)
  · rw [w32_r (by omega)] at z2
    have kI := z1.1.1
    have k5 : K 578 5 = L 625 0 := z1.1.2.2.2.1.2.1.1
    rw [if_neg f0, if_pos (kd578 kI.1), r578 kI.1, z3, aT_at (CR_T kI.1 T578) T578 (by omega) (by omega), bdP_s, bdN_s, if_neg f0]
    have pb := pc_b (T := 578) (i := L 624 17) (by omega)
    rw [if_neg (show ¬ pc 578 (L 624 17) < 0 by omega)]
    exact hN K z1 (by omega) z3 z6 z4 z5
theorem rr_namedT {Φ : Int → gH → Int → gH → Prop} {X : Int → gH → Option (Int × gH)} {Y : gH → Option (Int × gH)} (h : RA (CQ 578) g g' G H) (hk : 0 ≤ k ∧ k < 4) (ha : 0 ≤ a) (hE : ∀ G H, RE g g' G H → Φ 0 G 0 H) (hN : ∀ K L, RA (CQ 578) g g' K L → (a ≤ L 632 k ∧ L 632 k < L 625 0) → K 575 7 = L 632 k → L 625 = H 625 → (∀ j, ¬ j = k → L 632 j = H 632 j) → RJ g G K → FBt G K → RR Φ (X (pc 578 (L 632 k)) K) (Y L)) : RR Φ (bdN (fS_takeNamed G 575 a) (fun y g => if y < 0 then some (0, g) else X y g)) (bdN (fM_takes H 624 k a (w32 (H 625 0 - 1))) (fun y g => if y = 0 then some (0, g) else Y g)) := by
  have hM := RL_M h.1
  have c5 : G 578 5 = H 625 0 := h.1.2.2.2.1.2.1.1
  have hI := h.1.1
  have key := rr_takes (a := a) (b := w32 (H 625 0 - 1)) (k := k) (Φ := Φ) (X := fun K => X (pc 578 (K 575 7)) K) (Y := Y) h hk hE (fun K L h1 h2 h3 h4 h5 h6 h7 => by
    rw [w32_r (by omega)] at h2
    show RR Φ (X (pc 578 (K 575 7)) K) (Y L)
    rw [h3]
    exact hN K L h1 (by rw [h4]; omega) h3 h4 h5 h6 h7)
  obtain ⟨y, K, e, q⟩ := tS_takeNumber (a := a) (b := w32 (H 625 0 - 1)) (RI_J hI)
  rw [fS_takeNamed, if_pos (kd578 hI.1), r578 hI.1, c5, e, bdN_s]
  rw [e, bdN_s] at key
  by_cases c : y = 0
  · rw [if_pos c] at key
    rw [if_pos c, bdN_s, if_pos (show (-1 : Int) < 0 by omega)]
    exact key
  · obtain ⟨v, K', w, L, e1, e2, z⟩ := rr_number (a := a) (b := w32 (H 625 0 - 1)) (Φ := fun v K w L => (v = 0 ∧ w = 0 ∧ RE g g' K L) ∨ (v = 1 ∧ w = 1 ∧ L = H ∧ RT (CQ 578) g g' K H ∧ (a ≤ H 624 17 ∧ H 624 17 ≤ w32 (H 625 0 - 1)) ∧ K 575 7 = H 624 17 ∧ RJ g G K ∧ FBt G K)) h (fun _ _ x => Or.inl ⟨rfl, rfl, x⟩) (fun K x1 x2 x3 _ x4 x5 => Or.inr ⟨rfl, rfl, rfl, x1, x2, x3, x4, x5⟩)
    have ee := Prod.mk.inj (Option.some.inj (e.symm.trans e1))
    rcases z with ⟨v0, -, -⟩ | ⟨-, -, -, z1, z2, z3, -, -⟩
    · exact absurd (ee.1.trans v0) c
    · rw [← ee.2] at z1 z3
      rw [w32_r (by omega)] at z2
      have kI := z1.1.1
      have k5 : K 578 5 = H 625 0 := z1.1.2.2.2.1.2.1.1
      rw [if_neg c] at key
      have pb := pc_b (T := 578) (i := K 575 7) (by omega)
      rw [if_neg c, if_pos (kd578 kI.1), r578 kI.1, aT_at (CR_T kI.1 T578) T578 (by omega) (by omega), bdP_s, bdN_s, if_neg (show ¬ pc 578 (K 575 7) < 0 by omega)]
      exact key
end PAR8
/-! ===== both readers in step: duties, heirs, the root, refusals (own work) ===== -/
section PAR9
variable {C C' : gH → (Int → Int) → Prop} {g g' G H K A : gH} {r r' : Int → Int} {a b c d e i j k l m n p q s t u v w x y z S : Int}
theorem gw_ {M : gH} (h : RA C g g' K M) (hk : 0 ≤ k ∧ k < 780) : kd (M 624 0) = 20 ∧ (0 : Int) ≤ k ∧ k < sz (M 624 0) := gd_w h.1.2.1.1 hk
theorem gT_ {M : gH} (h : RT C g g' K M) (hk : 0 ≤ k ∧ k < 780) : kd (M 624 0) = 20 ∧ (0 : Int) ≤ k ∧ k < sz (M 624 0) := gd_w h.1.2.1.1 hk
theorem m0_ {M : gH} (h : RLs C g g' K M) : M 624 0 = 625 := h.2.1.1.1.1
theorem m20_ {M : gH} (h : RLs C g g' K M) : M 624 20 = 632 := e20 h.2.1.1
theorem g625 (hk : 0 ≤ k ∧ k < 780) : kd 625 = 20 ∧ (0 : Int) ≤ k ∧ k < sz 625 := by rw [sz_625]; exact ⟨kd_625, hk⟩
theorem g632 (hk : 0 ≤ k ∧ k < 4) : kd 632 = 20 ∧ (0 : Int) ≤ k ∧ k < sz 632 := by rw [sz_632]; exact ⟨kd_632, hk⟩
theorem rr_duty (h : RT (CQ 578) g g' G H) : RR (SE (CQ 578) g g') (fS_takeDuty G 575) (bdN (fM_readDuty H 624) mt) := by
  obtain ⟨y, L0, e, hL0, fL0⟩ := rt_model h
  rw [fS_takeDuty, fM_readDuty, e, bdN_s, bdN_mt]
  refine rr_takes hL0 (by omega) SE_e (fun K L hL bL vL eL _ kJ kF => ?_)
  rw [m0_ hL.1]
  refine RR_gm (g625 (by omega)) ?_
  rw [bdN_mt]
  refine rr_namedT hL (by omega) (by omega) SE_e (fun K2 M hM bM vM eM oM kJ2 kF2 => ?_)
  have hI := hM.1.1
  have hD := hM.1.2.1
  have hb := RL_M hM.1
  have m0 := m0_ hM.1
  have m20 := m20_ hM.1
  rw [← oM 0 (by omega)] at bL vL
  have ht := CR_T hI.1 T578
  rw [if_pos (kd578 hI.1), r578 hI.1, vL, fT_giveDuty, if_neg (show ¬ M 632 0 < 0 by omega), if_pos (show M 632 0 < 8 by omega), if_pos (kdp T578 (show 0 ≤ M 632 1 ∧ M 632 1 < 40 by omega)), TS_2 ht.1, if_pos (show kd (578 + 3) = 20 ∧ (0 : Int) ≤ M 632 0 ∧ M 632 0 < sz (578 + 3) by rw [szT3 T578]; exact ⟨kdT3 T578, by omega, by omega⟩), bnd_s, bdN_s, bdN_id, TS_n ht.1 (show 0 ≤ M 632 1 ∧ M 632 1 < 40 by omega)]
  simp (disch := omega) only [m0, m20, kd_625, sz_625, kd_632, sz_632, w32_r, true_and, le_t, lt_t, and_true, ↓reduceIte, bnd_s, bdN_s]
  refine rr_semi (RA_up hM CF_CQ (RI_w hI (by omega)) (fun x hx => pU_n (by omega)) (RD_row hD (WBF_11 hD.1.2.1 (by omega) (by omega) (hD.2.2.2.2.2 _ (by omega) (by omega))) (by omega) (by omega)) (fun x hx => pU_n hx) ?_)
  rw [pU_s]
  exact CQ_d hM.1.2.2.2.1.2 hb (RL_1 hM.1) (by omega)
theorem rr_heir (h : RT (CQ 578) g g' G H) : RR (SE (CQ 578) g g') (fS_takeHeir G 575) (bdN (fM_readHeir H 624) mt) := by
  obtain ⟨y, L0, e, hL0, fL0⟩ := rt_model h
  rw [fS_takeHeir, fM_readHeir, e, bdN_s, m0_ hL0.1]
  refine RR_gm (g625 (by omega)) ?_
  rw [bdN_mt]
  refine rr_named hL0 (by omega) SE_e (fun K hK bK vK nK kJ kF => ?_)
  have hb := RL_M hK.1
  have hcp := hK.1.2.2.2.1.2
  have pe := hcp.2.2.2.1 (L0 624 17) (by omega) (by omega)
  have b1 := pc_b (T := 578) (i := L0 624 17) (by omega)
  refine RR_gl (kdp T578 (by omega)) ?_
  rw [m0_ hL0.1, w32_r (show -2147483648 ≤ 260 + L0 624 17 ∧ 260 + L0 624 17 < 2147483648 by omega)]
  refine RR_gm (g625 (by omega)) ?_
  by_cases c : L0 625 (260 + L0 624 17) = -1
  · rw [if_pos (show K (pc 578 (L0 624 17)) 7 = -1 by rw [pe.1.2.2.2.2.1]; exact c), if_pos c]
    refine RR_gm (g625 (by omega)) ?_
    rw [bdN_mt]
    obtain ⟨y2, L1, e1, rfl, hL1, r1, r2, r3⟩ := rt_take (k := 0) (a := 1) (b := w32 (L0 625 0 - 1)) hK (by omega) nK (by rw [w32_r (by omega)]; omega)
    rw [e1, bdN_s, if_neg f0, m0_ hL1.1]
    refine RR_gm (g625 (by omega)) ?_
    rw [bdN_mt]
    refine rr_named hL1 (by omega) SE_e (fun K2 hK2 bK2 vK2 nK2 kJ2 kF2 => ?_)
    have b2 := pc_b (T := 578) (i := L1 624 17) (by rw [r1] at bK2; omega)
    rw [m20_ hL1.1, r2, m0_ hL1.1]
    refine RR_gm (g632 (by omega)) ?_
    by_cases c2 : L1 624 17 = L0 624 17
    · rw [if_pos c2, if_pos (show pc 578 (L1 624 17) = pc 578 (L0 624 17) by rw [c2])]
      exact rr_failm hK2 (by omega) (fun _ => rfl)
    · rw [if_neg c2, if_neg (fun z => c2 (pc_inj (by omega) (by omega) z))]
      refine RR_gm (g625 (by omega)) ?_
      rw [bdN_mt]
      obtain ⟨y3, L2, e2, rfl, hL2, s1, s2, s3⟩ := rt_take (k := 1) (a := 0) (b := w32 (L1 625 0 - 1)) hK2 (by omega) nK2 (by rw [r1] at bK2 ⊢; rw [w32_r (by omega)]; omega)
      rw [e2, bdN_s, if_neg f0]
      rw [r1] at bK2
      have hI := hL2.1.1
      have hD := hL2.1.2.1
      have ht := CR_T hI.1 T578
      have q0 : L2 632 0 = L0 624 17 := by rw [s3 0 (by omega)]; exact r2
      have eR : L2 625 0 = L0 625 0 := by rw [s1, r1]
      rw [if_pos (kdp T578 (show 0 ≤ L1 624 17 ∧ L1 624 17 < 40 by omega)), bnd_s, bdN_id, TS_n ht.1 (show 0 ≤ L1 624 17 ∧ L1 624 17 < 40 by omega), m20_ hL2.1, m0_ hL2.1, q0, s2, w32_r (show -2147483648 ≤ 260 + L0 624 17 ∧ 260 + L0 624 17 < 2147483648 by omega)]
      refine RR_gm (g632 (by omega)) (RR_gm (g632 (by omega)) (RR_gm (g625 (by omega)) ?_))
      rw [bnd_s, bdN_s]
      refine rr_semi (RA_up hL2 CF_CQ (RI_w hI (by omega)) (fun x hx => pU_n (by omega)) (RD_row hD (WBF_pl hD.1.2.1 (WB_pl hD.1.2.1.1 (by omega) (fun z => by omega) (fun _ => by omega)) (by omega)) (by omega) (by omega)) (fun x hx => pU_n hx) ?_)
      rw [pU_s]
      exact CQ_pf hL2.1.2.2.2.1.2 (RL_M hL2.1) (RL_1 hL2.1) (by omega) (by omega)
  · rw [if_neg (show ¬ K (pc 578 (L0 624 17)) 7 = -1 by rw [pe.1.2.2.2.2.1]; exact c), if_neg c]
    exact rr_failm hK (by omega) (fun _ => rfl)
theorem CF_cap : CF (fun G r => CQ 578 G (u1 r 100 v)) := fun G H r h hr e => CQ_eq h (by rw [u1_n (by omega)]; exact hr) (fun x x0 x1 => e x x0 (by omega))
theorem rr_root (h : RT (CQ 578) g g' G H) : RR (SE (CQ 578) g g') (fS_takeRoot G 575) (bdN (fM_readRoot H 624) mt) := by
  rw [fS_takeRoot, fM_readRoot, bdN_mt]
  refine rr_once h (Or.inr (Or.inr ⟨rfl, rfl⟩)) SE_e (fun L hL eL => ?_)
  rw [bdN_mt]
  refine rr_takes hL (by omega) SE_e (fun K M hM bM vM eM _ kJ kF => ?_)
  have hI := hM.1.1
  have hb := RL_M hM.1
  have hw := hM.1.2.1.1.2.1
  have ht := CR_T hI.1 T578
  have k0 : kd (578 + 1) = 3 := by rw [← pc_0]; exact kdp T578 (by omega)
  rw [if_pos (kd578 hI.1), r578 hI.1, TS_0 ht.1, if_pos k0, bnd_s, vM, bdN_mt]
  have hM2 : RA (fun G r => CQ 578 G (u1 r 100 (M 632 0))) g g' (pU K (578 + 1) 4 (M 632 0)) M := RA_up hM CF_cap (RI_w hI (by omega)) (fun x hx => pU_n (by omega)) hM.1.2.1 (fun _ _ => rfl) (CQ_p0 hM.1.2.2.2.1.2 ⟨hw.1.1.1, hb.2⟩ (RL_1 hM.1) (by omega))
  refine rr_takes hM2 (by omega) SE_e (fun K2 M2 hN bN vN eN oN kJ2 kF2 => ?_)
  have hI2 := hN.1.1
  have hD2 := hN.1.2.1
  have hb2 := RL_M hN.1
  have hw2 := hN.1.2.1.1.2.1
  have ht2 := CR_T hI2.1 T578
  have hc2 : CQ 578 K2 (u1 (M2 625) 100 (M 632 0)) := hN.1.2.2.2.1.2
  rw [← oN 0 (by omega)] at bM hc2
  rw [if_pos (kd578 hI2.1), r578 hI2.1, TS_0 ht2.1, if_pos k0, bnd_s, vN, bdN_id]
  have j0 := m0_ hN.1
  have j20 := m20_ hN.1
  have r1 := RD_row (k := 100) (v := M2 632 0) hD2 (WBF_pl hD2.1.2.1 (WB_pl hD2.1.2.1.1 (by omega) (fun _ => bM) (fun z => by omega)) (by omega)) (by omega) (by omega)
  have q0 := r1.1.1.1
  have q20 : pU M2 625 100 (M2 632 0) 624 20 = 632 := e20 r1.1
  have q32 : pU M2 625 100 (M2 632 0) 632 = M2 632 := pU_n (by omega)
  have q25 : pU M2 625 100 (M2 632 0) 625 = u1 (M2 625) 100 (M2 632 0) := pU_s
  have qx : ∀ x, ¬ x = 625 → pU M2 625 100 (M2 632 0) x = M2 x := fun x hx => pU_n hx
  simp (disch := omega) only [j0, j20, kd_625, sz_625, kd_632, sz_632, true_and, le_t, lt_t, and_true, ↓reduceIte, bnd_s]
  generalize pU M2 625 100 (M2 632 0) = Q at *
  simp (disch := omega) only [q0, q20, kd_625, sz_625, kd_632, sz_632, true_and, le_t, lt_t, and_true, ↓reduceIte, bnd_s, bdN_s]
  rw [q32]
  refine rr_semi (RA_up hN CF_CQ (RI_w hI2 (by omega)) (fun x hx => pU_n (by omega)) (RD_row r1 (WBF_220 r1.1.2.1 bN) (by omega) (by omega)) (fun x hx => by rw [pU_n hx]; exact qx x hx) ?_)
  rw [pU_s, q25]
  exact CQ_p0 hc2 (by rw [u1_n (by omega)]; exact ⟨hw2.1.1.1, hb2.2⟩) (by rw [u1_n (by omega)]; exact RL_1 hN.1) (by omega)
theorem bit1 (x : Int) : opI 1 x 1 = 0 ∨ opI 1 x 1 = 1 := by
  have e : (toI x &&& toI 1).toBitVec = (toI x).toBitVec &&& 1#32 := rfl
  have h : ((toI x).toBitVec &&& 1#32).toNat = (toI x).toBitVec.toNat % 2 := by
    rw [BitVec.toNat_and]
    exact Nat.and_one_is_mod _
  have e2 : opI 1 x 1 = ((toI x).toBitVec &&& 1#32).toInt := rfl
  rw [e2, BitVec.toInt_eq_toNat_cond, h]
  split <;> omega
theorem rr_refusal (h : RT (CQ 578) g g' G H) : RR (SE (CQ 578) g g') (fS_takeRefusal G 575) (bdN (fM_readRefusal H 624) mt) := by
  obtain ⟨y, L0, e, hL0, fL0⟩ := rt_model h
  rw [fS_takeRefusal, fM_readRefusal, e, bdN_s, m0_ hL0.1]
  refine RR_gm (g625 (by omega)) ?_
  rw [bdN_mt]
  refine rr_namedT hL0 (by omega) (by omega) SE_e (fun K L hL bL vL eL oL kJ kF => ?_)
  have hb := RL_M hL.1
  have b1 := pc_b (T := 578) (i := L 632 0) (by omega)
  rw [bdN_mt]
  obtain ⟨v, K2, w, L2, e1, e2, z⟩ := rr_number (a := 0) (b := 9) (Φ := fun v K2 w L2 => (v = 0 ∧ w = 0 ∧ RE g g' K2 L2) ∨ (v = 1 ∧ w = 1 ∧ L2 = L ∧ RT (CQ 578) g g' K2 L ∧ (0 ≤ L 624 17 ∧ L 624 17 ≤ 9) ∧ K2 575 7 = L 624 17 ∧ (L 624 18 = 2 ∧ L 624 15 - L 624 16 ≤ 2))) hL (fun _ _ x => Or.inl ⟨rfl, rfl, x⟩) (fun K2 x1 x2 x3 x6 _ _ => Or.inr ⟨rfl, rfl, rfl, x1, x2, x3, x6⟩)
  rw [e1, e2, bdN_s, bdN_s]
  rcases z with ⟨rfl, rfl, z⟩ | ⟨rfl, rfl, rfl, hK2, b2, v2, n2⟩
  · rw [if_pos rfl, if_pos rfl]
    exact RR_i (SE_e _ _ z)
  · have pe := hK2.1.2.2.2.1.2.2.2.2.1 (L2 632 0) (by omega) (by omega)
    rw [if_neg f0, if_neg f0, m20_ hL.1]
    refine RR_gl (kdp T578 (by omega)) (RR_gm (g632 (by omega)) ?_)
    rw [vM_refuses hL.1.2.1.1.1 (by omega), bdP_s, fP_refuses, v2, pe.1.2.2.2.2.2.1]
    have hbit := bit1 (opI 5 (L2 625 (340 + L2 632 0)) (L2 624 17))
    by_cases c : opI 1 (opI 5 (L2 625 (340 + L2 632 0)) (L2 624 17)) 1 = 1
    · rw [if_pos (show rfs (L2 625) (L2 632 0) (L2 624 17) = true from decide_eq_true c), if_neg f0, if_neg (show ¬ opI 1 (opI 5 (L2 625 (340 + L2 632 0)) (L2 624 17)) 1 = 0 by omega), bdP_s, if_neg f0]
      exact rr_failm hK2 (by omega) (fun _ => rfl)
    · rw [if_neg (show ¬ rfs (L2 625) (L2 632 0) (L2 624 17) = true from fun z => c (of_decide_eq_true z)), if_pos (show (0 : Int) = 0 from rfl), if_pos (show opI 1 (opI 5 (L2 625 (340 + L2 632 0)) (L2 624 17)) 1 = 0 by omega), bdP_s, if_pos (show (0 : Int) = 0 from rfl)]
      rw [bdN_mt]
      obtain ⟨y3, L3, e3, rfl, hL3, s1, s2, s3⟩ := rt_take (k := 1) (a := 0) (b := 9) hK2 (by omega) n2 b2
      rw [e3, bdN_s, if_neg f0]
      have hI := hL3.1.1
      have hD := hL3.1.2.1
      have q0 : L3 632 0 = L2 632 0 := s3 0 (by omega)
      rw [bnd_s, bdN_id, m20_ hL3.1, m0_ hL3.1, q0, s2, s1, w32_r (show -2147483648 ≤ 340 + L2 632 0 ∧ 340 + L2 632 0 < 2147483648 by omega)]
      refine RR_gm (g632 (by omega)) (RR_gm (g625 (by omega)) (RR_gm (g632 (by omega)) (RR_gm (g625 (by omega)) ?_)))
      rw [bnd_s, bdN_s]
      rw [← s1] at bL
      have hb3 := RL_M hL3.1
      refine rr_semi (RA_up hL3 CF_CQ (RI_w hI (by omega)) (fun x hx => pU_n (by omega)) (RD_row hD (WBF_340 hD.1.2.1 (by omega)) (by omega) (by omega)) (fun x hx => pU_n hx) ?_)
      rw [pU_s]
      exact CQ_pf hL3.1.2.2.2.1.2 (RL_M hL3.1) (RL_1 hL3.1) (by omega) (by omega)
end PAR9
/-! ===== both readers in step: processes (own work) ===== -/
section PAR10
variable {C C' : gH → (Int → Int) → Prop} {g g' G H K A : gH} {r r' : Int → Int} {a b c d e i j k l m n p q s t u v w x y z S : Int}
theorem vP_room (h : PE (G c) r i) (hc : 0 ≤ r (100 + i) ∧ r (100 + i) ≤ 9) : fP_room G c = some (room r i) := by
  obtain ⟨⟨a1, a2, -⟩, -, w2, -⟩ := h
  have kb : 0 ≤ kids r i 0 := (cn_bd _ _ _).1
  rw [fP_room, a1, a2, w2]
  unfold room gmax
  by_cases c1 : r (140 + i) = 0
  · rw [if_pos c1, if_pos c1]
    by_cases c2 : kids r i 0 < r (100 + i)
    · rw [if_pos c2, if_pos (by omega), w32_r (by omega)]
    · rw [if_neg c2, if_neg (by omega)]
  · rw [if_neg c1, if_neg c1]
theorem rr_process (h : RT (CQ 578) g g' G H) : RR (SE (CQ 578) g g') (fS_takeProcess G 575) (bdN (fM_readProcess H 624) mt) := by
  have hcp := h.1.2.2.2.1.2
  rw [fS_takeProcess, fM_readProcess, if_pos (kd578 h.1.1.1), r578 h.1.1.1, hcp.1.1, m0_ h.1]
  refine RR_gm (g625 (by omega)) ?_
  by_cases c : 24 < H 625 0
  · rw [if_pos c, if_pos c]
    exact rr_failm h (by omega) (fun _ => rfl)
  rw [if_neg c, if_neg c]
  obtain ⟨y, L0, e, hL0, fL0⟩ := rt_model h
  have eR : L0 625 = H 625 := fL0.1 625 (by omega)
  rw [e, bdN_s, m0_ hL0.1]
  refine RR_gm (g625 (by omega)) ?_
  rw [bdN_mt]
  refine rr_named hL0 (by omega) SE_e (fun K hK bK vK nK kJ kF => ?_)
  have hb := RL_M hK.1
  have hw := hK.1.2.1.1.2.1
  have pe := hK.1.2.2.2.1.2.2.2.2.1 (L0 624 17) (by omega) (by omega)
  refine RR_gl (kdp T578 (by omega)) ?_
  rw [vM_roomOf hK.1.2.1.1.1 hw.1 (by omega), bdP_s, vP_room pe (hw.1.2.2.2.2.2.2 _ (by omega) (by omega)), bdP_s]
  by_cases c2 : room (L0 625) (L0 624 17) = 0
  · rw [if_pos c2, if_pos c2]
    exact rr_failm hK (by omega) (fun _ => rfl)
  rw [if_neg c2, if_neg c2, m0_ hL0.1]
  refine RR_gm (g625 (by omega)) ?_
  rw [bdN_mt]
  obtain ⟨y1, L1, e1, rfl, hL1, r1, r2, r3⟩ := rt_take (k := 0) (a := 0) (b := w32 (L0 625 0 - 1)) hK (by omega) nK (by rw [w32_r (by omega)]; omega)
  rw [e1, bdN_s, if_neg f0, bdN_mt]
  refine rr_takes hL1 (by omega) SE_e (fun K1 M1 hM1 b1 v1 e1 o1 _ _ => ?_)
  rw [bdN_mt]
  refine rr_takes hM1 (by omega) SE_e (fun K2 M2 hM2 b2 v2 e2 o2 _ _ => ?_)
  rw [bdN_mt]
  refine rr_takes hM2 (by omega) SE_e (fun K3 M3 hM3 b3 v3 e3 o3 _ _ => ?_)
  have q0 : M3 632 0 = L0 624 17 := by rw [o3 0 (by omega), o2 0 (by omega), o1 0 (by omega)]; exact r2
  have q1 : M3 632 1 = K1 575 7 := by rw [o3 1 (by omega), o2 1 (by omega)]; exact v1.symm
  have q2 : M3 632 2 = K2 575 7 := by rw [o3 2 (by omega)]; exact v2.symm
  have eR3 : M3 625 = L0 625 := by rw [e3, e2, e1, r1]
  have bb1 : 0 ≤ M3 632 1 ∧ M3 632 1 ≤ 9 := by rw [q1, v1]; exact b1
  rw [← eR3] at bK
  rw [← q0] at bK
  have hI := hM3.1.1
  have hD := hM3.1.2.1
  have hcp3 := hM3.1.2.2.2.1.2
  have h24 : M3 625 0 ≤ 24 := by rw [eR3, eR]; omega
  have hw3 := hD.1.2.1
  have k5 : K3 578 5 = M3 625 0 := hcp3.1.1
  have bj := pc_b (T := 578) (i := M3 632 0) (by omega)
  have hst := hD.2.2.2.2.2
  obtain ⟨A, eA, iA, a1, a2, a3, a4, a5, a6, a7⟩ := vT_arrive (a := M3 632 1) (b := M3 632 2) (d := M3 632 3) (j := M3 632 0) (CR_T hI.1 T578) T578 (by rw [k5]; omega) (by rw [k5]; omega)
  rw [k5] at eA a1 a2 a4 a5 a6 a7
  have pj := hcp3.2.2.2.1 (M3 632 0) (by omega) (by omega)
  have kb := cn_bd (fun c => ic (M3 625) c (M3 632 0) 0) (M3 625 0).toNat 0
  have ek : K3 (pc 578 (M3 632 0)) 3 = kids (M3 625) (M3 632 0) 0 := pj.2.2.1
  have kb2 : 0 ≤ K3 (pc 578 (M3 632 0)) 3 ∧ K3 (pc 578 (M3 632 0)) 3 ≤ 40 := by
    rw [ek]
    unfold kids
    omega
  rw [w32_r (show -2147483648 ≤ K3 (pc 578 (M3 632 0)) 3 + 1 ∧ K3 (pc 578 (M3 632 0)) 3 + 1 < 2147483648 by omega)] at a3
  rw [if_pos (kd578 hI.1), r578 hI.1, ← q0, ← q1, ← q2, v3, eA, bdN_s, bdN_id, m20_ hM3.1]
  refine RR_gm (g632 (by omega)) (RR_gm (g632 (by omega)) (RR_gm (g632 (by omega)) (RR_gm (g632 (by omega)) ?_)))
  rw [vM_comes hD.1.1 (by omega), bdN_s, bdN_s]
  have ho := fun k => cmR_o (r := M3 625) (a := M3 632 0) (c := M3 632 1) (gp := M3 632 2) (b := M3 632 3) (k := k) (by omega)
  refine rr_semi (RA_up hM3 CF_CQ (RI_IT hI iA) (fun x hx => iA.2 x (by omega)) (RD_sw hD (WBF_cm hw3 (by omega) (by omega) (hst _ (by omega) (by omega)) bb1 b3) (fun i i0 i1 => ?_)) (fun x hx => sw_n hx) ?_)
  · rw [cmR_0] at i1
    by_cases ei : i = M3 625 0
    · rw [ei]; exact (cmR_n (r := M3 625) (a := M3 632 0) (c := M3 632 1) (gp := M3 632 2) (b := M3 632 3) (by omega)).2.2.1
    · rw [ho _ (by omega)]; exact hst i i0 (by omega)
  · rw [sw_s]
    exact CQ_cm hcp3 hw3.1 (by omega) (RL_1 hM3.1) (by omega) a1 a2 a3 a4 a5 a6 a7
end PAR10
/-! ===== both readers in step: the order of the rules (own work) ===== -/
theorem msk2 : ∀ m : Fin 32, ∀ y : Fin 5, opI 1 (opI 5 (m.val : Int) (y.val : Int)) 1 = 1 ∨ (∃ j : Fin 32, opI 2 (m.val : Int) (opI 4 1 (y.val : Int)) = (j.val : Int) ∧ pcn j.val = pcn m.val + 1 ∧ ∀ z : Fin 5, (opI 1 (opI 5 (j.val : Int) (z.val : Int)) 1 = 1 ↔ (z = y ∨ opI 1 (opI 5 (m.val : Int) (z.val : Int)) 1 = 1))) := by decide +kernel
theorem pcn_31 : ∀ m : Fin 32, pcn m.val = 5 → ∀ y : Fin 5, opI 1 (opI 5 (m.val : Int) (y.val : Int)) 1 = 1 := by decide +kernel
theorem msk_0 : ∀ y : Fin 5, ¬ opI 1 (opI 5 ((0 : Fin 32).val : Int) (y.val : Int)) 1 = 1 := by decide +kernel
section PAR11
variable {C C' : gH → (Int → Int) → Prop} {g g' G H K A : gH} {r r' : Int → Int} {a b c d e i k l m n p q s t u v w x y z S T : Int}
theorem f5 (h : 0 ≤ y ∧ y < 5) : ∃ f : Fin 5, y = (f.val : Int) := ⟨⟨y.toNat, by omega⟩, by show y = ((y.toNat : Nat) : Int); omega⟩
theorem TQ_k (h : TQ G H) : (G 575 4 = 1 ↔ H 624 18 = 1) ∧ (G 575 4 = 3 ↔ H 624 18 = 3) ∧ (G 575 4 = 0 ↔ H 624 18 = 0) := by
  obtain ⟨-, -, q4, -⟩ := h
  rw [q4]
  by_cases c : H 624 18 = 2 ∧ 2 < H 624 15 - H 624 16
  · rw [if_pos c]; omega
  · rw [if_neg c]; exact ⟨Iff.rfl, Iff.rfl, Iff.rfl⟩
theorem aRule (h : RT C g g' G H) : ∃ y, fS_ruleOfWord G 575 = some y ∧ fM_ruleHere H 624 = some y ∧ (-1 ≤ y ∧ y ≤ 4) ∧ (¬ H 624 18 = 1 → y = -1) := by
  have hc := h.1.1.1
  have hm := h.1.2.1.1
  have tk := h.1.2.1.2.2.2.2.1
  have hb := h.1.2.2.1
  have hq := h.2
  have kz : ∀ (r : Nat) (y : Int), r < 13 → (y = 0 ∨ y = 1) → (y = 1 ↔ WM (H 631) (H 624 16) (H 624 15) r) → (y = 0 ∨ H 624 18 = 1) := by
    intro r y hr hy hw
    rcases hy with hy | hy
    · exact Or.inl hy
    · exact Or.inr (WM_kind hr (hw.mp hy) hq.2.1)
  obtain ⟨y0, s0, m0, b0, w0⟩ := aWord (r := 8) (w := 2000008) (v := 2000021) hc hm tk hb hq (by omega) rfl rfl
  obtain ⟨y1, s1, m1, b1, w1⟩ := aWord (r := 9) (w := 2000009) (v := 2000022) hc hm tk hb hq (by omega) rfl rfl
  obtain ⟨y2, s2, m2, b2, w2⟩ := aWord (r := 10) (w := 2000010) (v := 2000023) hc hm tk hb hq (by omega) rfl rfl
  obtain ⟨y3, s3, m3, b3, w3⟩ := aWord (r := 11) (w := 2000011) (v := 2000024) hc hm tk hb hq (by omega) rfl rfl
  obtain ⟨y4, s4, m4, b4, w4⟩ := aWord (r := 12) (w := 2000012) (v := 2000025) hc hm tk hb hq (by omega) rfl rfl
  have k0 := kz 8 y0 (by omega) b0 w0
  have k1 := kz 9 y1 (by omega) b1 w1
  have k2 := kz 10 y2 (by omega) b2 w2
  have k3 := kz 11 y3 (by omega) b3 w3
  have k4 := kz 12 y4 (by omega) b4 w4
  rw [fS_ruleOfWord, s0, bdP_s, s1, bdP_s, s2, bdP_s, s3, bdP_s, s4, bdP_s, fM_ruleHere, m0, bdP_s, m1, bdP_s, m2, bdP_s, m3, bdP_s, m4, bdP_s]
  by_cases c0 : y0 = 0
  · rw [if_pos c0]
    by_cases c1 : y1 = 0
    · rw [if_pos c1]
      by_cases c2 : y2 = 0
      · rw [if_pos c2]
        by_cases c3 : y3 = 0
        · rw [if_pos c3]
          by_cases c4 : y4 = 0
          · rw [if_pos c4]
            exact ⟨_, rfl, rfl, by omega, fun _ => rfl⟩
          · rw [if_neg c4]
            exact ⟨_, rfl, rfl, by omega, fun _ => by omega⟩
        · rw [if_neg c3]
          exact ⟨_, rfl, rfl, by omega, fun _ => by omega⟩
      · rw [if_neg c2]
        exact ⟨_, rfl, rfl, by omega, fun _ => by omega⟩
    · rw [if_neg c1]
      exact ⟨_, rfl, rfl, by omega, fun _ => by omega⟩
  · rw [if_neg c0]
    exact ⟨_, rfl, rfl, by omega, fun _ => by omega⟩
theorem vT_hasRule (h : TI G T) (hT : isT T) : WP (fun y => (y = 0 ∨ y = 1) ∧ (y = 1 ↔ ∃ i, 0 ≤ i ∧ i < 5 ∧ G (T + 4) i = v)) (fT_hasRule G T v) := by
  have hf := fu_ge
  rw [fT_hasRule, TS_3 h.1, if_pos (kdT4 hT), szT4 hT]
  refine W_loop (W := WP (fun y => (y = 0 ∨ y = 1) ∧ (y = 1 ↔ ∃ i, 0 ≤ i ∧ i < 5 ∧ G (T + 4) i = v))) (fun n (i : Int) => lT_hasRule_11 G v (T + 4) 5 n i) (fun i => (5 - i).toNat) (fun i => (0 ≤ i ∧ i ≤ 5) ∧ ∀ j, 0 ≤ j → j < i → ¬ G (T + 4) j = v) ?_ fu 0 ⟨by omega, fun j j0 j1 => by omega⟩ (by omega)
  intro n i hI ih
  show WP _ (bT_hasRule_11 G v (T + 4) 5 (lT_hasRule_11 G v (T + 4) 5 n) i)
  rw [bT_hasRule_11]
  refine W_ite (fun hi => ?_) (fun hi => WP_i ⟨Or.inl rfl, fun z => absurd z (by omega), fun ⟨j, j0, j1, j2⟩ => absurd j2 (hI.2 j j0 (by omega))⟩)
  rw [if_pos ⟨kdT4 hT, hI.1.1, by rw [szT4 hT]; exact hi⟩, w32_r (by omega)]
  refine W_ite (fun e => WP_i ⟨Or.inr rfl, fun _ => ⟨i, hI.1.1, hi, e⟩, fun _ => rfl⟩) (fun e => ih (i + 1) ⟨by omega, fun j j0 j1 => ?_⟩ (by omega))
  by_cases ej : j = i
  · rw [ej]; exact e
  · exact hI.2 j j0 (by omega)
theorem vT_clearRules (h : TS G T) (hT : isT T) : ∃ H, fT_clearRules G T = some (0, H) ∧ (∀ x, ¬ x = T + 4 → H x = G x) ∧ ∀ i, 0 ≤ i → i < 5 → H (T + 4) i = -1 := by
  have hf := fu_ge
  have key : WN (fun y H => y = 0 ∧ (∀ x, ¬ x = T + 4 → H x = G x) ∧ ∀ i, 0 ≤ i → i < 5 → H (T + 4) i = -1) (lT_clearRules_2 T fu 0 G) := by
    refine W_loop (W := WN (fun y H => y = 0 ∧ (∀ x, ¬ x = T + 4 → H x = G x) ∧ ∀ i, 0 ≤ i → i < 5 → H (T + 4) i = -1)) (fun n (a : Int × gH) => lT_clearRules_2 T n a.1 a.2) (fun a => (5 - a.1).toNat) (fun a => (0 ≤ a.1 ∧ a.1 ≤ 5) ∧ (∀ x, ¬ x = T + 4 → a.2 x = G x) ∧ ∀ i, 0 ≤ i → i < a.1 → a.2 (T + 4) i = -1) ?_ fu (0, G) ⟨by dsimp only; omega, fun _ _ => rfl, fun i i0 i1 => by dsimp only at i1; omega⟩ (by dsimp only; omega)
    rintro n ⟨i, K⟩ ⟨hi, hK, hv⟩ ih
    dsimp only at hi hK hv
    show WN _ (bT_clearRules_2 T (lT_clearRules_2 T n) i K)
    have e3 : K T 3 = T + 4 := by rw [hK T (by omega)]; exact TS_3 h
    rw [bT_clearRules_2]
    refine W_ite (fun h5 => ?_) (fun h5 => WN_i ⟨rfl, hK, fun j j0 j1 => hv j j0 (by omega)⟩)
    rw [e3, if_pos ⟨kdT4 hT, hi.1, by rw [szT4 hT]; exact h5⟩, bnd_s, w32_r (by omega)]
    refine ih (i + 1, pU K (T + 4) i (-1)) ⟨by dsimp only; omega, fun x hx => ?_, fun j j0 j1 => ?_⟩ (by dsimp only; omega)
    · show pU K (T + 4) i (-1) x = G x
      rw [pU_n hx]; exact hK x hx
    · show pU K (T + 4) i (-1) (T + 4) j = -1
      dsimp only at j1
      rw [pU_s]
      by_cases ej : j = i
      · rw [ej, u1_s]
      · rw [u1_n ej]; exact hv j j0 (by omega)
  obtain ⟨y, H, e, rfl, a, b⟩ := key
  exact ⟨H, e, a, b⟩
theorem rr_97 (h : RT (CQ 578) g g' G H) (hk : ¬ H 624 18 = 1) : RR (SE (CQ 578) g g') (jS_takeOrder_97 G 575) (bdN (some (1, H)) mt) := by
  obtain ⟨k1, k3, k0⟩ := TQ_k h.2
  obtain ⟨y, s, -, -, w⟩ := aRule h
  rw [jS_takeOrder_97, bdN_s]
  unfold mt
  rw [if_neg f0]
  by_cases c : H 624 18 = 3
  · rw [if_pos (k3.mpr c), if_pos c]
    exact RR_i (Or.inl ⟨rfl, rfl, h⟩)
  · rw [if_neg (fun z => c (k3.mp z)), if_neg c, s, bdP_s, w hk, if_pos rfl, jS_takeOrder_119, if_pos kd_575]
    exact rr_fail h (by omega) (fun _ => if_pos rfl) (fun _ => rfl) SE_e
/-- the mask says which rules stand -/
def MK (j : Fin 32) (M : gH) : Prop := ∀ z : Fin 5, (opI 1 (opI 5 (j.val : Int) (z.val : Int)) 1 = 1 ↔ ∃ i, 0 ≤ i ∧ i < (pcn j.val : Int) ∧ M 625 (6 + i) = (z.val : Int))
theorem rr_ordl : ∀ (m n1 n2 : Nat) (j : Fin 32) (K M : gH), RT (CQ 578) g g' K M → M 625 5 = (pcn j.val : Int) → MK j M → 5 - pcn j.val = m → m < n1 → m < n2 → RR (SE (CQ 578) g g') (lS_takeOrder_31 575 n1 (pcn j.val : Int) K) (bdN (lM_readOrder_19 624 n2 (j.val : Int) M) mt) := by
  intro m
  induction m with
  | zero =>
    intro n1 n2 j K M h h5 hm hj hn1 hn2
    obtain ⟨n1, rfl⟩ : ∃ k, n1 = k + 1 := ⟨n1 - 1, by omega⟩
    obtain ⟨n2, rfl⟩ : ∃ k, n2 = k + 1 := ⟨n2 - 1, by omega⟩
    have p5 := pcn_5 j
    show RR _ (bS_takeOrder_31 575 (lS_takeOrder_31 575 n1) (pcn j.val : Int) K) (bdN (bM_readOrder_19 624 (lM_readOrder_19 624 n2) (j.val : Int) M) mt)
    rw [bS_takeOrder_31, bM_readOrder_19, if_neg (show ¬ (pcn j.val : Int) < 5 by omega)]
    by_cases c1 : M 624 18 = 1
    · obtain ⟨k1, k3, k0⟩ := TQ_k h.2
      obtain ⟨y, es, em, b, -⟩ := aRule h
      rw [if_pos c1, em, bdP_s, jS_takeOrder_97, if_neg (fun z => by have := k3.mp z; omega), es, bdP_s]
      by_cases c2 : y = -1
      · rw [if_pos c2, if_pos c2, jS_takeOrder_119, if_pos kd_575]
        exact rr_failm h (by omega) (fun _ => if_pos rfl)
      · obtain ⟨f, rfl⟩ := f5 (y := y) (by omega)
        rw [if_neg c2, if_neg c2, if_pos (pcn_31 j (by omega) f), jS_takeOrder_119, if_pos kd_575]
        exact rr_failm h (by omega) (fun _ => if_pos rfl)
    · rw [if_neg c1]
      exact rr_97 h c1
  | succ m ih =>
    intro n1 n2 j K M h h5 hm hj hn1 hn2
    obtain ⟨n1, rfl⟩ : ∃ k, n1 = k + 1 := ⟨n1 - 1, by omega⟩
    obtain ⟨n2, rfl⟩ : ∃ k, n2 = k + 1 := ⟨n2 - 1, by omega⟩
    obtain ⟨k1, k3, k0⟩ := TQ_k h.2
    show RR _ (bS_takeOrder_31 575 (lS_takeOrder_31 575 n1) (pcn j.val : Int) K) (bdN (bM_readOrder_19 624 (lM_readOrder_19 624 n2) (j.val : Int) M) mt)
    rw [bS_takeOrder_31, bM_readOrder_19, if_pos (show (pcn j.val : Int) < 5 by omega)]
    by_cases c1 : M 624 18 = 1
    · obtain ⟨y, es, em, b, -⟩ := aRule h
      rw [if_pos c1, em, bdP_s, if_pos (k1.mpr c1), es, bdP_s]
      by_cases c2 : y = -1
      · rw [if_pos c2, if_pos c2]
        exact rr_failm h (by omega) (fun _ => rfl)
      · obtain ⟨f, rfl⟩ := f5 (y := y) (by omega)
        have hI := h.1.1
        have hD := h.1.2.1
        have ht := CR_T hI.1 T578
        have hcp := h.1.2.2.2.1.2
        obtain ⟨⟨p1, p2, p3, p4, p5, p6⟩, q2, q3, -⟩ := hcp
        obtain ⟨u, eu, u1_, u2⟩ := vT_hasRule (v := (f.val : Int)) ht T578
        have hu : u = 1 ↔ opI 1 (opI 5 (j.val : Int) (f.val : Int)) 1 = 1 := by
          rw [u2, hm f]
          constructor
          · rintro ⟨i, i0, i1, i2⟩
            rw [q2 i i0 i1] at i2
            by_cases ci : i < M 625 5
            · rw [if_pos ci] at i2
              exact ⟨i, i0, by omega, i2⟩
            · rw [if_neg ci] at i2
              exact absurd i2.symm c2
          · rintro ⟨i, i0, i1, i2⟩
            refine ⟨i, i0, by omega, ?_⟩
            rw [q2 i i0 (by omega), if_pos (by omega)]
            exact i2
        rw [if_neg c2, if_neg c2, if_pos (kd578 hI.1), r578 hI.1, eu, bdP_s]
        by_cases c3 : opI 1 (opI 5 (j.val : Int) (f.val : Int)) 1 = 1
        · rw [if_pos c3, if_neg (show ¬ u = 0 by have := hu.mpr c3; omega)]
          exact rr_failm h (by omega) (fun _ => rfl)
        · have u0 : u = 0 := by
            rcases u1_ with u1_ | u1_
            · exact u1_
            · exact absurd (hu.mp u1_) c3
          rcases msk2 j f with e1 | ⟨i, e1, e2, e3⟩
          · exact absurd e1 c3
          have pi := pcn_5 i
          rw [if_neg c3, if_pos u0, TS_3 ht.1, if_pos (show kd (578 + 4) = 20 ∧ (0 : Int) ≤ (pcn j.val : Int) ∧ (pcn j.val : Int) < sz (578 + 4) by rw [szT4 T578]; exact ⟨kdT4 T578, by omega, by omega⟩), bnd_s, m0_ h.1, h5, w32_r (show -2147483648 ≤ (6 : Int) + (pcn j.val : Int) ∧ (6 : Int) + (pcn j.val : Int) < 2147483648 by omega), w32_r (show -2147483648 ≤ (pcn j.val : Int) + 1 ∧ (pcn j.val : Int) + 1 < 2147483648 by omega)]
          refine RR_gm (g625 (by omega)) (RR_gm (g625 (by omega)) ?_)
          rw [bnd_s]
          have r1 := RD_row (k := 6 + (pcn j.val : Int)) (v := (f.val : Int)) hD (WBF_6 hD.1.2.1 (by omega)) (by omega) (by omega)
          have q5 : pU M 625 (6 + (pcn j.val : Int)) (f.val : Int) 625 = u1 (M 625) (6 + (pcn j.val : Int)) (f.val : Int) := pU_s
          have qx : ∀ x, ¬ x = 625 → pU M 625 (6 + (pcn j.val : Int)) (f.val : Int) x = M x := fun x hx => pU_n hx
          generalize pU M 625 (6 + (pcn j.val : Int)) (f.val : Int) = Q at *
          have q55 : Q 625 5 = (pcn j.val : Int) := by rw [q5, u1_n (by omega)]; exact h5
          have hQ0 : Q 624 0 = 625 := r1.1.1.1
          rw [hQ0, q55, w32_r (show -2147483648 ≤ (pcn j.val : Int) + 1 ∧ (pcn j.val : Int) + 1 < 2147483648 by omega)]
          refine RR_gm (g625 (by omega)) (RR_gm (g625 (by omega)) ?_)
          rw [bnd_s]
          have r2 := RD_row (k := 5) (v := (pcn j.val : Int) + 1) r1 (WBF_5 r1.1.2.1 (by omega)) (by omega) (by omega)
          have s5 : pU Q 625 5 ((pcn j.val : Int) + 1) 625 = u1 (u1 (M 625) (6 + (pcn j.val : Int)) (f.val : Int)) 5 ((pcn j.val : Int) + 1) := by rw [pU_s, q5]
          have sx : ∀ x, ¬ x = 625 → pU Q 625 5 ((pcn j.val : Int) + 1) x = M x := fun x hx => by rw [pU_n hx]; exact qx x hx
          generalize pU Q 625 5 ((pcn j.val : Int) + 1) = N at *
          have hT : RT (CQ 578) g g' (pU K (578 + 4) (pcn j.val : Int) (f.val : Int)) N := by
            refine RT_up h CF_CQ (RI_w hI (by omega)) (fun x hx => pU_n (by omega)) r2 sx ?_
            rw [s5]
            refine CQ_hd h.1.2.2.2.1.2 (RL_M h.1) (RL_1 h.1) (fun k hk => by rw [u1_n (by omega), u1_n (by omega)]) (fun x x0 x1 _ x3 => pU_n x3) ?_ (fun x x0 x1 => ?_) (fun d d0 d1 => ?_) (fun x x0 x1 x2 => ?_)
            · rw [pU_n (by omega)]
              simp (disch := omega) only [u1_n]
              exact ⟨p1, p2, p3, p4, p5, p6⟩
            · rw [pU_s, u1_s, u1_n (show ¬ 6 + x = 5 by omega)]
              by_cases ex : x = (pcn j.val : Int)
              · rw [ex, u1_s, u1_s, if_pos (by omega)]
              · rw [u1_n ex, u1_n (by omega), q2 x x0 x1, h5]
                by_cases cx : x < (pcn j.val : Int)
                · rw [if_pos cx, if_pos (by omega)]
                · rw [if_neg cx, if_neg (by omega)]
            · rw [pU_n (by omega), u1_n (by omega), u1_n (by omega)]
              exact q3 d d0 d1
            · rw [u1_s] at x2
              rw [u1_n (show ¬ 6 + x = 5 by omega)]
              by_cases ex : x = (pcn j.val : Int)
              · rw [ex, u1_s]; omega
              · rw [u1_n (by omega)]
                exact h.1.2.2.2.1.2.2.2.2.2.2.2.1 x x0 x1 (by omega)
          obtain ⟨y2, L, eL, hL, fL⟩ := rt_model hT
          rw [eL, bdN_s, e1]
          refine RR_l (ra_class hL) (fun _ K2 hK2 => ?_)
          have e25 : L 625 = u1 (u1 (M 625) (6 + (pcn j.val : Int)) (f.val : Int)) 5 ((pcn j.val : Int) + 1) := by rw [fL.1 625 (by omega), s5]
          have ep : (pcn j.val : Int) + 1 = (pcn i.val : Int) := by omega
          rw [ep]
          refine ih n1 n2 i K2 L hK2.1 (by rw [e25, u1_s]; exact ep) (fun z => ?_) (by omega) (by omega) (by omega)
          rw [e3 z, hm z, e25]
          constructor
          · rintro (rfl | ⟨x, x0, x1, x2⟩)
            · exact ⟨(pcn j.val : Int), by omega, by omega, by rw [u1_n (by omega), u1_s]⟩
            · exact ⟨x, x0, by omega, by rw [u1_n (by omega), u1_n (by omega)]; exact x2⟩
          · rintro ⟨x, x0, x1, x2⟩
            rw [u1_n (by omega)] at x2
            by_cases ex : x = (pcn j.val : Int)
            · rw [ex, u1_s] at x2
              exact Or.inl (Fin.ext (Int.ofNat.inj x2.symm))
            · rw [u1_n (by omega)] at x2
              exact Or.inr ⟨x, x0, by omega, x2⟩
    · rw [if_neg c1, if_neg (fun z => c1 (k1.mp z))]
      exact rr_97 h c1
theorem rr_order (h : RT (CQ 578) g g' G H) : RR (SE (CQ 578) g g') (fS_takeOrder G 575) (bdN (fM_readOrder H 624) mt) := by
  have hf := fu_ge
  rw [fS_takeOrder, fM_readOrder, bdN_mt]
  refine rr_once h (Or.inl ⟨rfl, rfl⟩) SE_e (fun L hL eL => ?_)
  have hI := hL.1.1
  have hD := hL.1.2.1
  have ht := CR_T hI.1 T578
  obtain ⟨A, eA, a1, a2⟩ := vT_clearRules ht.1 T578
  rw [if_pos (kd578 hI.1), r578 hI.1, eA, bdN_s, m0_ hL.1]
  refine RR_gm (g625 (by omega)) ?_
  rw [bnd_s]
  obtain ⟨⟨p1, p2, p3, p4, p5, p6⟩, q2, q3, -⟩ := hL.1.2.2.2.1.2
  have s5 : pU L 625 5 0 625 = u1 (L 625) 5 0 := pU_s
  have hN : RA (CQ 578) g g' A (pU L 625 5 0) := by
    refine RA_up hL CF_CQ (RI_IT hI (IT_e4 ht a1)) (fun x hx => a1 x (by omega)) (RD_row hD (WBF_5 hD.1.2.1 (by omega)) (by omega) (by omega)) (fun x hx => pU_n hx) ?_
    rw [s5]
    refine CQ_hd hL.1.2.2.2.1.2 (RL_M hL.1) (RL_1 hL.1) (fun k hk => by rw [u1_n (by omega)]) (fun x x0 x1 _ x3 => a1 x x3) ?_ (fun x x0 x1 => ?_) (fun d d0 d1 => ?_) (fun x x0 x1 x2 => by rw [u1_s] at x2; omega)
    · rw [a1 578 (by omega)]
      simp (disch := omega) only [u1_n]
      exact ⟨p1, p2, p3, p4, p5, p6⟩
    · rw [a2 x x0 x1, u1_s, if_neg (by omega)]
    · rw [a1 _ (by omega), u1_n (by omega)]
      exact q3 d d0 d1
  refine RR_l (ra_class hN) (fun _ K hK => ?_)
  exact rr_ordl 5 fu fu 0 K (pU L 625 5 0) hK.1 (by rw [s5, u1_s]; rfl) (fun z => ⟨fun x => absurd x (msk_0 z), fun ⟨i, i0, i1, _⟩ => absurd i1 (by
    have : (pcn (0 : Fin 32).val : Int) = 0 := rfl
    omega)⟩) rfl (by omega) (by omega)
end PAR11
