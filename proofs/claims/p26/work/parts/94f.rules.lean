/-! ===== both readers in step: numbers, ends (own work) ===== -/
section PAR6
variable {C : gH → (Int → Int) → Prop} {g g' G H K A : gH} {r r' : Int → Int} {a b c d e i j k l m n p q s t u v w x y z S : Int}
theorem TK_b (h : RLs C g g' G H) : 0 ≤ H 624 16 ∧ H 624 16 ≤ H 624 15 ∧ H 624 15 ≤ H 624 10 ∧ H 624 10 ≤ 500 := by
  have h1 := h.2.1.2.2.2.2.1
  have h2 := h.2.1.1.2.2.2.2.2.1
  unfold TK at h1
  omega
/-- both fail, whatever is done with the answer 0 -/
theorem rr_fail {Φ : Int → gH → Int → gH → Prop} {X Y : Int → gH → Option (Int × gH)} (h : RT C g g' G H) (hc : ¬ c = 0) (hX : ∀ G, X 0 G = some (0, G)) (hY : ∀ G, Y 0 G = some (0, G)) (hE : ∀ G H, RE g g' G H → Φ 0 G 0 H) : RR Φ (bdN (fS_fail G 575 c) X) (bdN (fM_failsAt H 624 c) Y) := by
  refine RR_b (rt_fail h hc) (fun v G w H hz => ?_)
  obtain ⟨rfl, rfl, e⟩ := hz
  rw [hX, hY]
  exact RR_i (hE G H e)
/-- a number between a and b of both -/
theorem rr_number {Φ : Int → gH → Int → gH → Prop} (h : RA C g g' G H) (hE : ∀ G H, RE g g' G H → Φ 0 G 0 H) (hN : ∀ K, RT C g g' K H → (a ≤ H 624 17 ∧ H 624 17 ≤ b) → K 575 7 = H 624 17 → (H 624 18 = 2 ∧ H 624 15 - H 624 16 ≤ 2) → RJ g G K → FBt G K → Φ 1 K 1 H) : RR Φ (fS_takeNumber G 575 a b) (fM_isNumber H 624 a b) := by
  rw [fS_takeNumber]
  refine RR_l (ra_class h) (fun _ K hK => ?_)
  obtain ⟨hT, kJ, kF⟩ := hK
  have tb := TK_b hT.1
  obtain ⟨⟨q1, q2⟩, q3, q4, q5⟩ := hT.2
  rw [fM_isNumber, fM_tokenLength]
  by_cases c1 : H 624 18 = 2
  · rw [if_pos c1, bdP_s, w32_r (by omega)]
    by_cases c2 : 2 < H 624 15 - H 624 16
    · have q4' : K 575 4 = 4 := by rw [q4]; exact if_pos ⟨c1, c2⟩
      rw [if_pos c2, q4', if_neg (show ¬ (4 : Int) = 2 by omega)]
      exact rr_fail hT (by omega) (fun _ => rfl) (fun _ => rfl) hE
    · have q4' : K 575 4 = 2 := by rw [q4, c1]; exact if_neg (fun z => c2 z.2)
      obtain ⟨v1, v2, v3⟩ := q5 c1 (by omega)
      rw [if_neg c2, q4', if_pos (show (2 : Int) = 2 from rfl), vM_inRange, bdP_s, v1]
      by_cases c3 : a ≤ H 624 17 ∧ H 624 17 ≤ b
      · rw [if_pos c3, if_neg f0, if_neg (show ¬ H 624 17 < a by omega), if_neg (show ¬ b < H 624 17 by omega)]
        exact RR_i (hN K hT c3 v1 ⟨c1, by omega⟩ kJ kF)
      · rw [if_neg c3, if_pos (show (0 : Int) = 0 from rfl)]
        have l34 : RR Φ (jS_takeNumber_34 K 575) (bdN (fM_failsAt H 624 2) (fun y21 g23 => if y21 = 0 then some (0, g23) else some (1, g23))) := by
          rw [jS_takeNumber_34]
          exact rr_fail hT (by omega) (fun _ => if_pos rfl) (fun _ => if_pos rfl) hE
        by_cases c4 : H 624 17 < a
        · rw [if_pos c4]; exact l34
        · rw [if_neg c4, if_pos (show b < H 624 17 by omega)]; exact l34
  · have q4' : ¬ K 575 4 = 2 := by
      rw [q4, if_neg (fun z => c1 z.1)]
      exact c1
    rw [if_neg c1, if_neg q4']
    exact rr_fail hT (by omega) (fun _ => rfl) (fun _ => rfl) hE
/-- the reference keeps a number and goes on -/
theorem rt_keep (h : RT C g g' K H) (hk : 0 ≤ k ∧ k < 4) : WN (fun y L => y = 1 ∧ RA C g g' K L ∧ L 625 = H 625 ∧ L 632 k = H 624 17 ∧ ∀ j, ¬ j = k → L 632 j = H 632 j) (bnd (pU H (H 624 20) k (H 624 17)) (fun g10 => bdN (fM_advanceToken g10 624) (fun y12 g14 => some (1, g14)))) := by
  have h20 : H 624 20 = 632 := h.1.2.1.1.1.2.2.2.2.2.2.1
  rw [bnd_s, h20]
  have e4 : pU H 632 k (H 624 17) 624 = H 624 := pU_n (by omega)
  have e5 : pU H 632 k (H 624 17) 625 = H 625 := pU_n (by omega)
  have e1 : pU H 632 k (H 624 17) 631 = H 631 := pU_n (by omega)
  have hT : RT C g g' K (pU H 632 k (H 624 17)) := by
    obtain ⟨⟨h1, h2, h3, h4, h5, h6, h7⟩, hq⟩ := h
    refine ⟨⟨h1, RD_632 h2, ?_, by rw [e5]; exact h4, h5, by rw [e4]; exact h6, ?_⟩, ?_⟩
    · unfold BB; rw [e4, e1]; exact h3
    · unfold ON; rw [e4]; exact h7
    · unfold TQ; rw [e4, e1]; exact hq
  refine W_bdN (rt_model hT) (fun _ L hL => WN_i ⟨rfl, hL.1, ?_, ?_, fun j hj => ?_⟩)
  · rw [hL.2.1 625 (by omega)]; exact e5
  · rw [hL.2.1 632 (by omega), pU_s, u1_s]
  · rw [hL.2.1 632 (by omega), pU_s, u1_n hj]
/-- a number is taken by both -/
theorem rr_takes {Φ : Int → gH → Int → gH → Prop} {X Y : gH → Option (Int × gH)} (h : RA C g g' G H) (hk : 0 ≤ k ∧ k < 4) (hE : ∀ G H, RE g g' G H → Φ 0 G 0 H) (hN : ∀ K L, RA C g g' K L → (a ≤ L 632 k ∧ L 632 k ≤ b) → K 575 7 = L 632 k → L 625 = H 625 → (∀ j, ¬ j = k → L 632 j = H 632 j) → RJ g G K → FBt G K → RR Φ (X K) (Y L)) : RR Φ (bdN (fS_takeNumber G 575 a b) (fun y g => if y = 0 then some (0, g) else X g)) (bdN (fM_takes H 624 k a b) (fun y g => if y = 0 then some (0, g) else Y g)) := by
  obtain ⟨v, K, w, L, e1, e2, z⟩ := rr_number (a := a) (b := b) (Φ := fun v K w L => (v = 0 ∧ w = 0 ∧ RE g g' K L) ∨ (v = 1 ∧ w = 1 ∧ L = H ∧ RT C g g' K H ∧ (a ≤ H 624 17 ∧ H 624 17 ≤ b) ∧ K 575 7 = H 624 17 ∧ RJ g G K ∧ FBt G K)) h (fun _ _ x => Or.inl ⟨rfl, rfl, x⟩) (fun K x1 x2 x3 _ x4 x5 => Or.inr ⟨rfl, rfl, rfl, x1, x2, x3, x4, x5⟩)
  rw [fM_takes, e1, e2, bdN_s, bdN_s]
  rcases z with ⟨rfl, rfl, z⟩ | ⟨rfl, rfl, rfl, z1, z2, z3, z4, z5⟩
  · rw [if_pos rfl, if_pos rfl, bdN_s, if_pos rfl]
    exact RR_i (hE K L z)
  · have h20 : L 624 20 = 632 := z1.1.2.1.1.1.2.2.2.2.2.2.1
    rw [if_neg f0, if_neg f0, if_pos (show kd (L 624 20) = 20 ∧ (0 : Int) ≤ k ∧ k < sz (L 624 20) by rw [h20, sz_632]; exact ⟨kd_632, by omega, by omega⟩)]
    obtain ⟨y, M, e3, ey, m1, m2, m3, m4⟩ := rt_keep z1 hk
    rw [e3, bdN_s, ey, if_neg f0]
    exact hN K M m1 (by rw [m3]; exact z2) (by rw [m3]; exact z3) m2 m4 z4 z5
/-- a number that was looked at is taken -/
theorem rt_take (h : RT C g g' K H) (hk : 0 ≤ k ∧ k < 4) (hn : H 624 18 = 2 ∧ H 624 15 - H 624 16 ≤ 2) (hr : a ≤ H 624 17 ∧ H 624 17 ≤ b) : WN (fun y L => y = 1 ∧ RA C g g' K L ∧ L 625 = H 625 ∧ L 632 k = H 624 17 ∧ ∀ j, ¬ j = k → L 632 j = H 632 j) (fM_takes H 624 k a b) := by
  have tb := TK_b h.1
  have h20 : H 624 20 = 632 := h.1.2.1.1.1.2.2.2.2.2.2.1
  rw [fM_takes, fM_isNumber, if_pos hn.1, fM_tokenLength, bdP_s, w32_r (by omega), if_neg (show ¬ 2 < H 624 15 - H 624 16 by omega), vM_inRange, bdP_s, if_pos hr, if_neg f0, bdN_s, if_neg f0, if_pos (show kd (H 624 20) = 20 ∧ (0 : Int) ≤ k ∧ k < sz (H 624 20) by rw [h20, sz_632]; exact ⟨kd_632, by omega, by omega⟩)]
  exact rt_keep h hk
/-- how a statement ends: both at its semicolon, or both with one error -/
def SE (C : gH → (Int → Int) → Prop) (g g' : gH) (v : Int) (G : gH) (w : Int) (H : gH) : Prop := (v = 1 ∧ w = 1 ∧ RT C g g' G H) ∨ (v = 0 ∧ w = 0 ∧ RE g g' G H)
theorem SE_e : ∀ G H, RE g g' G H → SE C g g' 0 G 0 H := fun _ _ h => Or.inr ⟨rfl, rfl, h⟩
/-- what the reference does behind a statement, up to its next token -/
noncomputable def mt (y : Int) (H : gH) : Option (Int × gH) := if y = 0 then some (0, H) else if H 624 18 = 3 then some (1, H) else bdN (fM_failsAt H 624 1) (fun y17 g19 => some (y17, g19))
/-- the semicolon -/
theorem rr_semi (h : RA C g g' G H) : RR (SE C g g') (fS_takeSemicolon G 575) (mt 1 H) := by
  rw [fS_takeSemicolon]
  refine RR_l (ra_class h) (fun _ K hK => ?_)
  obtain ⟨hT, -, -⟩ := hK
  obtain ⟨⟨q1, q2⟩, q3, q4, q5⟩ := hT.2
  unfold mt
  rw [if_neg f0]
  by_cases c : H 624 18 = 3
  · have q4' : K 575 4 = 3 := by rw [q4, if_neg (fun z => by omega)]; exact c
    rw [if_pos c, q4', if_pos (show (3 : Int) = 3 from rfl)]
    exact RR_i (Or.inl ⟨rfl, rfl, hT⟩)
  · have q4' : ¬ K 575 4 = 3 := by
      rw [q4]
      by_cases c2 : H 624 18 = 2 ∧ 2 < H 624 15 - H 624 16
      · rw [if_pos c2]; omega
      · rw [if_neg c2]; exact c
    rw [if_neg c, if_neg q4']
    exact rr_fail hT (by omega) (fun _ => if_pos rfl) (fun _ => rfl) SE_e
end PAR6
/-! ===== both readers in step: statements (own work) ===== -/
theorem onb : ∀ x : Fin 2, ∀ y : Fin 2, ∀ z : Fin 2, (opI 1 ((x.val : Int) + 2 * (y.val : Int) + 4 * (z.val : Int)) 1 = (x.val : Int) ∧ opI 1 ((x.val : Int) + 2 * (y.val : Int) + 4 * (z.val : Int)) 2 = 2 * (y.val : Int) ∧ opI 1 ((x.val : Int) + 2 * (y.val : Int) + 4 * (z.val : Int)) 4 = 4 * (z.val : Int)) ∧ (x.val = 0 → opI 2 ((x.val : Int) + 2 * (y.val : Int) + 4 * (z.val : Int)) 1 = 1 + 2 * (y.val : Int) + 4 * (z.val : Int)) ∧ (y.val = 0 → opI 2 ((x.val : Int) + 2 * (y.val : Int) + 4 * (z.val : Int)) 2 = (x.val : Int) + 2 + 4 * (z.val : Int)) ∧ (z.val = 0 → opI 2 ((x.val : Int) + 2 * (y.val : Int) + 4 * (z.val : Int)) 4 = (x.val : Int) + 2 * (y.val : Int) + 4) := by decide +kernel
section PAR7
variable {C C' : gH → (Int → Int) → Prop} {g g' G H K A : gH} {r r' : Int → Int} {a b c d e i j k l m n p q s t u v w x y z S : Int}
theorem f2 (h : x = 0 ∨ x = 1) : ∃ f : Fin 2, x = (f.val : Int) := by
  rcases h with h | h
  · exact ⟨0, h⟩
  · exact ⟨1, h⟩
/-- the bit of what was told once, and it told now -/
theorem ON_bit (h : ON G H) (hb : (b = 8 ∧ m = 1) ∨ (b = 9 ∧ m = 2) ∨ (b = 10 ∧ m = 4)) : (opI 1 (H 624 19) m = 0 ↔ G 575 b = 0) ∧ (G 575 b = 0 → ON (pU G 575 b 1) (pU H 624 19 (opI 2 (H 624 19) m))) := by
  obtain ⟨⟨h1, h2, h3⟩, h4⟩ := h
  obtain ⟨x, ex⟩ := f2 h1
  obtain ⟨y, ey⟩ := f2 h2
  obtain ⟨z, ez⟩ := f2 h3
  obtain ⟨⟨o1, o2, o3⟩, o4, o5, o6⟩ := onb x y z
  rw [ex, ey, ez] at h4
  rw [← h4] at o1 o2 o3 o4 o5 o6
  rcases hb with ⟨rfl, rfl⟩ | ⟨rfl, rfl⟩ | ⟨rfl, rfl⟩
  · refine ⟨by rw [o1, ex], fun e => ?_⟩
    unfold ON
    rw [pU_s, u1_s, pU_s, u1_n (show ¬ (9 : Int) = 8 by omega), u1_n (show ¬ (10 : Int) = 8 by omega), u1_s, o4 (by omega)]
    exact ⟨⟨Or.inr rfl, h2, h3⟩, by omega⟩
  · refine ⟨by rw [o2, ey]; omega, fun e => ?_⟩
    unfold ON
    rw [pU_s, u1_n (show ¬ (8 : Int) = 9 by omega), u1_s, u1_n (show ¬ (10 : Int) = 9 by omega), pU_s, u1_s, o5 (by omega)]
    exact ⟨⟨h1, Or.inr rfl, h3⟩, by omega⟩
  · refine ⟨by rw [o3, ez]; omega, fun e => ?_⟩
    unfold ON
    rw [pU_s, u1_n (show ¬ (8 : Int) = 10 by omega), u1_n (show ¬ (9 : Int) = 10 by omega), u1_s, pU_s, u1_s, o6 (by omega)]
    exact ⟨⟨h1, h2, Or.inr rfl⟩, by omega⟩
/-- a statement that stands once -/
theorem rr_once {Φ : Int → gH → Int → gH → Prop} {X Y : gH → Option (Int × gH)} (h : RT C g g' G H) (hb : (b = 8 ∧ m = 1) ∨ (b = 9 ∧ m = 2) ∨ (b = 10 ∧ m = 4)) (hE : ∀ G H, RE g g' G H → Φ 0 G 0 H) (hN : ∀ L, RA C g g' (pU G 575 b 1) L → L 625 = H 625 → RR Φ (X (pU G 575 b 1)) (Y L)) : RR Φ (if G 575 b = 0 then bnd (pU G 575 b 1) (fun g4 => X g4) else bdN (fS_fail G 575 3) (fun y16 g18 => some (y16, g18))) (bdN (fM_startsOnce H 624 m) (fun y g => if y = 0 then some (0, g) else Y g)) := by
  obtain ⟨o1, o2⟩ := ON_bit h.1.2.2.2.2.2.2.1 hb
  rw [fM_startsOnce]
  by_cases c : G 575 b = 0
  · rw [if_pos c, if_pos (o1.mpr c), bnd_s, bnd_s]
    have eP : PF H (pU H 624 19 (opI 2 (H 624 19) m)) := PF_u PF_r (by omega)
    have e9 : ∀ k, ¬ k = 19 → pU H 624 19 (opI 2 (H 624 19) m) 624 k = H 624 k := fun k hk => pU_y hk
    have ex : ∀ x, ¬ x = 624 → pU H 624 19 (opI 2 (H 624 19) m) x = H x := fun x hx => pU_n hx
    have o3 := o2 c
    have hT : RT C g g' (pU G 575 b 1) (pU H 624 19 (opI 2 (H 624 19) m)) := by
      have hM := RL_M h.1
      obtain ⟨⟨h1, h2, h3, h4, h5, h6, h7⟩, hq⟩ := h
      have f6 : pU G 575 b 1 576 = G 576 := pU_n (by omega)
      have f7 : pU G 575 b 1 577 = G 577 := pU_n (by omega)
      have fy : ∀ y, ¬ y = b → pU G 575 b 1 575 y = G 575 y := fun y hy => pU_y hy
      generalize pU H 624 19 (opI 2 (H 624 19) m) = L at *
      have t := h2.2.2.2.2.1
      refine ⟨⟨RI_5 h1 (by omega), RD_PF h2 eP (by unfold TK at t ⊢; rw [e9 16 (by omega), e9 15 (by omega), e9 10 (by omega)]; exact t), ?_, ?_, ?_, ?_, ⟨o3, fun x hx => (pU_n (by omega)).trans (h7.2 x hx)⟩⟩, ?_⟩
      · unfold BB
        rw [f6, f7, e9 10 (by omega), ex 631 (by omega)]
        exact h3
      · rw [ex 625 (by omega)]
        exact ⟨h4.1, h4.1 _ _ _ h4.2 hM (fun x x0 x1 => pU_n (by omega))⟩
      · rw [fy 2 (by omega), fy 3 (by omega)]; exact h5
      · rw [e9 13 (by omega), e9 14 (by omega)]; exact h6
      · unfold TQ
        rw [fy 5 (by omega), fy 6 (by omega), fy 4 (by omega), fy 7 (by omega), ex 631 (by omega), e9 10 (by omega), e9 15 (by omega), e9 16 (by omega), e9 17 (by omega), e9 18 (by omega)]
        exact hq
    obtain ⟨y, L, e, l1, l2⟩ := rt_model hT
    rw [e, bdN_s, bdN_s, if_neg f0]
    exact hN L l1 (by rw [l2.1 625 (by omega), ex 625 (by omega)])
  · rw [if_neg c, if_neg (fun z => c (o1.mp z))]
    obtain ⟨v, K, w, L, e1, e2, rfl, rfl, z⟩ := rt_fail (c := 3) h (by omega)
    rw [e1, e2, bdN_s, bdN_s, bdN_s, if_pos rfl]
    exact RR_i (hE K L z)
theorem bdN_id {X : Option (Int × gH)} : bdN X (fun y g => some (y, g)) = X := by
  cases X with
  | none => rfl
  | some z => rfl
theorem RR_gl {Φ : Int → gH → Int → gH → Prop} {c : Prop} [Decidable c] {X Y Z : Option (Int × gH)} (h : c) (z : RR Φ X Y) : RR Φ (if c then X else Z) Y := by
  rw [if_pos h]; exact z
theorem RR_gm {Φ : Int → gH → Int → gH → Prop} {c : Prop} [Decidable c] {X Y Z : Option (Int × gH)} {f : Int → gH → Option (Int × gH)} (h : c) (z : RR Φ X (bdN Y f)) : RR Φ X (bdN (if c then Y else Z) f) := by
  rw [if_pos h]; exact z
theorem mt_0 : mt 0 G = some (0, G) := if_pos rfl
theorem bdN_mt {X : Option (Int × gH)} {Y : gH → Option (Int × gH)} : bdN (bdN X (fun y g => if y = 0 then some (0, g) else Y g)) mt = bdN X (fun y g => if y = 0 then some (0, g) else bdN (Y g) mt) := by
  cases X with
  | none => rfl
  | some z =>
    obtain ⟨y, K⟩ := z
    show bdN (if y = 0 then some (0, K) else Y K) mt = if y = 0 then some (0, K) else bdN (Y K) mt
    by_cases c : y = 0
    · rw [if_pos c, if_pos c, bdN_s, mt_0]
    · rw [if_neg c, if_neg c]
/-- both fail, the reference up to its next token -/
theorem rr_failm {X : Int → gH → Option (Int × gH)} (h : RT C g g' G H) (hc : ¬ c = 0) (hX : ∀ G, X 0 G = some (0, G)) : RR (SE C' g g') (bdN (fS_fail G 575 c) X) (bdN (bdN (fM_failsAt H 624 c) (fun y g => some (y, g))) mt) := by
  rw [bdN_id]
  exact rr_fail h hc hX (fun _ => mt_0) SE_e
/-- the tree and the row change, the tokens don't -/
theorem RL_up {K' M M' : gH} (h : RLs C g g' K M) (hC : CF C') (hK : RI g K') (eK : ∀ x, x < 578 → K' x = K x) (hM : RD g' M') (eM : ∀ x, ¬ x = 625 → M' x = M x) (hc : C' K' (M' 625)) : RLs C' g g' K' M' := by
  obtain ⟨h1, h2, h3, h4, h5, h6, h7⟩ := h
  have k5 := eK 575 (by omega)
  have m4 := eM 624 (by omega)
  have m1 := eM 631 (by omega)
  refine ⟨hK, hM, ?_, ⟨hC, hc⟩, by rw [k5]; exact h5, by rw [m4]; exact h6, ?_⟩
  · unfold BB
    rw [eK 576 (by omega), eK 577 (by omega), m4, m1]
    exact h3
  · refine ⟨?_, fun x hx => (eK x (by omega)).trans (h7.2 x hx)⟩
    unfold ON
    rw [k5, m4]
    exact h7.1
theorem RA_up {K' M M' : gH} (h : RA C g g' K M) (hC : CF C') (hK : RI g K') (eK : ∀ x, x < 578 → K' x = K x) (hM : RD g' M') (eM : ∀ x, ¬ x = 625 → M' x = M x) (hc : C' K' (M' 625)) : RA C' g g' K' M' := by
  refine ⟨RL_up h.1 hC hK eK hM eM hc, ?_⟩
  have ha := h.2
  unfold TA at ha ⊢
  rw [eK 575 (by omega), eM 624 (by omega), eM 631 (by omega)]
  exact ha
theorem RT_up {K' M M' : gH} (h : RT C g g' K M) (hC : CF C') (hK : RI g K') (eK : ∀ x, x < 578 → K' x = K x) (hM : RD g' M') (eM : ∀ x, ¬ x = 625 → M' x = M x) (hc : C' K' (M' 625)) : RT C' g g' K' M' := by
  refine ⟨RL_up h.1 hC hK eK hM eM hc, ?_⟩
  have ha := h.2
  unfold TQ at ha ⊢
  rw [eK 575 (by omega), eM 624 (by omega), eM 631 (by omega)]
  exact ha
theorem RL_1 (h : RLs C g g' G H) : H 625 1 ≤ 40 := by
  have h0 := RL_M h
  have hx := h.2.1.1.2.1.2.2.2.1.1
  omega
theorem rr_deep (h : RT (CQ 578) g g' G H) : RR (SE (CQ 578) g g') (fS_takeDeep G 575) (bdN (fM_readDeep H 624) mt) := by
  rw [fS_takeDeep, fM_readDeep, bdN_mt]
  refine rr_once h (Or.inr (Or.inl ⟨rfl, rfl⟩)) SE_e (fun L hL eL => ?_)
  rw [bdN_mt]
  refine rr_takes hL (by omega) SE_e (fun K M hM bM vM eM _ kJ kF => ?_)
  have hI := hM.1.1
  have hD := hM.1.2.1
  have m0 := hD.1.1.1
  have m20 : M 624 20 = 632 := hD.1.1.2.2.2.2.2.2.1
  rw [if_pos (kd578 hI.1), r578 hI.1, bnd_s, bdN_id, vM]
  simp (disch := omega) only [m0, m20, kd_625, sz_625, kd_632, sz_632, true_and, le_t, lt_t, and_true, ↓reduceIte, bnd_s, bdN_s]
  have hb := RL_M hM.1
  have hcp := hM.1.2.2.2.1.2
  have e9 : ∀ k, ¬ k = 59 → pU M 625 59 (M 632 0) 625 k = M 625 k := fun k hk => pU_y hk
  have cK : ∀ x y, ¬ (x = 578 ∧ y = 4) → pU K 578 4 (M 632 0) x y = K x y := fun x y z => by
    unfold pU
    rw [if_neg z]
  obtain ⟨⟨p1, p2, p3, p4, p5, p6⟩, q2, q3, -⟩ := hcp
  refine rr_semi (RA_up hM CF_CQ (RI_w hI (by omega)) (fun x hx => pU_n (by omega)) (RD_row hD (WBF_59 hD.1.2.1) (by omega) (by omega)) (fun x hx => pU_n hx) ?_)
  refine CQ_hd hM.1.2.2.2.1.2 hb (RL_1 hM.1) (fun k hk => e9 k (by omega)) (fun x x0 x1 _ _ => pU_n (by omega)) ?_ (fun i i0 i1 => ?_) (fun d d0 d1 => ?_) (RU_e hM.1.2.2.2.1.2.2.2.2.2.2.2.1 (fun k k0 k1 => e9 k (by omega)))
  · rw [cK 578 5 (by omega), cK 578 6 (by omega), cK 578 7 (by omega), cK 578 8 (by omega), cK 578 9 (by omega), e9 2 (by omega), e9 3 (by omega), e9 4 (by omega), pU_s, u1_s, pU_s, u1_s]
    exact ⟨p1, p2, p3, p4, p5, rfl⟩
  · rw [cK _ _ (by omega), e9 5 (by omega), e9 _ (by omega)]
    exact q2 i i0 i1
  · rw [cK _ _ (by omega), e9 _ (by omega)]
    exact q3 d d0 d1
end PAR7
/-! ===== both readers in step: a process by its number (own work) ===== -/
section PAR8
variable {C : gH → (Int → Int) → Prop} {g g' G H K A : gH} {r r' : Int → Int} {a b c d e i j k l m n p q s t u v w x y z S : Int}
theorem aT_at (h : TI G S) (hS : isT S) (h0 : 0 ≤ v) (h1 : v < G S 5) : fT_at G S v = some (pc S v) := by
  have hc := h.2.1
  rw [fT_at, if_neg (show ¬ v < 0 by omega), if_pos h1, if_pos (show v < 40 by omega), TS_1 h.1, if_pos (show kd (S + 2) = 24 ∧ (0 : Int) ≤ v ∧ v < sz (S + 2) by rw [szT2 hS]; exact ⟨kdT2 hS, h0, by omega⟩), (h.1.2 v h0 (by omega)).1]
theorem rr_named {Φ : Int → gH → Int → gH → Prop} {X : Int → gH → Option (Int × gH)} {Y : gH → Option (Int × gH)} (h : RA (CQ 578) g g' G H) (ha : 0 ≤ a) (hE : ∀ G H, RE g g' G H → Φ 0 G 0 H) (hN : ∀ K, RT (CQ 578) g g' K H → (a ≤ H 624 17 ∧ H 624 17 < H 625 0) → K 575 7 = H 624 17 → (H 624 18 = 2 ∧ H 624 15 - H 624 16 ≤ 2) → RJ g G K → FBt G K → RR Φ (X (pc 578 (H 624 17)) K) (Y H)) : RR Φ (bdN (fS_takeNamed G 575 a) (fun y g => if y < 0 then some (0, g) else X y g)) (bdN (fM_isNumber H 624 a (w32 (H 625 0 - 1))) (fun y g => if y = 0 then some (0, g) else Y g)) := by
  have hM := RL_M h.1
  have c5 : G 578 5 = H 625 0 := h.1.2.2.2.1.2.1.1
  have hI := h.1.1
  obtain ⟨v, K, w, L, e1, e2, z⟩ := rr_number (a := a) (b := w32 (H 625 0 - 1)) (Φ := fun v K w L => (v = 0 ∧ w = 0 ∧ RE g g' K L) ∨ (v = 1 ∧ w = 1 ∧ L = H ∧ RT (CQ 578) g g' K H ∧ (a ≤ H 624 17 ∧ H 624 17 ≤ w32 (H 625 0 - 1)) ∧ K 575 7 = H 624 17 ∧ (H 624 18 = 2 ∧ H 624 15 - H 624 16 ≤ 2) ∧ RJ g G K ∧ FBt G K)) h (fun _ _ x => Or.inl ⟨rfl, rfl, x⟩) (fun K x1 x2 x3 x6 x4 x5 => Or.inr ⟨rfl, rfl, rfl, x1, x2, x3, x6, x4, x5⟩)
  rw [fS_takeNamed, if_pos (kd578 hI.1), r578 hI.1, c5, e1, e2, bdN_s, bdN_s]
  rcases z with ⟨rfl, rfl, z⟩ | ⟨rfl, rfl, rfl, z1, z2, z3, z6, z4, z5⟩
  · rw [if_pos rfl, bdN_s, if_pos (show (-1 : Int) < 0 by omega), if_pos rfl]
    exact RR_i (hE K L z)
  · rw [w32_r (by omega)] at z2
    have kI := z1.1.1
    have k5 : K 578 5 = L 625 0 := z1.1.2.2.2.1.2.1.1
    rw [if_neg f0, if_pos (kd578 kI.1), r578 kI.1, z3, aT_at (CR_T kI.1 T578) T578 (by omega) (by omega), bdP_s, bdN_s, if_neg f0]
    have pb := pc_b (T := 578) (i := L 624 17) (by omega)
    rw [if_neg (show ¬ pc 578 (L 624 17) < 0 by omega)]
    exact hN K z1 (by omega) z3 z6 z4 z5
theorem rr_namedT {Φ : Int → gH → Int → gH → Prop} {X : Int → gH → Option (Int × gH)} {Y : gH → Option (Int × gH)} (h : RA (CQ 578) g g' G H) (hk : 0 ≤ k ∧ k < 4) (ha : 0 ≤ a) (hE : ∀ G H, RE g g' G H → Φ 0 G 0 H) (hN : ∀ K L, RA (CQ 578) g g' K L → (a ≤ L 632 k ∧ L 632 k < L 625 0) → K 575 7 = L 632 k → L 625 = H 625 → (∀ j, ¬ j = k → L 632 j = H 632 j) → RJ g G K → FBt G K → RR Φ (X (pc 578 (L 632 k)) K) (Y L)) : RR Φ (bdN (fS_takeNamed G 575 a) (fun y g => if y < 0 then some (0, g) else X y g)) (bdN (fM_takes H 624 k a (w32 (H 625 0 - 1))) (fun y g => if y = 0 then some (0, g) else Y g)) := by
  have hM := RL_M h.1
  have c5 : G 578 5 = H 625 0 := h.1.2.2.2.1.2.1.1
  have hI := h.1.1
  have key := rr_takes (a := a) (b := w32 (H 625 0 - 1)) (k := k) (Φ := Φ) (X := fun K => X (pc 578 (K 575 7)) K) (Y := Y) h hk hE (fun K L h1 h2 h3 h4 h5 h6 h7 => by
    rw [w32_r (by omega)] at h2
    show RR Φ (X (pc 578 (K 575 7)) K) (Y L)
    rw [h3]
    exact hN K L h1 (by rw [h4]; omega) h3 h4 h5 h6 h7)
  obtain ⟨y, K, e, q⟩ := tS_takeNumber (a := a) (b := w32 (H 625 0 - 1)) (RI_J hI)
  rw [fS_takeNamed, if_pos (kd578 hI.1), r578 hI.1, c5, e, bdN_s]
  rw [e, bdN_s] at key
  by_cases c : y = 0
  · rw [if_pos c] at key
    rw [if_pos c, bdN_s, if_pos (show (-1 : Int) < 0 by omega)]
    exact key
  · obtain ⟨v, K', w, L, e1, e2, z⟩ := rr_number (a := a) (b := w32 (H 625 0 - 1)) (Φ := fun v K w L => (v = 0 ∧ w = 0 ∧ RE g g' K L) ∨ (v = 1 ∧ w = 1 ∧ L = H ∧ RT (CQ 578) g g' K H ∧ (a ≤ H 624 17 ∧ H 624 17 ≤ w32 (H 625 0 - 1)) ∧ K 575 7 = H 624 17 ∧ RJ g G K ∧ FBt G K)) h (fun _ _ x => Or.inl ⟨rfl, rfl, x⟩) (fun K x1 x2 x3 _ x4 x5 => Or.inr ⟨rfl, rfl, rfl, x1, x2, x3, x4, x5⟩)
    have ee := Prod.mk.inj (Option.some.inj (e.symm.trans e1))
    rcases z with ⟨v0, -, -⟩ | ⟨-, -, -, z1, z2, z3, -, -⟩
    · exact absurd (ee.1.trans v0) c
    · rw [← ee.2] at z1 z3
      rw [w32_r (by omega)] at z2
      have kI := z1.1.1
      have k5 : K 578 5 = H 625 0 := z1.1.2.2.2.1.2.1.1
      rw [if_neg c] at key
      have pb := pc_b (T := 578) (i := K 575 7) (by omega)
      rw [if_neg c, if_pos (kd578 kI.1), r578 kI.1, aT_at (CR_T kI.1 T578) T578 (by omega) (by omega), bdP_s, bdN_s, if_neg (show ¬ pc 578 (K 575 7) < 0 by omega)]
      exact key
end PAR8
/-! ===== both readers in step: duties, heirs, the root, refusals (own work) ===== -/
section PAR9
variable {C C' : gH → (Int → Int) → Prop} {g g' G H K A : gH} {r r' : Int → Int} {a b c d e i j k l m n p q s t u v w x y z S : Int}
theorem gw_ {M : gH} (h : RA C g g' K M) (hk : 0 ≤ k ∧ k < 780) : kd (M 624 0) = 20 ∧ (0 : Int) ≤ k ∧ k < sz (M 624 0) := gd_w h.1.2.1.1 hk
theorem gT_ {M : gH} (h : RT C g g' K M) (hk : 0 ≤ k ∧ k < 780) : kd (M 624 0) = 20 ∧ (0 : Int) ≤ k ∧ k < sz (M 624 0) := gd_w h.1.2.1.1 hk
theorem m0_ {M : gH} (h : RLs C g g' K M) : M 624 0 = 625 := h.2.1.1.1.1
theorem m20_ {M : gH} (h : RLs C g g' K M) : M 624 20 = 632 := e20 h.2.1.1
theorem g625 (hk : 0 ≤ k ∧ k < 780) : kd 625 = 20 ∧ (0 : Int) ≤ k ∧ k < sz 625 := by rw [sz_625]; exact ⟨kd_625, hk⟩
theorem g632 (hk : 0 ≤ k ∧ k < 4) : kd 632 = 20 ∧ (0 : Int) ≤ k ∧ k < sz 632 := by rw [sz_632]; exact ⟨kd_632, hk⟩
theorem rr_duty (h : RT (CQ 578) g g' G H) : RR (SE (CQ 578) g g') (fS_takeDuty G 575) (bdN (fM_readDuty H 624) mt) := by
  obtain ⟨y, L0, e, hL0, fL0⟩ := rt_model h
  rw [fS_takeDuty, fM_readDuty, e, bdN_s, bdN_mt]
  refine rr_takes hL0 (by omega) SE_e (fun K L hL bL vL eL _ kJ kF => ?_)
  rw [m0_ hL.1]
  refine RR_gm (g625 (by omega)) ?_
  rw [bdN_mt]
  refine rr_namedT hL (by omega) (by omega) SE_e (fun K2 M hM bM vM eM oM kJ2 kF2 => ?_)
  have hI := hM.1.1
  have hD := hM.1.2.1
  have hb := RL_M hM.1
  have m0 := m0_ hM.1
  have m20 := m20_ hM.1
  rw [← oM 0 (by omega)] at bL vL
  have ht := CR_T hI.1 T578
  rw [if_pos (kd578 hI.1), r578 hI.1, vL, fT_giveDuty, if_neg (show ¬ M 632 0 < 0 by omega), if_pos (show M 632 0 < 8 by omega), if_pos (kdp T578 (show 0 ≤ M 632 1 ∧ M 632 1 < 40 by omega)), TS_2 ht.1, if_pos (show kd (578 + 3) = 20 ∧ (0 : Int) ≤ M 632 0 ∧ M 632 0 < sz (578 + 3) by rw [szT3 T578]; exact ⟨kdT3 T578, by omega, by omega⟩), bnd_s, bdN_s, bdN_id, TS_n ht.1 (show 0 ≤ M 632 1 ∧ M 632 1 < 40 by omega)]
  simp (disch := omega) only [m0, m20, kd_625, sz_625, kd_632, sz_632, w32_r, true_and, le_t, lt_t, and_true, ↓reduceIte, bnd_s, bdN_s]
  refine rr_semi (RA_up hM CF_CQ (RI_w hI (by omega)) (fun x hx => pU_n (by omega)) (RD_row hD (WBF_11 hD.1.2.1 (by omega) (by omega) (hD.2.2.2.2.2 _ (by omega) (by omega))) (by omega) (by omega)) (fun x hx => pU_n hx) ?_)
  rw [pU_s]
  exact CQ_d hM.1.2.2.2.1.2 hb (RL_1 hM.1) (by omega)
theorem rr_heir (h : RT (CQ 578) g g' G H) : RR (SE (CQ 578) g g') (fS_takeHeir G 575) (bdN (fM_readHeir H 624) mt) := by
  obtain ⟨y, L0, e, hL0, fL0⟩ := rt_model h
  rw [fS_takeHeir, fM_readHeir, e, bdN_s, m0_ hL0.1]
  refine RR_gm (g625 (by omega)) ?_
  rw [bdN_mt]
  refine rr_named hL0 (by omega) SE_e (fun K hK bK vK nK kJ kF => ?_)
  have hb := RL_M hK.1
  have hcp := hK.1.2.2.2.1.2
  have pe := hcp.2.2.2.1 (L0 624 17) (by omega) (by omega)
  have b1 := pc_b (T := 578) (i := L0 624 17) (by omega)
  refine RR_gl (kdp T578 (by omega)) ?_
  rw [m0_ hL0.1, w32_r (show -2147483648 ≤ 260 + L0 624 17 ∧ 260 + L0 624 17 < 2147483648 by omega)]
  refine RR_gm (g625 (by omega)) ?_
  by_cases c : L0 625 (260 + L0 624 17) = -1
  · rw [if_pos (show K (pc 578 (L0 624 17)) 7 = -1 by rw [pe.1.2.2.2.2.1]; exact c), if_pos c]
    refine RR_gm (g625 (by omega)) ?_
    rw [bdN_mt]
    obtain ⟨y2, L1, e1, rfl, hL1, r1, r2, r3⟩ := rt_take (k := 0) (a := 1) (b := w32 (L0 625 0 - 1)) hK (by omega) nK (by rw [w32_r (by omega)]; omega)
    rw [e1, bdN_s, if_neg f0, m0_ hL1.1]
    refine RR_gm (g625 (by omega)) ?_
    rw [bdN_mt]
    refine rr_named hL1 (by omega) SE_e (fun K2 hK2 bK2 vK2 nK2 kJ2 kF2 => ?_)
    have b2 := pc_b (T := 578) (i := L1 624 17) (by rw [r1] at bK2; omega)
    rw [m20_ hL1.1, r2, m0_ hL1.1]
    refine RR_gm (g632 (by omega)) ?_
    by_cases c2 : L1 624 17 = L0 624 17
    · rw [if_pos c2, if_pos (show pc 578 (L1 624 17) = pc 578 (L0 624 17) by rw [c2])]
      exact rr_failm hK2 (by omega) (fun _ => rfl)
    · rw [if_neg c2, if_neg (fun z => c2 (pc_inj (by omega) (by omega) z))]
      refine RR_gm (g625 (by omega)) ?_
      rw [bdN_mt]
      obtain ⟨y3, L2, e2, rfl, hL2, s1, s2, s3⟩ := rt_take (k := 1) (a := 0) (b := w32 (L1 625 0 - 1)) hK2 (by omega) nK2 (by rw [r1] at bK2 ⊢; rw [w32_r (by omega)]; omega)
      rw [e2, bdN_s, if_neg f0]
      rw [r1] at bK2
      have hI := hL2.1.1
      have hD := hL2.1.2.1
      have ht := CR_T hI.1 T578
      have q0 : L2 632 0 = L0 624 17 := by rw [s3 0 (by omega)]; exact r2
      have eR : L2 625 0 = L0 625 0 := by rw [s1, r1]
      rw [if_pos (kdp T578 (show 0 ≤ L1 624 17 ∧ L1 624 17 < 40 by omega)), bnd_s, bdN_id, TS_n ht.1 (show 0 ≤ L1 624 17 ∧ L1 624 17 < 40 by omega), m20_ hL2.1, m0_ hL2.1, q0, s2, w32_r (show -2147483648 ≤ 260 + L0 624 17 ∧ 260 + L0 624 17 < 2147483648 by omega)]
      refine RR_gm (g632 (by omega)) (RR_gm (g632 (by omega)) (RR_gm (g625 (by omega)) ?_))
      rw [bnd_s, bdN_s]
      refine rr_semi (RA_up hL2 CF_CQ (RI_w hI (by omega)) (fun x hx => pU_n (by omega)) (RD_row hD (WBF_pl hD.1.2.1 (WB_pl hD.1.2.1.1 (by omega) (fun z => by omega) (fun _ => by omega)) (by omega)) (by omega) (by omega)) (fun x hx => pU_n hx) ?_)
      rw [pU_s]
      exact CQ_pf hL2.1.2.2.2.1.2 (RL_M hL2.1) (RL_1 hL2.1) (by omega) (by omega)
  · rw [if_neg (show ¬ K (pc 578 (L0 624 17)) 7 = -1 by rw [pe.1.2.2.2.2.1]; exact c), if_neg c]
    exact rr_failm hK (by omega) (fun _ => rfl)
theorem CF_cap : CF (fun G r => CQ 578 G (u1 r 100 v)) := fun G H r h hr e => CQ_eq h (by rw [u1_n (by omega)]; exact hr) (fun x x0 x1 => e x x0 (by omega))
theorem rr_root (h : RT (CQ 578) g g' G H) : RR (SE (CQ 578) g g') (fS_takeRoot G 575) (bdN (fM_readRoot H 624) mt) := by
  rw [fS_takeRoot, fM_readRoot, bdN_mt]
  refine rr_once h (Or.inr (Or.inr ⟨rfl, rfl⟩)) SE_e (fun L hL eL => ?_)
  rw [bdN_mt]
  refine rr_takes hL (by omega) SE_e (fun K M hM bM vM eM _ kJ kF => ?_)
  have hI := hM.1.1
  have hb := RL_M hM.1
  have hw := hM.1.2.1.1.2.1
  have ht := CR_T hI.1 T578
  have k0 : kd (578 + 1) = 3 := by rw [← pc_0]; exact kdp T578 (by omega)
  rw [if_pos (kd578 hI.1), r578 hI.1, TS_0 ht.1, if_pos k0, bnd_s, vM, bdN_mt]
  have hM2 : RA (fun G r => CQ 578 G (u1 r 100 (M 632 0))) g g' (pU K (578 + 1) 4 (M 632 0)) M := RA_up hM CF_cap (RI_w hI (by omega)) (fun x hx => pU_n (by omega)) hM.1.2.1 (fun _ _ => rfl) (CQ_p0 hM.1.2.2.2.1.2 ⟨hw.1.1.1, hb.2⟩ (RL_1 hM.1) (by omega))
  refine rr_takes hM2 (by omega) SE_e (fun K2 M2 hN bN vN eN oN kJ2 kF2 => ?_)
  have hI2 := hN.1.1
  have hD2 := hN.1.2.1
  have hb2 := RL_M hN.1
  have hw2 := hN.1.2.1.1.2.1
  have ht2 := CR_T hI2.1 T578
  have hc2 : CQ 578 K2 (u1 (M2 625) 100 (M 632 0)) := hN.1.2.2.2.1.2
  rw [← oN 0 (by omega)] at bM hc2
  rw [if_pos (kd578 hI2.1), r578 hI2.1, TS_0 ht2.1, if_pos k0, bnd_s, vN, bdN_id]
  have j0 := m0_ hN.1
  have j20 := m20_ hN.1
  have r1 := RD_row (k := 100) (v := M2 632 0) hD2 (WBF_pl hD2.1.2.1 (WB_pl hD2.1.2.1.1 (by omega) (fun _ => bM) (fun z => by omega)) (by omega)) (by omega) (by omega)
  have q0 := r1.1.1.1
  have q20 : pU M2 625 100 (M2 632 0) 624 20 = 632 := e20 r1.1
  have q32 : pU M2 625 100 (M2 632 0) 632 = M2 632 := pU_n (by omega)
  have q25 : pU M2 625 100 (M2 632 0) 625 = u1 (M2 625) 100 (M2 632 0) := pU_s
  have qx : ∀ x, ¬ x = 625 → pU M2 625 100 (M2 632 0) x = M2 x := fun x hx => pU_n hx
  simp (disch := omega) only [j0, j20, kd_625, sz_625, kd_632, sz_632, true_and, le_t, lt_t, and_true, ↓reduceIte, bnd_s]
  generalize pU M2 625 100 (M2 632 0) = Q at *
  simp (disch := omega) only [q0, q20, kd_625, sz_625, kd_632, sz_632, true_and, le_t, lt_t, and_true, ↓reduceIte, bnd_s, bdN_s]
  rw [q32]
  refine rr_semi (RA_up hN CF_CQ (RI_w hI2 (by omega)) (fun x hx => pU_n (by omega)) (RD_row r1 (WBF_220 r1.1.2.1 bN) (by omega) (by omega)) (fun x hx => by rw [pU_n hx]; exact qx x hx) ?_)
  rw [pU_s, q25]
  exact CQ_p0 hc2 (by rw [u1_n (by omega)]; exact ⟨hw2.1.1.1, hb2.2⟩) (by rw [u1_n (by omega)]; exact RL_1 hN.1) (by omega)
theorem bit1 (x : Int) : opI 1 x 1 = 0 ∨ opI 1 x 1 = 1 := by
  have e : (toI x &&& toI 1).toBitVec = (toI x).toBitVec &&& 1#32 := rfl
  have h : ((toI x).toBitVec &&& 1#32).toNat = (toI x).toBitVec.toNat % 2 := by
    rw [BitVec.toNat_and]
    exact Nat.and_one_is_mod _
  have e2 : opI 1 x 1 = ((toI x).toBitVec &&& 1#32).toInt := rfl
  rw [e2, BitVec.toInt_eq_toNat_cond, h]
  split <;> omega
theorem rr_refusal (h : RT (CQ 578) g g' G H) : RR (SE (CQ 578) g g') (fS_takeRefusal G 575) (bdN (fM_readRefusal H 624) mt) := by
  obtain ⟨y, L0, e, hL0, fL0⟩ := rt_model h
  rw [fS_takeRefusal, fM_readRefusal, e, bdN_s, m0_ hL0.1]
  refine RR_gm (g625 (by omega)) ?_
  rw [bdN_mt]
  refine rr_namedT hL0 (by omega) (by omega) SE_e (fun K L hL bL vL eL oL kJ kF => ?_)
  have hb := RL_M hL.1
  have b1 := pc_b (T := 578) (i := L 632 0) (by omega)
  rw [bdN_mt]
  obtain ⟨v, K2, w, L2, e1, e2, z⟩ := rr_number (a := 0) (b := 9) (Φ := fun v K2 w L2 => (v = 0 ∧ w = 0 ∧ RE g g' K2 L2) ∨ (v = 1 ∧ w = 1 ∧ L2 = L ∧ RT (CQ 578) g g' K2 L ∧ (0 ≤ L 624 17 ∧ L 624 17 ≤ 9) ∧ K2 575 7 = L 624 17 ∧ (L 624 18 = 2 ∧ L 624 15 - L 624 16 ≤ 2))) hL (fun _ _ x => Or.inl ⟨rfl, rfl, x⟩) (fun K2 x1 x2 x3 x6 _ _ => Or.inr ⟨rfl, rfl, rfl, x1, x2, x3, x6⟩)
  rw [e1, e2, bdN_s, bdN_s]
  rcases z with ⟨rfl, rfl, z⟩ | ⟨rfl, rfl, rfl, hK2, b2, v2, n2⟩
  · rw [if_pos rfl, if_pos rfl]
    exact RR_i (SE_e _ _ z)
  · have pe := hK2.1.2.2.2.1.2.2.2.2.1 (L2 632 0) (by omega) (by omega)
    rw [if_neg f0, if_neg f0, m20_ hL.1]
    refine RR_gl (kdp T578 (by omega)) (RR_gm (g632 (by omega)) ?_)
    rw [vM_refuses hL.1.2.1.1.1 (by omega), bdP_s, fP_refuses, v2, pe.1.2.2.2.2.2.1]
    have hbit := bit1 (opI 5 (L2 625 (340 + L2 632 0)) (L2 624 17))
    by_cases c : opI 1 (opI 5 (L2 625 (340 + L2 632 0)) (L2 624 17)) 1 = 1
    · rw [if_pos (show rfs (L2 625) (L2 632 0) (L2 624 17) = true from decide_eq_true c), if_neg f0, if_neg (show ¬ opI 1 (opI 5 (L2 625 (340 + L2 632 0)) (L2 624 17)) 1 = 0 by omega), bdP_s, if_neg f0]
      exact rr_failm hK2 (by omega) (fun _ => rfl)
    · rw [if_neg (show ¬ rfs (L2 625) (L2 632 0) (L2 624 17) = true from fun z => c (of_decide_eq_true z)), if_pos (show (0 : Int) = 0 from rfl), if_pos (show opI 1 (opI 5 (L2 625 (340 + L2 632 0)) (L2 624 17)) 1 = 0 by omega), bdP_s, if_pos (show (0 : Int) = 0 from rfl)]
      rw [bdN_mt]
      obtain ⟨y3, L3, e3, rfl, hL3, s1, s2, s3⟩ := rt_take (k := 1) (a := 0) (b := 9) hK2 (by omega) n2 b2
      rw [e3, bdN_s, if_neg f0]
      have hI := hL3.1.1
      have hD := hL3.1.2.1
      have q0 : L3 632 0 = L2 632 0 := s3 0 (by omega)
      rw [bnd_s, bdN_id, m20_ hL3.1, m0_ hL3.1, q0, s2, s1, w32_r (show -2147483648 ≤ 340 + L2 632 0 ∧ 340 + L2 632 0 < 2147483648 by omega)]
      refine RR_gm (g632 (by omega)) (RR_gm (g625 (by omega)) (RR_gm (g632 (by omega)) (RR_gm (g625 (by omega)) ?_)))
      rw [bnd_s, bdN_s]
      rw [← s1] at bL
      have hb3 := RL_M hL3.1
      refine rr_semi (RA_up hL3 CF_CQ (RI_w hI (by omega)) (fun x hx => pU_n (by omega)) (RD_row hD (WBF_340 hD.1.2.1 (by omega)) (by omega) (by omega)) (fun x hx => pU_n hx) ?_)
      rw [pU_s]
      exact CQ_pf hL3.1.2.2.2.1.2 (RL_M hL3.1) (RL_1 hL3.1) (by omega) (by omega)
end PAR9
/-! ===== both readers in step: processes (own work) ===== -/
section PAR10
variable {C C' : gH → (Int → Int) → Prop} {g g' G H K A : gH} {r r' : Int → Int} {a b c d e i j k l m n p q s t u v w x y z S : Int}
theorem vP_room (h : PE (G c) r i) (hc : 0 ≤ r (100 + i) ∧ r (100 + i) ≤ 9) : fP_room G c = some (room r i) := by
  obtain ⟨⟨a1, a2, -⟩, -, w2, -⟩ := h
  have kb : 0 ≤ kids r i 0 := (cn_bd _ _ _).1
  rw [fP_room, a1, a2, w2]
  unfold room gmax
  by_cases c1 : r (140 + i) = 0
  · rw [if_pos c1, if_pos c1]
    by_cases c2 : kids r i 0 < r (100 + i)
    · rw [if_pos c2, if_pos (by omega), w32_r (by omega)]
    · rw [if_neg c2, if_neg (by omega)]
  · rw [if_neg c1, if_neg c1]
theorem rr_process (h : RT (CQ 578) g g' G H) : RR (SE (CQ 578) g g') (fS_takeProcess G 575) (bdN (fM_readProcess H 624) mt) := by
  have hcp := h.1.2.2.2.1.2
  rw [fS_takeProcess, fM_readProcess, if_pos (kd578 h.1.1.1), r578 h.1.1.1, hcp.1.1, m0_ h.1]
  refine RR_gm (g625 (by omega)) ?_
  by_cases c : 24 < H 625 0
  · rw [if_pos c, if_pos c]
    exact rr_failm h (by omega) (fun _ => rfl)
  rw [if_neg c, if_neg c]
  obtain ⟨y, L0, e, hL0, fL0⟩ := rt_model h
  have eR : L0 625 = H 625 := fL0.1 625 (by omega)
  rw [e, bdN_s, m0_ hL0.1]
  refine RR_gm (g625 (by omega)) ?_
  rw [bdN_mt]
  refine rr_named hL0 (by omega) SE_e (fun K hK bK vK nK kJ kF => ?_)
  have hb := RL_M hK.1
  have hw := hK.1.2.1.1.2.1
  have pe := hK.1.2.2.2.1.2.2.2.2.1 (L0 624 17) (by omega) (by omega)
  refine RR_gl (kdp T578 (by omega)) ?_
  rw [vM_roomOf hK.1.2.1.1.1 hw.1 (by omega), bdP_s, vP_room pe (hw.1.2.2.2.2.2.2 _ (by omega) (by omega)), bdP_s]
  by_cases c2 : room (L0 625) (L0 624 17) = 0
  · rw [if_pos c2, if_pos c2]
    exact rr_failm hK (by omega) (fun _ => rfl)
  rw [if_neg c2, if_neg c2, m0_ hL0.1]
  refine RR_gm (g625 (by omega)) ?_
  rw [bdN_mt]
  obtain ⟨y1, L1, e1, rfl, hL1, r1, r2, r3⟩ := rt_take (k := 0) (a := 0) (b := w32 (L0 625 0 - 1)) hK (by omega) nK (by rw [w32_r (by omega)]; omega)
  rw [e1, bdN_s, if_neg f0, bdN_mt]
  refine rr_takes hL1 (by omega) SE_e (fun K1 M1 hM1 b1 v1 e1 o1 _ _ => ?_)
  rw [bdN_mt]
  refine rr_takes hM1 (by omega) SE_e (fun K2 M2 hM2 b2 v2 e2 o2 _ _ => ?_)
  rw [bdN_mt]
  refine rr_takes hM2 (by omega) SE_e (fun K3 M3 hM3 b3 v3 e3 o3 _ _ => ?_)
  have q0 : M3 632 0 = L0 624 17 := by rw [o3 0 (by omega), o2 0 (by omega), o1 0 (by omega)]; exact r2
  have q1 : M3 632 1 = K1 575 7 := by rw [o3 1 (by omega), o2 1 (by omega)]; exact v1.symm
  have q2 : M3 632 2 = K2 575 7 := by rw [o3 2 (by omega)]; exact v2.symm
  have eR3 : M3 625 = L0 625 := by rw [e3, e2, e1, r1]
  have bb1 : 0 ≤ M3 632 1 ∧ M3 632 1 ≤ 9 := by rw [q1, v1]; exact b1
  rw [← eR3] at bK
  rw [← q0] at bK
  have hI := hM3.1.1
  have hD := hM3.1.2.1
  have hcp3 := hM3.1.2.2.2.1.2
  have h24 : M3 625 0 ≤ 24 := by rw [eR3, eR]; omega
  have hw3 := hD.1.2.1
  have k5 : K3 578 5 = M3 625 0 := hcp3.1.1
  have bj := pc_b (T := 578) (i := M3 632 0) (by omega)
  have hst := hD.2.2.2.2.2
  obtain ⟨A, eA, iA, a1, a2, a3, a4, a5, a6, a7⟩ := vT_arrive (a := M3 632 1) (b := M3 632 2) (d := M3 632 3) (j := M3 632 0) (CR_T hI.1 T578) T578 (by rw [k5]; omega) (by rw [k5]; omega)
  rw [k5] at eA a1 a2 a4 a5 a6 a7
  have pj := hcp3.2.2.2.1 (M3 632 0) (by omega) (by omega)
  have kb := cn_bd (fun c => ic (M3 625) c (M3 632 0) 0) (M3 625 0).toNat 0
  have ek : K3 (pc 578 (M3 632 0)) 3 = kids (M3 625) (M3 632 0) 0 := pj.2.2.1
  have kb2 : 0 ≤ K3 (pc 578 (M3 632 0)) 3 ∧ K3 (pc 578 (M3 632 0)) 3 ≤ 40 := by
    rw [ek]
    unfold kids
    omega
  rw [w32_r (show -2147483648 ≤ K3 (pc 578 (M3 632 0)) 3 + 1 ∧ K3 (pc 578 (M3 632 0)) 3 + 1 < 2147483648 by omega)] at a3
  rw [if_pos (kd578 hI.1), r578 hI.1, ← q0, ← q1, ← q2, v3, eA, bdN_s, bdN_id, m20_ hM3.1]
  refine RR_gm (g632 (by omega)) (RR_gm (g632 (by omega)) (RR_gm (g632 (by omega)) (RR_gm (g632 (by omega)) ?_)))
  rw [vM_comes hD.1.1 (by omega), bdN_s, bdN_s]
  have ho := fun k => cmR_o (r := M3 625) (a := M3 632 0) (c := M3 632 1) (gp := M3 632 2) (b := M3 632 3) (k := k) (by omega)
  refine rr_semi (RA_up hM3 CF_CQ (RI_IT hI iA) (fun x hx => iA.2 x (by omega)) (RD_sw hD (WBF_cm hw3 (by omega) (by omega) (hst _ (by omega) (by omega)) bb1 b3) (fun i i0 i1 => ?_)) (fun x hx => sw_n hx) ?_)
  · rw [cmR_0] at i1
    by_cases ei : i = M3 625 0
    · rw [ei]; exact (cmR_n (r := M3 625) (a := M3 632 0) (c := M3 632 1) (gp := M3 632 2) (b := M3 632 3) (by omega)).2.2.1
    · rw [ho _ (by omega)]; exact hst i i0 (by omega)
  · rw [sw_s]
    exact CQ_cm hcp3 hw3.1 (by omega) (RL_1 hM3.1) (by omega) a1 a2 a3 a4 a5 a6 a7
end PAR10
/-! ===== both readers in step: the order of the rules (own work) ===== -/
theorem msk2 : ∀ m : Fin 32, ∀ y : Fin 5, opI 1 (opI 5 (m.val : Int) (y.val : Int)) 1 = 1 ∨ (∃ j : Fin 32, opI 2 (m.val : Int) (opI 4 1 (y.val : Int)) = (j.val : Int) ∧ pcn j.val = pcn m.val + 1 ∧ ∀ z : Fin 5, (opI 1 (opI 5 (j.val : Int) (z.val : Int)) 1 = 1 ↔ (z = y ∨ opI 1 (opI 5 (m.val : Int) (z.val : Int)) 1 = 1))) := by decide +kernel
theorem pcn_31 : ∀ m : Fin 32, pcn m.val = 5 → ∀ y : Fin 5, opI 1 (opI 5 (m.val : Int) (y.val : Int)) 1 = 1 := by decide +kernel
theorem msk_0 : ∀ y : Fin 5, ¬ opI 1 (opI 5 ((0 : Fin 32).val : Int) (y.val : Int)) 1 = 1 := by decide +kernel
section PAR11
variable {C C' : gH → (Int → Int) → Prop} {g g' G H K A : gH} {r r' : Int → Int} {a b c d e i k l m n p q s t u v w x y z S T : Int}
theorem f5 (h : 0 ≤ y ∧ y < 5) : ∃ f : Fin 5, y = (f.val : Int) := ⟨⟨y.toNat, by omega⟩, by show y = ((y.toNat : Nat) : Int); omega⟩
theorem TQ_k (h : TQ G H) : (G 575 4 = 1 ↔ H 624 18 = 1) ∧ (G 575 4 = 3 ↔ H 624 18 = 3) ∧ (G 575 4 = 0 ↔ H 624 18 = 0) := by
  obtain ⟨-, -, q4, -⟩ := h
  rw [q4]
  by_cases c : H 624 18 = 2 ∧ 2 < H 624 15 - H 624 16
  · rw [if_pos c]; omega
  · rw [if_neg c]; exact ⟨Iff.rfl, Iff.rfl, Iff.rfl⟩
theorem aRule (h : RT C g g' G H) : ∃ y, fS_ruleOfWord G 575 = some y ∧ fM_ruleHere H 624 = some y ∧ (-1 ≤ y ∧ y ≤ 4) ∧ (¬ H 624 18 = 1 → y = -1) := by
  have hc := h.1.1.1
  have hm := h.1.2.1.1
  have tk := h.1.2.1.2.2.2.2.1
  have hb := h.1.2.2.1
  have hq := h.2
  have kz : ∀ (r : Nat) (y : Int), r < 13 → (y = 0 ∨ y = 1) → (y = 1 ↔ WM (H 631) (H 624 16) (H 624 15) r) → (y = 0 ∨ H 624 18 = 1) := by
    intro r y hr hy hw
    rcases hy with hy | hy
    · exact Or.inl hy
    · exact Or.inr (WM_kind hr (hw.mp hy) hq.2.1)
  obtain ⟨y0, s0, m0, b0, w0⟩ := aWord (r := 8) (w := 2000008) (v := 2000021) hc hm tk hb hq (by omega) rfl rfl
  obtain ⟨y1, s1, m1, b1, w1⟩ := aWord (r := 9) (w := 2000009) (v := 2000022) hc hm tk hb hq (by omega) rfl rfl
  obtain ⟨y2, s2, m2, b2, w2⟩ := aWord (r := 10) (w := 2000010) (v := 2000023) hc hm tk hb hq (by omega) rfl rfl
  obtain ⟨y3, s3, m3, b3, w3⟩ := aWord (r := 11) (w := 2000011) (v := 2000024) hc hm tk hb hq (by omega) rfl rfl
  obtain ⟨y4, s4, m4, b4, w4⟩ := aWord (r := 12) (w := 2000012) (v := 2000025) hc hm tk hb hq (by omega) rfl rfl
  have k0 := kz 8 y0 (by omega) b0 w0
  have k1 := kz 9 y1 (by omega) b1 w1
  have k2 := kz 10 y2 (by omega) b2 w2
  have k3 := kz 11 y3 (by omega) b3 w3
  have k4 := kz 12 y4 (by omega) b4 w4
  rw [fS_ruleOfWord, s0, bdP_s, s1, bdP_s, s2, bdP_s, s3, bdP_s, s4, bdP_s, fM_ruleHere, m0, bdP_s, m1, bdP_s, m2, bdP_s, m3, bdP_s, m4, bdP_s]
  by_cases c0 : y0 = 0
  · rw [if_pos c0]
    by_cases c1 : y1 = 0
    · rw [if_pos c1]
      by_cases c2 : y2 = 0
      · rw [if_pos c2]
        by_cases c3 : y3 = 0
        · rw [if_pos c3]
          by_cases c4 : y4 = 0
          · rw [if_pos c4]
            exact ⟨_, rfl, rfl, by omega, fun _ => rfl⟩
          · rw [if_neg c4]
            exact ⟨_, rfl, rfl, by omega, fun _ => by omega⟩
        · rw [if_neg c3]
          exact ⟨_, rfl, rfl, by omega, fun _ => by omega⟩
      · rw [if_neg c2]
        exact ⟨_, rfl, rfl, by omega, fun _ => by omega⟩
    · rw [if_neg c1]
      exact ⟨_, rfl, rfl, by omega, fun _ => by omega⟩
  · rw [if_neg c0]
    exact ⟨_, rfl, rfl, by omega, fun _ => by omega⟩
theorem vT_hasRule (h : TI G T) (hT : isT T) : WP (fun y => (y = 0 ∨ y = 1) ∧ (y = 1 ↔ ∃ i, 0 ≤ i ∧ i < 5 ∧ G (T + 4) i = v)) (fT_hasRule G T v) := by
  have hf := fu_ge
  rw [fT_hasRule, TS_3 h.1, if_pos (kdT4 hT), szT4 hT]
  refine W_loop (W := WP (fun y => (y = 0 ∨ y = 1) ∧ (y = 1 ↔ ∃ i, 0 ≤ i ∧ i < 5 ∧ G (T + 4) i = v))) (fun n (i : Int) => lT_hasRule_11 G v (T + 4) 5 n i) (fun i => (5 - i).toNat) (fun i => (0 ≤ i ∧ i ≤ 5) ∧ ∀ j, 0 ≤ j → j < i → ¬ G (T + 4) j = v) ?_ fu 0 ⟨by omega, fun j j0 j1 => by omega⟩ (by omega)
  intro n i hI ih
  show WP _ (bT_hasRule_11 G v (T + 4) 5 (lT_hasRule_11 G v (T + 4) 5 n) i)
  rw [bT_hasRule_11]
  refine W_ite (fun hi => ?_) (fun hi => WP_i ⟨Or.inl rfl, fun z => absurd z (by omega), fun ⟨j, j0, j1, j2⟩ => absurd j2 (hI.2 j j0 (by omega))⟩)
  rw [if_pos ⟨kdT4 hT, hI.1.1, by rw [szT4 hT]; exact hi⟩, w32_r (by omega)]
  refine W_ite (fun e => WP_i ⟨Or.inr rfl, fun _ => ⟨i, hI.1.1, hi, e⟩, fun _ => rfl⟩) (fun e => ih (i + 1) ⟨by omega, fun j j0 j1 => ?_⟩ (by omega))
  by_cases ej : j = i
  · rw [ej]; exact e
  · exact hI.2 j j0 (by omega)
theorem vT_clearRules (h : TS G T) (hT : isT T) : ∃ H, fT_clearRules G T = some (0, H) ∧ (∀ x, ¬ x = T + 4 → H x = G x) ∧ ∀ i, 0 ≤ i → i < 5 → H (T + 4) i = -1 := by
  have hf := fu_ge
  have key : WN (fun y H => y = 0 ∧ (∀ x, ¬ x = T + 4 → H x = G x) ∧ ∀ i, 0 ≤ i → i < 5 → H (T + 4) i = -1) (lT_clearRules_2 T fu 0 G) := by
    refine W_loop (W := WN (fun y H => y = 0 ∧ (∀ x, ¬ x = T + 4 → H x = G x) ∧ ∀ i, 0 ≤ i → i < 5 → H (T + 4) i = -1)) (fun n (a : Int × gH) => lT_clearRules_2 T n a.1 a.2) (fun a => (5 - a.1).toNat) (fun a => (0 ≤ a.1 ∧ a.1 ≤ 5) ∧ (∀ x, ¬ x = T + 4 → a.2 x = G x) ∧ ∀ i, 0 ≤ i → i < a.1 → a.2 (T + 4) i = -1) ?_ fu (0, G) ⟨by dsimp only; omega, fun _ _ => rfl, fun i i0 i1 => by dsimp only at i1; omega⟩ (by dsimp only; omega)
    rintro n ⟨i, K⟩ ⟨hi, hK, hv⟩ ih
    dsimp only at hi hK hv
    show WN _ (bT_clearRules_2 T (lT_clearRules_2 T n) i K)
    have e3 : K T 3 = T + 4 := by rw [hK T (by omega)]; exact TS_3 h
    rw [bT_clearRules_2]
    refine W_ite (fun h5 => ?_) (fun h5 => WN_i ⟨rfl, hK, fun j j0 j1 => hv j j0 (by omega)⟩)
    rw [e3, if_pos ⟨kdT4 hT, hi.1, by rw [szT4 hT]; exact h5⟩, bnd_s, w32_r (by omega)]
    refine ih (i + 1, pU K (T + 4) i (-1)) ⟨by dsimp only; omega, fun x hx => ?_, fun j j0 j1 => ?_⟩ (by dsimp only; omega)
    · show pU K (T + 4) i (-1) x = G x
      rw [pU_n hx]; exact hK x hx
    · show pU K (T + 4) i (-1) (T + 4) j = -1
      dsimp only at j1
      rw [pU_s]
      by_cases ej : j = i
      · rw [ej, u1_s]
      · rw [u1_n ej]; exact hv j j0 (by omega)
  obtain ⟨y, H, e, rfl, a, b⟩ := key
  exact ⟨H, e, a, b⟩
theorem rr_97 (h : RT (CQ 578) g g' G H) (hk : ¬ H 624 18 = 1) : RR (SE (CQ 578) g g') (jS_takeOrder_97 G 575) (bdN (some (1, H)) mt) := by
  obtain ⟨k1, k3, k0⟩ := TQ_k h.2
  obtain ⟨y, s, -, -, w⟩ := aRule h
  rw [jS_takeOrder_97, bdN_s]
  unfold mt
  rw [if_neg f0]
  by_cases c : H 624 18 = 3
  · rw [if_pos (k3.mpr c), if_pos c]
    exact RR_i (Or.inl ⟨rfl, rfl, h⟩)
  · rw [if_neg (fun z => c (k3.mp z)), if_neg c, s, bdP_s, w hk, if_pos rfl, jS_takeOrder_119, if_pos kd_575]
    exact rr_fail h (by omega) (fun _ => if_pos rfl) (fun _ => rfl) SE_e
/-- the mask says which rules stand -/
def MK (j : Fin 32) (M : gH) : Prop := ∀ z : Fin 5, (opI 1 (opI 5 (j.val : Int) (z.val : Int)) 1 = 1 ↔ ∃ i, 0 ≤ i ∧ i < (pcn j.val : Int) ∧ M 625 (6 + i) = (z.val : Int))
theorem rr_ordl : ∀ (m n1 n2 : Nat) (j : Fin 32) (K M : gH), RT (CQ 578) g g' K M → M 625 5 = (pcn j.val : Int) → MK j M → 5 - pcn j.val = m → m < n1 → m < n2 → RR (SE (CQ 578) g g') (lS_takeOrder_31 575 n1 (pcn j.val : Int) K) (bdN (lM_readOrder_19 624 n2 (j.val : Int) M) mt) := by
  intro m
  induction m with
  | zero =>
    intro n1 n2 j K M h h5 hm hj hn1 hn2
    obtain ⟨n1, rfl⟩ : ∃ k, n1 = k + 1 := ⟨n1 - 1, by omega⟩
    obtain ⟨n2, rfl⟩ : ∃ k, n2 = k + 1 := ⟨n2 - 1, by omega⟩
    have p5 := pcn_5 j
    show RR _ (bS_takeOrder_31 575 (lS_takeOrder_31 575 n1) (pcn j.val : Int) K) (bdN (bM_readOrder_19 624 (lM_readOrder_19 624 n2) (j.val : Int) M) mt)
    rw [bS_takeOrder_31, bM_readOrder_19, if_neg (show ¬ (pcn j.val : Int) < 5 by omega)]
    by_cases c1 : M 624 18 = 1
    · obtain ⟨k1, k3, k0⟩ := TQ_k h.2
      obtain ⟨y, es, em, b, -⟩ := aRule h
      rw [if_pos c1, em, bdP_s, jS_takeOrder_97, if_neg (fun z => by have := k3.mp z; omega), es, bdP_s]
      by_cases c2 : y = -1
      · rw [if_pos c2, if_pos c2, jS_takeOrder_119, if_pos kd_575]
        exact rr_failm h (by omega) (fun _ => if_pos rfl)
      · obtain ⟨f, rfl⟩ := f5 (y := y) (by omega)
        rw [if_neg c2, if_neg c2, if_pos (pcn_31 j (by omega) f), jS_takeOrder_119, if_pos kd_575]
        exact rr_failm h (by omega) (fun _ => if_pos rfl)
    · rw [if_neg c1]
      exact rr_97 h c1
  | succ m ih =>
    intro n1 n2 j K M h h5 hm hj hn1 hn2
    obtain ⟨n1, rfl⟩ : ∃ k, n1 = k + 1 := ⟨n1 - 1, by omega⟩
    obtain ⟨n2, rfl⟩ : ∃ k, n2 = k + 1 := ⟨n2 - 1, by omega⟩
    obtain ⟨k1, k3, k0⟩ := TQ_k h.2
    show RR _ (bS_takeOrder_31 575 (lS_takeOrder_31 575 n1) (pcn j.val : Int) K) (bdN (bM_readOrder_19 624 (lM_readOrder_19 624 n2) (j.val : Int) M) mt)
    rw [bS_takeOrder_31, bM_readOrder_19, if_pos (show (pcn j.val : Int) < 5 by omega)]
    by_cases c1 : M 624 18 = 1
    · obtain ⟨y, es, em, b, -⟩ := aRule h
      rw [if_pos c1, em, bdP_s, if_pos (k1.mpr c1), es, bdP_s]
      by_cases c2 : y = -1
      · rw [if_pos c2, if_pos c2]
        exact rr_failm h (by omega) (fun _ => rfl)
      · obtain ⟨f, rfl⟩ := f5 (y := y) (by omega)
        have hI := h.1.1
        have hD := h.1.2.1
        have ht := CR_T hI.1 T578
        have hcp := h.1.2.2.2.1.2
        obtain ⟨⟨p1, p2, p3, p4, p5, p6⟩, q2, q3, -⟩ := hcp
        obtain ⟨u, eu, u1_, u2⟩ := vT_hasRule (v := (f.val : Int)) ht T578
        have hu : u = 1 ↔ opI 1 (opI 5 (j.val : Int) (f.val : Int)) 1 = 1 := by
          rw [u2, hm f]
          constructor
          · rintro ⟨i, i0, i1, i2⟩
            rw [q2 i i0 i1] at i2
            by_cases ci : i < M 625 5
            · rw [if_pos ci] at i2
              exact ⟨i, i0, by omega, i2⟩
            · rw [if_neg ci] at i2
              exact absurd i2.symm c2
          · rintro ⟨i, i0, i1, i2⟩
            refine ⟨i, i0, by omega, ?_⟩
            rw [q2 i i0 (by omega), if_pos (by omega)]
            exact i2
        rw [if_neg c2, if_neg c2, if_pos (kd578 hI.1), r578 hI.1, eu, bdP_s]
        by_cases c3 : opI 1 (opI 5 (j.val : Int) (f.val : Int)) 1 = 1
        · rw [if_pos c3, if_neg (show ¬ u = 0 by have := hu.mpr c3; omega)]
          exact rr_failm h (by omega) (fun _ => rfl)
        · have u0 : u = 0 := by
            rcases u1_ with u1_ | u1_
            · exact u1_
            · exact absurd (hu.mp u1_) c3
          rcases msk2 j f with e1 | ⟨i, e1, e2, e3⟩
          · exact absurd e1 c3
          have pi := pcn_5 i
          rw [if_neg c3, if_pos u0, TS_3 ht.1, if_pos (show kd (578 + 4) = 20 ∧ (0 : Int) ≤ (pcn j.val : Int) ∧ (pcn j.val : Int) < sz (578 + 4) by rw [szT4 T578]; exact ⟨kdT4 T578, by omega, by omega⟩), bnd_s, m0_ h.1, h5, w32_r (show -2147483648 ≤ (6 : Int) + (pcn j.val : Int) ∧ (6 : Int) + (pcn j.val : Int) < 2147483648 by omega), w32_r (show -2147483648 ≤ (pcn j.val : Int) + 1 ∧ (pcn j.val : Int) + 1 < 2147483648 by omega)]
          refine RR_gm (g625 (by omega)) (RR_gm (g625 (by omega)) ?_)
          rw [bnd_s]
          have r1 := RD_row (k := 6 + (pcn j.val : Int)) (v := (f.val : Int)) hD (WBF_6 hD.1.2.1 (by omega)) (by omega) (by omega)
          have q5 : pU M 625 (6 + (pcn j.val : Int)) (f.val : Int) 625 = u1 (M 625) (6 + (pcn j.val : Int)) (f.val : Int) := pU_s
          have qx : ∀ x, ¬ x = 625 → pU M 625 (6 + (pcn j.val : Int)) (f.val : Int) x = M x := fun x hx => pU_n hx
          generalize pU M 625 (6 + (pcn j.val : Int)) (f.val : Int) = Q at *
          have q55 : Q 625 5 = (pcn j.val : Int) := by rw [q5, u1_n (by omega)]; exact h5
          have hQ0 : Q 624 0 = 625 := r1.1.1.1
          rw [hQ0, q55, w32_r (show -2147483648 ≤ (pcn j.val : Int) + 1 ∧ (pcn j.val : Int) + 1 < 2147483648 by omega)]
          refine RR_gm (g625 (by omega)) (RR_gm (g625 (by omega)) ?_)
          rw [bnd_s]
          have r2 := RD_row (k := 5) (v := (pcn j.val : Int) + 1) r1 (WBF_5 r1.1.2.1 (by omega)) (by omega) (by omega)
          have s5 : pU Q 625 5 ((pcn j.val : Int) + 1) 625 = u1 (u1 (M 625) (6 + (pcn j.val : Int)) (f.val : Int)) 5 ((pcn j.val : Int) + 1) := by rw [pU_s, q5]
          have sx : ∀ x, ¬ x = 625 → pU Q 625 5 ((pcn j.val : Int) + 1) x = M x := fun x hx => by rw [pU_n hx]; exact qx x hx
          generalize pU Q 625 5 ((pcn j.val : Int) + 1) = N at *
          have hT : RT (CQ 578) g g' (pU K (578 + 4) (pcn j.val : Int) (f.val : Int)) N := by
            refine RT_up h CF_CQ (RI_w hI (by omega)) (fun x hx => pU_n (by omega)) r2 sx ?_
            rw [s5]
            refine CQ_hd h.1.2.2.2.1.2 (RL_M h.1) (RL_1 h.1) (fun k hk => by rw [u1_n (by omega), u1_n (by omega)]) (fun x x0 x1 _ x3 => pU_n x3) ?_ (fun x x0 x1 => ?_) (fun d d0 d1 => ?_) (fun x x0 x1 x2 => ?_)
            · rw [pU_n (by omega)]
              simp (disch := omega) only [u1_n]
              exact ⟨p1, p2, p3, p4, p5, p6⟩
            · rw [pU_s, u1_s, u1_n (show ¬ 6 + x = 5 by omega)]
              by_cases ex : x = (pcn j.val : Int)
              · rw [ex, u1_s, u1_s, if_pos (by omega)]
              · rw [u1_n ex, u1_n (by omega), q2 x x0 x1, h5]
                by_cases cx : x < (pcn j.val : Int)
                · rw [if_pos cx, if_pos (by omega)]
                · rw [if_neg cx, if_neg (by omega)]
            · rw [pU_n (by omega), u1_n (by omega), u1_n (by omega)]
              exact q3 d d0 d1
            · rw [u1_s] at x2
              rw [u1_n (show ¬ 6 + x = 5 by omega)]
              by_cases ex : x = (pcn j.val : Int)
              · rw [ex, u1_s]; omega
              · rw [u1_n (by omega)]
                exact h.1.2.2.2.1.2.2.2.2.2.2.2.1 x x0 x1 (by omega)
          obtain ⟨y2, L, eL, hL, fL⟩ := rt_model hT
          rw [eL, bdN_s, e1]
          refine RR_l (ra_class hL) (fun _ K2 hK2 => ?_)
          have e25 : L 625 = u1 (u1 (M 625) (6 + (pcn j.val : Int)) (f.val : Int)) 5 ((pcn j.val : Int) + 1) := by rw [fL.1 625 (by omega), s5]
          have ep : (pcn j.val : Int) + 1 = (pcn i.val : Int) := by omega
          rw [ep]
          refine ih n1 n2 i K2 L hK2.1 (by rw [e25, u1_s]; exact ep) (fun z => ?_) (by omega) (by omega) (by omega)
          rw [e3 z, hm z, e25]
          constructor
          · rintro (rfl | ⟨x, x0, x1, x2⟩)
            · exact ⟨(pcn j.val : Int), by omega, by omega, by rw [u1_n (by omega), u1_s]⟩
            · exact ⟨x, x0, by omega, by rw [u1_n (by omega), u1_n (by omega)]; exact x2⟩
          · rintro ⟨x, x0, x1, x2⟩
            rw [u1_n (by omega)] at x2
            by_cases ex : x = (pcn j.val : Int)
            · rw [ex, u1_s] at x2
              exact Or.inl (Fin.ext (Int.ofNat.inj x2.symm))
            · rw [u1_n (by omega)] at x2
              exact Or.inr ⟨x, x0, by omega, x2⟩
    · rw [if_neg c1, if_neg (fun z => c1 (k1.mp z))]
      exact rr_97 h c1
theorem rr_order (h : RT (CQ 578) g g' G H) : RR (SE (CQ 578) g g') (fS_takeOrder G 575) (bdN (fM_readOrder H 624) mt) := by
  have hf := fu_ge
  rw [fS_takeOrder, fM_readOrder, bdN_mt]
  refine rr_once h (Or.inl ⟨rfl, rfl⟩) SE_e (fun L hL eL => ?_)
  have hI := hL.1.1
  have hD := hL.1.2.1
  have ht := CR_T hI.1 T578
  obtain ⟨A, eA, a1, a2⟩ := vT_clearRules ht.1 T578
  rw [if_pos (kd578 hI.1), r578 hI.1, eA, bdN_s, m0_ hL.1]
  refine RR_gm (g625 (by omega)) ?_
  rw [bnd_s]
  obtain ⟨⟨p1, p2, p3, p4, p5, p6⟩, q2, q3, -⟩ := hL.1.2.2.2.1.2
  have s5 : pU L 625 5 0 625 = u1 (L 625) 5 0 := pU_s
  have hN : RA (CQ 578) g g' A (pU L 625 5 0) := by
    refine RA_up hL CF_CQ (RI_IT hI (IT_e4 ht a1)) (fun x hx => a1 x (by omega)) (RD_row hD (WBF_5 hD.1.2.1 (by omega)) (by omega) (by omega)) (fun x hx => pU_n hx) ?_
    rw [s5]
    refine CQ_hd hL.1.2.2.2.1.2 (RL_M hL.1) (RL_1 hL.1) (fun k hk => by rw [u1_n (by omega)]) (fun x x0 x1 _ x3 => a1 x x3) ?_ (fun x x0 x1 => ?_) (fun d d0 d1 => ?_) (fun x x0 x1 x2 => by rw [u1_s] at x2; omega)
    · rw [a1 578 (by omega)]
      simp (disch := omega) only [u1_n]
      exact ⟨p1, p2, p3, p4, p5, p6⟩
    · rw [a2 x x0 x1, u1_s, if_neg (by omega)]
    · rw [a1 _ (by omega), u1_n (by omega)]
      exact q3 d d0 d1
  refine RR_l (ra_class hN) (fun _ K hK => ?_)
  exact rr_ordl 5 fu fu 0 K (pU L 625 5 0) hK.1 (by rw [s5, u1_s]; rfl) (fun z => ⟨fun x => absurd x (msk_0 z), fun ⟨i, i0, i1, _⟩ => absurd i1 (by
    have : (pcn (0 : Fin 32).val : Int) = 0 := rfl
    omega)⟩) rfl (by omega) (by omega)
end PAR11
/-! ===== wills: a byte a duty (own work) ===== -/
theorem nN : ∀ d : Fin 8, (((toI (opI 0 8 (d.val : Int))).toInt64 &&& 63).toBitVec.smod 64).toNat = 8 * d.val := by decide +kernel
theorem m255 : ∀ i : Fin 64, 8 ≤ i.val → (255#64).getLsbD i.val = false := by decide +kernel
theorem nb41 : ∀ b : Fin 41, (toL (b.val : Int)).toBitVec.toNat = b.val := by decide +kernel
theorem sl_b : ∀ b : Fin 41, ∀ d j : Fin 8, ((b.val <<< (8 * d.val)) >>> (8 * j.val)) % 256 = if j = d then b.val else 0 := by decide +kernel
theorem sl_lt : ∀ b : Fin 41, ∀ d : Fin 8, b.val <<< (8 * d.val) < 2 ^ 64 := by decide +kernel
section PAR12
variable {x v w : Int}
theorem toL_I (i : Int64) : toL i.toInt = i := Int64.toInt_inj.mp (toL_toInt (inL_I64 i))
theorem ss_and (X : BitVec 64) (n : Nat) (hn : n ≤ 56) : (X.sshiftRight n &&& 255#64).toNat = (X.toNat >>> n) % 256 := by
  have e : X.sshiftRight n &&& 255#64 = (X >>> n) &&& 255#64 := by
    apply BitVec.eq_of_getLsbD_eq
    intro i hi
    rw [BitVec.getLsbD_and, BitVec.getLsbD_and]
    by_cases h8 : i < 8
    · rw [BitVec.getLsbD_sshiftRight, BitVec.getLsbD_ushiftRight, if_pos (show n + i < 64 by omega), decide_eq_false (show ¬ 64 ≤ i by omega)]
      rfl
    · rw [m255 ⟨i, hi⟩ (by show 8 ≤ i; omega), Bool.and_false, Bool.and_false]
  rw [e, BitVec.toNat_and, BitVec.toNat_ushiftRight]
  exact Nat.and_two_pow_sub_one_eq_mod _ 8
theorem wl_by (x : Int) (d : Fin 8) : wl x (d.val : Int) = ((((toL x).toBitVec.toNat >>> (8 * d.val)) % 256 : Nat) : Int) - 1 := by
  have hn := nN d
  have e1 : opL 0 (opS 0 x (opI 0 8 (d.val : Int))) 255 = ((toL x >>> ((toI (opI 0 8 (d.val : Int))).toInt64 &&& 63)) &&& toL 255).toInt := by
    show (toL ((toL x >>> ((toI (opI 0 8 (d.val : Int))).toInt64 &&& 63)).toInt) &&& toL 255).toInt = _
    rw [toL_I]
  unfold wl gl2i
  rw [e1, toL_I]
  have h1 : ((toL x >>> ((toI (opI 0 8 (d.val : Int))).toInt64 &&& 63)) &&& toL 255).toBitVec.toNat = ((toL x).toBitVec.toNat >>> (8 * d.val)) % 256 := by
    show ((toL x).toBitVec.sshiftRight (((toI (opI 0 8 (d.val : Int))).toInt64 &&& 63).toBitVec.smod 64).toNat &&& 255#64).toNat = _
    rw [hn]
    exact ss_and _ _ (by omega)
  generalize ((toL x >>> ((toI (opI 0 8 (d.val : Int))).toInt64 &&& 63)) &&& toL 255) = Y at *
  have hm : ((toL x).toBitVec.toNat >>> (8 * d.val)) % 256 < 256 := Nat.mod_lt _ (by omega)
  generalize ((toL x).toBitVec.toNat >>> (8 * d.val)) % 256 = N at *
  have h2 : Y.toInt = (N : Int) := by
    show Y.toBitVec.toInt = _
    rw [BitVec.toInt_eq_toNat_cond, h1, if_pos (by omega)]
  rw [Int64.toInt_toInt32, h2, Int.bmod_eq_of_le (by omega) (by omega), w32_r (by omega)]
theorem wl_add (x : Int) (d j : Fin 8) (v : Int) (hv : 0 ≤ v ∧ v < 40) (hx : wl x (d.val : Int) = -1) : wl (opL 1 x (opS 1 (w32 (v + 1)) (opI 0 8 (d.val : Int)))) (j.val : Int) = if (j.val : Int) = (d.val : Int) then v else wl x (j.val : Int) := by
  obtain ⟨b, hb⟩ : ∃ b : Fin 41, v + 1 = (b.val : Int) := ⟨⟨(v + 1).toNat, by omega⟩, by show v + 1 = (((v + 1).toNat : Nat) : Int); omega⟩
  rw [w32_r (by omega), hb]
  have hn := nN d
  have e1 : toL (opL 1 x (opS 1 (b.val : Int) (opI 0 8 (d.val : Int)))) = toL x ||| (toL (b.val : Int) <<< ((toI (opI 0 8 (d.val : Int))).toInt64 &&& 63)) := by
    show toL ((toL x ||| toL ((toL (b.val : Int) <<< ((toI (opI 0 8 (d.val : Int))).toInt64 &&& 63)).toInt)).toInt) = _
    rw [toL_I, toL_I]
  have e2 : (toL (opL 1 x (opS 1 (b.val : Int) (opI 0 8 (d.val : Int))))).toBitVec.toNat = (toL x).toBitVec.toNat ||| (b.val <<< (8 * d.val)) := by
    rw [e1]
    show ((toL x).toBitVec ||| ((toL (b.val : Int)).toBitVec <<< (((toI (opI 0 8 (d.val : Int))).toInt64 &&& 63).toBitVec.smod 64).toNat)).toNat = _
    rw [hn, BitVec.toNat_or, BitVec.toNat_shiftLeft, nb41, Nat.mod_eq_of_lt (sl_lt b d)]
  have e3 : ∀ A B : Nat, (A ||| B) % 256 = (A % 256) ||| (B % 256) := fun A B => Nat.or_mod_two_pow (n := 8)
  rw [wl_by] at hx
  rw [wl_by, wl_by, e2, Nat.shiftRight_or_distrib, e3, sl_b]
  by_cases e : (j.val : Int) = (d.val : Int)
  · have ej : j = d := Fin.ext (Int.ofNat.inj e)
    rw [if_pos e, if_pos ej]
    have h0 : ((toL x).toBitVec.toNat >>> (8 * j.val)) % 256 = 0 := by
      rw [ej]
      generalize ((toL x).toBitVec.toNat >>> (8 * d.val)) % 256 = N at *
      omega
    rw [h0, Nat.zero_or]
    omega
  · rw [if_neg e, if_neg (fun z => e (by rw [z])), Nat.or_zero]
end PAR12
/-! ===== both readers in step: wills (own work) ===== -/
section PAR13
variable {C C' : gH → (Int → Int) → Prop} {g g' G H K A : gH} {r r' : Int → Int} {a b c d e i j k l m n p q s t u v w x y z S : Int}
theorem rr_will (h : RT (CQ 578) g g' G H) : RR (SE (CQ 578) g g') (fS_takeWill G 575) (bdN (fM_readWill H 624) mt) := by
  obtain ⟨y, L0, e, hL0, fL0⟩ := rt_model h
  rw [fS_takeWill, fM_readWill, e, bdN_s, m0_ hL0.1]
  refine RR_gm (g625 (by omega)) ?_
  rw [bdN_mt]
  refine rr_namedT hL0 (by omega) (by omega) SE_e (fun K L hL bL vL eL oL kJ kF => ?_)
  have hb := RL_M hL.1
  have b1 := pc_b (T := 578) (i := L 632 0) (by omega)
  rw [bdN_mt]
  obtain ⟨v, K2, w, L2, e1, e2, z⟩ := rr_number (a := 0) (b := 7) (Φ := fun v K2 w L2 => (v = 0 ∧ w = 0 ∧ RE g g' K2 L2) ∨ (v = 1 ∧ w = 1 ∧ L2 = L ∧ RT (CQ 578) g g' K2 L ∧ (0 ≤ L 624 17 ∧ L 624 17 ≤ 7) ∧ K2 575 7 = L 624 17 ∧ (L 624 18 = 2 ∧ L 624 15 - L 624 16 ≤ 2))) hL (fun _ _ x => Or.inl ⟨rfl, rfl, x⟩) (fun K2 x1 x2 x3 x6 _ _ => Or.inr ⟨rfl, rfl, rfl, x1, x2, x3, x6⟩)
  rw [e1, e2, bdN_s, bdN_s]
  rcases z with ⟨rfl, rfl, z⟩ | ⟨rfl, rfl, rfl, hK2, b2, v2, n2⟩
  · rw [if_pos rfl, if_pos rfl]
    exact RR_i (SE_e _ _ z)
  have pe := hK2.1.2.2.2.1.2.2.2.2.1 (L2 632 0) (by omega) (by omega)
  rw [if_neg f0, if_neg f0, m20_ hL.1]
  refine RR_gl (kdp T578 (by omega)) (RR_gm (g632 (by omega)) ?_)
  rw [m0_ hL.1, w_460 (by omega) (by omega), fP_willFor, bdP_s]
  refine RR_gm (g625 (by omega)) ?_
  have ew : w32 (gl2i (opL 0 (opS 0 (K2 (pc 578 (L2 632 0)) 14) (opI 0 8 (K2 575 7))) 255) - 1) = L2 625 (460 + 8 * L2 632 0 + L2 624 17) := by
    rw [v2]
    exact pe.2.1 _ b2.1 (by omega)
  rw [ew]
  by_cases c : L2 625 (460 + 8 * L2 632 0 + L2 624 17) = -1
  · rw [if_pos c, if_pos c, bdN_mt]
    obtain ⟨y3, L3, e3, rfl, hL3, s1, s2, s3⟩ := rt_take (k := 1) (a := 0) (b := 7) hK2 (by omega) n2 b2
    rw [e3, bdN_s, if_neg f0, m0_ hL3.1]
    refine RR_gm (g625 (by omega)) ?_
    rw [bdN_mt]
    refine rr_named hL3 (by omega) SE_e (fun K4 hK4 b4 v4 n4 kJ4 kF4 => ?_)
    have q0 : L3 632 0 = L2 632 0 := s3 0 (by omega)
    rw [m20_ hL3.1, q0, m0_ hL3.1]
    refine RR_gm (g632 (by omega)) ?_
    rw [s1] at b4
    by_cases c2 : L3 624 17 = L2 632 0
    · rw [if_pos c2, if_pos (show pc 578 (L3 624 17) = pc 578 (L2 632 0) by rw [c2])]
      exact rr_failm hK4 (by omega) (fun _ => rfl)
    · rw [if_neg c2, if_neg (fun z => c2 (pc_inj (by omega) (by omega) z))]
      refine RR_gm (g625 (by omega)) ?_
      rw [bdN_mt]
      obtain ⟨y5, L5, e5, rfl, hL5, t1, t2, t3⟩ := rt_take (k := 2) (a := 0) (b := w32 (L3 625 0 - 1)) hK4 (by omega) n4 (by rw [s1, w32_r (by omega)]; omega)
      rw [e5, bdN_s, if_neg f0]
      have hI := hL5.1.1
      have hD := hL5.1.2.1
      have ht := CR_T hI.1 T578
      have p0 : L5 632 0 = L2 632 0 := by rw [t3 0 (by omega)]; exact q0
      have p1 : L5 632 1 = L2 624 17 := by rw [t3 1 (by omega)]; exact s2
      have eR : L5 625 = L2 625 := t1.trans s1
      rw [if_pos (kdp T578 (show 0 ≤ L3 624 17 ∧ L3 624 17 < 40 by omega)), fP_addWill, bnd_s, bdN_s, bdN_id, TS_n ht.1 (show 0 ≤ L3 624 17 ∧ L3 624 17 < 40 by omega), v2, m20_ hL5.1, m0_ hL5.1, p0, p1, t2, w_460 (by omega) (by omega)]
      refine RR_gm (g632 (by omega)) (RR_gm (g632 (by omega)) (RR_gm (g632 (by omega)) (RR_gm (g625 (by omega)) ?_)))
      rw [bnd_s, bdN_s]
      have hcp := hL5.1.2.2.2.1.2
      have pe5 := hcp.2.2.2.1 (L2 632 0) (by omega) (by rw [eR]; omega)
      rw [← eR] at b4 hb bL c
      refine rr_semi (RA_up hL5 CF_CQ (RI_w hI (by omega)) (fun x hx => pU_n (by omega)) (RD_row hD (WBF_pl hD.1.2.1 (WB_pl hD.1.2.1.1 (by omega) (fun z => by omega) (fun _ => by omega)) (by omega)) (by omega) (by omega)) (fun x hx => pU_n hx) ?_)
      rw [pU_s]
      obtain ⟨f, ef⟩ := f8 (d := L2 624 17) (by omega)
      refine CQ_wl hcp hb (RL_1 hL5.1) (by omega) (by omega) (fun j j0 j1 => ?_)
      obtain ⟨fj, ej⟩ := f8 ⟨j0, j1⟩
      rw [ej, ef]
      refine wl_add _ f fj _ (by omega) ?_
      rw [← ef, pe5.2.1 _ (by omega) (by omega)]
      exact c
  · rw [if_neg c, if_neg c]
    exact rr_failm hK2 (by omega) (fun _ => rfl)
end PAR13
/-! ===== both readers in step: statements, the text (own work) ===== -/
theorem wd_7 : ∀ r : Nat, r < 7 → ¬ ((wd r).length = (wd 7).length ∧ (wd r).getD 0 0 = (wd 7).getD 0 0) := by decide +kernel
section PAR14
variable {C C' : gH → (Int → Int) → Prop} {g g' G H K M A : gH} {r r' : Int → Int} {a b c d e i j k l m n p q s t u v w x y z S : Int}
theorem rr_w {X : Option (Int × gH)} {Y : Option (Int × gH)} {Φ : Int → gH → Int → gH → Prop} (h : RR Φ X (bdN Y mt)) : RR Φ (bdN X (fun y g => some (y, g))) (bdN (bdN Y (fun y g => some (y, g))) mt) := by
  rw [bdN_id, bdN_id]
  exact h
theorem rr_statement (h : RT (CQ 578) g g' G H) (hk : ¬ H 624 18 = 0) (eK : fS_advance K 575 = some (y, G)) : RR (SE (CQ 578) g g') (fS_takeStatement K 575) (bdN (fM_readStatement H 624) mt) := by
  have hc := h.1.1.1
  have hm := h.1.2.1.1
  have tk := h.1.2.1.2.2.2.2.1
  have hb := h.1.2.2.1
  have hq := h.2
  obtain ⟨k1, k3, k0⟩ := TQ_k hq
  obtain ⟨y0, s0, m0, b0, w0⟩ := aWord (r := 0) (w := 2000000) (v := 2000013) hc hm tk hb hq (by omega) rfl rfl
  obtain ⟨y1, s1, m1, b1, w1⟩ := aWord (r := 1) (w := 2000001) (v := 2000014) hc hm tk hb hq (by omega) rfl rfl
  obtain ⟨y2, s2, m2, b2, w2⟩ := aWord (r := 2) (w := 2000002) (v := 2000015) hc hm tk hb hq (by omega) rfl rfl
  obtain ⟨y3, s3, m3, b3, w3⟩ := aWord (r := 3) (w := 2000003) (v := 2000016) hc hm tk hb hq (by omega) rfl rfl
  obtain ⟨y4, s4, m4, b4, w4⟩ := aWord (r := 4) (w := 2000004) (v := 2000017) hc hm tk hb hq (by omega) rfl rfl
  obtain ⟨y5, s5, m5, b5, w5⟩ := aWord (r := 5) (w := 2000005) (v := 2000018) hc hm tk hb hq (by omega) rfl rfl
  obtain ⟨y6, s6, m6, b6, w6⟩ := aWord (r := 6) (w := 2000006) (v := 2000019) hc hm tk hb hq (by omega) rfl rfl
  obtain ⟨y7, s7, m7, b7, w7⟩ := aWord (r := 7) (w := 2000007) (v := 2000020) hc hm tk hb hq (by omega) rfl rfl
  have one : ∀ (r : Nat) (y : Int), r < 7 → (y = 0 ∨ y = 1) → (y = 1 ↔ WM (H 631) (H 624 16) (H 624 15) r) → ¬ y7 = 0 → y = 0 := by
    intro r y hr hy hw h7
    rcases hy with hy | hy
    · exact hy
    · exfalso
      have h7 : y7 = 1 := by omega
      obtain ⟨t1, t2⟩ := WM_two (hw.mp hy) (w7.mp h7)
      exact wd_7 r hr ⟨t1, t2 (wd_ok r (by omega)).1⟩
  rw [fS_takeStatement, eK, bdN_s, if_neg (fun z => hk (k0.mp z)), s0, bdP_s, s1, bdP_s, s2, bdP_s, s3, bdP_s, s4, bdP_s, s5, bdP_s, s6, bdP_s, s7, bdP_s, fM_readStatement, m0, bdP_s, m1, bdP_s, m2, bdP_s, m7, bdP_s, m3, bdP_s, m4, bdP_s, m5, bdP_s, m6, bdP_s]
  by_cases c0 : y0 = 0
  · rw [if_pos c0, if_pos c0]
    by_cases c1 : y1 = 0
    · rw [if_pos c1, if_pos c1]
      by_cases c2 : y2 = 0
      · rw [if_pos c2, if_pos c2]
        by_cases c7 : y7 = 0
        · rw [if_pos c7, if_pos c7]
          by_cases c3 : y3 = 0
          · rw [if_pos c3, if_pos c3]
            by_cases c4 : y4 = 0
            · rw [if_pos c4, if_pos c4]
              by_cases c5 : y5 = 0
              · rw [if_pos c5, if_pos c5]
                by_cases c6 : y6 = 0
                · rw [if_pos c6, if_pos c6]
                  exact rr_failm h (by omega) (fun _ => rfl)
                · rw [if_neg c6, if_neg c6]
                  exact rr_w (rr_refusal h)
              · rw [if_neg c5, if_neg c5]
                exact rr_w (rr_duty h)
            · rw [if_neg c4, if_neg c4]
              exact rr_w (rr_heir h)
          · rw [if_neg c3, if_neg c3]
            exact rr_w (rr_process h)
        · have c3 := one 3 y3 (by omega) b3 w3 c7
          have c4 := one 4 y4 (by omega) b4 w4 c7
          have c5 := one 5 y5 (by omega) b5 w5 c7
          have c6 := one 6 y6 (by omega) b6 w6 c7
          rw [if_neg c7, if_neg c7, if_pos c3, if_pos c4, if_pos c5, if_pos c6]
          exact rr_w (rr_will h)
      · rw [if_neg c2, if_neg c2]
        exact rr_w (rr_root h)
    · rw [if_neg c1, if_neg c1]
      exact rr_w (rr_deep h)
  · rw [if_neg c0, if_neg c0]
    exact rr_w (rr_order h)
theorem vM_fails0 : ∃ H, fM_failsAt G 624 c = some (0, H) := by
  rw [fM_failsAt]
  by_cases h : G 624 13 = 0
  · rw [if_pos h, bnd_s, bnd_s]; exact ⟨_, rfl⟩
  · rw [if_neg h]; exact ⟨_, rfl⟩
theorem mt_text {X : Option (Int × gH)} {Y : gH → Option (Int × gH)} : bdN X (fun y4 g6 => if y4 = 0 then some (0, g6) else if g6 624 18 = 3 then bdN (fM_advanceToken g6 624) (fun y13 g15 => Y g15) else bdN (fM_failsAt g6 624 1) (fun y17 g19 => some (y17, g19))) = bdN (bdN X mt) (fun y g => if y = 0 then some (0, g) else bdN (fM_advanceToken g 624) (fun _ g => Y g)) := by
  cases X with
  | none => rfl
  | some z =>
    obtain ⟨y, K⟩ := z
    show (if y = 0 then some (0, K) else if K 624 18 = 3 then bdN (fM_advanceToken K 624) (fun y13 g15 => Y g15) else bdN (fM_failsAt K 624 1) (fun y17 g19 => some (y17, g19))) = bdN (mt y K) _
    unfold mt
    by_cases c : y = 0
    · rw [if_pos c, if_pos c, bdN_s, if_pos rfl]
    · rw [if_neg c, if_neg c]
      by_cases c3 : K 624 18 = 3
      · rw [if_pos c3, if_pos c3, bdN_s, if_neg f0]
      · obtain ⟨H, e⟩ := vM_fails0 (G := K) (c := 1)
        rw [if_neg c3, if_neg c3, e, bdN_s, bdN_s, if_pos rfl]
theorem mt_1 (h : bdN (some (y, K)) mt = some (1, H)) : H = K := by
  rw [bdN_s] at h
  unfold mt at h
  by_cases c : y = 0
  · rw [if_pos c] at h
    exact absurd (Prod.mk.inj (Option.some.inj h)).1 (by omega)
  · rw [if_neg c] at h
    by_cases c3 : K 624 18 = 3
    · rw [if_pos c3] at h
      exact (Prod.mk.inj (Option.some.inj h)).2.symm
    · obtain ⟨L, e⟩ := vM_fails0 (G := K) (c := 1)
      rw [if_neg c3, e, bdN_s] at h
      exact absurd (Prod.mk.inj (Option.some.inj h)).1 (by omega)
theorem IsT_gt {F : Int → Int} (h : IsT F n s k t) (hk : ¬ k = 0) : s < n ∧ s < t := by
  rcases h with ⟨a1, a2, a3⟩ | ⟨a1, a2, a3⟩
  · exact absurd a2 hk
  · refine ⟨a1, ?_⟩
    rcases a3 with ⟨c1, c2⟩ | ⟨c1, c2⟩
    · have b := c2.1
      by_cases e : t = s
      · exfalso
        rw [e] at c2
        exact c2.2.2 a1 a2.symm
      · omega
    · omega
theorem lC_0 {n : Nat} : lC_loadTree_11 0 (n + 1) 0 j G = jC_loadTree_36 G 0 := by
  show bC_loadTree_11 0 (lC_loadTree_11 0 n) 0 j G = _
  rw [bC_loadTree_11]
  by_cases c : j < 500
  · rw [if_pos c, if_pos rfl]
  · rw [if_neg c]
/-- both read to the end, or to one error -/
theorem rr_text : ∀ (m n1 n2 : Nat) (i : Int) (K M : gH), RA (CQ 578) g g' K M → (0 ≤ i ∧ i ≤ K 575 6) → (500 - K 575 6).toNat < m → m + 1 < n1 → m < n2 → ∃ G H y, lC_loadTree_11 0 n1 1 i K = jC_loadTree_36 G 0 ∧ lM_readText_0 624 n2 M = some (y, H) ∧ ((y = 1 ∧ RLs (CQ 578) g g' G H) ∨ (y = 0 ∧ RE g g' G H)) := by
  intro m
  induction m with
  | zero => intro n1 n2 i K M h hi hm; exact absurd hm (Nat.not_lt_zero _)
  | succ m ih =>
    intro n1 n2 i K M h hi hm hn1 hn2
    obtain ⟨n1, rfl⟩ : ∃ k, n1 = k + 2 := ⟨n1 - 2, by omega⟩
    obtain ⟨n2, rfl⟩ : ∃ k, n2 = k + 1 := ⟨n2 - 1, by omega⟩
    have hI := h.1.1
    have hl := rlen hI.1
    have h6 := hI.2
    have h10 := h.1.2.2.1.1
    obtain ⟨yk, K1, e1, hT, kJ, kF⟩ := ra_class h
    obtain ⟨k1, k3, k0⟩ := TQ_k hT.2
    have eC : lC_loadTree_11 0 (n1 + 2) 1 i K = bC_loadTree_11 0 (lC_loadTree_11 0 (n1 + 1)) 1 i K := rfl
    have eM : lM_readText_0 624 (n2 + 1) M = bM_readText_0 624 (lM_readText_0 624 n2) M := rfl
    rw [eC, eM, bC_loadTree_11, bM_readText_0]
    by_cases c : M 624 18 = 0
    · rw [if_pos c]
      by_cases ci : i < 500
      · rw [if_pos ci, if_neg f0, cr4 hI.1, if_pos kd_575, fS_takeStatement, e1, bdN_s, if_pos (k0.mpr c), bdN_s, lC_0]
        exact ⟨K1, M, 1, rfl, rfl, Or.inl ⟨rfl, hT.1⟩⟩
      · rw [if_neg ci]
        exact ⟨K, M, 1, rfl, rfl, Or.inl ⟨rfl, h.1⟩⟩
    · have ta := h.2
      have tg := IsT_gt ta.2.1 c
      have ti := ta.1.1
      rw [if_neg c, if_pos (show i < 500 by omega), if_neg f0, cr4 hI.1, if_pos kd_575, mt_text]
      obtain ⟨ys, Hs, es, -, ps⟩ := rs_statement hT.1.2.1
      obtain ⟨v, G1, w, H1, ec, em, z⟩ := rr_statement hT c e1
      rw [em, bdN_s, ec, bdN_s, w32_r (by omega)]
      rcases z with ⟨rfl, rfl, z⟩ | ⟨rfl, rfl, z⟩
      · rw [es] at em
        have eH := mt_1 em
        rw [← eH] at ps
        have q1 := z.2.1.2
        have q2 := hT.2.1.2
        obtain ⟨yl, L, el, hL, fL⟩ := rt_model z
        have g1 := rlen z.1.1.1
        have g2 := z.1.1.2
        rw [if_neg f0, el, bdN_s]
        exact ih (n1 + 1) n2 (i + 1) G1 L hL (by omega) (by omega) (by omega) (by omega)
      · rw [if_pos rfl, lC_0]
        exact ⟨G1, H1, 0, rfl, rfl, Or.inr ⟨rfl, z⟩⟩
end PAR14
/-! ===== the class's trees: a copy, a fresh one (own work) ===== -/
section PAR15
variable {C C' : gH → (Int → Int) → Prop} {g g' G H K M A : gH} {r r' : Int → Int} {a b c d e i j k l m n p q s t u v w x y z S T : Int}
theorem vP_take (hd : kd d = 3) (hn : ¬ d = c) : ∃ B, fP_take g c d = some (0, B) ∧ (∀ x, ¬ x = c → B x = g x) ∧ (B c 0 = g c 0 ∧ B c 2 = g c 2) ∧ ∀ y, 1 ≤ y → y ≤ 14 → ¬ y = 2 → B c y = g d y := by
  rw [fP_take, if_pos hd]
  simp only [bnd_s, pU_n hn]
  refine ⟨_, rfl, fun x hx => by simp only [pU_n hx], ⟨?_, ?_⟩, fun y y0 y1 y2 => ?_⟩
  · simp (disch := omega) only [pU_y]
  · simp (disch := omega) only [pU_y]
  · have hy : y = 1 ∨ y = 3 ∨ y = 4 ∨ y = 5 ∨ y = 6 ∨ y = 7 ∨ y = 8 ∨ y = 9 ∨ y = 10 ∨ y = 11 ∨ y = 12 ∨ y = 13 ∨ y = 14 := by omega
    rcases hy with rfl | rfl | rfl | rfl | rfl | rfl | rfl | rfl | rfl | rfl | rfl | rfl | rfl <;> simp (disch := omega) only [pU_s, u1_s, u1_n]
/-- the tree T of H is a copy of the tree S of G -/
def TC (S T : Int) (G H : gH) : Prop := (∀ y, 4 ≤ y → y ≤ 9 → H T y = G S y) ∧ (∀ d, 0 ≤ d → d < 8 → H (T + 3) d = G (S + 3) d) ∧ (∀ i, 0 ≤ i → i < 5 → H (T + 4) i = G (S + 4) i) ∧ ∀ k, 0 ≤ k → k < 40 → (∀ y, 1 ≤ y → y ≤ 14 → ¬ y = 2 → H (pc T k) y = G (pc S k) y) ∧ H (pc T k) 2 = if G (pc S k) 2 < 0 then -1 else pc T (sp G S k)
theorem vT_take (hs : TS g T) (hT : isT T) (hS : isT S) (h : TI g S) (hn : ¬ T = S) : WN (fun y G => y = 0 ∧ TC S T g G) (fT_take g T S) := by
  have hfu := fu_ge
  have hdis := dis_Ts T hT S hS
  have hc := h.2.1
  rw [fT_take, if_pos (kdT hS), bnd_s]
  have z1 : TF T g (pU g T 5 (g S 5)) := TF_pU TF_r (by omega)
  have z2 : TS (pU g T 5 (g S 5)) T := TS_eq hs (fun k _ _ => pU_y (by omega)) (pU_n (by omega)) (fun i i0 i1 => by have := pc_b (T := T) ⟨i0, i1⟩; rw [pU_n (by omega)])
  have z3 : pU g T 5 (g S 5) T 5 = g S 5 := by rw [pU_s, u1_s]
  refine W_loop (W := WN (fun y G => y = 0 ∧ TC S T g G)) (fun n (a : Int × gH) => lT_take_10 T S n a.1 a.2) (fun a => (40 - a.1).toNat) (fun a => (0 ≤ a.1 ∧ a.1 ≤ 40) ∧ TF T g a.2 ∧ TS a.2 T ∧ a.2 T 5 = g S 5 ∧ ∀ k, 0 ≤ k → k < a.1 → (∀ y, 1 ≤ y → y ≤ 14 → ¬ y = 2 → a.2 (pc T k) y = g (pc S k) y) ∧ a.2 (pc T k) 2 = (if g (pc S k) 2 < 0 then -1 else pc T (sp g S k))) ?_ fu (0, _) ⟨by dsimp only; omega, z1, z2, z3, fun k k0 k1 => absurd k0 (by dsimp only at k1; omega)⟩ (by dsimp only; omega)
  clear z1 z2 z3
  rintro n ⟨i, G⟩ hI ih
  have i0 : 0 ≤ i := hI.1.1
  have i1 : i ≤ 40 := hI.1.2
  have gF : TF T g G := hI.2.1
  have gS : TS G T := hI.2.2.1
  have g5 : G T 5 = g S 5 := hI.2.2.2.1
  have gk : ∀ k, 0 ≤ k → k < i → (∀ y, 1 ≤ y → y ≤ 14 → ¬ y = 2 → G (pc T k) y = g (pc S k) y) ∧ G (pc T k) 2 = (if g (pc S k) 2 < 0 then -1 else pc T (sp g S k)) := hI.2.2.2.2
  clear hI
  have eS : ∀ x, S ≤ x → x < S + 44 → G x = g x := fun x x0 x1 => gF x (by omega)
  show WN _ (bT_take_10 T S (lT_take_10 T S n) i G)
  rw [bT_take_10]
  refine W_ite (fun hi => ?_) (fun hi => ?_)
  · have hi : 0 ≤ i ∧ i < 40 := ⟨i0, hi⟩
    have bi := pc_b (T := T) hi
    have bs := pc_b (T := S) hi
    have e1 : G S 1 = S + 2 := by rw [eS S (by omega) (by omega)]; exact TS_1 h.1
    have e2 : G (S + 2) i = pc S i := by rw [eS _ (by omega) (by omega)]; exact TS_p h.1 hi
    have e3 := TS_1 gS
    have e4 := TS_p gS hi
    have h24 : ∀ {U : Int}, isT U → kd (U + 2) = 24 ∧ (0 : Int) ≤ i ∧ i < sz (U + 2) := fun hU => ⟨kdT2 hU, i0, by rw [szT2 hU]; exact hi.2⟩
    rw [e1, e3, if_pos (kdT hS), if_pos (h24 hS), if_pos (h24 hT), e2, e4, if_pos (kdp hT hi)]
    obtain ⟨A, eA, a1, ⟨a2, a3⟩, a4⟩ := vP_take (g := G) (c := pc T i) (kdp hS hi) (by omega)
    rw [eA, bdN_s]
    have aT : A T = G T := a1 T (by omega)
    have a2T : A (T + 2) = G (T + 2) := a1 _ (by omega)
    have aS : ∀ x, S ≤ x → x < S + 44 → A x = g x := fun x x0 x1 => by rw [a1 x (by omega)]; exact eS x x0 x1
    have sA : TS A T := TS_eq gS (fun k _ _ => by rw [aT]) a2T (fun k k0 k1 => by
      by_cases e : k = i
      · rw [e]; exact a2
      · rw [a1 _ (pc_ne k0 i0 e)])
    have nx : ∀ z, z = (if g (pc S i) 2 < 0 then -1 else pc T (sp g S i)) → WN (fun y G => y = 0 ∧ TC S T g G) (lT_take_10 T S n (w32 (i + 1)) (pU A (pc T i) 2 z)) := by
      intro z hz
      rw [w32_r (by omega)]
      refine ih (i + 1, pU A (pc T i) 2 z) ⟨by dsimp only; omega, ?_, ?_, ?_, fun k k0 k1 => ?_⟩ (by dsimp only; omega)
      · exact TF_pU (fun x hx => (a1 x (by omega)).trans (gF x hx)) (by omega)
      · exact TS_eq sA (fun k _ _ => by show pU A (pc T i) 2 z T k = _; rw [pU_n (by omega)]) (pU_n (by omega)) (fun k k0 k1 => pU_y (by omega))
      · show pU A (pc T i) 2 z T 5 = _
        rw [pU_n (by omega), aT]; exact g5
      · have k1 : k < i + 1 := k1
        show (∀ y, 1 ≤ y → y ≤ 14 → ¬ y = 2 → pU A (pc T i) 2 z (pc T k) y = _) ∧ pU A (pc T i) 2 z (pc T k) 2 = _
        by_cases e : k = i
        · rw [e]
          refine ⟨fun y y0 y1 y2 => ?_, ?_⟩
          · rw [pU_y y2, a4 y y0 y1 y2, eS _ (by omega) (by omega)]
          · rw [pU_s, u1_s]; exact hz
        · rw [pU_n (pc_ne k0 i0 e), a1 _ (pc_ne k0 i0 e)]
          exact gk k k0 (by omega)
    rw [aT, e3, if_pos (h24 hT), if_pos (kdp hS hi), aS (pc S i) (by omega) (by omega), a2T, e4, if_pos (kdp hT hi)]
    refine W_ite (fun hneg => ?_) (fun hpos => ?_)
    · rw [bnd_s]
      exact nx _ (by rw [if_pos hneg])
    · have hi2 := hang_ h hi hpos
      have hs2 := sp_rg h (by omega) hi2.2
      have bj := pc_b (T := S) (i := sp g S i) ⟨by omega, by omega⟩
      rw [if_pos (by rw [hs2.2]; exact kdp hS (by omega)), hs2.2, aS _ (by omega) (by omega), TS_n h.1 (by omega), vT_atS sA hT (by rw [aT, g5]; exact hc.2), bdP_s, aT, g5, if_pos hs2.1, if_pos (kdp hT hi), bnd_s]
      exact nx _ (by rw [if_neg hpos])
  · have e40 : i = 40 := by omega
    subst e40
    have e2 : G S 2 = S + 3 := by rw [eS S (by omega) (by omega)]; exact TS_2 h.1
    have e3 : G S 3 = S + 4 := by rw [eS S (by omega) (by omega)]; exact TS_3 h.1
    have t2 := TS_2 gS
    have t3 := TS_3 gS
    have hST : ¬ S = T := fun z => hn z.symm
    rw [jT_take_70, if_pos (kdT hS), e2, t2, if_pos ⟨⟨kdT3 hS, kdT3 hT⟩, by omega, by rw [szT3 hS]; omega, by rw [szT3 hT]; omega⟩, bnd_s]
    have c3 : cpyG G (S + 3) (T + 3) 8 S 3 = S + 4 := by rw [cpyG_n (by omega)]; exact e3
    have c4 : cpyG G (S + 3) (T + 3) 8 T 3 = T + 4 := by rw [cpyG_n (by omega)]; exact t3
    have c5 : ∀ x, ¬ x = T + 3 → cpyG G (S + 3) (T + 3) 8 x = G x := fun x hx => cpyG_n hx
    have c6 : ∀ d, 0 ≤ d → d < 8 → cpyG G (S + 3) (T + 3) 8 (T + 3) d = g (S + 3) d := fun d d0 d1 => by
      unfold cpyG
      rw [if_pos ⟨rfl, d0, d1⟩, eS _ (by omega) (by omega)]
    generalize cpyG G (S + 3) (T + 3) 8 = D at *
    rw [c3, c4, if_pos ⟨⟨kdT4 hS, kdT4 hT⟩, by omega, by rw [szT4 hS]; omega, by rw [szT4 hT]; omega⟩, bnd_s]
    have d5 : ∀ x, ¬ x = T + 4 → cpyG D (S + 4) (T + 4) 5 x = D x := fun x hx => cpyG_n hx
    have d6 : ∀ i, 0 ≤ i → i < 5 → cpyG D (S + 4) (T + 4) 5 (T + 4) i = g (S + 4) i := fun i i0 i1 => by
      unfold cpyG
      rw [if_pos ⟨rfl, i0, i1⟩, c5 _ (by omega), eS _ (by omega) (by omega)]
    generalize cpyG D (S + 4) (T + 4) 5 = E at *
    have eES : E S = g S := by rw [d5 _ (by omega), c5 _ (by omega), eS _ (by omega) (by omega)]
    have eET : E T = G T := by rw [d5 _ (by omega), c5 _ (by omega)]
    simp only [bnd_s, pU_n hST, eES]
    refine WN_i ⟨rfl, fun y y0 y1 => ?_, fun d d0 d1 => ?_, fun i i0 i1 => ?_, fun k k0 k1 => ?_⟩
    · have hy : y = 4 ∨ y = 5 ∨ y = 6 ∨ y = 7 ∨ y = 8 ∨ y = 9 := by omega
      rcases hy with rfl | rfl | rfl | rfl | rfl | rfl
      · simp (disch := omega) only [pU_s, u1_s, u1_n]
      · simp (disch := omega) only [pU_s, u1_s, u1_n, eET]; exact g5
      · simp (disch := omega) only [pU_s, u1_s, u1_n]
      · simp (disch := omega) only [pU_s, u1_s, u1_n]
      · simp (disch := omega) only [pU_s, u1_s, u1_n]
      · simp (disch := omega) only [pU_s, u1_s, u1_n]
    · simp only [pU_n (show ¬ T + 3 = T by omega)]
      rw [d5 _ (by omega)]
      exact c6 d d0 d1
    · simp only [pU_n (show ¬ T + 4 = T by omega)]
      exact d6 i i0 i1
    · have bk := pc_b (T := T) (i := k) ⟨k0, k1⟩
      simp only [pU_n (show ¬ pc T k = T by omega)]
      rw [d5 _ (by omega), c5 _ (by omega)]
      exact gk k k0 k1
theorem PE_f {f f' : Int → Int} (h : PE f r i) (e : ∀ y, 1 ≤ y → y ≤ 14 → ¬ y = 2 → f' y = f y) : PE f' r i := by
  obtain ⟨⟨a1, a2, a3, a4, a5, a6, a7, a8, a9⟩, b, c, d⟩ := h
  refine ⟨⟨?_, ?_, ?_, ?_, ?_, ?_, ?_, ?_, ?_⟩, fun x x0 x1 => ?_, ?_, fun z => ?_⟩
  · rw [e 1 (by omega) (by omega) (by omega)]; exact a1
  · rw [e 4 (by omega) (by omega) (by omega)]; exact a2
  · rw [e 5 (by omega) (by omega) (by omega)]; exact a3
  · rw [e 6 (by omega) (by omega) (by omega)]; exact a4
  · rw [e 7 (by omega) (by omega) (by omega)]; exact a5
  · rw [e 8 (by omega) (by omega) (by omega)]; exact a6
  · rw [e 9 (by omega) (by omega) (by omega)]; exact a7
  · rw [e 11 (by omega) (by omega) (by omega)]; exact a8
  · rw [e 12 (by omega) (by omega) (by omega)]; exact a9
  · rw [e 14 (by omega) (by omega) (by omega)]; exact b x x0 x1
  · rw [e 3 (by omega) (by omega) (by omega)]; exact c
  · rw [e 10 (by omega) (by omega) (by omega)]; exact d z
theorem CP_TC (h : CP S G r) (hw : WB r) (hS : isT S) (ht : TC S T G H) : CP T H r := by
  obtain ⟨⟨p1, p2, p3, p4, p5, p6⟩, h2, h3, h4, h5, h6, h7⟩ := h
  obtain ⟨t1, t2, t3, t4⟩ := ht
  have hM := hw.1
  refine ⟨⟨?_, ?_, ?_, ?_, ?_, ?_⟩, fun i i0 i1 => ?_, fun d d0 d1 => ?_, fun i i0 i1 => ?_, fun i i0 i1 => ?_, fun i i0 i1 => ?_, h7⟩
  · rw [t1 5 (by omega) (by omega)]; exact p1
  · rw [t1 6 (by omega) (by omega)]; exact p2
  · rw [t1 7 (by omega) (by omega)]; exact p3
  · rw [t1 8 (by omega) (by omega)]; exact p4
  · rw [t1 9 (by omega) (by omega)]; exact p5
  · rw [t1 4 (by omega) (by omega)]; exact p6
  · rw [t3 i i0 i1]; exact h2 i i0 i1
  · rw [t2 d d0 d1]; exact h3 d d0 d1
  · exact PE_f (h4 i i0 i1) (t4 i i0 (by omega)).1
  · have hs := hw.2.1 i (by omega) i1
    have e := h5 i i0 i1
    rw [(t4 i (by omega) (by omega)).2, e, if_neg (pc_pos hS (by omega))]
    unfold sp
    rw [e, ix_pc hs.1]
  · rw [(t4 i (by omega) i1).1 1 (by omega) (by omega) (by omega)]
    exact h6 i i0 i1
/-! a fresh tree -/
def NP (f : Int → Int) : Prop := (f 1 = 0 ∧ f 3 = 0 ∧ f 4 = 9 ∧ f 5 = 0) ∧ (f 6 = 0 ∧ f 7 = -1 ∧ f 8 = 0 ∧ f 9 = -1) ∧ (f 11 = 0 ∧ f 12 = -1 ∧ f 14 = 0 ∧ f 13 = 0)
def FR (T : Int) (G : gH) : Prop := (G T 4 = 20 ∧ G T 5 = 1 ∧ G T 6 = 0 ∧ G T 7 = 0 ∧ G T 8 = 0 ∧ G T 9 = 0) ∧ (∀ i, 0 ≤ i → i < 5 → G (T + 4) i = if i < 3 then i else -1) ∧ (∀ d, 0 ≤ d → d < 8 → G (T + 3) d = 0) ∧ NP (G (pc T 0)) ∧ ∀ k, 1 ≤ k → k < 40 → G (pc T k) 1 = 3 ∧ G (pc T k) 13 = 0
def R1 (T : Int) (G : gH) : Prop := TS G T ∧ NP (G (pc T 0)) ∧ ∀ k, 1 ≤ k → k < 40 → G (pc T k) 1 = 3 ∧ G (pc T k) 13 = 0
theorem R1_e (h : R1 T G) (e : ∀ x, T ≤ x → x < T + 44 → ¬ x = T + 3 → ¬ x = T + 4 → H x = G x) : R1 T H := by
  obtain ⟨h1, h2, h3⟩ := h
  have ep : ∀ k, 0 ≤ k → k < 40 → H (pc T k) = G (pc T k) := fun k k0 k1 => by
    have := pc_b (T := T) ⟨k0, k1⟩
    exact e _ (by omega) (by omega) (by omega) (by omega)
  refine ⟨TS_eq h1 (fun k _ _ => by rw [e T (by omega) (by omega) (by omega) (by omega)]) (e _ (by omega) (by omega) (by omega) (by omega)) (fun k k0 k1 => by rw [ep k k0 k1]), by rw [ep 0 (by omega) (by omega)]; exact h2, fun k k0 k1 => by rw [ep k (by omega) k1]; exact h3 k k0 k1⟩
theorem vx_68 (h : R1 T G) (hd : ∀ d, 0 ≤ d → d < 8 → G (T + 3) d = 0) (hT : isT T) : WN (fun y H => y = 0 ∧ FR T H) (jT_reset_68 G T) := by
  obtain ⟨A, eA, a1, a2⟩ := vT_clearRules h.1 hT
  have hA : R1 T A := R1_e h (fun x _ _ _ x4 => a1 x x4)
  have hdA : ∀ d, 0 ≤ d → d < 8 → A (T + 3) d = 0 := fun d d0 d1 => by rw [a1 _ (by omega)]; exact hd d d0 d1
  have g4 : ∀ j, 0 ≤ j → j < 5 → kd (T + 4) = 20 ∧ (0 : Int) ≤ j ∧ j < sz (T + 4) := fun j j0 j1 => ⟨kdT4 hT, j0, by rw [szT4 hT]; exact j1⟩
  rw [jT_reset_68, eA, bdN_s, TS_3 hA.1, if_pos (g4 0 (by omega) (by omega)), bnd_s, pU_n (show ¬ T = T + 4 by omega), TS_3 hA.1, if_pos (g4 1 (by omega) (by omega)), bnd_s, pU_n (show ¬ T = T + 4 by omega), pU_n (show ¬ T = T + 4 by omega), TS_3 hA.1, if_pos (g4 2 (by omega) (by omega))]
  simp only [bnd_s]
  refine WN_i ⟨rfl, ⟨?_, ?_, ?_, ?_, ?_, ?_⟩, fun i i0 i1 => ?_, fun d d0 d1 => ?_, ?_, fun k k0 k1 => ?_⟩
  · simp (disch := omega) only [pU_s, u1_s, u1_n]
  · simp (disch := omega) only [pU_s, u1_s, u1_n]
  · simp (disch := omega) only [pU_s, u1_s, u1_n]
  · simp (disch := omega) only [pU_s, u1_s, u1_n]
  · simp (disch := omega) only [pU_s, u1_s, u1_n]
  · simp (disch := omega) only [pU_s, u1_s, u1_n]
  · simp only [pU_n (show ¬ T + 4 = T by omega), pU_s]
    have hi : i = 0 ∨ i = 1 ∨ i = 2 ∨ i = 3 ∨ i = 4 := by omega
    rcases hi with rfl | rfl | rfl | rfl | rfl
    · simp (disch := omega) only [u1_s, u1_n]; rfl
    · simp (disch := omega) only [u1_s, u1_n]; rfl
    · simp (disch := omega) only [u1_s, u1_n]; rfl
    · simp (disch := omega) only [u1_n]; exact a2 3 (by omega) (by omega)
    · simp (disch := omega) only [u1_n]; exact a2 4 (by omega) (by omega)
  · simp only [pU_n (show ¬ T + 3 = T by omega), pU_n (show ¬ T + 3 = T + 4 by omega)]
    exact hdA d d0 d1
  · have b0 := pc_b (T := T) (i := 0) (by omega)
    simp only [pU_n (show ¬ pc T 0 = T by omega), pU_n (show ¬ pc T 0 = T + 4 by omega)]
    exact hA.2.1
  · have bk := pc_b (T := T) (i := k) (by omega)
    simp only [pU_n (show ¬ pc T k = T by omega), pU_n (show ¬ pc T k = T + 4 by omega)]
    exact hA.2.2 k k0 k1
theorem vx_49 (h : R1 T G) (hT : isT T) : WN (fun y H => y = 0 ∧ FR T H) (lT_reset_49 T fu 0 G) := by
  have hfu := fu_ge
  refine W_loop (W := WN (fun y H => y = 0 ∧ FR T H)) (fun n (a : Int × gH) => lT_reset_49 T n a.1 a.2) (fun a => (8 - a.1).toNat) (fun a => (0 ≤ a.1 ∧ a.1 ≤ 8) ∧ R1 T a.2 ∧ ∀ d, 0 ≤ d → d < a.1 → a.2 (T + 3) d = 0) ?_ fu (0, G) ⟨by dsimp only; omega, h, fun d d0 d1 => by dsimp only at d1; omega⟩ (by dsimp only; omega)
  clear h
  rintro n ⟨i, G⟩ hI ih
  have i0 : 0 ≤ i := hI.1.1
  have h : R1 T G := hI.2.1
  have hd : ∀ d, 0 ≤ d → d < i → G (T + 3) d = 0 := hI.2.2
  show WN _ (bT_reset_49 T (lT_reset_49 T n) i G)
  rw [bT_reset_49]
  refine W_ite (fun hi => ?_) (fun hi => vx_68 h (fun d d0 d1 => hd d d0 (by omega)) hT)
  rw [TS_2 h.1, if_pos ⟨kdT3 hT, i0, by rw [szT3 hT]; exact hi⟩, bnd_s, w32_r (by omega)]
  refine ih (i + 1, pU G (T + 3) i 0) ⟨by dsimp only; omega, R1_e h (fun x _ _ x3 _ => pU_n x3), fun d d0 d1 => ?_⟩ (by dsimp only; omega)
  have d1 : d < i + 1 := d1
  show pU G (T + 3) i 0 (T + 3) d = 0
  rw [pU_s]
  by_cases e : d = i
  · rw [e, u1_s]
  · rw [u1_n e]; exact hd d d0 (by omega)
theorem vT_reset (h : TS g T) (hT : isT T) : WN (fun y H => y = 0 ∧ FR T H) (fT_reset g T) := by
  have hfu := fu_ge
  rw [fT_reset, TS_1 h, if_pos (kdT2 hT), szT2 hT]
  refine W_loop (W := WN (fun y H => y = 0 ∧ FR T H)) (fun n (a : Int × gH) => lT_reset_10 T (T + 2) 40 n a.1 a.2) (fun a => (40 - a.1).toNat) (fun a => (0 ≤ a.1 ∧ a.1 ≤ 40) ∧ TS a.2 T ∧ ∀ k, 0 ≤ k → k < a.1 → a.2 (pc T k) 1 = 3 ∧ a.2 (pc T k) 13 = 0) ?_ fu (0, g) ⟨by dsimp only; omega, h, fun k k0 k1 => absurd k0 (by dsimp only at k1; omega)⟩ (by dsimp only; omega)
  clear h
  rintro n ⟨i, G⟩ hI ih
  have i0 : 0 ≤ i := hI.1.1
  have i1 : i ≤ 40 := hI.1.2
  have h2 : TS G T := hI.2.1
  have h3 : ∀ k, 0 ≤ k → k < i → G (pc T k) 1 = 3 ∧ G (pc T k) 13 = 0 := hI.2.2
  show WN _ (bT_reset_10 T (T + 2) 40 (lT_reset_10 T (T + 2) 40 n) i G)
  rw [bT_reset_10]
  refine W_ite (fun hi => ?_) (fun hi => ?_)
  · have hi : 0 ≤ i ∧ i < 40 := ⟨i0, hi⟩
    have bi := pc_b (T := T) hi
    simp only [TS_p h2 hi, kdp hT hi, kdT2 hT, szT2 hT, hi.1, hi.2, if_true, true_and, and_self]
    obtain ⟨A, eA, a1, ⟨a2, a3, -, -⟩, -, -, ⟨-, a15, -⟩⟩ := vP_become (g := G) (c := pc T i) (a := 3) (b := 0) (d := 0) (w := 0)
    rw [eA, bdN_s, w32_r (by omega)]
    refine ih (i + 1, A) ⟨by dsimp only; omega, ?_, fun k k0 k1 => ?_⟩ (by dsimp only; omega)
    · refine TS_eq h2 (fun k _ _ => ?_) (a1 _ (by omega)) (fun k k0 k1 => ?_)
      · show A T k = _
        rw [a1 T (by omega)]
      · show A (pc T k) 0 = _
        by_cases e : k = i
        · rw [e]; exact a2
        · rw [a1 _ (pc_ne k0 i0 e)]
    · have k1 : k < i + 1 := k1
      show A (pc T k) 1 = 3 ∧ A (pc T k) 13 = 0
      by_cases e : k = i
      · rw [e]; exact ⟨a3, a15⟩
      · rw [a1 _ (pc_ne k0 i0 e)]; exact h3 k k0 (by omega)
  · rw [jT_reset_35, TS_0 h2, ← pc_0, if_pos (kdp hT (by omega))]
    have b0 := pc_b (T := T) (i := 0) (by omega)
    obtain ⟨A, eA, a1, ⟨a2, a3, -, a5⟩, ⟨a6, a7, a8, a9⟩, ⟨a10, a11, -, a13⟩, ⟨a14, a15, a16⟩⟩ := vP_become (g := G) (c := pc T 0) (a := 0) (b := 9) (d := 0) (w := 0)
    rw [eA, bdN_s]
    refine vx_49 ⟨TS_eq h2 (fun k _ _ => by rw [a1 T (by omega)]) (a1 _ (by omega)) (fun k k0 k1 => ?_), ⟨⟨a3, a5, a6, a7⟩, ⟨a8, a9, a10, a11⟩, ⟨a13, a14, a16, a15⟩⟩, fun k k0 k1 => ?_⟩ hT
    · by_cases e : k = 0
      · rw [e]; exact a2
      · rw [a1 _ (pc_ne k0 (by omega) e)]
    · rw [a1 _ (pc_ne (by omega) (by omega) (by omega))]; exact h3 k (by omega) (by omega)
/-- a fresh row -/
def RW (r : Int → Int) : Prop := (r 0 = 1 ∧ r 1 = 0 ∧ r 2 = 0 ∧ r 3 = 0 ∧ r 4 = 0 ∧ r 5 = 3 ∧ r 59 = 20) ∧ (r 6 = 0 ∧ r 7 = 1 ∧ r 8 = 2) ∧ (∀ d, 0 ≤ d → d < 8 → r (11 + d) = 0) ∧ (r 100 = 9 ∧ r 140 = 0 ∧ r 180 = 0 ∧ r 220 = 0 ∧ r 260 = -1 ∧ r 300 = -1 ∧ r 340 = 0 ∧ r 380 = 0 ∧ r 420 = -1 ∧ r 60 = -1) ∧ ∀ d, 0 ≤ d → d < 8 → r (460 + d) = -1
theorem CP_fresh (h : FR S G) (hr : RW r) : CP S G r := by
  obtain ⟨⟨t4, t5, t6, t7, t8, t9⟩, hR, hH, ⟨⟨f1, f3, f4, f5_⟩, ⟨f6, f7, f8_, f9⟩, ⟨f11, f12, f14, -⟩⟩, hk⟩ := h
  obtain ⟨⟨r0, r1, r2, r3, r4, r5, r59⟩, ⟨r6, r7, r8⟩, rd, ⟨r100, r140, r180, r220, r260, r300, r340, r380, r420, -⟩, rw_⟩ := hr
  refine ⟨⟨by rw [t5, r0], by rw [t6, r1], by rw [t7, r2], by rw [t8, r3], by rw [t9, r4], by rw [t4, r59]⟩, fun i i0 i1 => ?_, fun d d0 d1 => by rw [hH d d0 d1, rd d d0 d1], fun i i0 i1 => ?_, fun i i0 i1 => by rw [r0] at i1; omega, fun i i0 i1 => (hk i (by omega) i1).1, fun i i0 i1 i2 => ?_⟩
  · rw [hR i i0 i1, r5]
    by_cases c : i < 3
    · rw [if_pos c, if_pos c]
      have hi : i = 0 ∨ i = 1 ∨ i = 2 := by omega
      rcases hi with rfl | rfl | rfl
      · exact r6.symm
      · exact r7.symm
      · exact r8.symm
    · rw [if_neg c, if_neg c]
  · have ei : i = 0 := by omega
    subst ei
    refine ⟨⟨f1.trans r140.symm, f4.trans r100.symm, f5_.trans r180.symm, f6.trans r220.symm, f7.trans r260.symm, f8_.trans r340.symm, f9.trans r300.symm, f11.trans r380.symm, f12.trans r420.symm⟩, fun d d0 d1 => ?_, ?_, fun z => absurd r140 z⟩
    · obtain ⟨f, ef⟩ := f8 ⟨d0, d1⟩
      rw [f14, show (460 + 8 * 0 + d : Int) = 460 + d by omega, rw_ d d0 d1, ef]
      exact wl_0 f
    · rw [f3]
      refine (cn_z _ _ (fun x x0 x1 => decide_eq_false (fun z => ?_))).symm
      rw [r0] at x1
      omega
  · rw [r5] at i2
    have hi : i = 0 ∨ i = 1 ∨ i = 2 := by omega
    rcases hi with rfl | rfl | rfl
    · rw [show (6 + 0 : Int) = 6 by omega, r6]; omega
    · rw [show (6 + 1 : Int) = 7 by omega, r7]; omega
    · rw [show (6 + 2 : Int) = 8 by omega, r8]; omega
theorem CQ_fresh (h : FR S G) (hr : RW r) : CQ S G r := CQ_of (CP_fresh h hr) (fun i i0 i1 => by
  by_cases z : i = 0
  · rw [z]; exact h.2.2.2.1.2.2.2.2.2
  · exact (h.2.2.2.2 i (by omega) i1).2) ⟨hr.1.2.2.2.1, hr.2.2.2.1.2.2.2.2.2.2.2.2.2, hr.2.2.2.1.2.2.2.2.2.2.2.1⟩
theorem clr_4 (r0 : Int → Int) (e : ∀ k, 0 ≤ k → k < 780 → r0 k = 0) (hs : MS G) : ∃ r, jM_clear_22 (sw G r0) 624 = some (0, sw G r) ∧ RW r := by
  have hf := fu_ge
  have h0 : ∀ r, sw G r 624 0 = 625 := fun r => by rw [sw_n (by omega)]; exact hs.1
  have st : ∀ (n : Nat) (i : Int) (r : Int → Int), 0 ≤ i → i < 3 → lM_clear_31 624 (n + 1) i (sw G r) = lM_clear_31 624 n (i + 1) (sw G (u1 r (6 + i) i)) := by
    intro n i r i0 i1
    show bM_clear_31 624 (lM_clear_31 624 n) i (sw G r) = _
    rw [bM_clear_31, if_pos i1, h0, w32_r (by omega), if_pos (by rw [kd_625, sz_625]; omega), bnd_s, w32_r (by omega), pU_sw]
  obtain ⟨n, hn⟩ : ∃ n, fu = n + 4 := ⟨fu - 4, by omega⟩
  have q : ∀ k, ¬ k = 59 → ¬ k = 5 → ¬ (6 ≤ k ∧ k < 9) → 0 ≤ k → k < 780 → u1 (u1 (u1 (u1 (u1 r0 5 3) (6 + 0) 0) (6 + (0 + 1)) (0 + 1)) (6 + (0 + 1 + 1)) (0 + 1 + 1)) 59 20 k = 0 := by
    intro k k1 k2 k3 k4 k5
    simp (disch := omega) only [u1_n]
    exact e k k4 k5
  have q5 : u1 (u1 (u1 (u1 (u1 r0 5 3) (6 + 0) 0) (6 + (0 + 1)) (0 + 1)) (6 + (0 + 1 + 1)) (0 + 1 + 1)) 59 20 5 = 3 := by simp (disch := omega) only [u1_n, u1_s]
  have q59 : u1 (u1 (u1 (u1 (u1 r0 5 3) (6 + 0) 0) (6 + (0 + 1)) (0 + 1)) (6 + (0 + 1 + 1)) (0 + 1 + 1)) 59 20 59 = 20 := by simp (disch := omega) only [u1_s]
  have q6 : u1 (u1 (u1 (u1 (u1 r0 5 3) (6 + 0) 0) (6 + (0 + 1)) (0 + 1)) (6 + (0 + 1 + 1)) (0 + 1 + 1)) 59 20 6 = 0 := by
    show u1 (u1 (u1 (u1 (u1 r0 5 3) 6 0) 7 1) 8 2) 59 20 6 = 0
    simp (disch := omega) only [u1_n, u1_s]
  have q7 : u1 (u1 (u1 (u1 (u1 r0 5 3) (6 + 0) 0) (6 + (0 + 1)) (0 + 1)) (6 + (0 + 1 + 1)) (0 + 1 + 1)) 59 20 7 = 1 := by
    show u1 (u1 (u1 (u1 (u1 r0 5 3) 6 0) 7 1) 8 2) 59 20 7 = 1
    simp (disch := omega) only [u1_n, u1_s]
  have q8 : u1 (u1 (u1 (u1 (u1 r0 5 3) (6 + 0) 0) (6 + (0 + 1)) (0 + 1)) (6 + (0 + 1 + 1)) (0 + 1 + 1)) 59 20 8 = 2 := by
    show u1 (u1 (u1 (u1 (u1 r0 5 3) 6 0) 7 1) 8 2) 59 20 8 = 2
    simp (disch := omega) only [u1_n, u1_s]
  refine ⟨cmR (u1 (u1 (u1 (u1 (u1 r0 5 3) (6 + 0) 0) (6 + (0 + 1)) (0 + 1)) (6 + (0 + 1 + 1)) (0 + 1 + 1)) 59 20) (-1) 9 0 0, ?_, ?_⟩
  · rw [jM_clear_22, h0, if_pos (by rw [kd_625, sz_625]; omega), bnd_s, pU_sw, hn, st _ _ _ (by omega) (by omega), st _ _ _ (by omega) (by omega), st _ _ _ (by omega) (by omega)]
    show bM_clear_31 624 (lM_clear_31 624 n) (0 + 1 + 1 + 1) _ = _
    rw [bM_clear_31, if_neg (by omega), jM_clear_52, h0, if_pos (by rw [kd_625, sz_625]; omega), bnd_s, pU_sw, vM_comes (MS_sw hs) (by rw [sw_s, q 0 (by omega) (by omega) (by omega) (by omega) (by omega)]; omega), bdN_s, sw_s, sw_sw]
  · generalize u1 (u1 (u1 (u1 (u1 r0 5 3) (6 + 0) 0) (6 + (0 + 1)) (0 + 1)) (6 + (0 + 1 + 1)) (0 + 1 + 1)) 59 20 = p at *
    have v : ∀ k, cmR p (-1) 9 0 0 k = if k = 0 then 1 else if 460 ≤ k ∧ k < 468 then -1 else if k = 420 then -1 else if k = 380 then 0 else if k = 340 then 0 else if k = 300 then -1 else if k = 260 then -1 else if k = 220 then 0 else if k = 180 then 0 else if k = 140 then 0 else if k = 100 then 9 else if k = 60 then -1 else p k := by
      intro k
      unfold cmR
      rw [q 0 (by omega) (by omega) (by omega) (by omega) (by omega)]
      rfl
    have o : ∀ k, 0 < k → k < 60 → cmR p (-1) 9 0 0 k = p k := by
      intro k k0 k1
      rw [v]
      simp (disch := omega) only [if_neg]
    refine ⟨⟨by rw [v]; rfl, ?_, ?_, ?_, ?_, ?_, ?_⟩, ⟨?_, ?_, ?_⟩, fun d d0 d1 => ?_, ⟨by rw [v]; rfl, by rw [v]; rfl, by rw [v]; rfl, by rw [v]; rfl, by rw [v]; rfl, by rw [v]; rfl, by rw [v]; rfl, by rw [v]; rfl, by rw [v]; rfl, by rw [v]; rfl⟩, fun d d0 d1 => by rw [v, if_neg (by omega), if_pos (by omega)]⟩
    · rw [o 1 (by omega) (by omega)]; exact q 1 (by omega) (by omega) (by omega) (by omega) (by omega)
    · rw [o 2 (by omega) (by omega)]; exact q 2 (by omega) (by omega) (by omega) (by omega) (by omega)
    · rw [o 3 (by omega) (by omega)]; exact q 3 (by omega) (by omega) (by omega) (by omega) (by omega)
    · rw [o 4 (by omega) (by omega)]; exact q 4 (by omega) (by omega) (by omega) (by omega) (by omega)
    · rw [o 5 (by omega) (by omega)]; exact q5
    · rw [o 59 (by omega) (by omega)]; exact q59
    · rw [o 6 (by omega) (by omega)]; exact q6
    · rw [o 7 (by omega) (by omega)]; exact q7
    · rw [o 8 (by omega) (by omega)]; exact q8
    · rw [o _ (by omega) (by omega)]; exact q _ (by omega) (by omega) (by omega) (by omega) (by omega)
end PAR15
/-! ===== loadTree of both (own work) ===== -/
section PAR16
variable {C C' : gH → (Int → Int) → Prop} {g g' g1 G H K M A : gH} {r r' : Int → Int} {a b c d e i j k l m n p q s t u v w x y z S T : Int}
theorem sw_inj (h : sw K r = sw K r') : r = r' := by
  have := congrFun h 625
  rw [sw_s, sw_s] at this
  exact this
/-- the reference's loadTree, up to its text and from there on -/
theorem ld_model (hi : MInv g1) (hb0 : ∀ k, 0 ≤ k → k < g1 624 10 → 0 ≤ g1 631 k) : ∃ J H, RD J H ∧ TA 0 H ∧ RW (H 625) ∧ (H 624 10 = g1 624 10 ∧ H 631 = g1 631) ∧ (H 624 13 = 0 ∧ H 624 14 = -1 ∧ H 624 19 = 0) ∧ ∀ y M, fM_readText H 624 = some (y, M) → RD J M → ∃ v N, fM_loadTree g1 624 = some (v, N) ∧ (v = if y = 0 then -1 else M 625 0) ∧ (N 624 10 = 0 ∧ N 624 11 = M 624 13 ∧ N 624 12 = M 624 14) ∧ (N 624 8 = 0 ∧ N 628 = g1 628 ∧ N 629 = g1 629) ∧ (¬ y = 0 → N 625 = M 625 ∧ N 624 6 = 0 ∧ N 624 7 = 0) ∧ (y = 0 → (∀ k, 0 ≤ k → k < 780 → N 625 k = g1 625 k) ∧ N 624 6 = g1 624 6 ∧ N 624 7 = g1 624 7) := by
  have e : pU g1 624 8 0 = th g1 0 := rfl
  rw [fM_loadTree, bnd_s, e]
  have o1 := OK_th (t := 0) (OK_r hi)
  have i1 := o1.1
  have x10 : th g1 0 624 10 = g1 624 10 := by rw [← e, pU_y (by omega)]
  have x31 : th g1 0 631 = g1 631 := by rw [← e, pU_n (by omega)]
  have xg : ∀ x, ¬ x = 624 → th g1 0 x = g1 x := fun x hx => th_n hx
  have xk : ∀ k, ¬ k = 8 → th g1 0 624 k = g1 624 k := fun k hk => th_f hk
  have x8 : th g1 0 624 8 = 0 := by rw [← e, pU_s, u1_s]
  generalize th g1 0 = G at *
  have s1 := i1.1
  have h0 := s1.1
  have h1 : G 624 1 = 626 := s1.2.2.2.2.2.2.2.2.2
  have hc := vM_copies (g := G) (a := 625) (x := 0) (b := 626) (y := 0) (n := 780) ⟨kd_625, kd_626⟩ (by rw [sz_625]; omega) (by rw [sz_626]; omega) (by omega) (Or.inl (by omega))
  rw [h0, h1, hc, bdN_s]
  have i2 : MInv (cpG G 625 0 626 0 780) := by
    have z := i1
    unfold MInv MS at z ⊢
    simp (disch := omega) only [cpG_n]
    exact z
  have y10 : cpG G 625 0 626 0 780 624 10 = g1 624 10 := by rw [cpG_n (by omega)]; exact x10
  have y31 : cpG G 625 0 626 0 780 631 = g1 631 := by rw [cpG_n (by omega)]; exact x31
  have yg : ∀ x, ¬ x = 626 → cpG G 625 0 626 0 780 x = G x := fun x hx => cpG_n hx
  have y26 : ∀ k, 0 ≤ k → k < 780 → cpG G 625 0 626 0 780 626 k = G 625 k := fun k k0 k1 => by
    unfold cpG
    rw [if_pos ⟨rfl, by omega, by omega⟩, show (0 + k - 0 : Int) = k by omega]
  generalize cpG G 625 0 626 0 780 = K at *
  obtain ⟨r, c1, c2⟩ := clr_1 i2.1 780 fu 0 K i2.1.1 rfl (by have := fu_ge; omega) (by omega)
  have cz : ∀ k, 0 ≤ k → k < 780 → r k = 0 := fun k k0 k1 => by rw [c2 k k0 k1, if_pos k0]
  obtain ⟨r', c3, c4, c5, c6⟩ := clr_3 r cz i2.1
  obtain ⟨r2, d3, hRW⟩ := clr_4 r cz i2.1
  have er : r2 = r' := sw_inj (Prod.mk.inj (Option.some.inj (d3.symm.trans c3))).2
  subst er
  have c7 : fM_clear K 624 = some (0, sw K r2) := by rw [fM_clear, c1, c3]
  rw [c7, bdN_s, bnd_s, bnd_s, bnd_s, bnd_s]
  have i3 : MInv (sw K r2) := MInv_sw i2 c4
  have p4 : PF (sw K r2) (pU (pU (pU (pU (sw K r2) 624 13 0) 624 14 (-1)) 624 15 0) 624 19 0) := PF_u (PF_u (PF_u (PF_u PF_r (by omega)) (by omega)) (by omega)) (by omega)
  have e15 : pU (pU (pU (pU (sw K r2) 624 13 0) 624 14 (-1)) 624 15 0) 624 19 0 624 15 = 0 := by
    simp (disch := omega) only [pU_s, u1_n, u1_s]
  have e13 : pU (pU (pU (pU (sw K r2) 624 13 0) 624 14 (-1)) 624 15 0) 624 19 0 624 13 = 0 := by
    simp (disch := omega) only [pU_s, u1_n, u1_s]
  have e14 : pU (pU (pU (pU (sw K r2) 624 13 0) 624 14 (-1)) 624 15 0) 624 19 0 624 14 = -1 := by
    simp (disch := omega) only [pU_s, u1_n, u1_s]
  have e19 : pU (pU (pU (pU (sw K r2) 624 13 0) 624 14 (-1)) 624 15 0) 624 19 0 624 19 = 0 := by
    simp (disch := omega) only [pU_s, u1_n, u1_s]
  have z10 : sw K r2 624 10 = g1 624 10 := by rw [sw_n (by omega)]; exact y10
  have z31 : sw K r2 631 = g1 631 := by rw [sw_n (by omega)]; exact y31
  have r3 : sw K r2 625 = r2 := sw_s
  have zg : ∀ x, ¬ x = 625 → sw K r2 x = K x := fun x hx => sw_n hx
  generalize sw K r2 = J at *
  generalize pU (pU (pU (pU J 624 13 0) 624 14 (-1)) 624 15 0) 624 19 0 = L at *
  have i4 := MInv_PF i3 p4
  have l10 : L 624 10 = g1 624 10 := by rw [p4.2 10 (by omega)]; exact z10
  have l31 : L 631 = g1 631 := by rw [p4.1 631 (by omega)]; exact z31
  have hPs : Ps L := by unfold Ps; rw [e15]; exact ⟨Int.le_refl _, i4.2.2.2.2.2.1.1⟩
  obtain ⟨H, a1, a2⟩ := vM_advance i4 hPs
  obtain ⟨H', a3, a4⟩ := aM_advance i4 hPs (by rw [l10, l31]; exact hb0)
  have eH : H' = H := (Prod.mk.inj (Option.some.inj (a3.symm.trans a1))).2
  subst eH
  rw [a1, bdN_s]
  have p5 := PF_t p4 a2.1
  have fm := a4.1
  have hta := a4.2
  rw [e15] at hta
  have hR : RD J H' := ⟨MInv_PF i4 a2.1, fun x hx => p5.1 x (by omega), ⟨p5.1 626 (by omega), fun x x0 x1 => p5.1 x (by omega), fun k k0 k1 => p5.2 k (by omega)⟩, p5.2 10 (by omega), a2.2.1, by
    rw [p5.1 625 (by omega), r3, c5]
    intro i i0 i1
    rw [show i = 0 by omega]
    exact c6⟩
  refine ⟨J, H', hR, hta, by rw [p5.1 625 (by omega), r3]; exact hRW, ⟨by rw [fm.2 10 (by omega)]; exact l10, by rw [fm.1 631 (by omega)]; exact l31⟩, ⟨by rw [fm.2 13 (by omega)]; exact e13, by rw [fm.2 14 (by omega)]; exact e14, by rw [fm.2 19 (by omega)]; exact e19⟩, fun y M b1 b2 => ?_⟩
  rw [b1, bdN_s, bnd_s, bnd_s, bnd_s]
  have i6 : MInv M := b2.1
  have i7 : MInv (pU (pU (pU M 624 10 0) 624 11 (pU M 624 10 0 624 13)) 624 12 (pU (pU M 624 10 0) 624 11 (pU M 624 10 0 624 13) 624 14)) := MInv_taken i6
  have t7 : (pU (pU (pU M 624 10 0) 624 11 (pU M 624 10 0 624 13)) 624 12 (pU (pU M 624 10 0) 624 11 (pU M 624 10 0 624 13) 624 14)) 624 10 = 0 := by
    rw [pU_s, u1_n (by omega), pU_s, u1_n (by omega), pU_s, u1_s]
  have t8 : (pU (pU (pU M 624 10 0) 624 11 (pU M 624 10 0 624 13)) 624 12 (pU (pU M 624 10 0) 624 11 (pU M 624 10 0 624 13) 624 14)) 624 11 = M 624 13 := by
    rw [pU_y (by omega), pU_s, u1_s, pU_y (by omega)]
  have t9 : (pU (pU (pU M 624 10 0) 624 11 (pU M 624 10 0 624 13)) 624 12 (pU (pU M 624 10 0) 624 11 (pU M 624 10 0 624 13) 624 14)) 624 12 = M 624 14 := by
    rw [pU_s, u1_s, pU_y (by omega), pU_y (by omega)]
  have tr : (pU (pU (pU M 624 10 0) 624 11 (pU M 624 10 0 624 13)) 624 12 (pU (pU M 624 10 0) 624 11 (pU M 624 10 0 624 13) 624 14)) 625 = M 625 := by
    rw [pU_n (by omega), pU_n (by omega), pU_n (by omega)]
  have tx : ∀ x, ¬ x = 624 → (pU (pU (pU M 624 10 0) 624 11 (pU M 624 10 0 624 13)) 624 12 (pU (pU M 624 10 0) 624 11 (pU M 624 10 0 624 13) 624 14)) x = M x := fun x hx => by rw [pU_n hx, pU_n hx, pU_n hx]
  have tk : ∀ k, 6 ≤ k → k ≤ 8 → (pU (pU (pU M 624 10 0) 624 11 (pU M 624 10 0 624 13)) 624 12 (pU (pU M 624 10 0) 624 11 (pU M 624 10 0 624 13) 624 14)) 624 k = M 624 k := fun k k0 k1 => by rw [pU_y (by omega), pU_y (by omega), pU_y (by omega)]
  generalize pU (pU (pU M 624 10 0) 624 11 (pU M 624 10 0 624 13)) 624 12 (pU (pU M 624 10 0) 624 11 (pU M 624 10 0 624 13) 624 14) = N at *
  obtain ⟨fx1, fx2, fx3⟩ := b2.2.2.1
  have w8 : M 624 8 = 0 := by rw [fx3 8 (by omega) (by omega), zg 624 (by omega), yg 624 (by omega)]; exact x8
  have w6 : M 624 6 = g1 624 6 := by rw [fx3 6 (by omega) (by omega), zg 624 (by omega), yg 624 (by omega)]; exact xk 6 (by omega)
  have w7 : M 624 7 = g1 624 7 := by rw [fx3 7 (by omega) (by omega), zg 624 (by omega), yg 624 (by omega)]; exact xk 7 (by omega)
  have w28 : M 628 = g1 628 := by rw [fx2 628 (by omega) (by omega), zg 628 (by omega), yg 628 (by omega)]; exact xg 628 (by omega)
  have w29 : M 629 = g1 629 := by rw [fx2 629 (by omega) (by omega), zg 629 (by omega), yg 629 (by omega)]; exact xg 629 (by omega)
  have w26 : ∀ k, 0 ≤ k → k < 780 → M 626 k = g1 625 k := fun k k0 k1 => by rw [fx1, zg 626 (by omega), y26 k k0 k1, xg 625 (by omega)]
  have n0 := i7.1.1
  have n1 : N 624 1 = 626 := i7.1.2.2.2.2.2.2.2.2.2
  by_cases hy : y = 0
  · have hc := vM_copies (g := N) (a := 626) (x := 0) (b := 625) (y := 0) (n := 780) ⟨kd_626, kd_625⟩ (by rw [sz_626]; omega) (by rw [sz_625]; omega) (by omega) (Or.inl (by omega))
    rw [if_pos hy, if_pos hy, n0, n1, hc, bdN_s]
    refine ⟨_, _, rfl, rfl, ⟨?_, ?_, ?_⟩, ⟨?_, ?_, ?_⟩, fun z => absurd hy z, fun _ => ⟨fun k k0 k1 => ?_, ?_, ?_⟩⟩
    · rw [cpG_n (by omega)]; exact t7
    · rw [cpG_n (by omega)]; exact t8
    · rw [cpG_n (by omega)]; exact t9
    · rw [cpG_n (by omega), tk 8 (by omega) (by omega)]; exact w8
    · rw [cpG_n (by omega), tx 628 (by omega)]; exact w28
    · rw [cpG_n (by omega), tx 629 (by omega)]; exact w29
    · unfold cpG
      rw [if_pos ⟨rfl, by omega, by omega⟩, show (0 + k - 0 : Int) = k by omega, tx 626 (by omega)]
      exact w26 k k0 k1
    · rw [cpG_n (by omega), tk 6 (by omega) (by omega)]; exact w6
    · rw [cpG_n (by omega), tk 7 (by omega) (by omega)]; exact w7
  · rw [if_neg hy, if_neg hy, bnd_s, bnd_s]
    have i8 := MInv_67 i7
    rw [i8.1.1, if_pos (by rw [kd_625, sz_625]; omega)]
    refine ⟨_, _, rfl, ?_, ⟨?_, ?_, ?_⟩, ⟨?_, ?_, ?_⟩, fun _ => ⟨?_, ?_, ?_⟩, fun z => absurd z hy⟩
    · rw [pU_n (by omega), pU_n (by omega), tr]
    · rw [pU_y (by omega), pU_y (by omega)]; exact t7
    · rw [pU_y (by omega), pU_y (by omega)]; exact t8
    · rw [pU_y (by omega), pU_y (by omega)]; exact t9
    · rw [pU_y (by omega), pU_y (by omega), tk 8 (by omega) (by omega)]; exact w8
    · rw [pU_n (by omega), pU_n (by omega), tx 628 (by omega)]; exact w28
    · rw [pU_n (by omega), pU_n (by omega), tx 629 (by omega)]; exact w29
    · rw [pU_n (by omega), pU_n (by omega)]; exact tr
    · rw [pU_y (by omega), pU_s, u1_s]
    · rw [pU_s, u1_s]
/-- the end of the class's -/
theorem ld_end (h : CR g G) : ∃ v K, jC_loadTree_36 G 0 = some (v, K) ∧ CL g K 0 ∧ (v = if G 575 2 = 0 then G 578 5 else -1) ∧ K 575 = G 575 ∧ (G 575 2 = 0 → TC 578 1 G K) ∧ (G 575 2 = 0 → K 133 1 = 0 ∧ K 0 6 = 0 ∧ K 133 2 = G 133 2) ∧ (¬ G 575 2 = 0 → ∀ x, ¬ x = 576 → K x = G x) := by
  obtain ⟨v, K, e, hL⟩ := lx_36 h
  refine ⟨v, K, e, hL, ?_⟩
  rw [jC_loadTree_36, cr4 h, if_pos kd_575, r576 h, if_pos kd_576, bnd_s] at e
  have c1 := CI_len h.1 (l := 0) (by omega)
  have ax : ∀ x, ¬ x = 576 → pU G 576 1 0 x = G x := fun x hx => pU_n hx
  generalize pU G 576 1 0 = A at *
  have w1 := CR_r c1
  rw [cr4 w1, if_pos kd_575, ax 575 (by omega)] at e
  by_cases c : G 575 2 = 0
  · rw [if_pos c, if_pos (kdr1 w1), cr0 w1, ← ax 575 (by omega), r578 w1] at e
    obtain ⟨y, B, eB, hB⟩ := tT_take (CR_T w1 T1).1 T1 T578 (CR_T w1 T578) (by omega)
    obtain ⟨y', B', eB', ey, tc⟩ := vT_take (CR_T w1 T1).1 T1 T578 (CR_T w1 T578) (by omega)
    have eb := (Prod.mk.inj (Option.some.inj (eB'.symm.trans eB))).2
    subst eb
    have w2 := CR_IT w1 T1 hB
    rw [eB, bdN_s, cr3 w2, if_pos kd_133, bnd_s, bnd_s] at e
    have w3 := CR_w (a := 0) (b := 6) (v := 0) (CR_w (a := 133) (b := 1) (v := 0) w2 (by omega)) (by omega)
    have bx : ∀ x, ¬ x = 133 → ¬ x = 0 → pU (pU B' 133 1 0) 0 6 0 x = B' x := fun x x1 x2 => by rw [pU_n x2, pU_n x1]
    have b1_ : pU (pU B' 133 1 0) 0 6 0 133 1 = 0 := by rw [pU_n (by omega), pU_s, u1_s]
    have b2_ : pU (pU B' 133 1 0) 0 6 0 133 2 = B' 133 2 := by rw [pU_n (by omega), pU_y (by omega)]
    have b0_ : pU (pU B' 133 1 0) 0 6 0 0 6 = 0 := by rw [pU_s, u1_s]
    generalize pU (pU B' 133 1 0) 0 6 0 = D at *
    rw [cr5 w3, if_pos kd_622, bnd_s] at e
    have w4 := CR_w (a := 622) (b := 1) (v := 0) w3 (by omega)
    have dx : ∀ x, ¬ x = 133 → ¬ x = 0 → ¬ x = 622 → pU D 622 1 0 x = B' x := fun x x1 x2 x3 => by rw [pU_n x3]; exact bx x x1 x2
    have e1_ : pU D 622 1 0 133 1 = 0 := by rw [pU_n (by omega)]; exact b1_
    have e2_ : pU D 622 1 0 133 2 = G 133 2 := by rw [pU_n (by omega), b2_, hB.2 133 (by omega), ax 133 (by omega)]
    have e0_ : pU D 622 1 0 0 6 = 0 := by rw [pU_n (by omega)]; exact b0_
    generalize pU D 622 1 0 = E at *
    rw [if_pos (kdr1 w4), cr0 w4] at e
    have ee := Prod.mk.inj (Option.some.inj e)
    rw [← ee.2, ← ee.1]
    obtain ⟨t1, t2, t3, t4⟩ := tc
    refine ⟨?_, ?_, fun _ => ⟨fun y y0 y1 => ?_, fun d d0 d1 => ?_, fun i i0 i1 => ?_, fun k k0 k1 => ?_⟩, fun _ => ⟨e1_, e0_, e2_⟩, fun z => absurd c z⟩
    · rw [if_pos c, dx 1 (by omega) (by omega) (by omega), t1 5 (by omega) (by omega), ax 578 (by omega)]
    · rw [dx 575 (by omega) (by omega) (by omega), hB.2 575 (by omega), ax 575 (by omega)]
    · rw [dx 1 (by omega) (by omega) (by omega), t1 y y0 y1, ax 578 (by omega)]
    · rw [dx (1 + 3) (by omega) (by omega) (by omega), t2 d d0 d1, ax (578 + 3) (by omega)]
    · rw [dx (1 + 4) (by omega) (by omega) (by omega), t3 i i0 i1, ax (578 + 4) (by omega)]
    · have b1 := pc_b (T := 1) (i := k) ⟨k0, k1⟩
      have b2 := pc_b (T := 578) (i := k) ⟨k0, k1⟩
      have t4 := t4 k k0 k1
      unfold sp at t4 ⊢
      rw [ax (pc 578 k) (by omega)] at t4
      rw [dx (pc 1 k) (by omega) (by omega) (by omega)]
      exact t4
  · rw [if_neg c] at e
    have ee := Prod.mk.inj (Option.some.inj e)
    rw [← ee.2, ← ee.1, if_neg c]
    exact ⟨rfl, ax 575 (by omega), fun z => absurd z c, fun z => absurd z c, fun _ x hx => ax x hx⟩
/-- both load alike -/
theorem ld_both (h : CInv g) (hM : MInv g1) (hb : BB g g1) : ∃ v G H, fC_loadTree g 0 = some (v, G) ∧ fM_loadTree g1 624 = some (v, H) ∧ (G 575 2 = H 624 11 ∧ G 575 3 = H 624 12) ∧ (G 576 1 = 0 ∧ H 624 10 = 0) ∧ (H 624 8 = 0 ∧ H 628 = g1 628 ∧ H 629 = g1 629) ∧ CL g G 0 ∧ ((H 624 6 = 0 ∧ H 624 7 = 0 ∧ G 133 1 = 0 ∧ G 0 6 = 0 ∧ G 133 2 = g 133 2 ∧ CP 1 G (H 625) ∧ (∀ i, 0 ≤ i → i < 40 → G (pc 1 i) 13 = 0) ∧ H 625 3 = 0 ∧ H 625 60 = -1 ∧ H 625 380 = 0) ∨ ((∀ x, x < 575 → G x = g x) ∧ (∀ k, 0 ≤ k → k < 780 → H 625 k = g1 625 k) ∧ H 624 6 = g1 624 6 ∧ H 624 7 = g1 624 7)) := by
  have hf := fu_ge
  have h0 := CR_r h
  rw [fC_loadTree, cr4 h0, if_pos kd_575, fS_begin, if_pos (kd578 h0), r578 h0]
  obtain ⟨y, A, eA, hA⟩ := tT_reset (CR_T h0 T578).1 T578
  obtain ⟨y', A', eA', ey, hFR⟩ := vT_reset (CR_T h0 T578).1 T578
  have eAA := (Prod.mk.inj (Option.some.inj (eA'.symm.trans eA))).2
  subst eAA
  rw [eA, bdN_s]
  simp only [bnd_s, bdN_s]
  have w := CR_IT h0 T578 hA
  have hI : RI g (pU (pU (pU (pU (pU (pU A' 575 2 0) 575 3 (-1)) 575 8 0) 575 9 0) 575 10 0) 575 6 0) := by
    refine ⟨CR_w (CR_w (CR_w (CR_w (CR_w (CR_w w (by omega)) (by omega)) (by omega)) (by omega)) (by omega)) (by omega), ?_⟩
    have := rlen w
    rw [pU_s, u1_s]
    simp (disch := omega) only [pU_n]
    omega
  have bx : ∀ x, ¬ x = 575 → pU (pU (pU (pU (pU (pU A' 575 2 0) 575 3 (-1)) 575 8 0) 575 9 0) 575 10 0) 575 6 0 x = A' x := fun x hx => by simp only [pU_n hx]
  have b2 : pU (pU (pU (pU (pU (pU A' 575 2 0) 575 3 (-1)) 575 8 0) 575 9 0) 575 10 0) 575 6 0 575 2 = 0 := by simp (disch := omega) only [pU_s, u1_s, u1_n]
  have b3 : pU (pU (pU (pU (pU (pU A' 575 2 0) 575 3 (-1)) 575 8 0) 575 9 0) 575 10 0) 575 6 0 575 3 = -1 := by simp (disch := omega) only [pU_s, u1_s, u1_n]
  have b8 : pU (pU (pU (pU (pU (pU A' 575 2 0) 575 3 (-1)) 575 8 0) 575 9 0) 575 10 0) 575 6 0 575 8 = 0 := by simp (disch := omega) only [pU_s, u1_s, u1_n]
  have b9 : pU (pU (pU (pU (pU (pU A' 575 2 0) 575 3 (-1)) 575 8 0) 575 9 0) 575 10 0) 575 6 0 575 9 = 0 := by simp (disch := omega) only [pU_s, u1_s, u1_n]
  have b10 : pU (pU (pU (pU (pU (pU A' 575 2 0) 575 3 (-1)) 575 8 0) 575 9 0) 575 10 0) 575 6 0 575 10 = 0 := by simp (disch := omega) only [pU_s, u1_s, u1_n]
  have b6 : pU (pU (pU (pU (pU (pU A' 575 2 0) 575 3 (-1)) 575 8 0) 575 9 0) 575 10 0) 575 6 0 575 6 = 0 := by simp (disch := omega) only [pU_s, u1_s]
  generalize pU (pU (pU (pU (pU (pU A' 575 2 0) 575 3 (-1)) 575 8 0) 575 9 0) 575 10 0) 575 6 0 = B at *
  obtain ⟨J, H0, hR, hta, hRW, ⟨m10, m31⟩, ⟨m13, m14, m19⟩, rest⟩ := ld_model hM (BB_0 hb)
  have r0 : H0 625 0 = 1 := hRW.1.1
  have hRA : RA (CQ 578) g J B H0 := by
    refine ⟨⟨hI, hR, ?_, ⟨CF_CQ, ?_⟩, ⟨b2, b3⟩, ⟨m13, m14⟩, ?_⟩, by rw [b6]; exact hta⟩
    · unfold BB
      rw [bx 576 (by omega), bx 577 (by omega), hA.2 576 (by omega), hA.2 577 (by omega), m10, m31]
      exact hb
    · exact CQ_eq (CQ_fresh hFR hRW) (by omega) (fun x x0 x1 => bx x (by omega))
    · unfold ON
      rw [b8, b9, b10, m19]
      exact ⟨⟨⟨Or.inl rfl, Or.inl rfl, Or.inl rfl⟩, rfl⟩, fun x hx => (bx x (by omega)).trans (hA.2 x (by omega))⟩
  obtain ⟨G, H, y2, eC, eM, z⟩ := rr_text 501 fu fu 0 B H0 hRA ⟨by omega, by omega⟩ (by rw [b6]; decide) (by omega) (by omega)
  rw [eC]
  have hz : CR g G ∧ RD J H := by
    rcases z with ⟨-, z⟩ | ⟨-, z⟩
    · exact ⟨z.1.1, z.2.1⟩
    · exact ⟨z.1.1, z.2.1⟩
  obtain ⟨v, K, eK, hL, hv, hk, hT, hS, hF⟩ := ld_end hz.1
  obtain ⟨v2, N, eN, hv2, ⟨n10, n11, n12⟩, nf, ns, nr⟩ := rest y2 H eM hz.2
  have ev : v2 = v := by
    rw [hv, hv2]
    rcases z with ⟨rfl, z⟩ | ⟨rfl, z⟩
    · rw [if_neg f0, if_pos z.2.2.2.2.1.1]
      exact z.2.2.2.1.2.1.1.symm
    · obtain ⟨-, -, -, z4, z5, -⟩ := z
      rw [if_pos rfl, if_neg (by rw [z5]; exact z4)]
  rw [ev] at eN
  have hA : K 575 2 = N 624 11 ∧ K 575 3 = N 624 12 := by
    rw [hk, n11, n12]
    rcases z with ⟨-, z⟩ | ⟨-, z⟩
    · obtain ⟨-, -, -, -, ⟨z5, z6⟩, ⟨z7, z8⟩, -⟩ := z
      rw [z5, z6, z7, z8]
      exact ⟨rfl, rfl⟩
    · exact ⟨z.2.2.2.2.1, z.2.2.2.2.2.1⟩
  refine ⟨v, K, N, eK, eN, hA, ⟨hL.2.2, n10⟩, nf, ⟨hL.1, fun x hx => hL.2.1 x hx, hL.2.2⟩, ?_⟩
  rcases z with ⟨rfl, z⟩ | ⟨rfl, z⟩
  · have z2 : G 575 2 = 0 := z.2.2.2.2.1.1
    obtain ⟨s1, s2, s3⟩ := ns f0
    obtain ⟨t1, t2, t3⟩ := hS z2
    have cq := z.2.2.2.1.2
    have fl := z.2.2.2.2.2.2.2
    have tc := hT z2
    refine Or.inl ⟨s2, s3, t1, t2, by rw [t3, fl 133 (by omega)], ?_, fun i i0 i1 => ?_, ?_⟩
    · rw [s1]
      exact CP_TC (CQ_P cq) hz.2.1.2.1.1 T578 tc
    · rw [(tc.2.2.2 i i0 i1).1 13 (by omega) (by omega) (by omega)]
      exact CQ_d0 cq i i0 i1
    · rw [s1]; exact CQ_r3 cq
  · obtain ⟨s1, s2, s3⟩ := nr rfl
    have z2 : ¬ G 575 2 = 0 := by rw [z.2.2.2.2.1]; exact z.2.2.2.1
    exact Or.inr ⟨fun x hx => (hF z2 x (by omega)).trans (z.2.2.2.2.2.2 x hx), s1, s2, s3⟩
end PAR16
/-! ===== both inputs, byte by byte (own work) ===== -/
section PAR17
variable {g g' g1 G H K M A : gH} {a b c d e i j k l m n p q s t u v w x y z : Int}
theorem i2b_m (x : Int) : i2b x = (w32 x).bmod 256 := by
  unfold i2b
  rw [Int8.toInt_toInt32, Int32.toInt_toInt8, toI_toInt]
theorem by_r (z : Int) : (0 ≤ opI 1 z 255 ∧ opI 1 z 255 ≤ 255) ∧ i2b (i2b z) = if opI 1 z 255 < 128 then opI 1 z 255 else opI 1 z 255 - 256 := by
  have e : ((toI z).toBitVec &&& 255#32).toNat = (toI z).toBitVec.toNat % 256 := by
    rw [BitVec.toNat_and]
    exact Nat.and_two_pow_sub_one_eq_mod _ 8
  have e2 : opI 1 z 255 = ((toI z).toBitVec &&& 255#32).toInt := rfl
  have hm : (toI z).toBitVec.toNat % 256 < 256 := Nat.mod_lt _ (by omega)
  have e3 : opI 1 z 255 = (((toI z).toBitVec.toNat % 256 : Nat) : Int) := by
    rw [e2, BitVec.toInt_eq_toNat_cond, e, if_pos (by omega)]
  have hw : (toI z).toInt = w32 z := toI_toInt z
  have hz : (toI z).toInt = (toI z).toBitVec.toInt := rfl
  rw [hz, BitVec.toInt_eq_toNat_cond] at hw
  rw [e3]
  have hlt := (toI z).toBitVec.isLt
  generalize (toI z).toBitVec.toNat = N at *
  have h1 : i2b z = if ((N % 256 : Nat) : Int) < 128 then ((N % 256 : Nat) : Int) else ((N % 256 : Nat) : Int) - 256 := by
    rw [i2b_m, ← hw]
    simp only [Int.bmod_def]
    split <;> split <;> split <;> omega
  have h2 : -128 ≤ i2b z ∧ i2b z < 128 := by
    rw [h1]
    split <;> omega
  refine ⟨by omega, ?_⟩
  rw [← h1, i2b_m, w32_r (by omega)]
  generalize i2b z = B at *
  simp only [Int.bmod_def]
  split <;> omega
/-- both write one byte -/
theorem BB_byte (h : BB G H) (h0 : 0 ≤ G 576 1) (z : Int) : BB (pU (pU G 577 (G 576 1) (i2b (i2b z))) 576 1 (G 576 1 + 1)) (pU (pU H 631 (H 624 10) (opI 1 z 255)) 624 10 (H 624 10 + 1)) := by
  obtain ⟨h1, h2⟩ := h
  unfold BB
  rw [pU_s, u1_s, pU_s, u1_s, pU_n (show ¬ (577 : Int) = 576 by omega), pU_s, pU_n (show ¬ (631 : Int) = 624 by omega), pU_s, ← h1]
  refine ⟨rfl, fun k k0 k1 => ?_⟩
  by_cases e : k = G 576 1
  · rw [e, u1_s, u1_s]
    exact by_r z
  · rw [u1_n e, u1_n e]
    exact h2 k k0 (by omega)
/-- both write the four bytes of a number -/
theorem ap_both : ∀ (m n1 n2 : Nat) (v : Int) (G H : gH), BB G H → (0 ≤ G 576 1 ∧ G 576 1 + m ≤ 500) → G 576 0 = 577 → H 624 9 = 631 → (v + 8) / 8 = m → 0 ≤ v + 8 → v < 100 → m < n1 → m < n2 → ∃ G' H', lI_append_3 576 w n1 v G = some (0, G') ∧ lM_appendWord_3 624 w n2 v H = some (0, H') ∧ BB G' H' ∧ G' 576 1 = G 576 1 + m ∧ (G' 576 0 = 577 ∧ ∀ x, ¬ x = 576 → ¬ x = 577 → G' x = G x) ∧ (H' 624 9 = 631 ∧ (∀ k, ¬ k = 10 → H' 624 k = H 624 k) ∧ ∀ x, ¬ x = 624 → ¬ x = 631 → H' x = H x) := by
  intro m
  induction m with
  | zero =>
    intro n1 n2 v G H hb hl g0 h9 hm h8 hv hn1 hn2
    obtain ⟨n1, rfl⟩ : ∃ k, n1 = k + 1 := ⟨n1 - 1, by omega⟩
    obtain ⟨n2, rfl⟩ : ∃ k, n2 = k + 1 := ⟨n2 - 1, by omega⟩
    refine ⟨G, H, ?_, ?_, hb, by omega, ⟨g0, fun _ _ _ => rfl⟩, ⟨h9, fun _ _ => rfl, fun _ _ _ => rfl⟩⟩
    · show bI_append_3 576 w (lI_append_3 576 w n1) v G = _
      rw [bI_append_3, if_pos (by omega)]
    · show bM_appendWord_3 624 w (lM_appendWord_3 624 w n2) v H = _
      rw [bM_appendWord_3, if_pos (by omega)]
  | succ m ih =>
    intro n1 n2 v G H hb hl g0 h9 hm h8 hv hn1 hn2
    obtain ⟨n1, rfl⟩ : ∃ k, n1 = k + 1 := ⟨n1 - 1, by omega⟩
    obtain ⟨n2, rfl⟩ : ∃ k, n2 = k + 1 := ⟨n2 - 1, by omega⟩
    have e10 := hb.1
    have s := BB_byte hb hl.1 (opI 5 w v)
    have cG : lI_append_3 576 w (n1 + 1) v G = lI_append_3 576 w n1 (v + -8) (pU (pU G 577 (G 576 1) (i2b (i2b (opI 5 w v)))) 576 1 (G 576 1 + 1)) := by
      show bI_append_3 576 w (lI_append_3 576 w n1) v G = _
      have e2 : pU G 577 (G 576 1) (i2b (i2b (opI 5 w v))) 576 = G 576 := pU_n (by omega)
      rw [bI_append_3, if_neg (by omega), if_neg (by omega), if_pos (by omega), g0, if_pos ⟨kd_577, hl.1, by rw [sz_577]; omega⟩, bnd_s, bnd_s, e2, w32_r (by omega), w32_r (by omega)]
    have cH : lM_appendWord_3 624 w (n2 + 1) v H = lM_appendWord_3 624 w n2 (v + -8) (pU (pU H 631 (H 624 10) (opI 1 (opI 5 w v) 255)) 624 10 (H 624 10 + 1)) := by
      show bM_appendWord_3 624 w (lM_appendWord_3 624 w n2) v H = _
      have e2 : pU H 631 (H 624 10) (opI 1 (opI 5 w v) 255) 624 = H 624 := pU_n (by omega)
      rw [bM_appendWord_3, if_neg (by omega), h9, if_pos ⟨kd_631, by omega, by rw [sz_631]; omega⟩, bnd_s, bnd_s, e2, w32_r (by omega), w32_r (by omega)]
    have x1 : pU (pU G 577 (G 576 1) (i2b (i2b (opI 5 w v)))) 576 1 (G 576 1 + 1) 576 1 = G 576 1 + 1 := by rw [pU_s, u1_s]
    have x0 : pU (pU G 577 (G 576 1) (i2b (i2b (opI 5 w v)))) 576 1 (G 576 1 + 1) 576 0 = 577 := by rw [pU_s, u1_n (by omega), pU_n (by omega)]; exact g0
    have xx : ∀ x, ¬ x = 576 → ¬ x = 577 → pU (pU G 577 (G 576 1) (i2b (i2b (opI 5 w v)))) 576 1 (G 576 1 + 1) x = G x := fun x a b => by rw [pU_n a, pU_n b]
    have y9 : pU (pU H 631 (H 624 10) (opI 1 (opI 5 w v) 255)) 624 10 (H 624 10 + 1) 624 9 = 631 := by rw [pU_s, u1_n (by omega), pU_n (by omega)]; exact h9
    have yk : ∀ k, ¬ k = 10 → pU (pU H 631 (H 624 10) (opI 1 (opI 5 w v) 255)) 624 10 (H 624 10 + 1) 624 k = H 624 k := fun k hk => by rw [pU_s, u1_n hk, pU_n (by omega)]
    have yx : ∀ x, ¬ x = 624 → ¬ x = 631 → pU (pU H 631 (H 624 10) (opI 1 (opI 5 w v) 255)) 624 10 (H 624 10 + 1) x = H x := fun x a b => by rw [pU_n a, pU_n b]
    rw [cG, cH]
    generalize pU (pU G 577 (G 576 1) (i2b (i2b (opI 5 w v)))) 576 1 (G 576 1 + 1) = A at *
    generalize pU (pU H 631 (H 624 10) (opI 1 (opI 5 w v) 255)) 624 10 (H 624 10 + 1) = D at *
    obtain ⟨G', H', r1, r2, r3, r4, ⟨r5, r6⟩, ⟨r7, r8, r9⟩⟩ := ih n1 n2 (v + -8) A D s (by omega) x0 y9 (by omega) (by omega) (by omega) (by omega) (by omega)
    exact ⟨G', H', r1, r2, r3, by omega, ⟨r5, fun x a b => (r6 x a b).trans (xx x a b)⟩, ⟨r7, fun k hk => (r8 k hk).trans (yk k hk), fun x a b => (r9 x a b).trans (yx x a b)⟩⟩
theorem ap_word (hb : BB G H) (hl : 0 ≤ G 576 1 ∧ G 576 1 + 4 ≤ 500) (h0 : G 576 0 = 577) (h9 : H 624 9 = 631) : ∃ G' H', fI_append G 576 w = some (0, G') ∧ fM_appendWord H 624 w = some (0, H') ∧ BB G' H' ∧ G' 576 1 = G 576 1 + 4 ∧ (G' 576 0 = 577 ∧ ∀ x, ¬ x = 576 → ¬ x = 577 → G' x = G x) ∧ (H' 624 9 = 631 ∧ (∀ k, ¬ k = 10 → H' 624 k = H 624 k) ∧ ∀ x, ¬ x = 624 → ¬ x = 631 → H' x = H x) := by
  have hf := fu_ge
  exact ap_both 4 fu fu 24 G H hb hl h0 h9 (by omega) (by omega) (by omega) (by omega) (by omega)
/-- both append alike -/
theorem ap_input (h : CInv g) (hM : MInv g1) (hb : BB g g1) : ∃ v G H, fC_appendInput g 0 a b c d k = some (v, G) ∧ fM_appendInput g1 624 a b c d k = some (v, H) ∧ BB G H ∧ (∀ x, ¬ x = 576 → ¬ x = 577 → G x = g x) ∧ (∀ k, ¬ k = 10 → ¬ k = 8 → H 624 k = g1 624 k) ∧ (∀ x, ¬ x = 624 → ¬ x = 631 → H x = g1 x) ∧ H 624 8 = 0 := by
  have hl := h.2.2
  have e4 : g 0 4 = 575 := h.1.1.2.2.2.2.1
  have e5 : g 575 0 = 576 := h.1.2.2.2.1
  have e0 : g 576 0 = 577 := h.1.2.2.2.2.2.1
  have h10 := hb.1
  have m9 : g1 624 9 = 631 := hM.1.2.2.2.2.2.1
  rw [fC_appendInput, e4, if_pos kd_575, e5, if_pos kd_576, w32_r (by omega), fM_appendInput, bnd_s]
  have t10 : ∀ k, ¬ k = 8 → pU g1 624 8 0 624 k = g1 624 k := fun k hk => pU_y hk
  have t31 : pU g1 624 8 0 631 = g1 631 := pU_n (by omega)
  have tx : ∀ x, ¬ x = 624 → pU g1 624 8 0 x = g1 x := fun x hx => pU_n hx
  have t8 : pU g1 624 8 0 624 8 = 0 := by rw [pU_s, u1_s]
  have hb1 : BB g (pU g1 624 8 0) := by
    unfold BB
    rw [t10 10 (by omega), t31]
    exact hb
  generalize pU g1 624 8 0 = H0 at *
  rw [t10 10 (by omega), ← h10, w32_r (by omega)]
  by_cases hc : 500 < g 576 1 + 20
  · rw [if_pos hc, if_pos hc]
    exact ⟨_, _, _, rfl, rfl, hb1, fun _ _ _ => rfl, fun k _ k8 => t10 k k8, fun x x1 _ => tx x x1, t8⟩
  · rw [if_neg hc, if_neg hc]
    obtain ⟨G1, H1, a1, a2, a3, a4, ⟨a5, a6⟩, ⟨a7, a8, a9⟩⟩ := ap_word (w := a) hb1 (by omega) e0 (by rw [t10 9 (by omega)]; exact m9)
    obtain ⟨G2, H2, b1, b2, b3, b4, ⟨b5, b6⟩, ⟨b7, b8, b9⟩⟩ := ap_word (w := b) a3 (by omega) a5 a7
    obtain ⟨G3, H3, c1, c2, c3, c4, ⟨c5, c6⟩, ⟨c7, c8, c9⟩⟩ := ap_word (w := c) b3 (by omega) b5 b7
    obtain ⟨G4, H4, d1, d2, d3, d4, ⟨d5, d6⟩, ⟨d7, d8, d9⟩⟩ := ap_word (w := d) c3 (by omega) c5 c7
    obtain ⟨G5, H5, k1, k2, k3, k4, ⟨k5, k6⟩, ⟨k7, k8, k9⟩⟩ := ap_word (w := k) d3 (by omega) d5 d7
    rw [a1, bdN_s, b1, bdN_s, c1, bdN_s, d1, bdN_s, k1, bdN_s, a2, bdN_s, b2, bdN_s, c2, bdN_s, d2, bdN_s, k2, bdN_s, k3.1]
    refine ⟨_, G5, H5, rfl, rfl, k3, fun x x1 x2 => ?_, fun k k1 k2 => ?_, fun x x1 x2 => ?_, ?_⟩
    · rw [k6 x x1 x2, d6 x x1 x2, c6 x x1 x2, b6 x x1 x2, a6 x x1 x2]
    · rw [k8 k k1, d8 k k1, c8 k k1, b8 k k1, a8 k k1]; exact t10 k k2
    · rw [k9 x x1 x2, d9 x x1 x2, c9 x x1 x2, b9 x x1 x2, a9 x x1 x2]; exact tx x x1
    · rw [k8 8 (by omega), d8 8 (by omega), c8 8 (by omega), b8 8 (by omega), a8 8 (by omega)]; exact t8
theorem tr_input (h : CInv g) (hM : MInv g1) (hb : BB g g1) : ∃ v G H, fC_truncateInput g 0 a = some (v, G) ∧ fM_truncateInput g1 624 a = some (v, H) ∧ BB G H ∧ (∀ x, ¬ x = 576 → ¬ x = 577 → G x = g x) ∧ (∀ k, ¬ k = 10 → ¬ k = 8 → H 624 k = g1 624 k) ∧ (∀ x, ¬ x = 624 → ¬ x = 631 → H x = g1 x) ∧ H 624 8 = 0 := by
  have hl := h.2.2
  have e4 : g 0 4 = 575 := h.1.1.2.2.2.2.1
  have e5 : g 575 0 = 576 := h.1.2.2.2.1
  have h10 := hb.1
  rw [fC_truncateInput, e4, if_pos kd_575, e5, if_pos kd_576, fM_truncateInput, bnd_s, bnd_s]
  have t10 : ∀ k, ¬ k = 8 → pU g1 624 8 0 624 k = g1 624 k := fun k hk => pU_y hk
  have t31 : pU g1 624 8 0 631 = g1 631 := pU_n (by omega)
  have tx : ∀ x, ¬ x = 624 → pU g1 624 8 0 x = g1 x := fun x hx => pU_n hx
  have t8 : pU g1 624 8 0 624 8 = 0 := by rw [pU_s, u1_s]
  have hb1 : BB g (pU g1 624 8 0) := by
    unfold BB
    rw [t10 10 (by omega), t31]
    exact hb
  generalize pU g1 624 8 0 = H0 at *
  rw [t10 10 (by omega), ← h10, vM_inRange, bdP_s]
  by_cases h1 : a < 0
  · rw [if_pos h1, if_neg (show ¬ (0 ≤ a ∧ a ≤ g 576 1) by omega), if_pos (show (0 : Int) = 0 from rfl)]
    exact ⟨_, _, _, rfl, rfl, hb1, fun _ _ _ => rfl, fun k _ k8 => t10 k k8, fun x x1 _ => tx x x1, t8⟩
  · rw [if_neg h1]
    by_cases h2 : g 576 1 < a
    · rw [if_pos h2, if_neg (show ¬ (0 ≤ a ∧ a ≤ g 576 1) by omega), if_pos (show (0 : Int) = 0 from rfl)]
      exact ⟨_, _, _, rfl, rfl, hb1, fun _ _ _ => rfl, fun k _ k8 => t10 k k8, fun x x1 _ => tx x x1, t8⟩
    · rw [if_neg h2, if_pos (show 0 ≤ a ∧ a ≤ g 576 1 by omega), if_neg f0, bnd_s]
      refine ⟨_, _, _, rfl, rfl, ?_, fun x x1 _ => pU_n x1, fun k k1 k2 => ?_, fun x x1 _ => ?_, ?_⟩
      · unfold BB
        rw [pU_s, u1_s, pU_s, u1_s, pU_n (show ¬ (577 : Int) = 576 by omega), pU_n (show ¬ (631 : Int) = 624 by omega)]
        exact ⟨rfl, fun j j0 j1 => hb1.2 j j0 (by omega)⟩
      · rw [pU_y k1]; exact t10 k k2
      · rw [pU_n x1]; exact tx x x1
      · rw [pU_y (by omega)]; exact t8
end PAR17
