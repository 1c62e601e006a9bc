/-! ===== both between two calls: tree, history, saved state, input, error (own work) ===== -/
section PAR29
variable {g g' G G' H H' K : gH} {r r' d d' dm : Int → Int} {a b c e i j k l m n o p q s t u v w x y z S T gp code : Int}
/-- no marks of doom -/
def QZ (S : Int) (G : gH) (r : Int → Int) : Prop := QQ S G r (fun _ => 0)
theorem QQ_eq (h : QQ S G r d) (e : ∀ x, S ≤ x → x < S + 44 → H x = G x) : QQ S H r d :=
  ⟨h.1, TI_F h.2.1 e, h.2.2.1, CP_eq h.2.2.2.1 (by have := h.2.2.1.1; omega) e, fun i i0 i1 => by
    have := pc_b (T := S) ⟨i0, i1⟩
    rw [e _ (by omega) (by omega)]
    exact h.2.2.2.2.1 i i0 i1, h.2.2.2.2.2⟩
theorem CP_ext (h : CP S G r) (hb : WB r) (h1 : r 1 ≤ 40) (e : ∀ k, 0 ≤ k → k < 780 → r' k = r k) : CP S G r' := by
  obtain ⟨⟨p1, p2, p3, p4, p5, p6⟩, h2, h3, h4, h5, h6, h7⟩ := h
  have hM := hb.1
  have e0 : r' 0 = r 0 := e 0 (by omega) (by omega)
  have e1 : r' 1 = r 1 := e 1 (by omega) (by omega)
  refine ⟨⟨by rw [e0]; exact p1, by rw [e1]; exact p2, by rw [e 2 (by omega) (by omega)]; exact p3, by rw [e 3 (by omega) (by omega)]; exact p4, by rw [e 4 (by omega) (by omega)]; exact p5, by rw [e 59 (by omega) (by omega)]; exact p6⟩, fun i i0 i1 => ?_, fun d d0 d1 => ?_, fun i i0 i1 => ?_, fun i i0 i1 => ?_, fun i i0 i1 => ?_, RU_e h7 (fun k k0 k1 => e k (by omega) (by omega))⟩
  · rw [e 5 (by omega) (by omega), e (6 + i) (by omega) (by omega)]; exact h2 i i0 i1
  · rw [e (11 + d) (by omega) (by omega)]; exact h3 d d0 d1
  · rw [e0] at i1
    exact PE_row (h4 i i0 i1) ⟨i0, by omega⟩ h1 e1 (fun k hk => e k (by omega) (by omega)) (kids_eq e0 (fun j j0 j1 => ⟨e _ (by omega) (by omega), e _ (by omega) (by omega)⟩))
  · rw [e0] at i1
    rw [e (60 + i) (by omega) (by omega)]; exact h5 i i0 i1
  · rw [e0] at i0
    exact h6 i i0 i1
theorem QQ_ext (h : QQ S G r d) (h1 : r 1 ≤ 40) (e : ∀ k, 0 ≤ k → k < 780 → r' k = r k) : QQ S G r' d :=
  ⟨h.1, h.2.1, WB_eq h.2.2.1 (fun k hk => e k (by omega) (by omega)), CP_ext h.2.2.2.1 h.2.2.1 h1 e, h.2.2.2.2.1, LR_e h.2.2.2.2.2 (e 3 (by omega) (by omega)) (e 60 (by omega) (by omega)) (e 380 (by omega) (by omega))⟩
theorem QQ_TC (h : QQ S G r d) (hT : isT T) (ti : TI H T) (ht : TC S T G H) : QQ T H r d :=
  ⟨hT, ti, h.2.2.1, CP_TC h.2.2.2.1 h.2.2.1 h.1 ht, fun i i0 i1 => by
    rw [(ht.2.2.2 i i0 i1).1 13 (by omega) (by omega) (by omega)]
    exact h.2.2.2.2.1 i i0 i1, h.2.2.2.2.2⟩
/-- a tree is copied into another -/
theorem wT_take (h : QQ S G r d) (ti : TI G T) (hT : isT T) (hn : ¬ T = S) : ∃ H, fT_take G T S = some (0, H) ∧ TF T G H ∧ QQ T H r d := by
  obtain ⟨v, H, e1, e2⟩ := tT_take ti.1 hT h.1 h.2.1 hn
  obtain ⟨v', H', e3, e4, e5⟩ := vT_take ti.1 hT h.1 h.2.1 hn
  rw [e1] at e3
  cases e3
  exact ⟨H, by rw [e1, e4], e2.2, QQ_TC h hT e2.1 e5⟩
/-- the history: a ring of trees against rows -/
def RG (G H : gH) : Prop := G 133 1 = H 624 6 ∧ (0 ≤ H 624 6 ∧ H 624 6 ≤ 10) ∧ (0 ≤ G 133 2 ∧ G 133 2 ≤ 10) ∧ ∀ j, 0 ≤ j → j < H 624 6 → QZ (135 + 44 * ((G 133 2 + 10 - H 624 6 + j) % 10)) G (fun k => H 629 (780 * j + k))
/-- what is saved -/
def SV (G H : gH) : Prop := (G 0 6 = 0 ↔ H 624 7 = 0) ∧ (¬ H 624 7 = 0 → QZ 89 G (H 628))
/-- input and error -/
def IE (G H : gH) : Prop := BB G H ∧ G 575 2 = H 624 11 ∧ G 575 3 = H 624 12
def JA (G H : gH) : Prop := CInv G ∧ MInv H ∧ QZ 1 G (H 625) ∧ RG G H ∧ SV G H ∧ IE G H
theorem RG_e (h : RG G H) (e : ∀ x, 133 ≤ x → x < 575 → G' x = G x) (e6 : H' 624 6 = H 624 6) (e9 : H' 629 = H 629) : RG G' H' := by
  obtain ⟨h1, h2, h3, h4⟩ := h
  have e133 : G' 133 = G 133 := e 133 (by omega) (by omega)
  refine ⟨by rw [e133, e6]; exact h1, by rw [e6]; exact h2, by rw [e133]; exact h3, fun j j0 j1 => ?_⟩
  rw [e6] at j1
  rw [e133, e6, e9]
  exact QQ_eq (h4 j j0 j1) (fun x x0 x1 => e x (by omega) (by omega))
theorem SV_e (h : SV G H) (e : ∀ x, 89 ≤ x → x < 133 → G' x = G x) (e0 : G' 0 6 = G 0 6) (e7 : H' 624 7 = H 624 7) (e8 : H' 628 = H 628) : SV G' H' :=
  ⟨by rw [e0, e7]; exact h.1, fun z => by
    rw [e7] at z
    rw [e8]
    exact QQ_eq (h.2 z) (fun x x0 x1 => e x (by omega) (by omega))⟩
theorem IE_e (h : IE G H) (e : ∀ x, 575 ≤ x → x ≤ 577 → G' x = G x) (ek : ∀ k, 10 ≤ k → k ≤ 12 → H' 624 k = H 624 k) (ei : H' 631 = H 631) : IE G' H' := by
  unfold IE BB at h ⊢
  rw [e 575 (by omega) (by omega), e 576 (by omega) (by omega), e 577 (by omega) (by omega), ek 10 (by omega) (by omega), ek 11 (by omega) (by omega), ek 12 (by omega) (by omega), ei]
  exact h
theorem JA_th (h : JA G H) : JA G (th H t) := by
  obtain ⟨h1, h2, h3, h4, h5, h6⟩ := h
  exact ⟨h1, MInv_th h2, by rw [th_n (by omega)]; exact h3, RG_e h4 (fun _ _ _ => rfl) (th_f (by omega)) (th_n (by omega)), SV_e h5 (fun _ _ _ => rfl) rfl (th_f (by omega)) (th_n (by omega)), IE_e h6 (fun _ _ _ => rfl) (fun k k0 k1 => th_f (by omega)) (th_n (by omega))⟩
theorem WBF_1 (h : WBF r) : 0 ≤ r 1 ∧ r 1 ≤ 39 := by
  have := NX_bd h.1.1 h.2.1.2 h.2.2.2.2.2.1
  have := h.1.1
  omega
/-! the tree goes into the past -/
theorem push_c (h : CInv G) (q : QZ 1 G r) (hn : 0 ≤ G 133 2 ∧ G 133 2 ≤ 10) : ∃ G', fH_push G 133 1 = some (0, G') ∧ QZ (135 + 44 * (G 133 2 % 10)) G' r ∧ G' 133 2 = G 133 2 % 10 + 1 ∧ G' 133 1 = (if G 133 1 < 10 then w32 (G 133 1 + 1) else G 133 1) ∧ ∀ x, ¬ x = 133 → ¬ (135 + 44 * (G 133 2 % 10) ≤ x ∧ x < 179 + 44 * (G 133 2 % 10)) → G' x = G x := by
  have l21 : ∀ K, CInv K → QZ 1 K r → 0 ≤ K 133 2 ∧ K 133 2 < 10 → ∃ G', jH_push_21 K 133 1 = some (0, G') ∧ QZ (135 + 44 * K 133 2) G' r ∧ G' 133 2 = K 133 2 + 1 ∧ G' 133 1 = (if K 133 1 < 10 then w32 (K 133 1 + 1) else K 133 1) ∧ ∀ x, ¬ x = 133 → ¬ (135 + 44 * K 133 2 ≤ x ∧ x < 179 + 44 * K 133 2) → G' x = K x := by
    intro K h q hk
    have hT := Tk hk
    have hs := h.1
    obtain ⟨A, a1, a2, a3⟩ := wT_take q (h.2.1 _ hT) hT (by omega)
    have e133 : A 133 = K 133 := a2 133 (by omega)
    have f1 : pU A 133 2 (K 133 2 + 1) 133 1 = K 133 1 := by rw [pU_y (by omega), e133]
    rw [jH_push_21, hs.2.1, if_pos ⟨kd_134, hk.1, by rw [sz_134]; exact hk.2⟩, hs.2.2.1 _ hk.1 hk.2, if_pos (kdT hT), a1, bdN_s, bnd_s, e133, w32_r (x := K 133 2 + 1) (by omega), f1]
    by_cases c : K 133 1 < 10
    · rw [if_pos c, bnd_s]
      refine ⟨_, rfl, QQ_eq a3 (fun x x0 x1 => by rw [pU_n (by omega), pU_n (by omega)]), ?_, ?_, fun x x0 x1 => ?_⟩
      · rw [pU_y (by omega), pU_s, u1_s]
      · rw [pU_s, u1_s, if_pos c]
      · rw [pU_n x0, pU_n x0]; exact a2 x (by omega)
    · rw [if_neg c]
      refine ⟨_, rfl, QQ_eq a3 (fun x x0 x1 => by rw [pU_n (by omega)]), ?_, ?_, fun x x0 x1 => ?_⟩
      · rw [pU_s, u1_s]
      · rw [f1, if_neg c]
      · rw [pU_n x0]; exact a2 x (by omega)
  by_cases c : G 133 2 < 10
  · rw [fH_push, if_neg (by omega), if_pos c, show G 133 2 % 10 = G 133 2 by omega]
    exact l21 G h q ⟨hn.1, c⟩
  · have c : G 133 2 = 10 := by omega
    have e2 : pU G 133 2 0 133 2 = 0 := by rw [pU_s, u1_s]
    have e1 : pU G 133 2 0 133 1 = G 133 1 := pU_y (by omega)
    obtain ⟨G', x1, x2, x3, x4, x5⟩ := l21 (pU G 133 2 0) (CO_w (CO_r h) (by omega)).1 (QQ_eq q (fun x x0 x1 => pU_n (by omega))) (by omega)
    rw [e2] at x2 x3 x5
    rw [e1] at x4
    rw [fH_push, if_neg (by omega), if_neg (by omega), jH_push_16, bnd_s, c]
    exact ⟨G', x1, x2, x3, x4, fun x x0 x1 => (x5 x x0 x1).trans (pU_n x0)⟩
theorem push_m (hi : MInv g) : ∃ g', fM_remembers g 624 = some (0, g') ∧ MInv g' ∧ (∀ x, ¬ x = 624 → ¬ x = 629 → g' x = g x) ∧ (∀ k, ¬ k = 6 → g' 624 k = g 624 k) ∧ g' 624 6 = (if g 624 6 = 10 then 10 else g 624 6 + 1) ∧ (∀ k, 0 ≤ k → k < 780 → g' 629 (780 * (g' 624 6 - 1) + k) = g 625 k) ∧ ∀ j k, 0 ≤ j → j < g' 624 6 - 1 → 0 ≤ k → k < 780 → g' 629 (780 * j + k) = g 629 (780 * (j + g 624 6 - (g' 624 6 - 1)) + k) := by
  obtain ⟨g', x1, x2, x3, x4, x5⟩ := vM_remembers hi
  refine ⟨g', x1, x2, x4, x5, ?_⟩
  clear x2 x3 x4 x5
  obtain ⟨h1, h2, h3, ⟨h4, h5⟩, h6, h7, h8⟩ := hi
  have h0 := h1.1
  have h29 := h1.2.2.2.1
  have fin : ∀ G : gH, G 624 0 = 625 → G 624 4 = 629 → (0 ≤ G 624 6 ∧ G 624 6 ≤ 9) → jM_remembers_37 G 624 = some (0, pU (cpG G 625 0 629 (780 * G 624 6) 780) 624 6 (G 624 6 + 1)) := by
    intro G g0 g4 g6
    have e1 : opI 0 780 (G 624 6) = 780 * G 624 6 := by rw [opI_mul, w32_r (by omega)]
    have hc := vM_copies (g := G) (a := 625) (x := 0) (b := 629) (y := 780 * G 624 6) (n := 780) ⟨kd_625, kd_629⟩ (by rw [sz_625]; omega) (by rw [sz_629]; omega) (by omega) (Or.inl (by omega))
    rw [jM_remembers_37, g0, g4, e1, hc, bdN_s, bnd_s, cpG_n (by omega), w32_r (by omega)]
  rw [fM_remembers] at x1
  by_cases c10 : g 624 6 = 10
  · have hc := vM_copies (g := g) (a := 629) (x := 780) (b := 629) (y := 0) (n := 7020) ⟨kd_629, kd_629⟩ (by rw [sz_629]; omega) (by rw [sz_629]; omega) (by omega) (Or.inr (by omega))
    rw [if_pos c10, h29, hc, bdN_s, bnd_s, cpG_n (by omega), c10, w32_r (by omega)] at x1
    have y6 : pU (cpG g 629 780 629 0 7020) 624 6 (10 - 1) 624 6 = 9 := by rw [pU_s, u1_s]; rfl
    have y25 : pU (cpG g 629 780 629 0 7020) 624 6 (10 - 1) 625 = g 625 := by rw [pU_n (by omega), cpG_n (by omega)]
    have y29 : ∀ k, 0 ≤ k → k < 7020 → pU (cpG g 629 780 629 0 7020) 624 6 (10 - 1) 629 k = g 629 (780 + k) := by
      intro k k0 k1
      rw [pU_n (by omega)]
      unfold cpG
      rw [if_pos ⟨rfl, by omega, by omega⟩, show (780 + k - 0 : Int) = 780 + k by omega]
    have y0 : pU (cpG g 629 780 629 0 7020) 624 6 (10 - 1) 624 0 = 625 := by rw [pU_y (by omega), cpG_n (by omega)]; exact h0
    have y4 : pU (cpG g 629 780 629 0 7020) 624 6 (10 - 1) 624 4 = 629 := by rw [pU_y (by omega), cpG_n (by omega)]; exact h29
    generalize pU (cpG g 629 780 629 0 7020) 624 6 (10 - 1) = G at *
    rw [fin G y0 y4 (by omega), y6] at x1
    cases x1
    have z6 : pU (cpG G 625 0 629 (780 * 9) 780) 624 6 (9 + 1) 624 6 = 10 := by rw [pU_s, u1_s]; rfl
    rw [z6, if_pos c10, c10]
    refine ⟨rfl, fun k k0 k1 => ?_, fun j k j0 j1 k0 k1 => ?_⟩
    · rw [pU_n (by omega)]
      unfold cpG
      rw [if_pos ⟨rfl, by omega, by omega⟩, show (0 + (780 * (10 - 1) + k) - 780 * 9 : Int) = k by omega, y25]
    · rw [pU_n (by omega)]
      unfold cpG
      rw [if_neg (fun z => by have := z.2.1; omega), y29 _ (by omega) (by omega), show (780 + (780 * j + k) : Int) = 780 * (j + 10 - (10 - 1)) + k by omega]
  · rw [if_neg c10, fin g h0 h29 (by omega)] at x1
    cases x1
    have z6 : pU (cpG g 625 0 629 (780 * g 624 6) 780) 624 6 (g 624 6 + 1) 624 6 = g 624 6 + 1 := by rw [pU_s, u1_s]
    rw [z6, if_neg c10]
    refine ⟨rfl, fun k k0 k1 => ?_, fun j k j0 j1 k0 k1 => ?_⟩
    · rw [pU_n (by omega)]
      unfold cpG
      rw [if_pos ⟨rfl, by omega, by omega⟩, show (0 + (780 * (g 624 6 + 1 - 1) + k) - 780 * g 624 6 : Int) = k by omega]
    · rw [pU_n (by omega)]
      unfold cpG
      rw [if_neg (fun z => by have := z.2.1; omega), show (780 * (j + g 624 6 - (g 624 6 + 1 - 1)) + k : Int) = 780 * j + k by omega]
/-- the state is kept, in both -/
theorem JA_push (h : JA G H) : ∃ G' H', fH_push G 133 1 = some (0, G') ∧ fM_remembers H 624 = some (0, H') ∧ JA G' H' ∧ (∀ x, x < 133 → G' x = G x) ∧ (∀ x, ¬ x = 624 → ¬ x = 629 → H' x = H x) ∧ ∀ k, ¬ k = 6 → H' 624 k = H 624 k := by
  obtain ⟨h1, h2, h3, ⟨r1, r2, r3, r4⟩, h5, h6⟩ := h
  obtain ⟨G', c1, c2, c3, c4, c5⟩ := push_c h1 h3 r3
  obtain ⟨H', m1, m2, m3, m4, m5, m6, m7⟩ := push_m h2
  obtain ⟨v, X, t1, t2, t3⟩ := tH_push (CO_r h1)
  rw [c1] at t1
  cases t1
  have lo : ∀ x, x < 133 → G' x = G x := fun x hx => c5 x (by omega) (by omega)
  have e25 : H' 625 = H 625 := m3 625 (by omega) (by omega)
  refine ⟨G', H', c1, m1, ⟨t2.1, m2, ?_, ⟨?_, ?_, ?_, fun j j0 j1 => ?_⟩, ?_, ?_⟩, lo, m3, m4⟩
  · rw [e25]
    exact QQ_eq h3 (fun x x0 x1 => lo x (by omega))
  · rw [c4, r1, m5]
    by_cases z : H 624 6 = 10
    · rw [if_neg (by omega), if_pos z]; exact z
    · rw [if_pos (by omega), if_neg z, w32_r (by omega)]
  · rw [m5]
    split <;> omega
  · rw [c3]; omega
  · have n1 : 1 ≤ H' 624 6 ∧ H' 624 6 ≤ 10 ∧ (H' 624 6 = H 624 6 + 1 ∨ (H' 624 6 = 10 ∧ H 624 6 = 10)) := by
      rw [m5]
      split <;> omega
    rw [c3]
    by_cases z : j = H' 624 6 - 1
    · have ep : (G 133 2 % 10 + 1 + 10 - H' 624 6 + j) % 10 = G 133 2 % 10 := by omega
      rw [ep]
      refine QQ_ext c2 (by have := WBF_1 h2.2.1; omega) (fun k k0 k1 => ?_)
      show H' 629 (780 * j + k) = _
      rw [z]; exact m6 k k0 k1
    · have hj : 0 ≤ j + H 624 6 - (H' 624 6 - 1) ∧ j + H 624 6 - (H' 624 6 - 1) < H 624 6 := by omega
      have ep : (G 133 2 % 10 + 1 + 10 - H' 624 6 + j) % 10 = (G 133 2 + 10 - H 624 6 + (j + H 624 6 - (H' 624 6 - 1))) % 10 := by omega
      have en : ¬ (G 133 2 % 10 + 1 + 10 - H' 624 6 + j) % 10 = G 133 2 % 10 := by omega
      have old := r4 _ hj.1 hj.2
      rw [← ep] at old
      refine QQ_ext (QQ_eq old (fun x x0 x1 => c5 x (by omega) (by omega))) (by have := WBF_1 (h2.2.2.2.1.2 _ hj.1 hj.2); omega) (fun k k0 k1 => ?_)
      exact m7 j k j0 (by omega) k0 k1
  · exact SV_e h5 (fun x x0 x1 => lo x (by omega)) (by rw [lo 0 (by omega)]) (m4 7 (by omega)) (m3 628 (by omega) (by omega))
  · exact IE_e h6 (fun x x0 x1 => c5 x (by omega) (by omega)) (fun k k0 k1 => m4 k (by omega)) (m3 631 (by omega) (by omega))
theorem MInv_md (h : MInv g) (hd : ∀ i, 0 ≤ i → i < 40 → d i = 0) : MInv (md g d) := by
  obtain ⟨h1, h2, h3, h4, h5, h6, h7⟩ := h
  unfold MInv
  refine ⟨md_MS h1, by rw [md_n (by omega)]; exact h2, fun i i0 i1 => by rw [md_s]; exact hd i i0 i1, ?_⟩
  rw [md_n (show ¬ (624 : Int) = 630 by omega), md_n (show ¬ (629 : Int) = 630 by omega), md_n (show ¬ (628 : Int) = 630 by omega)]
  exact ⟨h4, h5, h6, h7⟩
/-- an act on the tree alone -/
theorem JA_act (h : JA G H) (hF : TF 1 G G') (hQ : QQ 1 G' r d) (hd : ∀ i, 0 ≤ i → i < 40 → d i = 0) (hw : WBF r) : JA G' (sw (md H d) r) := by
  obtain ⟨h1, h2, h3, h4, h5, h6⟩ := h
  have f : ∀ x, ¬ x = 625 → ¬ x = 630 → sw (md H d) r x = H x := fun x x1 x2 => by rw [sw_n x1, md_n x2]
  exact ⟨(CO_IT (CO_r h1) T1 ⟨hQ.2.1, hF⟩).1, MInv_sw (MInv_md h2 hd) hw, by rw [sw_s]; exact QQ_d hQ (fun i i0 i1 => (hd i i0 i1).symm), RG_e h4 (fun x x0 x1 => hF x (by omega)) (by rw [f 624 (by omega) (by omega)]) (f 629 (by omega) (by omega)), SV_e h5 (fun x x0 x1 => hF x (by omega)) (by rw [hF 0 (by omega)]) (by rw [f 624 (by omega) (by omega)]) (f 628 (by omega) (by omega)), IE_e h6 (fun x x0 x1 => hF x (by omega)) (fun k k0 k1 => by rw [f 624 (by omega) (by omega)]) (f 631 (by omega) (by omega))⟩
/-- the class's copy is used -/
theorem JA_45 (h : JA G H) (hF : TF 45 G G') (ti : TI G' 45) : JA G' H := by
  obtain ⟨h1, h2, h3, h4, h5, h6⟩ := h
  exact ⟨(CO_IT (CO_r h1) T45 ⟨ti, hF⟩).1, h2, QQ_eq h3 (fun x x0 x1 => hF x (by omega)), RG_e h4 (fun x x0 x1 => hF x (by omega)) rfl rfl, SV_e h5 (fun x x0 x1 => hF x (by omega)) (by rw [hF 0 (by omega)]) rfl rfl, IE_e h6 (fun x x0 x1 => hF x (by omega)) (fun _ _ _ => rfl) rfl⟩
/-- the reference's row is as before, where it is told -/
theorem JA_row (h : JA G H) (hM : MInv H') (e : ∀ k, 0 ≤ k → k < 780 → H' 625 k = H 625 k) (e9 : H' 629 = H 629) (e8 : H' 628 = H 628) (ei : H' 631 = H 631) (ek : ∀ k, 6 ≤ k → k ≤ 12 → ¬ k = 8 → H' 624 k = H 624 k) : JA G H' := by
  obtain ⟨h1, h2, h3, h4, h5, h6⟩ := h
  exact ⟨h1, hM, QQ_ext h3 (by have := WBF_1 h2.2.1; omega) e, RG_e h4 (fun _ _ _ => rfl) (ek 6 (by omega) (by omega) (by omega)) e9, SV_e h5 (fun _ _ _ => rfl) rfl (ek 7 (by omega) (by omega) (by omega)) e8, IE_e h6 (fun _ _ _ => rfl) (fun k k0 k1 => ek k (by omega) (by omega) (by omega)) ei⟩
end PAR29
/-! ===== calls that change the tree, in both: exit to give (own work) ===== -/
section PAR30
variable {g g' G G' H H' K : gH} {r r' d d' dm : Int → Int} {a b c e i j k l m n o p q s t u v w x y z S T gp code : Int}
/-- what a call of both answers: where the class throws its e-th, the reference marks tm e; P: the answers are compared -/
def JO (tm : Nat → Int) (P : Prop) (X : Option (Nat × (Int × gH))) (Y : Option (Int × gH)) : Prop := (∃ v w G H, X = some (0, (v, G)) ∧ Y = some (w, H) ∧ JA G H ∧ H 624 8 = 0 ∧ (P → v = w)) ∨ ∃ e v w G H, X = some (e + 1, (v, G)) ∧ Y = some (w, H) ∧ JA G H ∧ H 624 8 = tm e ∧ ¬ tm e = 0
theorem JO_i {tm : Nat → Int} {P : Prop} (h : JA G H) (e : H 624 8 = 0) (hv : P → v = w) : JO tm P (some (0, (v, G))) (some (w, H)) := Or.inl ⟨v, w, G, H, rfl, rfl, h, e, hv⟩
theorem JO_e {tm : Nat → Int} {P : Prop} {k : Nat} (h : JA G H) (e : H 624 8 = tm k) (hn : ¬ tm k = 0) : JO tm P (some (k + 1, (v, G))) (some (w, H)) := Or.inr ⟨k, v, w, G, H, rfl, rfl, h, e, hn⟩
/-! the marks of throws, by the order in which the document lists them -/
def t3 (e : Nat) : Int := if e = 2 then 1 else if e = 0 then 2 else if e = 1 then 3 else 0
def t2 (e : Nat) : Int := if e = 2 then 1 else if e = 1 then 2 else 0
def t0 (e : Nat) : Int := if e = 0 then 1 else 0
def tv (e : Nat) : Int := if e = 0 then 1 else if e = 2 then 2 else if e = 1 then 3 else 0
def tr (e : Nat) : Int := if e = 2 then 1 else if e = 1 then 2 else if e = 3 then 3 else 0
def t1 (e : Nat) : Int := if e = 1 then 1 else 0
theorem th8 : th g t 624 8 = t := by unfold th; rw [pU_s, u1_s]
theorem ja0 (h : JA G H) : G 0 0 = 1 := h.1.1.1.1
theorem ja1 (h : JA G H) : G 0 1 = 45 := h.1.1.1.2.1
theorem ja2 (h : JA G H) : G 0 2 = 89 := h.1.1.1.2.2.1
theorem ja3 (h : JA G H) : G 0 3 = 133 := h.1.1.1.2.2.2.1
theorem ja5 (h : JA G H) : G 0 5 = 622 := h.1.1.1.2.2.2.2.2
theorem jaM (h : JA G H) : 1 ≤ H 625 0 ∧ H 625 0 ≤ 40 := h.2.1.2.1.1.1
theorem jaQ (h : JA G H) : QQ 1 G (H 625) (fun _ => 0) := h.2.2.1
theorem ja40 (h : JA G H) : H 625 1 ≤ 40 := by have := WBF_1 h.2.1.2.1; omega
theorem qe1 {β : Type} {v : Int} {k : Int → Option β} {l : Nat → Option β} : bdQ (some (1, v)) k l = l 0 := rfl
theorem qe2 {β : Type} {v : Int} {k : Int → Option β} {l : Nat → Option β} : bdQ (some (2, v)) k l = l 1 := rfl
theorem qe3 {β : Type} {v : Int} {k : Int → Option β} {l : Nat → Option β} : bdQ (some (3, v)) k l = l 2 := rfl
theorem qe4 {β : Type} {v : Int} {k : Int → Option β} {l : Nat → Option β} : bdQ (some (4, v)) k l = l 3 := rfl
theorem jn_y (h : JA G H) (hp : 0 ≤ p ∧ p < H 625 0) : fC_named G 0 p = some (0, pc 1 p) := by
  have hb := jaM h
  rw [fC_named, ja0 h, if_pos (kdT T1), qT_at (jaQ h), if_pos hp, bdP_s, if_neg (pc_pos T1 (by omega))]
theorem jn_n (h : JA G H) (hp : ¬ (0 ≤ p ∧ p < H 625 0)) : fC_named G 0 p = some (3, 0) := by
  rw [fC_named, ja0 h, if_pos (kdT T1), qT_at (jaQ h), if_neg hp, bdP_s, if_pos (by omega)]
theorem rg_y (h : 0 ≤ v ∧ v ≤ w) : fC_checkRange g v w = some (0, 0) := by rw [fC_checkRange, if_neg (by omega), if_neg (by omega)]
theorem rg_n (h : ¬ (0 ≤ v ∧ v ≤ w)) : fC_checkRange g v w = some (1, 0) := by
  rw [fC_checkRange]
  by_cases c : v < 0
  · rw [if_pos c]
  · rw [if_neg c, if_pos (by omega)]
theorem st_n : fC_checkState g 0 = some (2, 0) := by rw [fC_checkState, if_pos rfl]
theorem st_1 : fC_checkState g 1 = some (0, 0) := by rw [fC_checkState, if_neg f0]
theorem fl0 : fM_fails g 624 0 code = some (0, g) := by rw [vM_fails (Or.inl rfl), if_pos rfl]
theorem fl1 : fM_fails g 624 1 code = some (1, th g code) := by rw [vM_fails (Or.inr rfl), if_neg f0]
theorem qP_run (h : QQ S G r d) (hi : 0 ≤ i ∧ i < r 0) : fP_isRunning G (pc S i) = some (if r (140 + i) = 0 then 1 else 0) := by
  rw [fP_isRunning, QQ_st h hi]
  split <;> rfl
/-- the tree goes into the past, then an act on it -/
theorem jo_act {tm : Nat → Int} {P : Prop} {A : Int → gH → Option (Nat × (Int × gH))} {B : Int → gH → Option (Int × gH)} (h : JA G H) (h8 : H 624 8 = 0) (hk : ∀ G1 H1, JA G1 H1 → QQ 1 G1 (H1 625) (H1 630) → (∀ x, x < 133 → G1 x = G x) → H1 625 = H 625 → ∃ v w G' r' d', A 0 G1 = some (0, (v, G')) ∧ B 0 H1 = some (w, sw (md H1 d') r') ∧ (P → v = w) ∧ QQ 1 G' r' d' ∧ WBF r' ∧ TF 1 G1 G' ∧ ∀ i, 0 ≤ i → i < 40 → d' i = 0) : JO tm P (if kd (G 0 3) = 0 then bdN (fH_push G (G 0 3) (G 0 0)) A else none) (bdN (fM_remembers H 624) B) := by
  obtain ⟨G1, H1, x1, x2, x3, x4, x5, x6⟩ := JA_push h
  rw [ja3 h, if_pos kd_133, ja0 h, x1, bdN_s, x2, bdN_s]
  obtain ⟨v, w, G', r', d', y1, y2, y3, y4, y5, y6, y7⟩ := hk G1 H1 x3 (QQ_d (jaQ x3) (fun i i0 i1 => x3.2.1.2.2.1 i i0 i1)) x4 (x5 625 (by omega) (by omega))
  rw [y1, y2]
  refine JO_i (JA_act x3 y6 y4 y7 y5) ?_ y3
  rw [sw_n (by omega), md_n (by omega), x6 8 (by omega)]
  exact h8
/-- an act that leaves the marks -/
theorem jo_act0 {tm : Nat → Int} {P : Prop} {A : Int → gH → Option (Nat × (Int × gH))} {B : Int → gH → Option (Int × gH)} (h : JA G H) (h8 : H 624 8 = 0) (hk : ∀ G1 H1, JA G1 H1 → QQ 1 G1 (H1 625) (H1 630) → (∀ x, x < 133 → G1 x = G x) → H1 625 = H 625 → ∃ v w G' r', A 0 G1 = some (0, (v, G')) ∧ B 0 H1 = some (w, sw H1 r') ∧ (P → v = w) ∧ QQ 1 G' r' (H1 630) ∧ WBF r' ∧ TF 1 G1 G') : JO tm P (if kd (G 0 3) = 0 then bdN (fH_push G (G 0 3) (G 0 0)) A else none) (bdN (fM_remembers H 624) B) :=
  jo_act h h8 (fun G1 H1 j q1 eG e25 => by
    obtain ⟨v, w, G', r', y1, y2, y3, y4, y5, y6⟩ := hk G1 H1 j q1 eG e25
    exact ⟨v, w, G', r', H1 630, y1, by rw [md_id]; exact y2, y3, y4, y5, y6, fun i i0 i1 => j.2.1.2.2.1 i i0 i1⟩)
theorem jo_exit (h : JA G H) : JO t3 True (fC_exit G 0 p code) (fM_exit H 624 p code) := by
  have hb := jaM h
  have q := jaQ h
  rw [fC_exit, fC_namedForExit, fM_exit]
  rcases vM_noExit (p := p) (code := code) h.2.1 with ⟨a, e⟩ | ⟨a, b, e⟩ | ⟨a, b, c, e⟩ | ⟨a, b, c, e⟩
  · rw [e, bdN_s, if_neg f0, jn_n h a, qe3, bdQ_e]
    exact JO_e (JA_th h) (th8.trans rfl) (by decide)
  · rw [e, bdN_s, if_neg f0, jn_y h a, bdQ_0, rg_n b, qe1, bdQ_e]
    exact JO_e (JA_th h) (th8.trans rfl) (by decide)
  · rw [e, bdN_s, if_neg f0, jn_y h a, bdQ_0, rg_y b, bdQ_0, if_pos (kdp T1 (by omega)), qP_mortal q (by omega), bdP_s, if_neg (fun z => c ⟨by omega, z.2⟩), st_n, qe2, bdQ_e]
    exact JO_e (JA_th h) (th8.trans rfl) (by decide)
  · rw [e, bdN_s, if_pos rfl, jn_y h ⟨by omega, a.2⟩, bdQ_0, rg_y b, bdQ_0, if_pos (kdp T1 (by omega)), qP_mortal q (by omega), bdP_s, if_pos ⟨a, c⟩, st_1, bdQ_0, bdQ_0]
    refine jo_act (JA_th h) th8 (fun G1 H1 j q1 eG e25 => ?_)
    have e1 : H1 625 = H 625 := e25.trans (th_n (by omega))
    obtain ⟨G2, v, d2, x1, x2, x3, x4, x5, -, -, -, -, -, x11⟩ := lk_exit (p := p) (code := code) j.2.1.1 q1 j.2.1.2.1 (by rw [e1]; exact a) (by rw [e1]; exact c) b
    rw [md_id, sw_id] at x2
    rw [ja0 j, if_pos (kdT T1), x1, bdN_s, x2, bdN_s]
    exact ⟨v, v, G2, _, d2, rfl, rfl, fun _ => rfl, x3, x4, x5, fun i i0 i1 => x11 i (j.2.1.2.2.1 i i0 i1)⟩
theorem jo_kill (h : JA G H) : JO t0 True (fC_kill G 0 gp code) (fM_kill H 624 gp code) := by
  rw [fC_kill, fC_checkKill, fM_kill]
  rcases vM_noKill (g := H) (a := gp) (code := code) with ⟨a, e⟩ | ⟨a, e⟩
  · rw [e, bdN_s, if_neg f0]
    by_cases c1 : 0 ≤ gp ∧ gp ≤ 9
    · rw [rg_y c1, bdQ_0, rg_n (fun z => a ⟨c1, z⟩), qe1, bdQ_e]
      exact JO_e (JA_th h) (th8.trans rfl) (by decide)
    · rw [rg_n c1, qe1, bdQ_e]
      exact JO_e (JA_th h) (th8.trans rfl) (by decide)
  · rw [e, bdN_s, if_pos rfl, rg_y a.1, bdQ_0, rg_y a.2, bdQ_0, bdQ_0]
    refine jo_act (JA_th h) th8 (fun G1 H1 j q1 eG e25 => ?_)
    obtain ⟨v, G2, r2, d2, x1, x2, x3, x4, x5, x6, -⟩ := lk_kill (gp := gp) (code := code) j.2.1.1 q1 j.2.1.2.1 a.2
    rw [md_id, sw_id] at x2
    rw [ja0 j, if_pos (kdT T1), x1, bdN_s, x2, bdN_s]
    exact ⟨v, v, G2, _, d2, rfl, rfl, fun _ => rfl, x3, x4, x6, x5⟩
end PAR30
/-! ===== calls that change the tree, in both, more (own work) ===== -/
section PAR30
variable {g g' G G' H H' K : gH} {r r' d d' dm : Int → Int} {a b c e i j k l m n o p q s t u v w x y z S T gp code : Int}
/-- a field of a process, in both -/
theorem QQ_f (h : QQ S G r d) (h1 : r 1 ≤ 40) (hp : 0 ≤ p ∧ p < r 0) (hab : (a = 4 ∧ b = 100) ∨ (a = 6 ∧ b = 220) ∨ (a = 7 ∧ b = 260) ∨ (a = 8 ∧ b = 340)) (hw : WB (u1 r (b + p) v)) : QQ S (pU G (pc S p) a v) (u1 r (b + p) v) d ∧ TF S G (pU G (pc S p) a v) := by
  have hb := QQ_b h
  have bp := pc_b (T := S) (i := p) (by omega)
  rcases hab with hab | hab | hab | hab
  all_goals
    refine ⟨⟨h.1, (IT_w (IT_r h.2.1) (by omega)).1, hw, CP_pf h.2.2.2.1 (by omega) h1 hp (by obtain ⟨rfl, rfl⟩ := hab; decide), fun i i0 i1 => ?_, ?_⟩, (IT_w (IT_r h.2.1) (by omega)).2⟩
    · rw [pU_y (by omega)]; exact h.2.2.2.2.1 i i0 i1
    · exact LR_e h.2.2.2.2.2 (u1_n (by omega)) (u1_n (by omega)) (u1_n (by omega))
theorem jo_refuse (h : JA G H) : JO t3 True (fC_refuse G 0 p gp) (fM_refuse H 624 p gp) := by
  have hb := jaM h
  have q := jaQ h
  have o1 := JA_th (t := 0) h
  have e625 : th H 0 625 = H 625 := th_n (by omega)
  rw [fC_refuse, fM_refuse, vM_noProcess h.2.1]
  by_cases a : 0 ≤ p ∧ p < H 625 0
  · rw [if_pos a, if_pos a, bdN_s, if_pos rfl, vM_isSmall, bdP_s, jn_y h a, bdQ_0]
    by_cases b : 0 ≤ gp ∧ gp ≤ 9
    · rw [if_pos b, if_neg f0, jM_refuse_21, if_pos kd_c624, fl0, bdN_s, if_pos rfl, rg_y b, bdQ_0, if_pos (kdp T1 (by omega)), qP_mortal q (by omega), bdP_s, vM_runs o1.2.1.1 (by omega), bdP_s, e625]
      by_cases c : (0 < p ∧ p < H 625 0) ∧ H 625 (140 + p) = 0
      · rw [if_pos c, if_pos c.2, if_neg (show ¬ p = 0 by omega), if_neg f0, jM_refuse_46, if_pos kd_c624, fl0, bdN_s, if_pos rfl, st_1, bdQ_0]
        refine jo_act0 o1 th8 (fun G1 H1 j q1 eG e25 => ?_)
        have e1 : H1 625 = H 625 := e25.trans e625
        have w := j.2.1.2.1
        have hp : 0 < p ∧ p < H1 625 0 := by rw [e1]; exact c.1
        have m4 := j.2.1.1.1
        have hM := jaM j
        have f8 : G1 (pc 1 p) 8 = H1 625 (340 + p) := (QQ_pe q1 (i := p) (by omega)).1.2.2.2.2.2.1
        obtain ⟨q2, t2⟩ := QQ_f (a := 8) (b := 340) (p := p) (v := opI 2 (H1 625 (340 + p)) (opI 4 1 gp)) q1 (ja40 j) (by omega) (by omega) (WBF_rf w (by omega)).1
        have w2 := WBF_rf (p := p) (v := opI 2 (H1 625 (340 + p)) (opI 4 1 gp)) w (by omega)
        have n0 : u1 (H1 625) (340 + p) (opI 2 (H1 625 (340 + p)) (opI 4 1 gp)) 0 = H1 625 0 := u1_n (by omega)
        obtain ⟨f, ef⟩ : ∃ f, fu = f + 1 := ⟨fu - 1, by have := fu_ge; omega⟩
        obtain ⟨v, G2, r2, y1, y2, y3, y4, y5⟩ := lk_refuse (p := p) (gp := gp) j.2.1.1 _ f fu 1 0 _ _ rfl (by have := fu_ge; omega) (by rw [n0]; have := fu_ge; omega) (by omega) (by omega) (by omega) q2 w2 (by rw [n0]; exact hp)
        rw [bnd_s, f8, m4, w32_r (x := 340 + p) (by omega), if_pos (g625 (by omega)), if_pos (g625 (by omega)), bnd_s, pU_625, y2]
        have e0 : pU G1 (pc 1 p) 8 (opI 2 (H1 625 (340 + p)) (opI 4 1 gp)) 0 0 = 1 := by rw [t2 0 (by omega)]; exact ja0 j
        have s0 : lT_loseGroup_16 1 (pc 1 p) gp (1 + 2) 40 fu 0 0 (pU G1 (pc 1 p) 8 (opI 2 (H1 625 (340 + p)) (opI 4 1 gp))) = lT_loseGroup_16 1 (pc 1 p) gp (1 + 2) 40 f 0 1 (pU G1 (pc 1 p) 8 (opI 2 (H1 625 (340 + p)) (opI 4 1 gp))) := by
          rw [ef]
          show bT_loseGroup_16 1 (pc 1 p) gp (1 + 2) 40 (lT_loseGroup_16 1 (pc 1 p) gp (1 + 2) 40 f) 0 0 _ = _
          rw [bT_loseGroup_16, if_pos (by omega), if_pos ⟨kdT2 T1, by omega, by rw [szT2 T1]; omega⟩, TS_p q2.2.1.1 (by omega), if_pos (kdp T1 (by omega)), qP_child q2 (by omega) (by omega), if_neg (fun z => (ic_t.mp z.2).2.2 rfl), bdP_s, if_pos rfl, w32_r (by omega)]
          rfl
        rw [e0, if_pos (kdT T1), fT_loseGroup, TS_1 q2.2.1.1, if_pos (kdT2 T1), szT2 T1, s0, y1, bdN_s]
        exact ⟨v, v, G2, r2, rfl, rfl, fun _ => rfl, y3, y4, TF_t t2 y5⟩
      · have bad : ∀ X : Option (Int × gH), X = jM_refuse_46 (th H 0) 624 p gp 624 1 → JO t3 True (some (1 + 1, (0, G))) X := by
          intro X hX
          rw [hX, jM_refuse_46, if_pos kd_c624, fl1, bdN_s, if_neg f0]
          exact JO_e (JA_th o1) (th8.trans rfl) (by decide)
        rw [if_neg c, st_n, qe2]
        by_cases c0 : p = 0
        · rw [if_pos c0, jM_refuse_41]; exact bad _ rfl
        · rw [if_neg c0, if_neg (fun z => c ⟨by omega, z⟩), if_pos rfl, jM_refuse_41]; exact bad _ rfl
    · rw [if_neg b, if_pos rfl, jM_refuse_21, if_pos kd_c624, fl1, bdN_s, if_neg f0, rg_n b, qe1]
      exact JO_e (JA_th o1) (th8.trans rfl) (by decide)
  · rw [if_neg a, if_neg a, bdN_s, if_neg f0, jn_n h a, qe3]
    exact JO_e (JA_th h) (th8.trans rfl) (by decide)
end PAR30
/-! ===== calls that change the tree, in both, more (own work) ===== -/
section PAR30
variable {g g' G G' H H' K : gH} {r r' d d' dm : Int → Int} {a b c e i j k l m n o p q s t u v w x y z S T gp code : Int}
theorem jo_accept (h : JA G H) : JO t3 True (fC_accept G 0 p gp) (fM_accept H 624 p gp) := by
  have hb := jaM h
  have q := jaQ h
  have o1 := JA_th (t := 0) h
  have e625 : th H 0 625 = H 625 := th_n (by omega)
  rw [fC_accept, fM_accept, vM_noProcess h.2.1]
  by_cases a : 0 ≤ p ∧ p < H 625 0
  · rw [if_pos a, if_pos a, bdN_s, if_pos rfl, vM_isSmall, bdP_s, jn_y h a, bdQ_0]
    by_cases b : 0 ≤ gp ∧ gp ≤ 9
    · rw [if_pos b, if_neg f0, jM_accept_21, if_pos kd_c624, fl0, bdN_s, if_pos rfl, rg_y b, bdQ_0, if_pos (kdp T1 (by omega)), qP_run q a, bdP_s, vM_runs o1.2.1.1 (by omega), bdP_s, e625]
      by_cases c : H 625 (140 + p) = 0
      · rw [if_pos c, if_neg f0, jM_accept_42, if_pos kd_c624, fl0, bdN_s, if_pos rfl, st_1, bdQ_0]
        refine jo_act0 o1 th8 (fun G1 H1 j q1 eG e25 => ?_)
        have e1 : H1 625 = H 625 := e25.trans e625
        have w := j.2.1.2.1
        have hp : 0 ≤ p ∧ p < H1 625 0 := by rw [e1]; exact a
        have m4 := j.2.1.1.1
        have hM := jaM j
        have f8 : G1 (pc 1 p) 8 = H1 625 (340 + p) := (QQ_pe q1 hp).1.2.2.2.2.2.1
        obtain ⟨q2, t2⟩ := QQ_f (a := 8) (b := 340) (p := p) (v := opI 1 (H1 625 (340 + p)) (opI 3 (opI 4 1 gp) (-1))) q1 (ja40 j) hp (by omega) (WBF_rf w hp).1
        have w2 := WBF_rf (p := p) (v := opI 1 (H1 625 (340 + p)) (opI 3 (opI 4 1 gp) (-1))) w hp
        rw [qP_refuses q1 hp, bdP_s, bnd_s, f8, vM_refuses j.2.1.1 (by omega), bdP_s, m4, w32_r (x := 340 + p) (by omega), if_pos (g625 (by omega)), if_pos (g625 (by omega)), bnd_s, pU_625]
        exact ⟨_, _, _, _, rfl, rfl, fun _ => rfl, q2, w2, t2⟩
      · rw [if_neg c, if_pos rfl, jM_accept_42, if_pos kd_c624, fl1, bdN_s, if_neg f0, st_n, qe2]
        exact JO_e (JA_th o1) (th8.trans rfl) (by decide)
    · rw [if_neg b, if_pos rfl, jM_accept_21, if_pos kd_c624, fl1, bdN_s, if_neg f0, rg_n b, qe1]
      exact JO_e (JA_th o1) (th8.trans rfl) (by decide)
  · rw [if_neg a, if_neg a, bdN_s, if_neg f0, jn_n h a, qe3]
    exact JO_e (JA_th h) (th8.trans rfl) (by decide)
end PAR30
/-! ===== calls that change the tree, in both, more (own work) ===== -/
section PAR30
variable {g g' G G' H H' K : gH} {r r' d d' dm : Int → Int} {a b c e i j k l m n o p q s t u v w x y z S T gp code : Int}
/-! which rows are rows still -/
theorem WBF_c1 (w : WBF r) (hp : 0 ≤ p ∧ p < r 0) (h1 : 0 ≤ c ∧ c ≤ 9) : WBF (u1 r (100 + p) c) := by
  have hM := w.1.1
  refine WBF_eq w ?_ (fun k hk => u1_n (by omega))
  obtain ⟨b1, b2, b3, b4, b5, b6, b7⟩ := w.1
  have e0 : u1 r (100 + p) c 0 = r 0 := u1_n (by omega)
  refine ⟨by rw [e0]; exact b1, ?_, ?_, by rw [u1_n (by omega)]; exact b4, ?_, ?_, ?_⟩
  · intro i i0 i1
    rw [e0] at i1 ⊢
    rw [u1_n (by omega)]
    exact b2 i i0 i1
  · rw [e0]
    exact acy_ext b3 b2 (fun i i0 i1 => u1_n (by omega))
  · intro i i0 i1
    rw [e0] at i1 ⊢
    rw [u1_n (by omega)]
    exact b5 i i0 i1
  · intro i d i0 i1 d0 d1
    rw [e0] at i1 ⊢
    rw [u1_n (by omega)]
    exact b6 i d i0 i1 d0 d1
  · intro i i0 i1
    rw [e0] at i1
    by_cases e : i = p
    · rw [e, u1_s]; exact h1
    · rw [u1_n (by omega)]; exact b7 i i0 i1
end PAR30
/-! ===== calls that change the tree, in both, more (own work) ===== -/
section PAR30
variable {g g' G G' H H' K : gH} {r r' d d' dm : Int → Int} {a b c e i j k l m n o p q s t u v w x y z S T gp code : Int}
theorem WBF_h1 (w : WBF r) (hp : 0 ≤ p ∧ p < r 0) (h1 : -1 ≤ c ∧ c < r 0) : WBF (u1 r (260 + p) c) := by
  have hM := w.1.1
  refine WBF_eq w ?_ (fun k hk => u1_n (by omega))
  obtain ⟨b1, b2, b3, b4, b5, b6, b7⟩ := w.1
  have e0 : u1 r (260 + p) c 0 = r 0 := u1_n (by omega)
  refine ⟨by rw [e0]; exact b1, ?_, ?_, by rw [u1_n (by omega)]; exact b4, ?_, ?_, ?_⟩
  · intro i i0 i1
    rw [e0] at i1 ⊢
    rw [u1_n (by omega)]
    exact b2 i i0 i1
  · rw [e0]
    exact acy_ext b3 b2 (fun i i0 i1 => u1_n (by omega))
  · intro i i0 i1
    rw [e0] at i1 ⊢
    by_cases e : i = p
    · rw [e, u1_s]; exact h1
    · rw [u1_n (by omega)]; exact b5 i i0 i1
  · intro i d i0 i1 d0 d1
    rw [e0] at i1 ⊢
    rw [u1_n (by omega)]
    exact b6 i d i0 i1 d0 d1
  · intro i i0 i1
    rw [e0] at i1
    rw [u1_n (by omega)]; exact b7 i i0 i1
end PAR30
/-! ===== calls that change the tree, in both, more (own work) ===== -/
section PAR30
variable {g g' G G' H H' K : gH} {r r' d d' dm : Int → Int} {a b c e i j k l m n o p q s t u v w x y z S T gp code : Int}
theorem WBF_b1 (w : WBF r) (hp : 0 ≤ p ∧ p < r 0) (h1 : 0 ≤ c ∧ c ≤ 9) : WBF (u1 r (220 + p) c) := by
  have hM1 := w.1.1
  obtain ⟨hb0, hS, hSR, hX, hL, hN, hH, hC, hB⟩ := w
  have e0 : u1 r (220 + p) c 0 = r 0 := u1_n (by omega)
  have hb1 : WB (u1 r (220 + p) c) := WB_eq hb0 (fun k hk => u1_n (by omega))
  refine ⟨hb1, ⟨?_, ?_⟩, ?_, ⟨?_, ?_⟩, ?_, ?_, ?_, ?_, ?_⟩
  · intro i i0 i1
    rw [e0] at i1
    rw [u1_n (by omega)]; exact hS.1 i i0 i1
  · rw [u1_n (by omega)]; exact hS.2
  · intro i i0 i1 i2
    rw [e0] at i1
    have := hb0.2.1 i i0 i1
    rw [u1_n (by omega)] at i2
    rw [u1_n (show ¬ 60 + i = 220 + p by omega), u1_n (by omega)]
    exact hSR i i0 i1 i2
  · rw [u1_n (by omega)]; exact hX.1
  · intro k k0 k1
    rw [u1_n (by omega)] at k1
    have := hX.1
    rw [u1_n (by omega), e0]
    exact hX.2 k k0 k1
  · intro i i0 i1 i2
    rw [e0] at i1
    rw [u1_n (by omega)] at i2
    obtain ⟨k, k0, k1, k2⟩ := hL i i0 i1 i2
    have := hX.1
    exact ⟨k, k0, by rw [u1_n (by omega)]; exact k1, by rw [u1_n (by omega)]; exact k2⟩
  · show u1 r (220 + p) c 1 = _
    rw [u1_n (by omega), cn_eq_st e0 hM1.2 (fun k k0 k1 => u1_n (by omega))]
    exact hN
  · intro d d0 d1
    have := hH d d0 d1
    rw [u1_n (show ¬ 11 + d = 220 + p by omega), e0, u1_n (by omega)]
    exact this
  · intro i i0 i1 i2
    rw [e0] at i1
    rw [u1_n (by omega)] at i2
    rw [u1_n (by omega)]
    exact hC i i0 i1 i2
  · intro i i0 i1
    rw [e0] at i1
    by_cases e : i = p
    · rw [e, u1_s]; exact h1
    · rw [u1_n (by omega)]; exact hB i i0 i1
end PAR30
/-! ===== calls that change the tree, in both, more (own work) ===== -/
section PAR30
variable {g g' G G' H H' K : gH} {r r' d d' dm : Int → Int} {a b c e i j k l m n o p q s t u v w x y z S T gp code : Int}
theorem WBF_d1 (w : WBF r) (hp : 0 ≤ p ∧ p < r 0) (hst : r (140 + p) = 0) (ha : 0 ≤ a ∧ a < 8) : WBF (u1 r (11 + a) p) := by
  have hM1 := w.1.1
  have e0 : u1 r (11 + a) p 0 = r 0 := u1_n (by omega)
  obtain ⟨hb0, hS, hSR, hX, hL, hN, hH, hC, hB⟩ := w
  refine ⟨WB_eq hb0 (fun k hk => u1_n (by omega)), ⟨?_, ?_⟩, ?_, ⟨?_, ?_⟩, ?_, ?_, ?_, ?_, ?_⟩
  · intro i i0 i1
    rw [e0] at i1
    rw [u1_n (by omega)]; exact hS.1 i i0 i1
  · rw [u1_n (by omega)]; exact hS.2
  · intro i i0 i1 i2
    rw [e0] at i1
    have := hb0.2.1 i i0 i1
    rw [u1_n (by omega)] at i2
    rw [u1_n (show ¬ 60 + i = 11 + a by omega), u1_n (by omega)]
    exact hSR i i0 i1 i2
  · rw [u1_n (by omega)]; exact hX.1
  · intro k k0 k1
    rw [u1_n (by omega)] at k1
    rw [u1_n (by omega), e0]
    exact hX.2 k k0 k1
  · intro i i0 i1 i2
    rw [e0] at i1
    rw [u1_n (by omega)] at i2
    obtain ⟨k, k0, k1, k2⟩ := hL i i0 i1 i2
    exact ⟨k, k0, by rw [u1_n (by omega)]; exact k1, by rw [u1_n (by omega)]; exact k2⟩
  · show u1 r (11 + a) p 1 = _
    rw [u1_n (by omega), cn_eq_st e0 hM1.2 (fun k k0 k1 => u1_n (by omega))]
    exact hN
  · intro d d0 d1
    by_cases e : d = a
    · rw [e, u1_s, e0, u1_n (by omega)]
      exact ⟨hp.1, hp.2, hst⟩
    · have := hH d d0 d1
      rw [u1_n (show ¬ 11 + d = 11 + a by omega), e0, u1_n (by omega)]
      exact this
  · intro i i0 i1 i2
    rw [e0] at i1
    rw [u1_n (by omega)] at i2
    rw [u1_n (by omega)]
    exact hC i i0 i1 i2
  · intro i i0 i1
    rw [e0] at i1
    rw [u1_n (by omega)]; exact hB i i0 i1
end PAR30
/-! ===== calls that change the tree, in both, more (own work) ===== -/
section PAR30
variable {g g' G G' H H' K : gH} {r r' d d' dm : Int → Int} {a b c e i j k l m n o p q s t u v w x y z S T gp code : Int}
/-- a capacity or a budget, the class told by its field -/
theorem jo_sets {X : Option (Nat × (Int × gH))} {f : Int} (h : JA G H) (hf : (f = 4 ∧ k = 100) ∨ (f = 6 ∧ k = 220)) (hX : X = bdQ (fC_named G 0 p) (fun y1 => bdQ (fC_checkRange G c 9) (fun _ => if kd y1 = 3 then bdP (fP_isRunning G y1) (fun y14 => bdQ (fC_checkState G y14) (fun _ => if kd (G 0 3) = 0 then bdN (fH_push G (G 0 3) (G 0 0)) (fun _ g29 => bnd (pU g29 y1 f c) (fun g32 => some (0, ((g29 y1 f), g32)))) else none) (fun E23 => some (E23 + 1, (0, G)))) else none) (fun E12 => some (E12 + 1, (0, G)))) (fun E6 => some (E6 + 1, (0, G)))) : JO t3 True X (bdN (fM_sets H 624 k p c) (fun y1 g3 => some (y1, g3))) := by
  have hb := jaM h
  have q := jaQ h
  have o1 := JA_th (t := 0) h
  have e625 : th H 0 625 = H 625 := th_n (by omega)
  rw [hX, fM_sets, vM_noProcess h.2.1]
  by_cases a : 0 ≤ p ∧ p < H 625 0
  · rw [if_pos a, if_pos a, bdN_s, if_pos rfl, vM_isSmall, bdP_s, jn_y h a, bdQ_0]
    by_cases b : 0 ≤ c ∧ c ≤ 9
    · rw [if_pos b, if_neg f0, jM_sets_21, if_pos kd_c624, fl0, bdN_s, if_pos rfl, rg_y b, bdQ_0, if_pos (kdp T1 (by omega)), qP_run q a, bdP_s, vM_runs o1.2.1.1 (by omega), bdP_s, e625]
      by_cases c1 : H 625 (140 + p) = 0
      · rw [if_pos c1, if_neg f0, jM_sets_42, if_pos kd_c624, fl0, bdN_s, if_pos rfl, st_1, bdQ_0]
        have assoc : ∀ {Z : Option (Int × gH)} {B : Int → gH → Option (Int × gH)}, bdN (bdN Z B) (fun y1 g3 => some (y1, g3)) = bdN Z (fun y g => bdN (B y g) (fun y1 g3 => some (y1, g3))) := by
          intro Z B
          cases Z <;> rfl
        rw [assoc]
        refine jo_act0 o1 th8 (fun G1 H1 j q1 eG e25 => ?_)
        have e1 : H1 625 = H 625 := e25.trans e625
        have w := j.2.1.2.1
        have hp : 0 ≤ p ∧ p < H1 625 0 := by rw [e1]; exact a
        have m4 := j.2.1.1.1
        have hM := jaM j
        have w2 : WBF (u1 (H1 625) (k + p) c) := by
          rcases hf with ⟨-, rfl⟩ | ⟨-, rfl⟩
          · exact WBF_c1 w hp b
          · exact WBF_b1 w hp b
        obtain ⟨q2, t2⟩ := QQ_f (a := f) (b := k) (p := p) (v := c) q1 (ja40 j) hp (by omega) w2.1
        have fv : G1 (pc 1 p) f = H1 625 (k + p) := by
          have pe := (QQ_pe q1 hp).1
          rcases hf with ⟨rfl, rfl⟩ | ⟨rfl, rfl⟩
          · exact pe.2.1
          · exact pe.2.2.2.1
        rw [bnd_s, fv, m4, w32_r (x := k + p) (by omega), if_pos (g625 (by omega)), if_pos (g625 (by omega)), bnd_s, pU_625, bdN_s]
        exact ⟨_, _, _, _, rfl, rfl, fun _ => rfl, q2, w2, t2⟩
      · rw [if_neg c1, if_pos rfl, jM_sets_42, if_pos kd_c624, fl1, bdN_s, if_neg f0, st_n, qe2, bdN_s]
        exact JO_e (JA_th o1) (th8.trans rfl) (by decide)
    · rw [if_neg b, if_pos rfl, jM_sets_21, if_pos kd_c624, fl1, bdN_s, if_neg f0, rg_n b, qe1, bdN_s]
      exact JO_e (JA_th o1) (th8.trans rfl) (by decide)
  · rw [if_neg a, if_neg a, bdN_s, if_neg f0, jn_n h a, qe3, bdN_s]
    exact JO_e (JA_th h) (th8.trans rfl) (by decide)
end PAR30
/-! ===== calls that change the tree, in both, more (own work) ===== -/
section PAR30
variable {g g' G G' H H' K : gH} {r r' d d' dm : Int → Int} {a b c e i j k l m n o p q s t u v w x y z S T gp code : Int}
theorem jo_setCapacity (h : JA G H) : JO t3 True (fC_setCapacity G 0 p c) (fM_setCapacity H 624 p c) := jo_sets (f := 4) (k := 100) h (Or.inl ⟨rfl, rfl⟩) rfl
end PAR30
/-! ===== calls that change the tree, in both, more (own work) ===== -/
section PAR30
variable {g g' G G' H H' K : gH} {r r' d d' dm : Int → Int} {a b c e i j k l m n o p q s t u v w x y z S T gp code : Int}
theorem jo_setBudget (h : JA G H) : JO t3 True (fC_setBudget G 0 p c) (fM_setBudget H 624 p c) := jo_sets (f := 6) (k := 220) h (Or.inr ⟨rfl, rfl⟩) rfl
end PAR30
