/-! ===== both between two calls: tree, history, saved state, input, error (own work) ===== -/
section PAR29
variable {g g' G G' H H' K : gH} {r r' d d' dm : Int → Int} {a b c e i j k l m n o p q s t u v w x y z S T gp code : Int}
/-- no marks of doom -/
def QZ (S : Int) (G : gH) (r : Int → Int) : Prop := QQ S G r (fun _ => 0)
theorem QQ_eq (h : QQ S G r d) (e : ∀ x, S ≤ x → x < S + 44 → H x = G x) : QQ S H r d :=
  ⟨h.1, TI_F h.2.1 e, h.2.2.1, CP_eq h.2.2.2.1 (by have := h.2.2.1.1; omega) e, fun i i0 i1 => by
    have := pc_b (T := S) ⟨i0, i1⟩
    rw [e _ (by omega) (by omega)]
    exact h.2.2.2.2.1 i i0 i1, h.2.2.2.2.2⟩
theorem CP_ext (h : CP S G r) (hb : WB r) (h1 : r 1 ≤ 40) (e : ∀ k, 0 ≤ k → k < 780 → r' k = r k) : CP S G r' := by
  obtain ⟨⟨p1, p2, p3, p4, p5, p6⟩, h2, h3, h4, h5, h6, h7⟩ := h
  have hM := hb.1
  have e0 : r' 0 = r 0 := e 0 (by omega) (by omega)
  have e1 : r' 1 = r 1 := e 1 (by omega) (by omega)
  refine ⟨⟨by rw [e0]; exact p1, by rw [e1]; exact p2, by rw [e 2 (by omega) (by omega)]; exact p3, by rw [e 3 (by omega) (by omega)]; exact p4, by rw [e 4 (by omega) (by omega)]; exact p5, by rw [e 59 (by omega) (by omega)]; exact p6⟩, fun i i0 i1 => ?_, fun d d0 d1 => ?_, fun i i0 i1 => ?_, fun i i0 i1 => ?_, fun i i0 i1 => ?_, RU_e h7 (fun k k0 k1 => e k (by omega) (by omega))⟩
  · rw [e 5 (by omega) (by omega), e (6 + i) (by omega) (by omega)]; exact h2 i i0 i1
  · rw [e (11 + d) (by omega) (by omega)]; exact h3 d d0 d1
  · rw [e0] at i1
    exact PE_row (h4 i i0 i1) ⟨i0, by omega⟩ h1 e1 (fun k hk => e k (by omega) (by omega)) (kids_eq e0 (fun j j0 j1 => ⟨e _ (by omega) (by omega), e _ (by omega) (by omega)⟩))
  · rw [e0] at i1
    rw [e (60 + i) (by omega) (by omega)]; exact h5 i i0 i1
  · rw [e0] at i0
    exact h6 i i0 i1
theorem QQ_ext (h : QQ S G r d) (h1 : r 1 ≤ 40) (e : ∀ k, 0 ≤ k → k < 780 → r' k = r k) : QQ S G r' d :=
  ⟨h.1, h.2.1, WB_eq h.2.2.1 (fun k hk => e k (by omega) (by omega)), CP_ext h.2.2.2.1 h.2.2.1 h1 e, h.2.2.2.2.1, LR_e h.2.2.2.2.2 (e 3 (by omega) (by omega)) (e 60 (by omega) (by omega)) (e 380 (by omega) (by omega))⟩
theorem QQ_TC (h : QQ S G r d) (hT : isT T) (ti : TI H T) (ht : TC S T G H) : QQ T H r d :=
  ⟨hT, ti, h.2.2.1, CP_TC h.2.2.2.1 h.2.2.1 h.1 ht, fun i i0 i1 => by
    rw [(ht.2.2.2 i i0 i1).1 13 (by omega) (by omega) (by omega)]
    exact h.2.2.2.2.1 i i0 i1, h.2.2.2.2.2⟩
/-- a tree is copied into another -/
theorem wT_take (h : QQ S G r d) (ti : TI G T) (hT : isT T) (hn : ¬ T = S) : ∃ H, fT_take G T S = some (0, H) ∧ TF T G H ∧ QQ T H r d := by
  obtain ⟨v, H, e1, e2⟩ := tT_take ti.1 hT h.1 h.2.1 hn
  obtain ⟨v', H', e3, e4, e5⟩ := vT_take ti.1 hT h.1 h.2.1 hn
  rw [e1] at e3
  cases e3
  exact ⟨H, by rw [e1, e4], e2.2, QQ_TC h hT e2.1 e5⟩
/-- the history: a ring of trees against rows -/
def RG (G H : gH) : Prop := G 133 1 = H 624 6 ∧ (0 ≤ H 624 6 ∧ H 624 6 ≤ 10) ∧ (0 ≤ G 133 2 ∧ G 133 2 ≤ 10) ∧ ∀ j, 0 ≤ j → j < H 624 6 → QZ (135 + 44 * ((G 133 2 + 10 - H 624 6 + j) % 10)) G (fun k => H 629 (780 * j + k))
/-- what is saved -/
def SV (G H : gH) : Prop := (G 0 6 = 0 ↔ H 624 7 = 0) ∧ (¬ H 624 7 = 0 → QZ 89 G (H 628))
/-- input and error -/
def IE (G H : gH) : Prop := BB G H ∧ G 575 2 = H 624 11 ∧ G 575 3 = H 624 12
def JA (G H : gH) : Prop := CInv G ∧ MInv H ∧ QZ 1 G (H 625) ∧ RG G H ∧ SV G H ∧ IE G H
theorem RG_e (h : RG G H) (e : ∀ x, 133 ≤ x → x < 575 → G' x = G x) (e6 : H' 624 6 = H 624 6) (e9 : H' 629 = H 629) : RG G' H' := by
  obtain ⟨h1, h2, h3, h4⟩ := h
  have e133 : G' 133 = G 133 := e 133 (by omega) (by omega)
  refine ⟨by rw [e133, e6]; exact h1, by rw [e6]; exact h2, by rw [e133]; exact h3, fun j j0 j1 => ?_⟩
  rw [e6] at j1
  rw [e133, e6, e9]
  exact QQ_eq (h4 j j0 j1) (fun x x0 x1 => e x (by omega) (by omega))
theorem SV_e (h : SV G H) (e : ∀ x, 89 ≤ x → x < 133 → G' x = G x) (e0 : G' 0 6 = G 0 6) (e7 : H' 624 7 = H 624 7) (e8 : H' 628 = H 628) : SV G' H' :=
  ⟨by rw [e0, e7]; exact h.1, fun z => by
    rw [e7] at z
    rw [e8]
    exact QQ_eq (h.2 z) (fun x x0 x1 => e x (by omega) (by omega))⟩
theorem IE_e (h : IE G H) (e : ∀ x, 575 ≤ x → x ≤ 577 → G' x = G x) (ek : ∀ k, 10 ≤ k → k ≤ 12 → H' 624 k = H 624 k) (ei : H' 631 = H 631) : IE G' H' := by
  unfold IE BB at h ⊢
  rw [e 575 (by omega) (by omega), e 576 (by omega) (by omega), e 577 (by omega) (by omega), ek 10 (by omega) (by omega), ek 11 (by omega) (by omega), ek 12 (by omega) (by omega), ei]
  exact h
theorem JA_th (h : JA G H) : JA G (th H t) := by
  obtain ⟨h1, h2, h3, h4, h5, h6⟩ := h
  exact ⟨h1, MInv_th h2, by rw [th_n (by omega)]; exact h3, RG_e h4 (fun _ _ _ => rfl) (th_f (by omega)) (th_n (by omega)), SV_e h5 (fun _ _ _ => rfl) rfl (th_f (by omega)) (th_n (by omega)), IE_e h6 (fun _ _ _ => rfl) (fun k k0 k1 => th_f (by omega)) (th_n (by omega))⟩
theorem WBF_1 (h : WBF r) : 0 ≤ r 1 ∧ r 1 ≤ 39 := by
  have := NX_bd h.1.1 h.2.1.2 h.2.2.2.2.2.1
  have := h.1.1
  omega
/-! the tree goes into the past -/
theorem push_c (h : CInv G) (q : QZ 1 G r) (hn : 0 ≤ G 133 2 ∧ G 133 2 ≤ 10) : ∃ G', fH_push G 133 1 = some (0, G') ∧ QZ (135 + 44 * (G 133 2 % 10)) G' r ∧ G' 133 2 = G 133 2 % 10 + 1 ∧ G' 133 1 = (if G 133 1 < 10 then w32 (G 133 1 + 1) else G 133 1) ∧ ∀ x, ¬ x = 133 → ¬ (135 + 44 * (G 133 2 % 10) ≤ x ∧ x < 179 + 44 * (G 133 2 % 10)) → G' x = G x := by
  have l21 : ∀ K, CInv K → QZ 1 K r → 0 ≤ K 133 2 ∧ K 133 2 < 10 → ∃ G', jH_push_21 K 133 1 = some (0, G') ∧ QZ (135 + 44 * K 133 2) G' r ∧ G' 133 2 = K 133 2 + 1 ∧ G' 133 1 = (if K 133 1 < 10 then w32 (K 133 1 + 1) else K 133 1) ∧ ∀ x, ¬ x = 133 → ¬ (135 + 44 * K 133 2 ≤ x ∧ x < 179 + 44 * K 133 2) → G' x = K x := by
    intro K h q hk
    have hT := Tk hk
    have hs := h.1
    obtain ⟨A, a1, a2, a3⟩ := wT_take q (h.2.1 _ hT) hT (by omega)
    have e133 : A 133 = K 133 := a2 133 (by omega)
    have f1 : pU A 133 2 (K 133 2 + 1) 133 1 = K 133 1 := by rw [pU_y (by omega), e133]
    rw [jH_push_21, hs.2.1, if_pos ⟨kd_134, hk.1, by rw [sz_134]; exact hk.2⟩, hs.2.2.1 _ hk.1 hk.2, if_pos (kdT hT), a1, bdN_s, bnd_s, e133, w32_r (x := K 133 2 + 1) (by omega), f1]
    by_cases c : K 133 1 < 10
    · rw [if_pos c, bnd_s]
      refine ⟨_, rfl, QQ_eq a3 (fun x x0 x1 => by rw [pU_n (by omega), pU_n (by omega)]), ?_, ?_, fun x x0 x1 => ?_⟩
      · rw [pU_y (by omega), pU_s, u1_s]
      · rw [pU_s, u1_s, if_pos c]
      · rw [pU_n x0, pU_n x0]; exact a2 x (by omega)
    · rw [if_neg c]
      refine ⟨_, rfl, QQ_eq a3 (fun x x0 x1 => by rw [pU_n (by omega)]), ?_, ?_, fun x x0 x1 => ?_⟩
      · rw [pU_s, u1_s]
      · rw [f1, if_neg c]
      · rw [pU_n x0]; exact a2 x (by omega)
  by_cases c : G 133 2 < 10
  · rw [fH_push, if_neg (by omega), if_pos c, show G 133 2 % 10 = G 133 2 by omega]
    exact l21 G h q ⟨hn.1, c⟩
  · have c : G 133 2 = 10 := by omega
    have e2 : pU G 133 2 0 133 2 = 0 := by rw [pU_s, u1_s]
    have e1 : pU G 133 2 0 133 1 = G 133 1 := pU_y (by omega)
    obtain ⟨G', x1, x2, x3, x4, x5⟩ := l21 (pU G 133 2 0) (CO_w (CO_r h) (by omega)).1 (QQ_eq q (fun x x0 x1 => pU_n (by omega))) (by omega)
    rw [e2] at x2 x3 x5
    rw [e1] at x4
    rw [fH_push, if_neg (by omega), if_neg (by omega), jH_push_16, bnd_s, c]
    exact ⟨G', x1, x2, x3, x4, fun x x0 x1 => (x5 x x0 x1).trans (pU_n x0)⟩
theorem push_m (hi : MInv g) : ∃ g', fM_remembers g 624 = some (0, g') ∧ MInv g' ∧ (∀ x, ¬ x = 624 → ¬ x = 629 → g' x = g x) ∧ (∀ k, ¬ k = 6 → g' 624 k = g 624 k) ∧ g' 624 6 = (if g 624 6 = 10 then 10 else g 624 6 + 1) ∧ (∀ k, 0 ≤ k → k < 780 → g' 629 (780 * (g' 624 6 - 1) + k) = g 625 k) ∧ ∀ j k, 0 ≤ j → j < g' 624 6 - 1 → 0 ≤ k → k < 780 → g' 629 (780 * j + k) = g 629 (780 * (j + g 624 6 - (g' 624 6 - 1)) + k) := by
  obtain ⟨g', x1, x2, x3, x4, x5⟩ := vM_remembers hi
  refine ⟨g', x1, x2, x4, x5, ?_⟩
  clear x2 x3 x4 x5
  obtain ⟨h1, h2, h3, ⟨h4, h5⟩, h6, h7, h8⟩ := hi
  have h0 := h1.1
  have h29 := h1.2.2.2.1
  have fin : ∀ G : gH, G 624 0 = 625 → G 624 4 = 629 → (0 ≤ G 624 6 ∧ G 624 6 ≤ 9) → jM_remembers_37 G 624 = some (0, pU (cpG G 625 0 629 (780 * G 624 6) 780) 624 6 (G 624 6 + 1)) := by
    intro G g0 g4 g6
    have e1 : opI 0 780 (G 624 6) = 780 * G 624 6 := by rw [opI_mul, w32_r (by omega)]
    have hc := vM_copies (g := G) (a := 625) (x := 0) (b := 629) (y := 780 * G 624 6) (n := 780) ⟨kd_625, kd_629⟩ (by rw [sz_625]; omega) (by rw [sz_629]; omega) (by omega) (Or.inl (by omega))
    rw [jM_remembers_37, g0, g4, e1, hc, bdN_s, bnd_s, cpG_n (by omega), w32_r (by omega)]
  rw [fM_remembers] at x1
  by_cases c10 : g 624 6 = 10
  · have hc := vM_copies (g := g) (a := 629) (x := 780) (b := 629) (y := 0) (n := 7020) ⟨kd_629, kd_629⟩ (by rw [sz_629]; omega) (by rw [sz_629]; omega) (by omega) (Or.inr (by omega))
    rw [if_pos c10, h29, hc, bdN_s, bnd_s, cpG_n (by omega), c10, w32_r (by omega)] at x1
    have y6 : pU (cpG g 629 780 629 0 7020) 624 6 (10 - 1) 624 6 = 9 := by rw [pU_s, u1_s]; rfl
    have y25 : pU (cpG g 629 780 629 0 7020) 624 6 (10 - 1) 625 = g 625 := by rw [pU_n (by omega), cpG_n (by omega)]
    have y29 : ∀ k, 0 ≤ k → k < 7020 → pU (cpG g 629 780 629 0 7020) 624 6 (10 - 1) 629 k = g 629 (780 + k) := by
      intro k k0 k1
      rw [pU_n (by omega)]
      unfold cpG
      rw [if_pos ⟨rfl, by omega, by omega⟩, show (780 + k - 0 : Int) = 780 + k by omega]
    have y0 : pU (cpG g 629 780 629 0 7020) 624 6 (10 - 1) 624 0 = 625 := by rw [pU_y (by omega), cpG_n (by omega)]; exact h0
    have y4 : pU (cpG g 629 780 629 0 7020) 624 6 (10 - 1) 624 4 = 629 := by rw [pU_y (by omega), cpG_n (by omega)]; exact h29
    generalize pU (cpG g 629 780 629 0 7020) 624 6 (10 - 1) = G at *
    rw [fin G y0 y4 (by omega), y6] at x1
    cases x1
    have z6 : pU (cpG G 625 0 629 (780 * 9) 780) 624 6 (9 + 1) 624 6 = 10 := by rw [pU_s, u1_s]; rfl
    rw [z6, if_pos c10, c10]
    refine ⟨rfl, fun k k0 k1 => ?_, fun j k j0 j1 k0 k1 => ?_⟩
    · rw [pU_n (by omega)]
      unfold cpG
      rw [if_pos ⟨rfl, by omega, by omega⟩, show (0 + (780 * (10 - 1) + k) - 780 * 9 : Int) = k by omega, y25]
    · rw [pU_n (by omega)]
      unfold cpG
      rw [if_neg (fun z => by have := z.2.1; omega), y29 _ (by omega) (by omega), show (780 + (780 * j + k) : Int) = 780 * (j + 10 - (10 - 1)) + k by omega]
  · rw [if_neg c10, fin g h0 h29 (by omega)] at x1
    cases x1
    have z6 : pU (cpG g 625 0 629 (780 * g 624 6) 780) 624 6 (g 624 6 + 1) 624 6 = g 624 6 + 1 := by rw [pU_s, u1_s]
    rw [z6, if_neg c10]
    refine ⟨rfl, fun k k0 k1 => ?_, fun j k j0 j1 k0 k1 => ?_⟩
    · rw [pU_n (by omega)]
      unfold cpG
      rw [if_pos ⟨rfl, by omega, by omega⟩, show (0 + (780 * (g 624 6 + 1 - 1) + k) - 780 * g 624 6 : Int) = k by omega]
    · rw [pU_n (by omega)]
      unfold cpG
      rw [if_neg (fun z => by have := z.2.1; omega), show (780 * (j + g 624 6 - (g 624 6 + 1 - 1)) + k : Int) = 780 * j + k by omega]
/-- the state is kept, in both -/
theorem JA_push (h : JA G H) : ∃ G' H', fH_push G 133 1 = some (0, G') ∧ fM_remembers H 624 = some (0, H') ∧ JA G' H' ∧ (∀ x, x < 133 → G' x = G x) ∧ (∀ x, ¬ x = 624 → ¬ x = 629 → H' x = H x) ∧ ∀ k, ¬ k = 6 → H' 624 k = H 624 k := by
  obtain ⟨h1, h2, h3, ⟨r1, r2, r3, r4⟩, h5, h6⟩ := h
  obtain ⟨G', c1, c2, c3, c4, c5⟩ := push_c h1 h3 r3
  obtain ⟨H', m1, m2, m3, m4, m5, m6, m7⟩ := push_m h2
  obtain ⟨v, X, t1, t2, t3⟩ := tH_push (CO_r h1)
  rw [c1] at t1
  cases t1
  have lo : ∀ x, x < 133 → G' x = G x := fun x hx => c5 x (by omega) (by omega)
  have e25 : H' 625 = H 625 := m3 625 (by omega) (by omega)
  refine ⟨G', H', c1, m1, ⟨t2.1, m2, ?_, ⟨?_, ?_, ?_, fun j j0 j1 => ?_⟩, ?_, ?_⟩, lo, m3, m4⟩
  · rw [e25]
    exact QQ_eq h3 (fun x x0 x1 => lo x (by omega))
  · rw [c4, r1, m5]
    by_cases z : H 624 6 = 10
    · rw [if_neg (by omega), if_pos z]; exact z
    · rw [if_pos (by omega), if_neg z, w32_r (by omega)]
  · rw [m5]
    split <;> omega
  · rw [c3]; omega
  · have n1 : 1 ≤ H' 624 6 ∧ H' 624 6 ≤ 10 ∧ (H' 624 6 = H 624 6 + 1 ∨ (H' 624 6 = 10 ∧ H 624 6 = 10)) := by
      rw [m5]
      split <;> omega
    rw [c3]
    by_cases z : j = H' 624 6 - 1
    · have ep : (G 133 2 % 10 + 1 + 10 - H' 624 6 + j) % 10 = G 133 2 % 10 := by omega
      rw [ep]
      refine QQ_ext c2 (by have := WBF_1 h2.2.1; omega) (fun k k0 k1 => ?_)
      show H' 629 (780 * j + k) = _
      rw [z]; exact m6 k k0 k1
    · have hj : 0 ≤ j + H 624 6 - (H' 624 6 - 1) ∧ j + H 624 6 - (H' 624 6 - 1) < H 624 6 := by omega
      have ep : (G 133 2 % 10 + 1 + 10 - H' 624 6 + j) % 10 = (G 133 2 + 10 - H 624 6 + (j + H 624 6 - (H' 624 6 - 1))) % 10 := by omega
      have en : ¬ (G 133 2 % 10 + 1 + 10 - H' 624 6 + j) % 10 = G 133 2 % 10 := by omega
      have old := r4 _ hj.1 hj.2
      rw [← ep] at old
      refine QQ_ext (QQ_eq old (fun x x0 x1 => c5 x (by omega) (by omega))) (by have := WBF_1 (h2.2.2.2.1.2 _ hj.1 hj.2); omega) (fun k k0 k1 => ?_)
      exact m7 j k j0 (by omega) k0 k1
  · exact SV_e h5 (fun x x0 x1 => lo x (by omega)) (by rw [lo 0 (by omega)]) (m4 7 (by omega)) (m3 628 (by omega) (by omega))
  · exact IE_e h6 (fun x x0 x1 => c5 x (by omega) (by omega)) (fun k k0 k1 => m4 k (by omega)) (m3 631 (by omega) (by omega))
theorem MInv_md (h : MInv g) (hd : ∀ i, 0 ≤ i → i < 40 → d i = 0) : MInv (md g d) := by
  obtain ⟨h1, h2, h3, h4, h5, h6, h7⟩ := h
  unfold MInv
  refine ⟨md_MS h1, by rw [md_n (by omega)]; exact h2, fun i i0 i1 => by rw [md_s]; exact hd i i0 i1, ?_⟩
  rw [md_n (show ¬ (624 : Int) = 630 by omega), md_n (show ¬ (629 : Int) = 630 by omega), md_n (show ¬ (628 : Int) = 630 by omega)]
  exact ⟨h4, h5, h6, h7⟩
/-- an act on the tree alone -/
theorem JA_act (h : JA G H) (hF : TF 1 G G') (hQ : QQ 1 G' r d) (hd : ∀ i, 0 ≤ i → i < 40 → d i = 0) (hw : WBF r) : JA G' (sw (md H d) r) := by
  obtain ⟨h1, h2, h3, h4, h5, h6⟩ := h
  have f : ∀ x, ¬ x = 625 → ¬ x = 630 → sw (md H d) r x = H x := fun x x1 x2 => by rw [sw_n x1, md_n x2]
  exact ⟨(CO_IT (CO_r h1) T1 ⟨hQ.2.1, hF⟩).1, MInv_sw (MInv_md h2 hd) hw, by rw [sw_s]; exact QQ_d hQ (fun i i0 i1 => (hd i i0 i1).symm), RG_e h4 (fun x x0 x1 => hF x (by omega)) (by rw [f 624 (by omega) (by omega)]) (f 629 (by omega) (by omega)), SV_e h5 (fun x x0 x1 => hF x (by omega)) (by rw [hF 0 (by omega)]) (by rw [f 624 (by omega) (by omega)]) (f 628 (by omega) (by omega)), IE_e h6 (fun x x0 x1 => hF x (by omega)) (fun k k0 k1 => by rw [f 624 (by omega) (by omega)]) (f 631 (by omega) (by omega))⟩
/-- the class's copy is used -/
theorem JA_45 (h : JA G H) (hF : TF 45 G G') (ti : TI G' 45) : JA G' H := by
  obtain ⟨h1, h2, h3, h4, h5, h6⟩ := h
  exact ⟨(CO_IT (CO_r h1) T45 ⟨ti, hF⟩).1, h2, QQ_eq h3 (fun x x0 x1 => hF x (by omega)), RG_e h4 (fun x x0 x1 => hF x (by omega)) rfl rfl, SV_e h5 (fun x x0 x1 => hF x (by omega)) (by rw [hF 0 (by omega)]) rfl rfl, IE_e h6 (fun x x0 x1 => hF x (by omega)) (fun _ _ _ => rfl) rfl⟩
/-- the reference's row is as before, where it is told -/
theorem JA_row (h : JA G H) (hM : MInv H') (e : ∀ k, 0 ≤ k → k < 780 → H' 625 k = H 625 k) (e9 : H' 629 = H 629) (e8 : H' 628 = H 628) (ei : H' 631 = H 631) (ek : ∀ k, 6 ≤ k → k ≤ 12 → ¬ k = 8 → H' 624 k = H 624 k) : JA G H' := by
  obtain ⟨h1, h2, h3, h4, h5, h6⟩ := h
  exact ⟨h1, hM, QQ_ext h3 (by have := WBF_1 h2.2.1; omega) e, RG_e h4 (fun _ _ _ => rfl) (ek 6 (by omega) (by omega) (by omega)) e9, SV_e h5 (fun _ _ _ => rfl) rfl (ek 7 (by omega) (by omega) (by omega)) e8, IE_e h6 (fun _ _ _ => rfl) (fun k k0 k1 => ek k (by omega) (by omega) (by omega)) ei⟩
end PAR29
/-! ===== calls that change the tree, in both: exit to give (own work) ===== -/
section PAR30
variable {g g' G G' H H' K : gH} {r r' d d' dm : Int → Int} {a b c e i j k l m n o p q s t u v w x y z S T gp code : Int}
/-- what a call of both answers: where the class throws its e-th, the reference marks tm e; P: the answers are compared -/
def JO (tm : Nat → Int) (P : Prop) (X : Option (Nat × (Int × gH))) (Y : Option (Int × gH)) : Prop := (∃ v w G H, X = some (0, (v, G)) ∧ Y = some (w, H) ∧ JA G H ∧ H 624 8 = 0 ∧ (P → v = w)) ∨ ∃ e v w G H, X = some (e + 1, (v, G)) ∧ Y = some (w, H) ∧ JA G H ∧ H 624 8 = tm e ∧ ¬ tm e = 0
theorem JO_i {tm : Nat → Int} {P : Prop} (h : JA G H) (e : H 624 8 = 0) (hv : P → v = w) : JO tm P (some (0, (v, G))) (some (w, H)) := Or.inl ⟨v, w, G, H, rfl, rfl, h, e, hv⟩
theorem JO_e {tm : Nat → Int} {P : Prop} {k : Nat} (h : JA G H) (e : H 624 8 = tm k) (hn : ¬ tm k = 0) : JO tm P (some (k + 1, (v, G))) (some (w, H)) := Or.inr ⟨k, v, w, G, H, rfl, rfl, h, e, hn⟩
/-! the marks of throws, by the order in which the document lists them -/
def t3 (e : Nat) : Int := if e = 2 then 1 else if e = 0 then 2 else if e = 1 then 3 else 0
def t2 (e : Nat) : Int := if e = 2 then 1 else if e = 1 then 2 else 0
def t0 (e : Nat) : Int := if e = 0 then 1 else 0
def tv (e : Nat) : Int := if e = 0 then 1 else if e = 2 then 2 else if e = 1 then 3 else 0
def tr (e : Nat) : Int := if e = 2 then 1 else if e = 1 then 2 else if e = 3 then 3 else 0
def t1 (e : Nat) : Int := if e = 1 then 1 else 0
theorem th8 : th g t 624 8 = t := by unfold th; rw [pU_s, u1_s]
theorem ja0 (h : JA G H) : G 0 0 = 1 := h.1.1.1.1
theorem ja1 (h : JA G H) : G 0 1 = 45 := h.1.1.1.2.1
theorem ja2 (h : JA G H) : G 0 2 = 89 := h.1.1.1.2.2.1
theorem ja3 (h : JA G H) : G 0 3 = 133 := h.1.1.1.2.2.2.1
theorem ja5 (h : JA G H) : G 0 5 = 622 := h.1.1.1.2.2.2.2.2
theorem jaM (h : JA G H) : 1 ≤ H 625 0 ∧ H 625 0 ≤ 40 := h.2.1.2.1.1.1
theorem jaQ (h : JA G H) : QQ 1 G (H 625) (fun _ => 0) := h.2.2.1
theorem ja40 (h : JA G H) : H 625 1 ≤ 40 := by have := WBF_1 h.2.1.2.1; omega
theorem qe1 {β : Type} {v : Int} {k : Int → Option β} {l : Nat → Option β} : bdQ (some (1, v)) k l = l 0 := rfl
theorem qe2 {β : Type} {v : Int} {k : Int → Option β} {l : Nat → Option β} : bdQ (some (2, v)) k l = l 1 := rfl
theorem qe3 {β : Type} {v : Int} {k : Int → Option β} {l : Nat → Option β} : bdQ (some (3, v)) k l = l 2 := rfl
theorem qe4 {β : Type} {v : Int} {k : Int → Option β} {l : Nat → Option β} : bdQ (some (4, v)) k l = l 3 := rfl
theorem jn_y (h : JA G H) (hp : 0 ≤ p ∧ p < H 625 0) : fC_named G 0 p = some (0, pc 1 p) := by
  have hb := jaM h
  rw [fC_named, ja0 h, if_pos (kdT T1), qT_at (jaQ h), if_pos hp, bdP_s, if_neg (pc_pos T1 (by omega))]
theorem jn_n (h : JA G H) (hp : ¬ (0 ≤ p ∧ p < H 625 0)) : fC_named G 0 p = some (3, 0) := by
  rw [fC_named, ja0 h, if_pos (kdT T1), qT_at (jaQ h), if_neg hp, bdP_s, if_pos (by omega)]
theorem rg_y (h : 0 ≤ v ∧ v ≤ w) : fC_checkRange g v w = some (0, 0) := by rw [fC_checkRange, if_neg (by omega), if_neg (by omega)]
theorem rg_n (h : ¬ (0 ≤ v ∧ v ≤ w)) : fC_checkRange g v w = some (1, 0) := by
  rw [fC_checkRange]
  by_cases c : v < 0
  · rw [if_pos c]
  · rw [if_neg c, if_pos (by omega)]
theorem st_n : fC_checkState g 0 = some (2, 0) := by rw [fC_checkState, if_pos rfl]
theorem st_1 : fC_checkState g 1 = some (0, 0) := by rw [fC_checkState, if_neg f0]
theorem fl0 : fM_fails g 624 0 code = some (0, g) := by rw [vM_fails (Or.inl rfl), if_pos rfl]
theorem fl1 : fM_fails g 624 1 code = some (1, th g code) := by rw [vM_fails (Or.inr rfl), if_neg f0]
theorem qP_run (h : QQ S G r d) (hi : 0 ≤ i ∧ i < r 0) : fP_isRunning G (pc S i) = some (if r (140 + i) = 0 then 1 else 0) := by
  rw [fP_isRunning, QQ_st h hi]
  split <;> rfl
/-- the tree goes into the past, then an act on it -/
theorem jo_act {tm : Nat → Int} {P : Prop} {A : Int → gH → Option (Nat × (Int × gH))} {B : Int → gH → Option (Int × gH)} (h : JA G H) (h8 : H 624 8 = 0) (hk : ∀ G1 H1, JA G1 H1 → QQ 1 G1 (H1 625) (H1 630) → (∀ x, x < 133 → G1 x = G x) → H1 625 = H 625 → ∃ v w G' r' d', A 0 G1 = some (0, (v, G')) ∧ B 0 H1 = some (w, sw (md H1 d') r') ∧ (P → v = w) ∧ QQ 1 G' r' d' ∧ WBF r' ∧ TF 1 G1 G' ∧ ∀ i, 0 ≤ i → i < 40 → d' i = 0) : JO tm P (if kd (G 0 3) = 0 then bdN (fH_push G (G 0 3) (G 0 0)) A else none) (bdN (fM_remembers H 624) B) := by
  obtain ⟨G1, H1, x1, x2, x3, x4, x5, x6⟩ := JA_push h
  rw [ja3 h, if_pos kd_133, ja0 h, x1, bdN_s, x2, bdN_s]
  obtain ⟨v, w, G', r', d', y1, y2, y3, y4, y5, y6, y7⟩ := hk G1 H1 x3 (QQ_d (jaQ x3) (fun i i0 i1 => x3.2.1.2.2.1 i i0 i1)) x4 (x5 625 (by omega) (by omega))
  rw [y1, y2]
  refine JO_i (JA_act x3 y6 y4 y7 y5) ?_ y3
  rw [sw_n (by omega), md_n (by omega), x6 8 (by omega)]
  exact h8
/-- an act that leaves the marks -/
theorem jo_act0 {tm : Nat → Int} {P : Prop} {A : Int → gH → Option (Nat × (Int × gH))} {B : Int → gH → Option (Int × gH)} (h : JA G H) (h8 : H 624 8 = 0) (hk : ∀ G1 H1, JA G1 H1 → QQ 1 G1 (H1 625) (H1 630) → (∀ x, x < 133 → G1 x = G x) → H1 625 = H 625 → ∃ v w G' r', A 0 G1 = some (0, (v, G')) ∧ B 0 H1 = some (w, sw H1 r') ∧ (P → v = w) ∧ QQ 1 G' r' (H1 630) ∧ WBF r' ∧ TF 1 G1 G') : JO tm P (if kd (G 0 3) = 0 then bdN (fH_push G (G 0 3) (G 0 0)) A else none) (bdN (fM_remembers H 624) B) :=
  jo_act h h8 (fun G1 H1 j q1 eG e25 => by
    obtain ⟨v, w, G', r', y1, y2, y3, y4, y5, y6⟩ := hk G1 H1 j q1 eG e25
    exact ⟨v, w, G', r', H1 630, y1, by rw [md_id]; exact y2, y3, y4, y5, y6, fun i i0 i1 => j.2.1.2.2.1 i i0 i1⟩)
theorem jo_exit (h : JA G H) : JO t3 True (fC_exit G 0 p code) (fM_exit H 624 p code) := by
  have hb := jaM h
  have q := jaQ h
  rw [fC_exit, fC_namedForExit, fM_exit]
  rcases vM_noExit (p := p) (code := code) h.2.1 with ⟨a, e⟩ | ⟨a, b, e⟩ | ⟨a, b, c, e⟩ | ⟨a, b, c, e⟩
  · rw [e, bdN_s, if_neg f0, jn_n h a, qe3, bdQ_e]
    exact JO_e (JA_th h) (th8.trans rfl) (by decide)
  · rw [e, bdN_s, if_neg f0, jn_y h a, bdQ_0, rg_n b, qe1, bdQ_e]
    exact JO_e (JA_th h) (th8.trans rfl) (by decide)
  · rw [e, bdN_s, if_neg f0, jn_y h a, bdQ_0, rg_y b, bdQ_0, if_pos (kdp T1 (by omega)), qP_mortal q (by omega), bdP_s, if_neg (fun z => c ⟨by omega, z.2⟩), st_n, qe2, bdQ_e]
    exact JO_e (JA_th h) (th8.trans rfl) (by decide)
  · rw [e, bdN_s, if_pos rfl, jn_y h ⟨by omega, a.2⟩, bdQ_0, rg_y b, bdQ_0, if_pos (kdp T1 (by omega)), qP_mortal q (by omega), bdP_s, if_pos ⟨a, c⟩, st_1, bdQ_0, bdQ_0]
    refine jo_act (JA_th h) th8 (fun G1 H1 j q1 eG e25 => ?_)
    have e1 : H1 625 = H 625 := e25.trans (th_n (by omega))
    obtain ⟨G2, v, d2, x1, x2, x3, x4, x5, -, -, -, -, -, x11⟩ := lk_exit (p := p) (code := code) j.2.1.1 q1 j.2.1.2.1 (by rw [e1]; exact a) (by rw [e1]; exact c) b
    rw [md_id, sw_id] at x2
    rw [ja0 j, if_pos (kdT T1), x1, bdN_s, x2, bdN_s]
    exact ⟨v, v, G2, _, d2, rfl, rfl, fun _ => rfl, x3, x4, x5, fun i i0 i1 => x11 i (j.2.1.2.2.1 i i0 i1)⟩
theorem jo_kill (h : JA G H) : JO t0 True (fC_kill G 0 gp code) (fM_kill H 624 gp code) := by
  rw [fC_kill, fC_checkKill, fM_kill]
  rcases vM_noKill (g := H) (a := gp) (code := code) with ⟨a, e⟩ | ⟨a, e⟩
  · rw [e, bdN_s, if_neg f0]
    by_cases c1 : 0 ≤ gp ∧ gp ≤ 9
    · rw [rg_y c1, bdQ_0, rg_n (fun z => a ⟨c1, z⟩), qe1, bdQ_e]
      exact JO_e (JA_th h) (th8.trans rfl) (by decide)
    · rw [rg_n c1, qe1, bdQ_e]
      exact JO_e (JA_th h) (th8.trans rfl) (by decide)
  · rw [e, bdN_s, if_pos rfl, rg_y a.1, bdQ_0, rg_y a.2, bdQ_0, bdQ_0]
    refine jo_act (JA_th h) th8 (fun G1 H1 j q1 eG e25 => ?_)
    obtain ⟨v, G2, r2, d2, x1, x2, x3, x4, x5, x6, -⟩ := lk_kill (gp := gp) (code := code) j.2.1.1 q1 j.2.1.2.1 a.2
    rw [md_id, sw_id] at x2
    rw [ja0 j, if_pos (kdT T1), x1, bdN_s, x2, bdN_s]
    exact ⟨v, v, G2, _, d2, rfl, rfl, fun _ => rfl, x3, x4, x6, x5⟩
end PAR30
/-! ===== calls that change the tree, in both, more (own work) ===== -/
section PAR30
variable {g g' G G' H H' K : gH} {r r' d d' dm : Int → Int} {a b c e i j k l m n o p q s t u v w x y z S T gp code : Int}
/-- a field of a process, in both -/
theorem QQ_f (h : QQ S G r d) (h1 : r 1 ≤ 40) (hp : 0 ≤ p ∧ p < r 0) (hab : (a = 4 ∧ b = 100) ∨ (a = 6 ∧ b = 220) ∨ (a = 7 ∧ b = 260) ∨ (a = 8 ∧ b = 340)) (hw : WB (u1 r (b + p) v)) : QQ S (pU G (pc S p) a v) (u1 r (b + p) v) d ∧ TF S G (pU G (pc S p) a v) := by
  have hb := QQ_b h
  have bp := pc_b (T := S) (i := p) (by omega)
  rcases hab with hab | hab | hab | hab
  all_goals
    refine ⟨⟨h.1, (IT_w (IT_r h.2.1) (by omega)).1, hw, CP_pf h.2.2.2.1 (by omega) h1 hp (by obtain ⟨rfl, rfl⟩ := hab; decide), fun i i0 i1 => ?_, ?_⟩, (IT_w (IT_r h.2.1) (by omega)).2⟩
    · rw [pU_y (by omega)]; exact h.2.2.2.2.1 i i0 i1
    · exact LR_e h.2.2.2.2.2 (u1_n (by omega)) (u1_n (by omega)) (u1_n (by omega))
theorem jo_refuse (h : JA G H) : JO t3 True (fC_refuse G 0 p gp) (fM_refuse H 624 p gp) := by
  have hb := jaM h
  have q := jaQ h
  have o1 := JA_th (t := 0) h
  have e625 : th H 0 625 = H 625 := th_n (by omega)
  rw [fC_refuse, fM_refuse, vM_noProcess h.2.1]
  by_cases a : 0 ≤ p ∧ p < H 625 0
  · rw [if_pos a, if_pos a, bdN_s, if_pos rfl, vM_isSmall, bdP_s, jn_y h a, bdQ_0]
    by_cases b : 0 ≤ gp ∧ gp ≤ 9
    · rw [if_pos b, if_neg f0, jM_refuse_21, if_pos kd_c624, fl0, bdN_s, if_pos rfl, rg_y b, bdQ_0, if_pos (kdp T1 (by omega)), qP_mortal q (by omega), bdP_s, vM_runs o1.2.1.1 (by omega), bdP_s, e625]
      by_cases c : (0 < p ∧ p < H 625 0) ∧ H 625 (140 + p) = 0
      · rw [if_pos c, if_pos c.2, if_neg (show ¬ p = 0 by omega), if_neg f0, jM_refuse_46, if_pos kd_c624, fl0, bdN_s, if_pos rfl, st_1, bdQ_0]
        refine jo_act0 o1 th8 (fun G1 H1 j q1 eG e25 => ?_)
        have e1 : H1 625 = H 625 := e25.trans e625
        have w := j.2.1.2.1
        have hp : 0 < p ∧ p < H1 625 0 := by rw [e1]; exact c.1
        have m4 := j.2.1.1.1
        have hM := jaM j
        have f8 : G1 (pc 1 p) 8 = H1 625 (340 + p) := (QQ_pe q1 (i := p) (by omega)).1.2.2.2.2.2.1
        obtain ⟨q2, t2⟩ := QQ_f (a := 8) (b := 340) (p := p) (v := opI 2 (H1 625 (340 + p)) (opI 4 1 gp)) q1 (ja40 j) (by omega) (by omega) (WBF_rf w (by omega)).1
        have w2 := WBF_rf (p := p) (v := opI 2 (H1 625 (340 + p)) (opI 4 1 gp)) w (by omega)
        have n0 : u1 (H1 625) (340 + p) (opI 2 (H1 625 (340 + p)) (opI 4 1 gp)) 0 = H1 625 0 := u1_n (by omega)
        obtain ⟨f, ef⟩ : ∃ f, fu = f + 1 := ⟨fu - 1, by have := fu_ge; omega⟩
        obtain ⟨v, G2, r2, y1, y2, y3, y4, y5⟩ := lk_refuse (p := p) (gp := gp) j.2.1.1 _ f fu 1 0 _ _ rfl (by have := fu_ge; omega) (by rw [n0]; have := fu_ge; omega) (by omega) (by omega) (by omega) q2 w2 (by rw [n0]; exact hp)
        rw [bnd_s, f8, m4, w32_r (x := 340 + p) (by omega), if_pos (g625 (by omega)), if_pos (g625 (by omega)), bnd_s, pU_625, y2]
        have e0 : pU G1 (pc 1 p) 8 (opI 2 (H1 625 (340 + p)) (opI 4 1 gp)) 0 0 = 1 := by rw [t2 0 (by omega)]; exact ja0 j
        have s0 : lT_loseGroup_16 1 (pc 1 p) gp (1 + 2) 40 fu 0 0 (pU G1 (pc 1 p) 8 (opI 2 (H1 625 (340 + p)) (opI 4 1 gp))) = lT_loseGroup_16 1 (pc 1 p) gp (1 + 2) 40 f 0 1 (pU G1 (pc 1 p) 8 (opI 2 (H1 625 (340 + p)) (opI 4 1 gp))) := by
          rw [ef]
          show bT_loseGroup_16 1 (pc 1 p) gp (1 + 2) 40 (lT_loseGroup_16 1 (pc 1 p) gp (1 + 2) 40 f) 0 0 _ = _
          rw [bT_loseGroup_16, if_pos (by omega), if_pos ⟨kdT2 T1, by omega, by rw [szT2 T1]; omega⟩, TS_p q2.2.1.1 (by omega), if_pos (kdp T1 (by omega)), qP_child q2 (by omega) (by omega), if_neg (fun z => (ic_t.mp z.2).2.2 rfl), bdP_s, if_pos rfl, w32_r (by omega)]
          rfl
        rw [e0, if_pos (kdT T1), fT_loseGroup, TS_1 q2.2.1.1, if_pos (kdT2 T1), szT2 T1, s0, y1, bdN_s]
        exact ⟨v, v, G2, r2, rfl, rfl, fun _ => rfl, y3, y4, TF_t t2 y5⟩
      · have bad : ∀ X : Option (Int × gH), X = jM_refuse_46 (th H 0) 624 p gp 624 1 → JO t3 True (some (1 + 1, (0, G))) X := by
          intro X hX
          rw [hX, jM_refuse_46, if_pos kd_c624, fl1, bdN_s, if_neg f0]
          exact JO_e (JA_th o1) (th8.trans rfl) (by decide)
        rw [if_neg c, st_n, qe2]
        by_cases c0 : p = 0
        · rw [if_pos c0, jM_refuse_41]; exact bad _ rfl
        · rw [if_neg c0, if_neg (fun z => c ⟨by omega, z⟩), if_pos rfl, jM_refuse_41]; exact bad _ rfl
    · rw [if_neg b, if_pos rfl, jM_refuse_21, if_pos kd_c624, fl1, bdN_s, if_neg f0, rg_n b, qe1]
      exact JO_e (JA_th o1) (th8.trans rfl) (by decide)
  · rw [if_neg a, if_neg a, bdN_s, if_neg f0, jn_n h a, qe3]
    exact JO_e (JA_th h) (th8.trans rfl) (by decide)
end PAR30
/-! ===== calls that change the tree, in both, more (own work) ===== -/
section PAR30
variable {g g' G G' H H' K : gH} {r r' d d' dm : Int → Int} {a b c e i j k l m n o p q s t u v w x y z S T gp code : Int}
theorem jo_accept (h : JA G H) : JO t3 True (fC_accept G 0 p gp) (fM_accept H 624 p gp) := by
  have hb := jaM h
  have q := jaQ h
  have o1 := JA_th (t := 0) h
  have e625 : th H 0 625 = H 625 := th_n (by omega)
  rw [fC_accept, fM_accept, vM_noProcess h.2.1]
  by_cases a : 0 ≤ p ∧ p < H 625 0
  · rw [if_pos a, if_pos a, bdN_s, if_pos rfl, vM_isSmall, bdP_s, jn_y h a, bdQ_0]
    by_cases b : 0 ≤ gp ∧ gp ≤ 9
    · rw [if_pos b, if_neg f0, jM_accept_21, if_pos kd_c624, fl0, bdN_s, if_pos rfl, rg_y b, bdQ_0, if_pos (kdp T1 (by omega)), qP_run q a, bdP_s, vM_runs o1.2.1.1 (by omega), bdP_s, e625]
      by_cases c : H 625 (140 + p) = 0
      · rw [if_pos c, if_neg f0, jM_accept_42, if_pos kd_c624, fl0, bdN_s, if_pos rfl, st_1, bdQ_0]
        refine jo_act0 o1 th8 (fun G1 H1 j q1 eG e25 => ?_)
        have e1 : H1 625 = H 625 := e25.trans e625
        have w := j.2.1.2.1
        have hp : 0 ≤ p ∧ p < H1 625 0 := by rw [e1]; exact a
        have m4 := j.2.1.1.1
        have hM := jaM j
        have f8 : G1 (pc 1 p) 8 = H1 625 (340 + p) := (QQ_pe q1 hp).1.2.2.2.2.2.1
        obtain ⟨q2, t2⟩ := QQ_f (a := 8) (b := 340) (p := p) (v := opI 1 (H1 625 (340 + p)) (opI 3 (opI 4 1 gp) (-1))) q1 (ja40 j) hp (by omega) (WBF_rf w hp).1
        have w2 := WBF_rf (p := p) (v := opI 1 (H1 625 (340 + p)) (opI 3 (opI 4 1 gp) (-1))) w hp
        rw [qP_refuses q1 hp, bdP_s, bnd_s, f8, vM_refuses j.2.1.1 (by omega), bdP_s, m4, w32_r (x := 340 + p) (by omega), if_pos (g625 (by omega)), if_pos (g625 (by omega)), bnd_s, pU_625]
        exact ⟨_, _, _, _, rfl, rfl, fun _ => rfl, q2, w2, t2⟩
      · rw [if_neg c, if_pos rfl, jM_accept_42, if_pos kd_c624, fl1, bdN_s, if_neg f0, st_n, qe2]
        exact JO_e (JA_th o1) (th8.trans rfl) (by decide)
    · rw [if_neg b, if_pos rfl, jM_accept_21, if_pos kd_c624, fl1, bdN_s, if_neg f0, rg_n b, qe1]
      exact JO_e (JA_th o1) (th8.trans rfl) (by decide)
  · rw [if_neg a, if_neg a, bdN_s, if_neg f0, jn_n h a, qe3]
    exact JO_e (JA_th h) (th8.trans rfl) (by decide)
end PAR30
/-! ===== calls that change the tree, in both, more (own work) ===== -/
section PAR30
variable {g g' G G' H H' K : gH} {r r' d d' dm : Int → Int} {a b c e i j k l m n o p q s t u v w x y z S T gp code : Int}
/-! which rows are rows still -/
theorem WBF_c1 (w : WBF r) (hp : 0 ≤ p ∧ p < r 0) (h1 : 0 ≤ c ∧ c ≤ 9) : WBF (u1 r (100 + p) c) := by
  have hM := w.1.1
  refine WBF_eq w ?_ (fun k hk => u1_n (by omega))
  obtain ⟨b1, b2, b3, b4, b5, b6, b7⟩ := w.1
  have e0 : u1 r (100 + p) c 0 = r 0 := u1_n (by omega)
  refine ⟨by rw [e0]; exact b1, ?_, ?_, by rw [u1_n (by omega)]; exact b4, ?_, ?_, ?_⟩
  · intro i i0 i1
    rw [e0] at i1 ⊢
    rw [u1_n (by omega)]
    exact b2 i i0 i1
  · rw [e0]
    exact acy_ext b3 b2 (fun i i0 i1 => u1_n (by omega))
  · intro i i0 i1
    rw [e0] at i1 ⊢
    rw [u1_n (by omega)]
    exact b5 i i0 i1
  · intro i d i0 i1 d0 d1
    rw [e0] at i1 ⊢
    rw [u1_n (by omega)]
    exact b6 i d i0 i1 d0 d1
  · intro i i0 i1
    rw [e0] at i1
    by_cases e : i = p
    · rw [e, u1_s]; exact h1
    · rw [u1_n (by omega)]; exact b7 i i0 i1
end PAR30
/-! ===== calls that change the tree, in both, more (own work) ===== -/
section PAR30
variable {g g' G G' H H' K : gH} {r r' d d' dm : Int → Int} {a b c e i j k l m n o p q s t u v w x y z S T gp code : Int}
theorem WBF_h1 (w : WBF r) (hp : 0 ≤ p ∧ p < r 0) (h1 : -1 ≤ c ∧ c < r 0) : WBF (u1 r (260 + p) c) := by
  have hM := w.1.1
  refine WBF_eq w ?_ (fun k hk => u1_n (by omega))
  obtain ⟨b1, b2, b3, b4, b5, b6, b7⟩ := w.1
  have e0 : u1 r (260 + p) c 0 = r 0 := u1_n (by omega)
  refine ⟨by rw [e0]; exact b1, ?_, ?_, by rw [u1_n (by omega)]; exact b4, ?_, ?_, ?_⟩
  · intro i i0 i1
    rw [e0] at i1 ⊢
    rw [u1_n (by omega)]
    exact b2 i i0 i1
  · rw [e0]
    exact acy_ext b3 b2 (fun i i0 i1 => u1_n (by omega))
  · intro i i0 i1
    rw [e0] at i1 ⊢
    by_cases e : i = p
    · rw [e, u1_s]; exact h1
    · rw [u1_n (by omega)]; exact b5 i i0 i1
  · intro i d i0 i1 d0 d1
    rw [e0] at i1 ⊢
    rw [u1_n (by omega)]
    exact b6 i d i0 i1 d0 d1
  · intro i i0 i1
    rw [e0] at i1
    rw [u1_n (by omega)]; exact b7 i i0 i1
end PAR30
/-! ===== calls that change the tree, in both, more (own work) ===== -/
section PAR30
variable {g g' G G' H H' K : gH} {r r' d d' dm : Int → Int} {a b c e i j k l m n o p q s t u v w x y z S T gp code : Int}
theorem WBF_b1 (w : WBF r) (hp : 0 ≤ p ∧ p < r 0) (h1 : 0 ≤ c ∧ c ≤ 9) : WBF (u1 r (220 + p) c) := by
  have hM1 := w.1.1
  obtain ⟨hb0, hS, hSR, hX, hL, hN, hH, hC, hB⟩ := w
  have e0 : u1 r (220 + p) c 0 = r 0 := u1_n (by omega)
  have hb1 : WB (u1 r (220 + p) c) := WB_eq hb0 (fun k hk => u1_n (by omega))
  refine ⟨hb1, ⟨?_, ?_⟩, ?_, ⟨?_, ?_⟩, ?_, ?_, ?_, ?_, ?_⟩
  · intro i i0 i1
    rw [e0] at i1
    rw [u1_n (by omega)]; exact hS.1 i i0 i1
  · rw [u1_n (by omega)]; exact hS.2
  · intro i i0 i1 i2
    rw [e0] at i1
    have := hb0.2.1 i i0 i1
    rw [u1_n (by omega)] at i2
    rw [u1_n (show ¬ 60 + i = 220 + p by omega), u1_n (by omega)]
    exact hSR i i0 i1 i2
  · rw [u1_n (by omega)]; exact hX.1
  · intro k k0 k1
    rw [u1_n (by omega)] at k1
    have := hX.1
    rw [u1_n (by omega), e0]
    exact hX.2 k k0 k1
  · intro i i0 i1 i2
    rw [e0] at i1
    rw [u1_n (by omega)] at i2
    obtain ⟨k, k0, k1, k2⟩ := hL i i0 i1 i2
    have := hX.1
    exact ⟨k, k0, by rw [u1_n (by omega)]; exact k1, by rw [u1_n (by omega)]; exact k2⟩
  · show u1 r (220 + p) c 1 = _
    rw [u1_n (by omega), cn_eq_st e0 hM1.2 (fun k k0 k1 => u1_n (by omega))]
    exact hN
  · intro d d0 d1
    have := hH d d0 d1
    rw [u1_n (show ¬ 11 + d = 220 + p by omega), e0, u1_n (by omega)]
    exact this
  · intro i i0 i1 i2
    rw [e0] at i1
    rw [u1_n (by omega)] at i2
    rw [u1_n (by omega)]
    exact hC i i0 i1 i2
  · intro i i0 i1
    rw [e0] at i1
    by_cases e : i = p
    · rw [e, u1_s]; exact h1
    · rw [u1_n (by omega)]; exact hB i i0 i1
end PAR30
/-! ===== calls that change the tree, in both, more (own work) ===== -/
section PAR30
variable {g g' G G' H H' K : gH} {r r' d d' dm : Int → Int} {a b c e i j k l m n o p q s t u v w x y z S T gp code : Int}
theorem WBF_d1 (w : WBF r) (hp : 0 ≤ p ∧ p < r 0) (hst : r (140 + p) = 0) (ha : 0 ≤ a ∧ a < 8) : WBF (u1 r (11 + a) p) := by
  have hM1 := w.1.1
  have e0 : u1 r (11 + a) p 0 = r 0 := u1_n (by omega)
  obtain ⟨hb0, hS, hSR, hX, hL, hN, hH, hC, hB⟩ := w
  refine ⟨WB_eq hb0 (fun k hk => u1_n (by omega)), ⟨?_, ?_⟩, ?_, ⟨?_, ?_⟩, ?_, ?_, ?_, ?_, ?_⟩
  · intro i i0 i1
    rw [e0] at i1
    rw [u1_n (by omega)]; exact hS.1 i i0 i1
  · rw [u1_n (by omega)]; exact hS.2
  · intro i i0 i1 i2
    rw [e0] at i1
    have := hb0.2.1 i i0 i1
    rw [u1_n (by omega)] at i2
    rw [u1_n (show ¬ 60 + i = 11 + a by omega), u1_n (by omega)]
    exact hSR i i0 i1 i2
  · rw [u1_n (by omega)]; exact hX.1
  · intro k k0 k1
    rw [u1_n (by omega)] at k1
    rw [u1_n (by omega), e0]
    exact hX.2 k k0 k1
  · intro i i0 i1 i2
    rw [e0] at i1
    rw [u1_n (by omega)] at i2
    obtain ⟨k, k0, k1, k2⟩ := hL i i0 i1 i2
    exact ⟨k, k0, by rw [u1_n (by omega)]; exact k1, by rw [u1_n (by omega)]; exact k2⟩
  · show u1 r (11 + a) p 1 = _
    rw [u1_n (by omega), cn_eq_st e0 hM1.2 (fun k k0 k1 => u1_n (by omega))]
    exact hN
  · intro d d0 d1
    by_cases e : d = a
    · rw [e, u1_s, e0, u1_n (by omega)]
      exact ⟨hp.1, hp.2, hst⟩
    · have := hH d d0 d1
      rw [u1_n (show ¬ 11 + d = 11 + a by omega), e0, u1_n (by omega)]
      exact this
  · intro i i0 i1 i2
    rw [e0] at i1
    rw [u1_n (by omega)] at i2
    rw [u1_n (by omega)]
    exact hC i i0 i1 i2
  · intro i i0 i1
    rw [e0] at i1
    rw [u1_n (by omega)]; exact hB i i0 i1
end PAR30
/-! ===== calls that change the tree, in both, more (own work) ===== -/
section PAR30
variable {g g' G G' H H' K : gH} {r r' d d' dm : Int → Int} {a b c e i j k l m n o p q s t u v w x y z S T gp code : Int}
/-- a capacity or a budget, the class told by its field -/
theorem jo_sets {X : Option (Nat × (Int × gH))} {f : Int} (h : JA G H) (hf : (f = 4 ∧ k = 100) ∨ (f = 6 ∧ k = 220)) (hX : X = bdQ (fC_named G 0 p) (fun y1 => bdQ (fC_checkRange G c 9) (fun _ => if kd y1 = 3 then bdP (fP_isRunning G y1) (fun y14 => bdQ (fC_checkState G y14) (fun _ => if kd (G 0 3) = 0 then bdN (fH_push G (G 0 3) (G 0 0)) (fun _ g29 => bnd (pU g29 y1 f c) (fun g32 => some (0, ((g29 y1 f), g32)))) else none) (fun E23 => some (E23 + 1, (0, G)))) else none) (fun E12 => some (E12 + 1, (0, G)))) (fun E6 => some (E6 + 1, (0, G)))) : JO t3 True X (bdN (fM_sets H 624 k p c) (fun y1 g3 => some (y1, g3))) := by
  have hb := jaM h
  have q := jaQ h
  have o1 := JA_th (t := 0) h
  have e625 : th H 0 625 = H 625 := th_n (by omega)
  rw [hX, fM_sets, vM_noProcess h.2.1]
  by_cases a : 0 ≤ p ∧ p < H 625 0
  · rw [if_pos a, if_pos a, bdN_s, if_pos rfl, vM_isSmall, bdP_s, jn_y h a, bdQ_0]
    by_cases b : 0 ≤ c ∧ c ≤ 9
    · rw [if_pos b, if_neg f0, jM_sets_21, if_pos kd_c624, fl0, bdN_s, if_pos rfl, rg_y b, bdQ_0, if_pos (kdp T1 (by omega)), qP_run q a, bdP_s, vM_runs o1.2.1.1 (by omega), bdP_s, e625]
      by_cases c1 : H 625 (140 + p) = 0
      · rw [if_pos c1, if_neg f0, jM_sets_42, if_pos kd_c624, fl0, bdN_s, if_pos rfl, st_1, bdQ_0]
        have assoc : ∀ {Z : Option (Int × gH)} {B : Int → gH → Option (Int × gH)}, bdN (bdN Z B) (fun y1 g3 => some (y1, g3)) = bdN Z (fun y g => bdN (B y g) (fun y1 g3 => some (y1, g3))) := by
          intro Z B
          cases Z <;> rfl
        rw [assoc]
        refine jo_act0 o1 th8 (fun G1 H1 j q1 eG e25 => ?_)
        have e1 : H1 625 = H 625 := e25.trans e625
        have w := j.2.1.2.1
        have hp : 0 ≤ p ∧ p < H1 625 0 := by rw [e1]; exact a
        have m4 := j.2.1.1.1
        have hM := jaM j
        have w2 : WBF (u1 (H1 625) (k + p) c) := by
          rcases hf with ⟨-, rfl⟩ | ⟨-, rfl⟩
          · exact WBF_c1 w hp b
          · exact WBF_b1 w hp b
        obtain ⟨q2, t2⟩ := QQ_f (a := f) (b := k) (p := p) (v := c) q1 (ja40 j) hp (by omega) w2.1
        have fv : G1 (pc 1 p) f = H1 625 (k + p) := by
          have pe := (QQ_pe q1 hp).1
          rcases hf with ⟨rfl, rfl⟩ | ⟨rfl, rfl⟩
          · exact pe.2.1
          · exact pe.2.2.2.1
        rw [bnd_s, fv, m4, w32_r (x := k + p) (by omega), if_pos (g625 (by omega)), if_pos (g625 (by omega)), bnd_s, pU_625, bdN_s]
        exact ⟨_, _, _, _, rfl, rfl, fun _ => rfl, q2, w2, t2⟩
      · rw [if_neg c1, if_pos rfl, jM_sets_42, if_pos kd_c624, fl1, bdN_s, if_neg f0, st_n, qe2, bdN_s]
        exact JO_e (JA_th o1) (th8.trans rfl) (by decide)
    · rw [if_neg b, if_pos rfl, jM_sets_21, if_pos kd_c624, fl1, bdN_s, if_neg f0, rg_n b, qe1, bdN_s]
      exact JO_e (JA_th o1) (th8.trans rfl) (by decide)
  · rw [if_neg a, if_neg a, bdN_s, if_neg f0, jn_n h a, qe3, bdN_s]
    exact JO_e (JA_th h) (th8.trans rfl) (by decide)
end PAR30
/-! ===== calls that change the tree, in both, more (own work) ===== -/
section PAR30
variable {g g' G G' H H' K : gH} {r r' d d' dm : Int → Int} {a b c e i j k l m n o p q s t u v w x y z S T gp code : Int}
theorem jo_setCapacity (h : JA G H) : JO t3 True (fC_setCapacity G 0 p c) (fM_setCapacity H 624 p c) := jo_sets (f := 4) (k := 100) h (Or.inl ⟨rfl, rfl⟩) rfl
end PAR30
/-! ===== calls that change the tree, in both, more (own work) ===== -/
section PAR30
variable {g g' G G' H H' K : gH} {r r' d d' dm : Int → Int} {a b c e i j k l m n o p q s t u v w x y z S T gp code : Int}
theorem jo_setBudget (h : JA G H) : JO t3 True (fC_setBudget G 0 p c) (fM_setBudget H 624 p c) := jo_sets (f := 6) (k := 220) h (Or.inr ⟨rfl, rfl⟩) rfl
end PAR30
/-! ===== calls that change the tree, in both: setHeir to readAll (own work) ===== -/
section PAR31
variable {g g' G G' H H' K : gH} {r r' d d' dm : Int → Int} {a b c e i j k l m n o p q s t u v w x y z S T gp code : Int}
theorem jo_setHeir (h : JA G H) : JO t3 True (fC_setHeir G 0 p c) (fM_setHeir H 624 p c) := by
  have hb := jaM h
  have q := jaQ h
  have o1 := JA_th (t := 0) h
  have h01 : th H 0 624 0 = 625 := o1.2.1.1.1
  have e625 : th H 0 625 = H 625 := th_n (by omega)
  rw [fC_setHeir, fM_setHeir, vM_noProcess h.2.1]
  by_cases a : 0 ≤ p ∧ p < H 625 0
  · have tail : ¬ p = c → (-1 ≤ c ∧ c < H 625 0) → JO t3 True (if kd (pc 1 p) = 3 then bdP (fP_isMortal G (pc 1 p)) (fun y10 => bdQ (fC_checkState G y10) (fun y14 => if kd (G 0 3) = 0 then bdN (fH_push G (G 0 3) (G 0 0)) (fun y23 g25 => bnd (pU g25 (pc 1 p) 7 c) (fun g28 => some (0, ((g25 (pc 1 p) 7), g28)))) else none) (fun E19 => some (E19 + 1, (0, G)))) else none) (jM_setHeir_48 (th H 0) 624 p c 624 0) := by
      intro hpc hc
      rw [jM_setHeir_48, if_pos kd_c624, fl0, bdN_s, if_pos rfl, if_pos (kdp T1 (by omega)), qP_mortal q (by omega), bdP_s, vM_runs o1.2.1.1 (by omega), bdP_s, e625]
      by_cases c1 : (0 < p ∧ p < H 625 0) ∧ H 625 (140 + p) = 0
      · rw [if_pos c1, if_pos c1.2, if_neg (show ¬ p = 0 by omega), if_neg f0, jM_setHeir_73, if_pos kd_c624, fl0, bdN_s, if_pos rfl, st_1, bdQ_0]
        refine jo_act0 o1 th8 (fun G1 H1 j q1 eG e25 => ?_)
        have e1 : H1 625 = H 625 := e25.trans e625
        have w := j.2.1.2.1
        have hp : 0 ≤ p ∧ p < H1 625 0 := by rw [e1]; exact a
        have m4 := j.2.1.1.1
        have hM := jaM j
        have w2 := WBF_h1 (p := p) (c := c) w hp (by rw [e1]; exact hc)
        obtain ⟨q2, t2⟩ := QQ_f (a := 7) (b := 260) (p := p) (v := c) q1 (ja40 j) hp (by omega) w2.1
        have fv : G1 (pc 1 p) 7 = H1 625 (260 + p) := (QQ_pe q1 hp).1.2.2.2.2.1
        rw [bnd_s, fv, m4, w32_r (x := 260 + p) (by omega), if_pos (g625 (by omega)), if_pos (g625 (by omega)), bnd_s, pU_625]
        exact ⟨_, _, _, _, rfl, rfl, fun _ => rfl, q2, w2, t2⟩
      · have bad : ∀ X : Option (Int × gH), X = jM_setHeir_73 (th H 0) 624 p c 624 1 → JO t3 True (some (1 + 1, (0, G))) X := by
          intro X hX
          rw [hX, jM_setHeir_73, if_pos kd_c624, fl1, bdN_s, if_neg f0]
          exact JO_e (JA_th o1) (th8.trans rfl) (by decide)
        rw [if_neg c1, st_n, qe2]
        by_cases c0 : p = 0
        · rw [if_pos c0, jM_setHeir_68]; exact bad _ rfl
        · rw [if_neg c0, if_neg (fun z => c1 ⟨by omega, z⟩), if_pos rfl, jM_setHeir_68]; exact bad _ rfl
    rw [if_pos a, if_pos a, bdN_s, if_pos rfl, jn_y h a, bdQ_0, h01, if_pos (g625 (by omega)), e625, w32_r (by omega), vM_inRange, bdP_s]
    by_cases c2 : c = -1
    · rw [if_pos c2, if_pos (show -1 ≤ c ∧ c ≤ H 625 0 - 1 by omega), if_neg f0, jM_setHeir_30, if_pos kd_c624, fl0, bdN_s, if_pos rfl, if_neg (show ¬ p = c by omega)]
      exact tail (by omega) (by omega)
    · rw [if_neg c2]
      by_cases c3 : 0 ≤ c ∧ c < H 625 0
      · rw [jn_y h c3, bdQ_0, if_pos (show -1 ≤ c ∧ c ≤ H 625 0 - 1 by omega), if_neg f0, jM_setHeir_30, if_pos kd_c624, fl0, bdN_s, if_pos rfl]
        by_cases c4 : p = c
        · rw [if_pos (show pc 1 c = pc 1 p by rw [c4]), if_pos c4, jM_setHeir_48, if_pos kd_c624, fl1, bdN_s, if_neg f0]
          exact JO_e (k := 0) (JA_th o1) (th8.trans rfl) (by decide)
        · rw [if_neg (fun z => c4 (pc_inj c3.1 a.1 z).symm), if_neg c4]
          exact tail c4 (by omega)
      · rw [jn_n h c3, qe3, if_neg (show ¬ (-1 ≤ c ∧ c ≤ H 625 0 - 1) by omega), if_pos rfl, jM_setHeir_30, if_pos kd_c624, fl1, bdN_s, if_neg f0]
        exact JO_e (JA_th o1) (th8.trans rfl) (by decide)
  · rw [if_neg a, if_neg a, bdN_s, if_neg f0, jn_n h a, qe3]
    exact JO_e (JA_th h) (th8.trans rfl) (by decide)
theorem jo_give (h : JA G H) : JO tv True (fC_give G 0 a p) (fM_give H 624 a p) := by
  have hb := jaM h
  have q := jaQ h
  have o1 := JA_th (t := 0) h
  have h01 : th H 0 624 0 = 625 := o1.2.1.1.1
  have e625 : th H 0 625 = H 625 := th_n (by omega)
  have e8 : pU H 624 8 0 = th H 0 := rfl
  rw [fC_give, fM_give, bnd_s, e8]
  rcases vM_noDuty (g := th H 0) (a := a) (c := 1) with ⟨a1, e1⟩ | ⟨a1, e1⟩
  · rw [e1, bdN_s, if_neg f0, rg_n a1, qe1]
    exact JO_e (JA_th o1) (th8.trans rfl) (by decide)
  · rw [e1, bdN_s, if_pos rfl, rg_y a1, bdQ_0, h01, if_pos (g625 (by omega)), e625, w32_r (by omega), vM_inRange, bdP_s]
    by_cases b : 0 ≤ p ∧ p < H 625 0
    · rw [if_pos (show 0 ≤ p ∧ p ≤ H 625 0 - 1 by omega), if_neg f0, jM_give_36, if_pos kd_c624, fl0, bdN_s, if_pos rfl, jn_y h b, bdQ_0, if_pos (kdp T1 (by omega)), qP_run q b, bdP_s, vM_runs o1.2.1.1 (by omega), bdP_s, e625]
      by_cases c : H 625 (140 + p) = 0
      · rw [if_pos c, if_neg f0, jM_give_57, if_pos kd_c624, fl0, bdN_s, if_pos rfl, st_1, bdQ_0]
        refine jo_act0 o1 th8 (fun G1 H1 j q1 eG e25 => ?_)
        have e1 : H1 625 = H 625 := e25.trans e625
        have w := j.2.1.2.1
        have hp : 0 ≤ p ∧ p < H1 625 0 := by rw [e1]; exact b
        have m4 := j.2.1.1.1
        have hM := jaM j
        have hd := w.2.2.2.2.2.2.1 a a1.1 (by omega)
        have w2 := WBF_d1 (p := p) (a := a) w hp (by rw [e1]; exact c) (by omega)
        have hI : IT 1 G1 (pU G1 (1 + 3) a p) := IT_w (IT_r q1.2.1) (by omega)
        have q2 : QQ 1 (pU G1 (1 + 3) a p) (u1 (H1 625) (11 + a) p) (H1 630) := by
          refine ⟨T1, hI.1, w2.1, CP_d q1.2.2.2.1 (by omega) (ja40 j) (by omega), fun i i0 i1 => ?_, ?_⟩
          · have bi := pc_b (T := 1) ⟨i0, i1⟩
            rw [pU_n (by omega)]; exact q1.2.2.2.2.1 i i0 i1
          · exact LR_e q1.2.2.2.2.2 (u1_n (by omega)) (u1_n (by omega)) (u1_n (by omega))
        have n0 : G1 (pc 1 (H1 625 (11 + a))) 0 = H1 625 (11 + a) := TS_n q1.2.1.1 (by omega)
        have np : G1 (pc 1 p) 0 = p := TS_n q1.2.1.1 (by omega)
        rw [ja0 j, if_pos (kdT T1), qT_holder q1 (by omega) (by omega), bdP_s, if_pos (kdp T1 (by omega)), fT_giveDuty, if_neg (by omega), if_pos (by omega), if_pos (kdp T1 (by omega)), TS_2 q1.2.1.1, if_pos ⟨kdT3 T1, a1.1, by rw [szT3 T1]; omega⟩, np, bnd_s, bdN_s, n0, m4, w32_r (x := 11 + a) (by omega), if_pos (g625 (by omega)), if_pos (g625 (by omega)), bnd_s, pU_625]
        exact ⟨_, _, _, _, rfl, rfl, fun _ => rfl, q2, w2, hI.2⟩
      · rw [if_neg c, if_pos rfl, jM_give_57, if_pos kd_c624, fl1, bdN_s, if_neg f0, st_n, qe2]
        exact JO_e (JA_th o1) (th8.trans rfl) (by decide)
    · rw [if_neg (show ¬ (0 ≤ p ∧ p ≤ H 625 0 - 1) by omega), if_pos rfl, jM_give_36, if_pos kd_c624, fl1, bdN_s, if_neg f0, jn_n h b, qe3]
      exact JO_e (JA_th o1) (th8.trans rfl) (by decide)
/-- a process comes, in both -/
theorem lk_come (hs : MS H) (h : QQ S G r dm) (hw : WBF r) (hM : r 0 < 40) (hj : 0 ≤ j ∧ j < r 0) (hst : r (140 + j) = 0) (hc : 0 ≤ c ∧ c ≤ 9) (hbu : 0 ≤ b ∧ b ≤ 9) (hd : dm (r 0) = 0) : ∃ G', fT_arrive G S (pc S j) c gp b = some (pc S (r 0), G') ∧ fM_comes (sw H r) 624 j c gp b = some (r 0, sw H (cmR r j c gp b)) ∧ QQ S G' (cmR r j c gp b) dm ∧ WBF (cmR r j c gp b) ∧ TF S G G' := by
  have hb := QQ_b h
  obtain ⟨A, eA, iA, t1, t2, t3, t4, t5, t6, t7⟩ := vT_arrive (a := c) (b := gp) (d := b) (j := j) h.2.1 h.1 (by rw [QQ_0 h]; exact hj) (by rw [QQ_0 h]; omega)
  rw [QQ_0 h] at eA t1 t2 t4 t5 t6 t7
  have kb := kids_bd (r := r) (i := j) (s := 0)
  have f3 := (QQ_pe h hj).2.2.1
  rw [f3, w32_r (by omega), ← f3] at t3
  have hcp := CP_cm h.2.2.2.1 h.2.2.1 (by omega) (by have := WBF_1 hw; omega) hj t1 t2 t3 t4 t5 t6 t7
  have w2 := WBF_cm (gp := gp) hw hM hj hst hc hbu
  have mc := vM_comes (g := sw H r) (a := j) (c := c) (gp := gp) (b := b) (MS_sw hs) (by rw [sw_s]; omega)
  rw [sw_s, sw_sw] at mc
  refine ⟨A, eA, mc, ⟨h.1, iA.1, w2.1, hcp, fun i i0 i1 => ?_, ?_⟩, w2, iA.2⟩
  · have bi := pc_b (T := S) ⟨i0, i1⟩
    by_cases z : i = r 0
    · rw [z, hd]; exact t7.2.1
    · by_cases z2 : i = j
      · rw [z2, t3, u1_n (by omega)]; exact h.2.2.2.2.1 j hj.1 (by omega)
      · rw [t2 _ (by omega) (pc_ne i0 (by omega) z) (pc_ne i0 hj.1 z2)]; exact h.2.2.2.2.1 i i0 i1
  · exact LR_e h.2.2.2.2.2 (cmR_o (by omega) (by omega)) (cmR_o (by omega) (by omega)) (cmR_o (by omega) (by omega))
theorem jo_spawn (h : JA G H) : JO t3 True (fC_spawn G 0 p c gp b) (fM_spawn H 624 p c gp b) := by
  have hb := jaM h
  have q := jaQ h
  have o1 := JA_th (t := 0) h
  have h01 : th H 0 624 0 = 625 := o1.2.1.1.1
  have e625 : th H 0 625 = H 625 := th_n (by omega)
  have bad2 : ∀ X : Option (Int × gH), X = jM_spawn_36 (th H 0) 624 p c gp b 624 1 → JO t3 True (some (0 + 1, (0, G))) X := by
    intro X hX
    rw [hX, jM_spawn_36, if_pos kd_c624, fl1, bdN_s, if_neg f0]
    exact JO_e (JA_th o1) (th8.trans rfl) (by decide)
  have bad3 : ∀ X : Option (Int × gH), X = jM_spawn_70 (th H 0) 624 p c gp b 624 1 → JO t3 True (some (1 + 1, (0, G))) X := by
    intro X hX
    rw [hX, jM_spawn_70, if_pos kd_c624, fl1, bdN_s, if_neg f0]
    exact JO_e (JA_th o1) (th8.trans rfl) (by decide)
  rw [fC_spawn, fM_spawn, vM_noProcess h.2.1]
  by_cases a : 0 ≤ p ∧ p < H 625 0
  · rw [if_pos a, if_pos a, bdN_s, if_pos rfl, vM_isSmall, bdP_s, jn_y h a, bdQ_0, jM_spawn_31]
    by_cases b1 : 0 ≤ c ∧ c ≤ 9
    · rw [if_pos b1, if_neg f0, rg_y b1, bdQ_0, vM_isSmall, bdP_s]
      by_cases b2 : 0 ≤ gp ∧ gp ≤ 9
      · rw [if_pos b2, if_neg f0, rg_y b2, bdQ_0, vM_isSmall, bdP_s]
        by_cases b3 : 0 ≤ b ∧ b ≤ 9
        · have rm := vM_roomOf (g := th H 0) (p := p) o1.2.1.1 o1.2.1.2.1.1 (by rw [e625]; exact a)
          have rb := room_bd q.2.2.1 a
          rw [e625] at rm
          rw [if_pos b3, if_neg f0, rg_y b3, bdQ_0, jM_spawn_36, if_pos kd_c624, fl0, bdN_s, if_pos rfl, if_pos (kdp T1 (by omega)), qP_room q a, bdP_s, rm, bdP_s, ja0 h, if_pos (kdT T1), QQ_0 q, h01, if_pos (g625 (by omega)), e625, jC_spawn_50, jM_spawn_65]
          by_cases c1 : room (H 625) p = 0
          · rw [if_pos c1, if_neg (by omega), jC_spawn_51, st_n, qe2]
            exact bad3 _ rfl
          · rw [if_neg c1, if_pos (by omega)]
            by_cases c2 : H 625 0 = 40
            · rw [if_pos c2, if_neg (by omega), jC_spawn_51, st_n, qe2]
              exact bad3 _ rfl
            · rw [if_neg c2, if_pos (by omega), jC_spawn_51, jM_spawn_70, if_pos kd_c624, fl0, bdN_s, if_pos rfl, st_1, bdQ_0]
              refine jo_act0 o1 th8 (fun G1 H1 j q1 eG e25 => ?_)
              have e1 : H1 625 = H 625 := e25.trans e625
              have w := j.2.1.2.1
              have hM : H1 625 0 < 40 := by rw [e1]; omega
              obtain ⟨G2, x1, x2, x3, x4, x5⟩ := lk_come (c := c) (gp := gp) (b := b) (j := p) j.2.1.1 q1 w hM (by rw [e1]; exact a) (by rw [e1]; exact room_run c1) b1 b3 (j.2.1.2.2.1 _ (by have := jaM j; omega) hM)
              rw [sw_id] at x2
              have hMj := jaM j
              rw [ja0 j, if_pos (kdT T1), x1, bdN_s, x2, bdN_s, fC_numberOf, if_neg (pc_pos T1 (by omega)), if_pos (kdp T1 (by omega)), TS_n x3.2.1.1 (by omega), bdP_s]
              exact ⟨_, _, _, _, rfl, rfl, fun _ => rfl, x3, x4, x5⟩
        · rw [if_neg b3, if_pos rfl, rg_n b3, qe1]; exact bad2 _ rfl
      · rw [if_neg b2, if_pos rfl, rg_n b2, qe1]; exact bad2 _ rfl
    · rw [if_neg b1, if_pos rfl, rg_n b1, qe1]; exact bad2 _ rfl
  · rw [if_neg a, if_neg a, bdN_s, if_neg f0, jn_n h a, qe3]
    exact JO_e (JA_th h) (th8.trans rfl) (by decide)
theorem jo_move (h : JA G H) : JO t2 True (fC_move G 0 p q) (fM_move H 624 p q) := by
  have hb := jaM h
  have qq := jaQ h
  have o1 := JA_th (t := 0) h
  have h01 : th H 0 624 0 = 625 := o1.2.1.1.1
  have e625 : th H 0 625 = H 625 := th_n (by omega)
  have bad : ∀ X : Option (Int × gH), X = jM_move_84 (th H 0) 624 p q 624 1 → JO t2 True (jC_move_60 G 0 (pc 1 p) (pc 1 q) 0) X := by
    intro X hX
    rw [hX, jM_move_84, if_pos kd_c624, fl1, bdN_s, if_neg f0, jC_move_60, st_n, qe2]
    exact JO_e (JA_th o1) (th8.trans rfl) (by decide)
  rw [fC_move, fM_move, vM_noProcess h.2.1]
  by_cases a : 0 ≤ p ∧ p < H 625 0
  · rw [if_pos a, if_pos a, bdN_s, if_pos rfl, vM_noProcess2 h.2.1, jn_y h a, bdQ_0]
    by_cases b : 0 ≤ q ∧ q < H 625 0
    · have rp := vM_runs (g := th H 0) (p := p) o1.2.1.1 (by omega)
      have rq := vM_runs (g := th H 0) (p := q) o1.2.1.1 (by omega)
      have ov := vM_isOver (g := th H 0) (p := p) (x := q) o1.2.1.1 (by rw [e625]; exact QQ_en qq b)
      have rm := vM_roomOf (g := th H 0) (p := q) o1.2.1.1 o1.2.1.2.1.1 (by rw [e625]; exact b)
      have rf := vM_refuses (g := th H 0) (p := q) (a := H 625 (180 + p)) o1.2.1.1 (by omega)
      have rb := room_bd qq.2.2.1 b
      rw [e625] at rp rq ov rm rf
      rw [if_pos b, if_pos b, bdN_s, if_pos rfl, jn_y h b, bdQ_0, if_pos (kdp T1 (by omega)), qP_mortal qq (by omega), bdP_s, if_pos (kdp T1 (i := q) (by omega)), qP_room qq b, bdP_s, qP_over qq a.1 b, bdP_s, (QQ_pe qq a).1.2.2.1, qP_refuses qq b, bdP_s, rp, bdP_s, rq, bdP_s, ov, bdP_s, rm, bdP_s, h01, e625, w32_r (x := 180 + p) (by omega), if_pos (g625 (by omega)), rf, bdP_s, jC_move_59, jM_move_79]
      by_cases c1 : (0 < p ∧ p < H 625 0) ∧ H 625 (140 + p) = 0
      · rw [if_pos c1, if_neg f0, if_neg (show ¬ p = 0 by omega), if_pos c1.2, if_neg f0]
        by_cases c2 : H 625 (140 + q) = 0
        · rw [if_pos c2, if_neg f0]
          by_cases c3 : p = q
          · rw [if_pos c3, if_pos (show pc 1 q = pc 1 p by rw [c3])]
            split <;> exact bad _ rfl
          · rw [if_neg c3, if_neg (fun z => c3 (pc_inj b.1 a.1 z).symm)]
            by_cases c4 : OV (up (H 625)) p q = true
            · rw [if_pos c4, if_neg f0, if_neg f0]
              split <;> exact bad _ rfl
            · rw [if_neg c4, if_pos rfl, if_pos rfl]
              by_cases c5 : room (H 625) q = 0
              · rw [if_pos c5, if_neg (by omega)]; exact bad _ rfl
              · rw [if_neg c5, if_pos (by omega)]
                by_cases c6 : rfs (H 625) q (H 625 (180 + p)) = true
                · rw [if_pos c6, if_neg f0, if_neg f0]; exact bad _ rfl
                · rw [if_neg c6, if_pos rfl, if_pos rfl, jC_move_60, jM_move_84, if_pos kd_c624, fl0, bdN_s, if_pos rfl, st_1, bdQ_0]
                  refine jo_act0 o1 th8 (fun G1 H1 j q1 eG e25 => ?_)
                  have e1 : H1 625 = H 625 := e25.trans e625
                  have w := j.2.1.2.1
                  have m4 := j.2.1.1.1
                  have hM := jaM j
                  have hp : 0 < p ∧ p < H1 625 0 := by rw [e1]; exact c1.1
                  have hq : 0 ≤ q ∧ q < H1 625 0 := by rw [e1]; exact b
                  have o4 : OV (up (H1 625)) p q = false := by rw [e1]; exact Bool.eq_false_iff.mpr c4
                  have w2 := WBF_sup (r' := u1 (H1 625) (60 + p) q) w (c := p) (t := q) hp hq (fun z => c3 z.symm) o4 (by rw [e1]; exact c2) u1_s (fun k k1 k2 k3 k4 => u1_n k4)
                  obtain ⟨G2, x1, x2, x3⟩ := aP_put q1 (ja40 j) hp (by rw [e1]; exact c1.2) hq (fun z => c3 z.symm) o4
                  have hu := QQ_rg q1 hp
                  have eu : H1 625 (60 + p) = up (H1 625) p := rfl
                  rw [if_pos (kdp T1 (by omega)), QQ_up q1 hp, fC_numberOf, if_neg (pc_pos T1 (by omega)), if_pos (kdp T1 (by omega)), TS_n q1.2.1.1 (by omega), bdP_s, x1, bdN_s, m4, w32_r (x := 60 + p) (by omega), if_pos (g625 (by omega)), if_pos (g625 (by omega)), bnd_s, pU_625, eu]
                  exact ⟨_, _, _, _, rfl, rfl, fun _ => rfl, x2, w2, x3⟩
        · have c5 : room (H 625) q = 0 := by unfold room; rw [if_neg c2]
          rw [if_neg c2, if_pos rfl, if_neg (show ¬ 0 < room (H 625) q by omega)]
          exact bad _ rfl
      · rw [if_neg c1, if_pos rfl]
        by_cases c0 : p = 0
        · rw [if_pos c0]; exact bad _ rfl
        · rw [if_neg c0, if_neg (fun z => c1 ⟨by omega, z⟩), if_pos rfl]; exact bad _ rfl
    · rw [if_neg b, if_neg b, bdN_s, if_neg f0, jn_n h b, qe3]
      exact JO_e (JA_th h) (th8.trans rfl) (by decide)
  · rw [if_neg a, if_neg a, bdN_s, if_neg f0, jn_n h a, qe3]
    exact JO_e (JA_th h) (th8.trans rfl) (by decide)
theorem jo_relieve (h : JA G H) : JO t2 True (fC_relieve G 0 p) (fM_relieve H 624 p) := by
  have hb := jaM h
  have q := jaQ h
  rw [fC_relieve, fM_relieve]
  rcases vM_notExiting (p := p) (c := 2) h.2.1 with ⟨a, e⟩ | ⟨a, c, e⟩ | ⟨a, c, e⟩
  · rw [e, bdN_s, if_neg f0, jn_n h a, qe3]
    exact JO_e (JA_th h) (th8.trans rfl) (by decide)
  · rw [e, bdN_s, if_neg f0, jn_y h a, bdQ_0, if_pos (kdp T1 (by omega)), qP_mortal q (by omega), bdP_s, if_neg (fun z => c ⟨by omega, z.2⟩), st_n, qe2]
    exact JO_e (JA_th h) (th8.trans rfl) (by decide)
  · rw [e, bdN_s, if_pos rfl, jn_y h ⟨by omega, a.2⟩, bdQ_0, if_pos (kdp T1 (by omega)), qP_mortal q (by omega), bdP_s, if_pos ⟨a, c⟩, st_1, bdQ_0]
    refine jo_act0 (JA_th h) th8 (fun G1 H1 j q1 eG e25 => ?_)
    have e1 : H1 625 = H 625 := e25.trans (th_n (by omega))
    have w := j.2.1.2.1
    have m4 := j.2.1.1.1
    have hM := jaM j
    have hfu := fu_ge
    have hp : 0 < p ∧ p < H1 625 0 := by rw [e1]; exact a
    have skip : ∀ (m n : Nat) (k : Int), (k - (H1 625 0 - 1)).toNat = m → H1 625 0 - 1 ≤ k → k < 40 → lT_loseSurplus_5 1 (pc 1 p) (n + m) 0 k G1 = lT_loseSurplus_5 1 (pc 1 p) n 0 (H1 625 0 - 1) G1 := by
      intro m
      induction m with
      | zero =>
        intro n k hm k0 k1
        rw [show k = H1 625 0 - 1 by omega]
        rfl
      | succ m ih =>
        intro n k hm k0 k1
        show bT_loseSurplus_5 1 (pc 1 p) (lT_loseSurplus_5 1 (pc 1 p) (n + m)) 0 k G1 = _
        have g24 : kd (1 + 2) = 24 ∧ (0 : Int) ≤ k ∧ k < sz (1 + 2) := ⟨kdT2 T1, by omega, by rw [szT2 T1]; omega⟩
        rw [bT_loseSurplus_5, if_neg (by omega), if_pos (kdp T1 (by omega)), TS_1 q1.2.1.1, if_pos g24, TS_p q1.2.1.1 (by omega), if_pos (kdp T1 (by omega)), qP_child q1 (by omega) (by omega), bdP_s, if_neg (show ¬ (k < H1 625 0 ∧ ic (H1 625) k p 0 = true) from fun z => by omega), if_pos rfl, w32_r (x := k + -1) (by omega), ih n (k + -1) (by omega) (by omega) (by omega)]
        split <;> rfl
    obtain ⟨f, ef⟩ : ∃ f, fu = f + (39 - (H1 625 0 - 1)).toNat := ⟨fu - (39 - (H1 625 0 - 1)).toNat, by omega⟩
    obtain ⟨v, G2, r2, y1, y2, y3, y4, y5⟩ := lk_relieve (p := p) j.2.1.1 _ f fu (H1 625 0 - 1) 0 G1 (H1 625) rfl (by omega) (by omega) (by omega) (by omega) (by omega) q1 w hp
    rw [sw_id] at y2
    rw [ja0 j, if_pos (kdT T1), fT_loseSurplus, show lT_loseSurplus_5 1 (pc 1 p) fu 0 39 G1 = lT_loseSurplus_5 1 (pc 1 p) f 0 (H1 625 0 - 1) G1 by rw [ef]; exact skip _ f 39 rfl (by omega) (by omega), y1, bdN_s, m4, if_pos (g625 (by omega)), w32_r (by omega), y2]
    exact ⟨_, _, _, _, rfl, rfl, fun _ => rfl, y3, y4, y5⟩
theorem jo_readAll (h : JA G H) : JO t2 True (fC_readAll G 0 p) (fM_readAll H 624 p) := by
  have hb := jaM h
  have q := jaQ h
  rw [fC_readAll, fM_readAll]
  rcases vM_notRunning (p := p) (c := 2) h.2.1 with ⟨a, e⟩ | ⟨a, c, e⟩ | ⟨a, c, e⟩
  · rw [e, bdN_s, if_neg f0, jn_n h a, qe3]
    exact JO_e (JA_th h) (th8.trans rfl) (by decide)
  · rw [e, bdN_s, if_neg f0, jn_y h a, bdQ_0, if_pos (kdp T1 (by omega)), qP_run q a, bdP_s, if_neg c, st_n, qe2]
    exact JO_e (JA_th h) (th8.trans rfl) (by decide)
  · rw [e, bdN_s, if_pos rfl, jn_y h a, bdQ_0, if_pos (kdp T1 (by omega)), qP_run q a, bdP_s, if_pos c, st_1, bdQ_0]
    refine jo_act0 (JA_th h) th8 (fun G1 H1 j q1 eG e25 => ?_)
    have e1 : H1 625 = H 625 := e25.trans (th_n (by omega))
    have w := j.2.1.2.1
    obtain ⟨ra, -⟩ := vM_readsAll (g := H1) (r := H1 625) (p := p) j.2.1.1 w.1.1 w.2.2.2.1 w.2.2.2.2.1 w.2.2.2.2.2.2.2.1
    rw [sw_id] at ra
    obtain ⟨w1, w2⟩ := WF_rd (p := p) w.1 w.2
    obtain ⟨G2, x1, x2, x3⟩ := aT_readZ q1 (by have := WBF_1 w; omega) w.2.2.2.2.2.2.2.1 (p := p) (by rw [e1]; exact a) w1
    rw [ja0 j, if_pos (kdT T1), x1, bdN_s, ra, bdN_s]
    exact ⟨_, _, _, _, rfl, rfl, fun _ => rfl, x2, ⟨w1, w2⟩, x3⟩
theorem jo_prune (h : JA G H) : JO t3 True (fC_prune G 0 p code) (fM_prune H 624 p code) := by
  have hb := jaM h
  have q := jaQ h
  have o1 := JA_th (t := 0) h
  have e625 : th H 0 625 = H 625 := th_n (by omega)
  rw [fC_prune, fM_prune, vM_noProcess h.2.1]
  by_cases a : 0 ≤ p ∧ p < H 625 0
  · rw [if_pos a, if_pos a, bdN_s, if_pos rfl, vM_inRange, bdP_s, jn_y h a, bdQ_0]
    by_cases b : 0 ≤ code ∧ code ≤ 255
    · rw [if_pos b, if_neg f0, jM_prune_25, if_pos kd_c624, fl0, bdN_s, if_pos rfl, rg_y b, bdQ_0, if_pos (kdp T1 (by omega)), qP_run q a, bdP_s, vM_runs o1.2.1.1 (by omega), bdP_s, e625]
      by_cases c : H 625 (140 + p) = 0
      · rw [if_pos c, if_neg f0, jM_prune_46, if_pos kd_c624, fl0, bdN_s, if_pos rfl, st_1, bdQ_0]
        refine jo_act o1 th8 (fun G1 H1 j q1 eG e25 => ?_)
        have e1 : H1 625 = H 625 := e25.trans e625
        have w := j.2.1.2.1
        have hfu := fu_ge
        have hp : 0 ≤ p ∧ p < H1 625 0 := by rw [e1]; exact a
        obtain ⟨c', l1, l2, l3⟩ := lk_lowest (p := p) j.2.1.1 q1 hp
        rw [sw_id] at l2
        have hn := WBF_1 w
        obtain ⟨v, G2, r2, d2, y1, y2, y3, y4, y5, y6⟩ := lk_prune_l (p := p) (code := code) j.2.1.1 b _ fu fu 0 c' G1 (H1 625) (H1 630) rfl (by omega) (by omega) (by omega) l3 q1 w hp
        rw [md_id, sw_id] at y2
        rw [ja0 j, if_pos (kdT T1), fT_pruneBelow, l1, bdP_s, y1, bdN_s, l2, bdP_s, y2]
        exact ⟨_, _, _, _, _, rfl, rfl, fun _ => rfl, y3, y4, y5, fun i i0 i1 => y6 i (j.2.1.2.2.1 i i0 i1)⟩
      · rw [if_neg c, if_pos rfl, jM_prune_46, if_pos kd_c624, fl1, bdN_s, if_neg f0, st_n, qe2]
        exact JO_e (JA_th o1) (th8.trans rfl) (by decide)
    · rw [if_neg b, if_pos rfl, jM_prune_25, if_pos kd_c624, fl1, bdN_s, if_neg f0, rg_n b, qe1]
      exact JO_e (JA_th o1) (th8.trans rfl) (by decide)
  · rw [if_neg a, if_neg a, bdN_s, if_neg f0, jn_n h a, qe3]
    exact JO_e (JA_th h) (th8.trans rfl) (by decide)
end PAR31
/-! ===== the order of exits; reading one testament, exchanging, in both (own work) ===== -/
section PAR32
variable {g g' G G' H H' K : gH} {r r' d d' dm : Int → Int} {a b c e i j k l m n o p q s t u v w x y z S T gp code : Int}
/-- one to one into n places: at most n -/
theorem pg_cn (f : Int → Int) : ∀ (n : Nat) (A : Int → Bool), (∀ x, 0 ≤ x → x < m → A x = true → 0 ≤ f x ∧ f x < n) → (∀ x y, 0 ≤ x → x < m → 0 ≤ y → y < m → A x = true → A y = true → f x = f y → x = y) → cn A m.toNat 0 ≤ n := by
  intro n
  induction n with
  | zero =>
    intro A h1 h2
    rw [cn_z m.toNat 0 (fun j j0 j1 => by
      cases hA : A j with
      | false => rfl
      | true => have := h1 j j0 (by omega) hA; omega)]
    omega
  | succ n ih =>
    intro A h1 h2
    by_cases hj : ∃ j, 0 ≤ j ∧ j < m ∧ A j = true ∧ f j = n
    · obtain ⟨j, j0, j1, j2, j3⟩ := hj
      have := cn_or1 (P := A) (Q := fun x => A x && !decide (x = j)) (j := j) m.toNat 0 (fun x x0 x1 x2 => by
        by_cases z : x = j
        · exact Or.inr z
        · exact Or.inl (by simp [x2, z]))
      have h3 := ih (fun x => A x && !decide (x = j)) (fun x x0 x1 x2 => by
        simp only [Bool.and_eq_true, Bool.not_eq_true', decide_eq_false_iff_not] at x2
        have b := h1 x x0 x1 x2.1
        have : ¬ f x = n := fun z => x2.2 (h2 x j x0 x1 j0 j1 x2.1 j2 (z.trans j3.symm))
        omega) (fun x y x0 x1 y0 y1 hx hy e => by
        simp only [Bool.and_eq_true] at hx hy
        exact h2 x y x0 x1 y0 y1 hx.1 hy.1 e)
      rw [if_pos j0] at this
      omega
    · have h3 := ih A (fun x x0 x1 x2 => by
        have b := h1 x x0 x1 x2
        have : ¬ f x = n := fun z => hj ⟨x, x0, x1, x2, z⟩
        omega) h2
      omega
/-- who exited at a place says so -/
theorem ord_k (h : QQ S G r d) (hn : NX r) (hk : 0 ≤ k ∧ k < r 1) : 0 ≤ r (19 + k) ∧ r (19 + k) < r 0 ∧ ¬ r (140 + r (19 + k)) = 0 ∧ G (pc S (r (19 + k))) 10 = k := by
  have hb := QQ_b h
  have key : ∃ i, 0 ≤ i ∧ i < r 0 ∧ ¬ r (140 + i) = 0 ∧ G (pc S i) 10 = k := by
    apply Classical.byContradiction
    intro hno
    have hA : ∀ x, 0 ≤ x → x < r 0 → (!decide (r (140 + x) = 0)) = true → ¬ r (140 + x) = 0 := fun x _ _ hx => by simpa using hx
    have h3 := pg_cn (m := r 0) (fun i => if k < G (pc S i) 10 then G (pc S i) 10 - 1 else G (pc S i) 10) (r 1 - 1).toNat (fun i => !decide (r (140 + i) = 0)) (fun x x0 x1 hx => by
      have hx := hA x x0 x1 hx
      have pe := (QQ_pe h ⟨x0, x1⟩).2.2.2 hx
      have nk : ¬ G (pc S x) 10 = k := fun z => hno ⟨x, x0, x1, hx, z⟩
      show 0 ≤ (if k < G (pc S x) 10 then G (pc S x) 10 - 1 else G (pc S x) 10) ∧ (if k < G (pc S x) 10 then G (pc S x) 10 - 1 else G (pc S x) 10) < ((r 1 - 1).toNat : Int)
      have := pe.1
      split <;> omega) (fun x y x0 x1 y0 y1 hx hy e => by
      have hx := hA x x0 x1 hx
      have hy := hA y y0 y1 hy
      have px := (QQ_pe h ⟨x0, x1⟩).2.2.2 hx
      have py := (QQ_pe h ⟨y0, y1⟩).2.2.2 hy
      have nx : ¬ G (pc S x) 10 = k := fun z => hno ⟨x, x0, x1, hx, z⟩
      have ny : ¬ G (pc S y) 10 = k := fun z => hno ⟨y, y0, y1, hy, z⟩
      have ee : G (pc S x) 10 = G (pc S y) 10 := by
        revert e
        show (if k < G (pc S x) 10 then G (pc S x) 10 - 1 else G (pc S x) 10) = (if k < G (pc S y) 10 then G (pc S y) 10 - 1 else G (pc S y) 10) → _
        split <;> split <;> omega
      rw [← px.2, ee, py.2])
    unfold NX at hn
    rw [← hn] at h3
    omega
  obtain ⟨i, i0, i1, i2, i3⟩ := key
  have pe := ((QQ_pe h ⟨i0, i1⟩).2.2.2 i2).2
  rw [i3] at pe
  rw [pe]
  exact ⟨i0, i1, i2, i3⟩
/-- the first zombie of p that exited at the place o or behind -/
def FZn (r : Int → Int) (p o : Int) : Int := if ff (fun k => ic r (r (19 + k)) p 1) (r 1 - o).toNat o = -1 then -1 else r (19 + ff (fun k => ic r (r (19 + k)) p 1) (r 1 - o).toNat o)
theorem FZn_0 : FZn r p 0 = FZ r p := by unfold FZn FZ; rw [Int.sub_zero]
theorem qT_zombie (h : QQ S G r d) (hn : NX r) (hp : 0 ≤ p ∧ p < r 0) (ho : -1 ≤ o) : fT_zombieBehind G S (pc S p) o = some (pcx S (FZn r p (o + 1))) := by
  have hb := QQ_b h
  have hfu := fu_ge
  -- the least place so far
  have key : ∀ (m n : Nat) (i c : Int), (40 - i).toNat = m → m < n → 0 ≤ i → i ≤ 40 → (c = -1 ∨ ((0 ≤ c ∧ c < r 0) ∧ ic r c p 1 = true ∧ o < G (pc S c) 10)) → (∀ j, 0 ≤ j → j < i → j < r 0 → ic r j p 1 = true → o < G (pc S j) 10 → ¬ c = -1 ∧ G (pc S c) 10 ≤ G (pc S j) 10) → ∃ c', lT_zombieBehind_16 G (pc S p) o (S + 2) 40 n (pcx S c) i = some (pcx S c') ∧ (c' = -1 ∨ ((0 ≤ c' ∧ c' < r 0) ∧ ic r c' p 1 = true ∧ o < G (pc S c') 10)) ∧ ∀ j, 0 ≤ j → j < r 0 → ic r j p 1 = true → o < G (pc S j) 10 → ¬ c' = -1 ∧ G (pc S c') 10 ≤ G (pc S j) 10 := by
    intro m
    induction m with
    | zero =>
      intro n i c hm hn i0 i1 hc hl
      obtain ⟨n, rfl⟩ : ∃ k, n = k + 1 := ⟨n - 1, by omega⟩
      refine ⟨c, ?_, hc, fun j j0 j1 => hl j j0 (by omega) j1⟩
      show bT_zombieBehind_16 G (pc S p) o (S + 2) 40 (lT_zombieBehind_16 G (pc S p) o (S + 2) 40 n) (pcx S c) i = _
      rw [bT_zombieBehind_16, if_neg (by omega)]
    | succ m ih =>
      intro n i c hm hn i0 i1 hc hl
      obtain ⟨n, rfl⟩ : ∃ k, n = k + 1 := ⟨n - 1, by omega⟩
      have stay : (i < r 0 → ic r i p 1 = true → o < G (pc S i) 10 → ¬ c = -1 ∧ G (pc S c) 10 ≤ G (pc S i) 10) → (∃ c', lT_zombieBehind_16 G (pc S p) o (S + 2) 40 n (pcx S c) (i + 1) = some (pcx S c') ∧ (c' = -1 ∨ ((0 ≤ c' ∧ c' < r 0) ∧ ic r c' p 1 = true ∧ o < G (pc S c') 10)) ∧ ∀ j, 0 ≤ j → j < r 0 → ic r j p 1 = true → o < G (pc S j) 10 → ¬ c' = -1 ∧ G (pc S c') 10 ≤ G (pc S j) 10) := fun hs => ih n (i + 1) c (by omega) (by omega) (by omega) (by omega) hc (fun j j0 j1 j2 j3 j4 => by
        by_cases z : j = i
        · rw [z] at j2 j3 j4 ⊢; exact hs j2 j3 j4
        · exact hl j j0 (by omega) j2 j3 j4)
      show ∃ c', bT_zombieBehind_16 G (pc S p) o (S + 2) 40 (lT_zombieBehind_16 G (pc S p) o (S + 2) 40 n) (pcx S c) i = _ ∧ _
      rw [bT_zombieBehind_16, if_pos (by omega), if_pos ⟨kdT2 h.1, i0, by rw [szT2 h.1]; omega⟩, TS_p h.2.1.1 (by omega), if_pos (kdp h.1 (by omega)), qP_zombie h (by omega) (by omega), bdP_s, w32_r (x := i + 1) (by omega)]
      by_cases z : i < r 0 ∧ ic r i p 1 = true
      · rw [if_pos z, if_neg f0]
        by_cases z2 : o < G (pc S i) 10
        · have take : (∀ j, 0 ≤ j → j < i → j < r 0 → ic r j p 1 = true → o < G (pc S j) 10 → G (pc S i) 10 ≤ G (pc S j) 10) → ∃ c', lT_zombieBehind_16 G (pc S p) o (S + 2) 40 n (pcx S i) (i + 1) = some (pcx S c') ∧ (c' = -1 ∨ ((0 ≤ c' ∧ c' < r 0) ∧ ic r c' p 1 = true ∧ o < G (pc S c') 10)) ∧ ∀ j, 0 ≤ j → j < r 0 → ic r j p 1 = true → o < G (pc S j) 10 → ¬ c' = -1 ∧ G (pc S c') 10 ≤ G (pc S j) 10 := fun hs => ih n (i + 1) i (by clear stay; omega) (by clear stay; omega) (by clear stay; omega) (by clear stay; omega) (Or.inr ⟨⟨i0, z.1⟩, z.2, z2⟩) (fun j j0 j1 j2 j3 j4 => by
            by_cases y : j = i
            · rw [y]; exact ⟨by clear stay; omega, Int.le_refl _⟩
            · exact ⟨by clear stay; omega, hs j j0 (by clear stay; omega) j2 j3 j4⟩)
          rw [if_pos z2]
          rcases hc with e | ⟨c1, c2, c3⟩
          · rw [e, pcx_n, if_pos (by omega)]
            have := take (fun j j0 j1 j2 j3 j4 => absurd e (hl j j0 j1 j2 j3 j4).1)
            rw [pcx_p i0] at this
            exact this
          · have nc : ¬ c = -1 := by omega
            by_cases z3 : G (pc S i) 10 < G (pc S c) 10
            · have := take (fun j j0 j1 j2 j3 j4 => by have := (hl j j0 j1 j2 j3 j4).2; omega)
              rw [pcx_p i0] at this
              rw [pcx_p c1.1, if_neg (pc_pos h.1 (by omega)), if_pos (kdp h.1 (by omega)), if_pos z3]
              exact this
            · have := stay (fun _ _ _ => ⟨nc, by omega⟩)
              rw [pcx_p c1.1] at this ⊢
              rw [if_neg (pc_pos h.1 (by omega)), if_pos (kdp h.1 (by omega)), if_neg z3]
              exact this
        · rw [if_neg z2]
          exact stay (fun _ _ y => absurd y z2)
      · rw [if_neg z, if_pos rfl]
        exact stay (fun y1 y2 _ => absurd ⟨y1, y2⟩ z)
  obtain ⟨c, e1, e2, e3⟩ := key 40 fu 0 (-1) (by omega) (by omega) (by omega) (by omega) (Or.inl rfl) (fun j j0 j1 => absurd j1 (by omega))
  rw [pcx_n] at e1
  rw [fT_zombieBehind, TS_1 h.2.1.1, if_pos (kdT2 h.1), szT2 h.1, e1]
  have pl : ∀ i, 0 ≤ i → i < r 0 → ic r i p 1 = true → (0 ≤ G (pc S i) 10 ∧ G (pc S i) 10 < r 1) ∧ r (19 + G (pc S i) 10) = i := fun i i0 i1 i2 => (QQ_pe h ⟨i0, i1⟩).2.2.2 (by rw [(ic_t.mp i2).1]; omega)
  have ec : c = FZn r p (o + 1) := by
    unfold FZn
    rcases ff_spec (fun k => ic r (r (19 + k)) p 1) (r 1 - (o + 1)).toNat (o + 1) with ⟨f1, f2⟩ | ⟨f1, f2, f3, f4⟩
    · rw [if_pos f1]
      rcases e2 with e | ⟨c1, c2, c3⟩
      · exact e
      · have q := pl c c1.1 c1.2 c2
        have := f2 (G (pc S c) 10) (by omega) (by omega)
        rw [q.2, c2] at this
        cases this
    · rw [if_neg (by omega)]
      generalize ff (fun k => ic r (r (19 + k)) p 1) (r 1 - (o + 1)).toNat (o + 1) = k0 at *
      have f3 : ic r (r (19 + k0)) p 1 = true := f3
      obtain ⟨o1, o2, o3, o4⟩ := ord_k h hn (k := k0) (by omega)
      have m1 := e3 _ o1 o2 f3 (by rw [o4]; omega)
      rcases e2 with e | ⟨c1, c2, c3⟩
      · exact absurd e m1.1
      · have q := pl c c1.1 c1.2 c2
        have le := m1.2
        rw [o4] at le
        by_cases z : G (pc S c) 10 = k0
        · rw [← z]; exact q.2.symm
        · have := f4 (G (pc S c) 10) (by omega) (by omega)
          rw [q.2, c2] at this
          cases this
  rw [ec]
theorem jo_read (h : JA G H) : JO tr True (fC_read G 0 p) (fM_read H 624 p) := by
  have hb := jaM h
  have q := jaQ h
  have o1 := JA_th (t := 0) h
  have e625 : th H 0 625 = H 625 := th_n (by omega)
  have w0 := h.2.1.2.1
  rw [fC_read, fM_read]
  rcases vM_notRunning (p := p) (c := 2) h.2.1 with ⟨a, e⟩ | ⟨a, c, e⟩ | ⟨a, c, e⟩
  · rw [e, bdN_s, if_neg f0, jn_n h a, qe3]
    exact JO_e (JA_th h) (th8.trans rfl) (by decide)
  · rw [e, bdN_s, if_neg f0, jn_y h a, bdQ_0, if_pos (kdp T1 (by omega)), qP_run q a, bdP_s, if_neg c, st_n, qe2]
    exact JO_e (JA_th h) (th8.trans rfl) (by decide)
  · have hz := vM_firstZombie (g := th H 0) (p := p) o1.2.1.1 (by rw [e625]; exact hb.2) (by rw [e625]; exact w0.2.2.2.1)
    rw [e625] at hz
    rw [e, bdN_s, if_pos rfl, jn_y h a, bdQ_0, if_pos (kdp T1 (by omega)), qP_run q a, bdP_s, if_pos c, st_1, bdQ_0, ja0 h, if_pos (kdT T1), qT_zombie q w0.2.2.2.2.2.1 a (by omega), bdP_s, show (-1 : Int) + 1 = 0 from rfl, FZn_0, hz, bdP_s]
    rcases FZ_f (p := p) w0.2.2.2.1 with hz1 | ⟨z0, z1, z2⟩
    · rw [hz1, pcx_n, if_pos (by omega), if_pos rfl, jM_read_28, if_pos kd_c624, fl1, bdN_s, if_neg f0]
      exact JO_e (k := 3) (JA_th o1) (th8.trans rfl) (by decide)
    · generalize FZ (H 625) p = z at *
      obtain ⟨i1, i2, i3⟩ := ic_t.mp z2
      rw [pcx_p z0, if_neg (pc_pos T1 (by omega)), if_neg (show ¬ z = -1 by omega), jM_read_28, if_pos kd_c624, fl0, bdN_s, if_pos rfl]
      have act := jo_act0 (tm := tr) (P := True) (A := fun _ g31 => if kd (pc 1 z) = 3 then bnd (pU g31 (pc 1 z) 1 2) (fun g34 => some (0, ((w32 ((opI 0 1000 (g34 (pc 1 z) 0)) + (g34 (pc 1 z) 9))), g34))) else none) (B := fun _ g22 => if kd (g22 624 0) = 20 ∧ (0 : Int) ≤ (w32 (140 + z)) ∧ (w32 (140 + z)) < sz (g22 624 0) then bnd (pU g22 (g22 624 0) (w32 (140 + z)) 2) (fun g26 => if kd (g26 624 0) = 20 ∧ (0 : Int) ≤ (w32 (300 + z)) ∧ (w32 (300 + z)) < sz (g26 624 0) then some ((w32 ((opI 0 1000 z) + (g26 (g26 624 0) (w32 (300 + z))))), g26) else none) else none) o1 th8 (fun G1 H1 j q1 eG e25 => ?_)
      · rw [ja0 h] at act
        exact act
      · have e1 : H1 625 = H 625 := e25.trans e625
        have w := j.2.1.2.1
        have m4 := j.2.1.1.1
        have hM := jaM j
        have hp : 0 ≤ z ∧ z < H1 625 0 := by rw [e1]; exact ⟨z0, z1⟩
        have y1 : H1 625 (140 + z) = 1 := by rw [e1]; exact i1
        have w2 := WF_one w.1 w.2 hp y1
        have K1 := CK_1 (p := z) (v := 2) (CK_of q1.2.2.2.1) (by omega) (ja40 j) hp (by rw [y1]; omega) (by omega)
        have bz := pc_b (T := 1) (i := z) (by omega)
        have n0 : u1 (H1 625) (140 + z) 2 0 = H1 625 0 := u1_n (by omega)
        have q2 : QQ 1 (pU G1 (pc 1 z) 1 2) (u1 (H1 625) (140 + z) 2) (H1 630) := by
          refine ⟨T1, TI_st q1.2.1 ⟨z, by omega, rfl⟩ (by omega), w2.1, CK_to K1 (fun i i0 i1 => ?_), fun i i0 i1 => ?_, LR_e q1.2.2.2.2.2 (u1_n (by omega)) (u1_n (by omega)) (u1_n (by omega))⟩
          · have kk := kids_1 (r := H1 625) (r' := u1 (H1 625) (140 + z) 2) (o := z) (i := i) (by omega) n0 (by omega) (fun j j0 j1 j2 => ⟨u1_n (by omega), u1_n (by omega)⟩)
            rw [u1_s, if_neg (show ¬ (H1 625 (140 + z) = 0 ∧ H1 625 (60 + z) = i) by rw [y1]; omega), if_neg (show ¬ ((2 : Int) = 0 ∧ u1 (H1 625) (140 + z) 2 (60 + z) = i) by omega)] at kk
            show kids (H1 625) i 0 = _
            omega
          · rw [pU_y (by omega)]; exact q1.2.2.2.2.1 i i0 i1
        have v0 : pU G1 (pc 1 z) 1 2 (pc 1 z) 0 = z := by rw [pU_y (by omega)]; exact TS_n q1.2.1.1 (by omega)
        have v9 : pU G1 (pc 1 z) 1 2 (pc 1 z) 9 = H1 625 (300 + z) := by rw [pU_y (by omega)]; exact (QQ_pe q1 hp).1.2.2.2.2.2.2.1
        rw [if_pos (kdp T1 (by omega)), bnd_s, v0, v9, m4, w32_r (x := 140 + z) (by omega), if_pos (g625 (by omega)), bnd_s, pU_625, w32_r (x := 300 + z) (by omega), sw_n (show ¬ (624 : Int) = 625 by omega), m4, if_pos (g625 (by omega)), sw_s, u1_n (by omega)]
        exact ⟨_, _, _, _, rfl, rfl, fun _ => rfl, q2, w2, TF_pU TF_r (by omega)⟩
end PAR32
/-! ===== loops of both over the processes; undoing, saving, restoring, in both (own work) ===== -/
section PAR33
variable {g g' G G' H H' K : gH} {r r' d d' dm : Int → Int} {a b c e i j k l m n o p q s t u v w x y z S T gp code : Int}
/-- two loops, the class's over all 40, the reference's over those that have come -/
theorem loops2 {σ τ X Y : Type} {LC : Nat → Int → σ → X} {LM : Nat → Int → τ → Y} {EC : σ → X} {EM : τ → Y} {s0 : σ} {t0 : τ} (M lo : Int) (Rel : Int → σ → τ → Prop) (hM : 0 ≤ lo ∧ lo ≤ M ∧ M ≤ 40) (h0 : ∀ n k, 0 ≤ k → k < lo → LC (n + 1) k s0 = LC n (k + 1) s0) (hs : ∀ n n' k s t, lo ≤ k → k < M → Rel k s t → ∃ s' t', LC (n + 1) k s = LC n (k + 1) s' ∧ LM (n' + 1) k t = LM n' (k + 1) t' ∧ Rel (k + 1) s' t') (hk : ∀ n k s t, M ≤ k → k < 40 → Rel M s t → LC (n + 1) k s = LC n (k + 1) s) (eC : ∀ n s t, Rel M s t → LC (n + 1) 40 s = EC s) (eM : ∀ n s t, Rel M s t → LM (n + 1) M t = EM t) (hr : Rel lo s0 t0) : ∃ s t, LC fu 0 s0 = EC s ∧ LM fu lo t0 = EM t ∧ Rel M s t := by
  have hfu := fu_ge
  have front : ∀ (m n : Nat) (k : Int), (lo - k).toNat = m → 0 ≤ k → k ≤ lo → LC (n + m) k s0 = LC n lo s0 := by
    intro m
    induction m with
    | zero => intro n k hm k0 k1; rw [show k = lo by omega]; rfl
    | succ m ih => intro n k hm k0 k1; rw [show n + (m + 1) = (n + m) + 1 by omega, h0 _ k k0 (by omega)]; exact ih n (k + 1) (by omega) (by omega) (by omega)
  have back : ∀ (m n : Nat) (k : Int) (s : σ) (t : τ), (40 - k).toNat = m → m < n → M ≤ k → k ≤ 40 → Rel M s t → LC n k s = EC s := by
    intro m
    induction m with
    | zero =>
      intro n k s t hm hn k0 k1 hr
      obtain ⟨n, rfl⟩ : ∃ j, n = j + 1 := ⟨n - 1, by omega⟩
      rw [show k = 40 by omega]; exact eC n s t hr
    | succ m ih =>
      intro n k s t hm hn k0 k1 hr
      obtain ⟨n, rfl⟩ : ∃ j, n = j + 1 := ⟨n - 1, by omega⟩
      rw [hk n k s t k0 (by omega) hr]
      exact ih n (k + 1) s t (by omega) (by omega) (by omega) (by omega) hr
  have mid : ∀ (m n n' : Nat) (k : Int) (s : σ) (t : τ), (M - k).toNat = m → (40 - k).toNat < n → m < n' → lo ≤ k → k ≤ M → Rel k s t → ∃ s' t', LC n k s = EC s' ∧ LM n' k t = EM t' ∧ Rel M s' t' := by
    intro m
    induction m with
    | zero =>
      intro n n' k s t hm hn hn' k0 k1 hr
      obtain ⟨n', rfl⟩ : ∃ j, n' = j + 1 := ⟨n' - 1, by omega⟩
      have ek : k = M := by omega
      rw [ek] at hr hn ⊢
      exact ⟨s, t, back _ n M s t rfl hn (by omega) (by omega) hr, eM n' s t hr, hr⟩
    | succ m ih =>
      intro n n' k s t hm hn hn' k0 k1 hr
      obtain ⟨n, rfl⟩ : ∃ j, n = j + 1 := ⟨n - 1, by omega⟩
      obtain ⟨n', rfl⟩ : ∃ j, n' = j + 1 := ⟨n' - 1, by omega⟩
      obtain ⟨s1, t1, x1, x2, x3⟩ := hs n n' k s t k0 (by omega) hr
      rw [x1, x2]
      exact ih n n' (k + 1) s1 t1 (by omega) (by omega) (by omega) (by omega) (by omega) x3
  obtain ⟨f, ef⟩ : ∃ f, fu = f + lo.toNat := ⟨fu - lo.toNat, by omega⟩
  have e1 : LC fu 0 s0 = LC f lo s0 := by
    rw [ef]
    exact front lo.toNat f 0 (by omega) (by omega) (by omega)
  rw [e1]
  exact mid _ f fu lo s0 t0 rfl (by omega) (by omega) (by omega) (by omega) hr
/-- counting over all 40, and over those that have come -/
theorem cn_cut {P Q : Int → Bool} {M : Int} (hM : 0 ≤ M ∧ M ≤ 40) (h1 : ∀ k, 0 ≤ k → k < M → P k = Q k) (h2 : ∀ k, M ≤ k → k < 40 → P k = false) : cn P 40 0 = cn Q M.toNat 0 := by
  have cut : ∀ (m : Nat) (k : Int), 0 ≤ k → (40 - k).toNat = m → cn P m k = cn Q (M - k).toNat k := by
    intro m
    induction m with
    | zero => intro k k0 hm; rw [show (M - k).toNat = 0 by omega]; rfl
    | succ m ih =>
      intro k k0 hm
      rw [cn_s, ih (k + 1) (by omega) (by omega)]
      by_cases c1 : k < M
      · rw [show (M - k).toNat = (M - (k + 1)).toNat + 1 by omega, cn_s, h1 k k0 c1]
      · rw [show (M - k).toNat = 0 by omega, show (M - (k + 1)).toNat = 0 by omega, h2 k (by omega) (by omega)]
        rfl
  rw [cut 40 0 (by omega) (by omega), Int.sub_zero]
/-- how many are in a state -/
theorem qT_count (h : QQ S G r d) (hs : ¬ a = 3) : fT_countInState G S a = some (cn (fun c => decide (r (140 + c) = a)) (r 0).toNat 0) := by
  have hb := QQ_b h
  have hfu := fu_ge
  have l := cnt_loop (L := fun n k x => lT_countInState_14 G a (S + 2) 40 n x k) (E := some) (fun k => decide (k < r 0 ∧ r (140 + k) = a)) 40 0 (by omega) (fun n k x h1 h2 h3 h4 => by
    show bT_countInState_14 G a (S + 2) 40 (lT_countInState_14 G a (S + 2) 40 n) x k = _
    rw [bT_countInState_14, if_pos h2, if_pos ⟨kdT2 h.1, h1, by rw [szT2 h.1]; omega⟩, TS_p h.2.1.1 (by omega), if_pos (kdp h.1 (by omega)), w32_r (x := k + 1) (by omega), w32_r (x := x + 1) (by omega)]
    by_cases c1 : k < r 0
    · rw [QQ_st h ⟨h1, c1⟩]
      by_cases c2 : r (140 + k) = a
      · rw [if_pos c2, if_pos (decide_eq_true ⟨c1, c2⟩)]
      · rw [if_neg c2, if_neg (fun z => c2 (of_decide_eq_true z).2), Int.add_zero]
    · rw [QQ_out h (by omega), if_neg (fun z => hs z.symm), if_neg (fun z => c1 (of_decide_eq_true z).1), Int.add_zero]) (fun n k x h1 h2 => by
    show bT_countInState_14 G a (S + 2) 40 (lT_countInState_14 G a (S + 2) 40 n) x k = _
    rw [bT_countInState_14, if_neg h2]) 40 0 0 fu (by omega) (by omega) (by omega) (by omega) (by omega)
  have l : lT_countInState_14 G a (S + 2) 40 fu 0 0 = some (0 + cn (fun k => decide (k < r 0 ∧ r (140 + k) = a)) 40 0) := l
  rw [fT_countInState, TS_1 h.2.1.1, if_pos (kdT2 h.1), szT2 h.1, l, Int.zero_add, cn_cut (Q := fun c => decide (r (140 + c) = a)) (M := r 0) (by omega) (fun k k0 k1 => by
    by_cases c2 : r (140 + k) = a
    · rw [decide_eq_true c2, decide_eq_true ⟨k1, c2⟩]
    · rw [decide_eq_false c2, decide_eq_false (fun z => c2 z.2)]) (fun k k0 k1 => decide_eq_false (fun z => by omega))]
/-- what a call of both answers that never throws -/
def JN (P : Prop) (X Y : Option (Int × gH)) : Prop := ∃ v w G H, X = some (v, G) ∧ Y = some (w, H) ∧ JA G H ∧ H 624 8 = 0 ∧ (P → v = w)
theorem JN_i {P : Prop} (h : JA G H) (e : H 624 8 = 0) (hv : P → v = w) : JN P (some (v, G)) (some (w, H)) := ⟨v, w, G, H, rfl, rfl, h, e, hv⟩
theorem pop_c (h : CInv G) (hn : ¬ G 133 1 = 0) (hm : 1 ≤ G 133 1 ∧ G 133 1 ≤ 10) (h2 : 0 ≤ G 133 2 ∧ G 133 2 ≤ 10) (q : QZ (135 + 44 * ((G 133 2 + 9) % 10)) G r) : ∃ G', fH_pop G 133 1 = some (1, G') ∧ QZ 1 G' r ∧ G' 133 1 = G 133 1 - 1 ∧ G' 133 2 = (G 133 2 + 9) % 10 ∧ ∀ x, ¬ x = 133 → ¬ (1 ≤ x ∧ x < 45) → G' x = G x := by
  have l31 : ∀ K, CInv K → K 133 1 = G 133 1 → 1 ≤ K 133 2 ∧ K 133 2 ≤ 10 → QZ (135 + 44 * (K 133 2 - 1)) K r → ∃ G', jH_pop_31 K 133 1 = some (1, G') ∧ QZ 1 G' r ∧ G' 133 1 = G 133 1 - 1 ∧ G' 133 2 = K 133 2 - 1 ∧ ∀ x, ¬ x = 133 → ¬ (1 ≤ x ∧ x < 45) → G' x = K x := by
    intro K h e1 hk q
    have w := CO_w (a := 133) (b := 1) (v := G 133 1 - 1) (CO_w (a := 133) (b := 2) (v := K 133 2 - 1) (CO_r h) (by omega)) (by omega)
    have f1 : pU K 133 2 (K 133 2 - 1) 133 1 = G 133 1 := by rw [pU_y (by omega)]; exact e1
    have f2 : pU (pU K 133 2 (K 133 2 - 1)) 133 1 (G 133 1 - 1) 133 2 = K 133 2 - 1 := by rw [pU_y (by omega), pU_s, u1_s]
    have f3 : pU (pU K 133 2 (K 133 2 - 1)) 133 1 (G 133 1 - 1) 133 1 = G 133 1 - 1 := by rw [pU_s, u1_s]
    have f4 : ∀ x, ¬ x = 133 → pU (pU K 133 2 (K 133 2 - 1)) 133 1 (G 133 1 - 1) x = K x := fun x hx => by rw [pU_n hx, pU_n hx]
    rw [jH_pop_31, bnd_s, w32_r (x := K 133 2 - 1) (by omega), bnd_s, f1, w32_r (x := G 133 1 - 1) (by omega)]
    generalize pU (pU K 133 2 (K 133 2 - 1)) 133 1 (G 133 1 - 1) = A at *
    have hs := w.1.1
    have hT := Tk (k := K 133 2 - 1) (by omega)
    obtain ⟨B, b1, b2, b3⟩ := wT_take (QQ_eq q (fun x x0 x1 => f4 x (by omega))) (w.1.2.1 1 T1) T1 (by omega)
    rw [hs.2.1, f2, if_pos ⟨kd_134, by omega, by rw [sz_134]; omega⟩, hs.2.2.1 _ (by omega) (by omega), if_pos (kdT T1), b1, bdN_s]
    exact ⟨B, rfl, b3, by rw [b2 133 (by omega)]; exact f3, by rw [b2 133 (by omega)]; exact f2, fun x x0 x1 => (b2 x (by omega)).trans (f4 x x0)⟩
  have l25 : (G 133 2 + 9) % 10 = 9 → ∃ G', jH_pop_25 G 133 1 = some (1, G') ∧ QZ 1 G' r ∧ G' 133 1 = G 133 1 - 1 ∧ G' 133 2 = 9 ∧ ∀ x, ¬ x = 133 → ¬ (1 ≤ x ∧ x < 45) → G' x = G x := by
    intro e9
    have e2 : pU G 133 2 10 133 2 = 10 := by rw [pU_s, u1_s]
    rw [e9] at q
    obtain ⟨G', x1, x2, x3, x4, x5⟩ := l31 (pU G 133 2 10) (CO_w (CO_r h) (by omega)).1 (pU_y (by omega)) (by omega) (by rw [e2]; exact QQ_eq q (fun x x0 x1 => pU_n (by omega)))
    rw [jH_pop_25, bnd_s]
    exact ⟨G', x1, x2, x3, by rw [x4, e2]; rfl, fun x x0 x1 => (x5 x x0 x1).trans (pU_n x0)⟩
  rw [fH_pop, if_neg hn]
  by_cases c : 0 < G 133 2
  · rw [if_pos c, if_neg (by omega)]
    have e : (G 133 2 + 9) % 10 = G 133 2 - 1 := by omega
    rw [e] at q ⊢
    exact l31 G h rfl (by omega) q
  · rw [if_neg c]
    have e : (G 133 2 + 9) % 10 = 9 := by omega
    rw [e]
    exact l25 e
theorem jo_undo (h : JA G H) : JN True (fC_undo G 0) (fM_undo H 624) := by
  have o1 := JA_th (t := 0) h
  have e8 : pU H 624 8 0 = th H 0 := rfl
  obtain ⟨vM, HM, m1, m2, -⟩ := oM_undo h.2.1
  rw [fM_undo, bnd_s, e8] at m1
  rw [fC_undo, ja3 h, if_pos kd_133, ja0 h, fM_undo, bnd_s, e8]
  obtain ⟨h1, h2, h3, ⟨r1, r2, r3, r4⟩, h5, h6⟩ := o1
  have t8 : th H 0 624 8 = 0 := th8
  generalize th H 0 = H0 at *
  by_cases c : H0 624 6 = 0
  · rw [if_pos c, fH_pop, if_pos (by rw [r1]; exact c), bdN_s, if_pos rfl]
    exact JN_i ⟨h1, h2, h3, ⟨r1, r2, r3, r4⟩, h5, h6⟩ t8 (fun _ => rfl)
  · have last := r4 (H0 624 6 - 1) (by omega) (by omega)
    rw [show (G 133 2 + 10 - H0 624 6 + (H0 624 6 - 1)) % 10 = (G 133 2 + 9) % 10 by omega] at last
    obtain ⟨G', x1, x2, x3, x4, x5⟩ := pop_c h1 (by rw [r1]; exact c) (by rw [r1]; omega) r3 last
    obtain ⟨v, X, t1, t2⟩ := tH_pop (CO_r h1)
    rw [x1] at t1
    cases t1
    have h0 := h2.1.1
    have h29 := h2.1.2.2.2.1
    have a0 : pU H0 624 6 (H0 624 6 - 1) 624 0 = 625 := by rw [pU_y (by omega)]; exact h0
    have a4 : pU H0 624 6 (H0 624 6 - 1) 624 4 = 629 := by rw [pU_y (by omega)]; exact h29
    have a6 : pU H0 624 6 (H0 624 6 - 1) 624 6 = H0 624 6 - 1 := by rw [pU_s, u1_s]
    have hc := vM_copies (g := pU H0 624 6 (H0 624 6 - 1)) (a := 629) (x := 780 * (H0 624 6 - 1)) (b := 625) (y := 0) (n := 780) ⟨kd_629, kd_625⟩ (by rw [sz_629]; omega) (by rw [sz_625]; omega) (by omega) (Or.inl (by omega))
    rw [if_neg c, bnd_s, w32_r (x := H0 624 6 - 1) (by omega), a0, a4, a6, opI_mul, w32_r (by omega), hc, bdN_s] at m1 ⊢
    have em : HM = cpG (pU H0 624 6 (H0 624 6 - 1)) 629 (780 * (H0 624 6 - 1)) 625 0 780 := by cases m1; rfl
    rw [em] at m2
    have c133 : G' 0 3 = 133 := by rw [x5 0 (by omega) (by omega)]; exact ja3 h
    have k6 : cpG (pU H0 624 6 (H0 624 6 - 1)) 629 (780 * (H0 624 6 - 1)) 625 0 780 624 6 = H0 624 6 - 1 := by rw [cpG_n (by omega)]; exact a6
    have ky : ∀ y, ¬ y = 6 → cpG (pU H0 624 6 (H0 624 6 - 1)) 629 (780 * (H0 624 6 - 1)) 625 0 780 624 y = H0 624 y := fun y hy => by rw [cpG_n (by omega), pU_y hy]
    have kx : ∀ x, ¬ x = 624 → ¬ x = 625 → cpG (pU H0 624 6 (H0 624 6 - 1)) 629 (780 * (H0 624 6 - 1)) 625 0 780 x = H0 x := fun x hx hy => by rw [cpG_n hy, pU_n hx]
    have kr : ∀ k, 0 ≤ k → k < 780 → cpG (pU H0 624 6 (H0 624 6 - 1)) 629 (780 * (H0 624 6 - 1)) 625 0 780 625 k = H0 629 (780 * (H0 624 6 - 1) + k) := fun k k0 k1 => by
      unfold cpG
      rw [if_pos ⟨rfl, by omega, by omega⟩, pU_n (by omega), show (780 * (H0 624 6 - 1) + k - 0 : Int) = 780 * (H0 624 6 - 1) + k by omega]
    generalize cpG (pU H0 624 6 (H0 624 6 - 1)) 629 (780 * (H0 624 6 - 1)) 625 0 780 = H1 at *
    rw [x1, bdN_s, if_neg f0, c133, if_pos kd_133, x3, r1, k6]
    have wl := WBF_1 (h2.2.2.2.1.2 (H0 624 6 - 1) (by omega) (by omega))
    refine JN_i ⟨t2.1, m2, QQ_ext x2 (by omega) kr, ⟨by rw [x3, r1, k6], by rw [k6]; omega, by rw [x4]; omega, fun j j0 j1 => ?_⟩, ?_, ?_⟩ (by rw [ky 8 (by omega)]; exact t8) (fun _ => rfl)
    · rw [k6] at j1
      rw [x4, k6, kx 629 (by omega) (by omega), show ((G 133 2 + 9) % 10 + 10 - (H0 624 6 - 1) + j) % 10 = (G 133 2 + 10 - H0 624 6 + j) % 10 by omega]
      exact QQ_eq (r4 j j0 (by omega)) (fun x y0 y1 => x5 x (by omega) (by omega))
    · exact SV_e h5 (fun x y0 y1 => x5 x (by omega) (by omega)) (by rw [x5 0 (by omega) (by omega)]) (ky 7 (by omega)) (kx 628 (by omega) (by omega))
    · exact IE_e h6 (fun x y0 y1 => x5 x (by omega) (by omega)) (fun k k0 k1 => ky k (by omega)) (kx 631 (by omega) (by omega))
theorem jo_saveState (h : JA G H) : JN True (fC_saveState G 0) (fM_saveState H 624) := by
  have o1 := JA_th (t := 0) h
  have e8 : pU H 624 8 0 = th H 0 := rfl
  obtain ⟨vM, HM, m1, m2, -⟩ := oM_saveState h.2.1
  rw [fM_saveState, bnd_s, e8] at m1
  rw [fC_saveState, ja2 h, if_pos (kdT T89), ja0 h, fM_saveState, bnd_s, e8]
  obtain ⟨h1, h2, h3, h4, h5, h6⟩ := o1
  have t8 : th H 0 624 8 = 0 := th8
  generalize th H 0 = H0 at *
  have h0 := h2.1.1
  have h28 := h2.1.2.2.1
  have hc := vM_copies (g := H0) (a := 625) (x := 0) (b := 628) (y := 0) (n := 780) ⟨kd_625, kd_628⟩ (by rw [sz_625]; omega) (by rw [sz_628]; omega) (by omega) (Or.inl (by omega))
  have k25 : pU (cpG H0 625 0 628 0 780) 624 7 1 625 = H0 625 := by rw [pU_n (by omega), cpG_n (by omega)]
  have kM : MS (pU (cpG H0 625 0 628 0 780) 624 7 1) := by
    unfold MS
    simp (disch := omega) only [cpG_n, pU_n, pU_s, u1_n, u1_s]
    exact h2.1
  have hr := vM_runningMany (g := pU (cpG H0 625 0 628 0 780) 624 7 1) kM (by rw [k25]; exact h2.2.1.1.1)
  rw [k25] at hr
  rw [h0, h28, hc, bdN_s, bnd_s, hr, bdP_s] at m1 ⊢
  have em : HM = pU (cpG H0 625 0 628 0 780) 624 7 1 := by cases m1; rfl
  rw [em] at m2
  obtain ⟨A, a1, a2, a3⟩ := wT_take h3 (h1.2.1 89 T89) T89 (by omega)
  have wA := CO_IT (CO_r h1) T89 ⟨a3.2.1, a2⟩
  have wB := CO_w (a := 0) (b := 6) (v := 1) wA (by omega)
  have f0' : ∀ x, ¬ x = 0 → pU A 0 6 1 x = A x := fun x hx => pU_n hx
  have q1 : QQ 1 (pU A 0 6 1) (H0 625) (fun _ => 0) := QQ_eq h3 (fun x x0 x1 => (f0' x (by omega)).trans (a2 x (by omega)))
  rw [a1, bdN_s, bnd_s, show pU A 0 6 1 0 0 = 1 by rw [pU_y (by omega), a2 0 (by omega)]; exact h1.1.1.1, if_pos (kdT T1), qT_count q1 (by omega), bdP_s]
  have k7 : pU (cpG H0 625 0 628 0 780) 624 7 1 624 7 = 1 := by rw [pU_s, u1_s]
  have ky : ∀ y, ¬ y = 7 → pU (cpG H0 625 0 628 0 780) 624 7 1 624 y = H0 624 y := fun y hy => by rw [pU_y hy, cpG_n (by omega)]
  have kx : ∀ x, ¬ x = 624 → ¬ x = 628 → pU (cpG H0 625 0 628 0 780) 624 7 1 x = H0 x := fun x hx hy => by rw [pU_n hx, cpG_n hy]
  have kr : ∀ k, 0 ≤ k → k < 780 → pU (cpG H0 625 0 628 0 780) 624 7 1 628 k = H0 625 k := fun k k0 k1 => by
    rw [pU_n (by omega)]
    unfold cpG
    rw [if_pos ⟨rfl, by omega, by omega⟩, show (0 + k - 0 : Int) = k by omega]
  generalize pU (cpG H0 625 0 628 0 780) 624 7 1 = H1 at *
  have w1 := WBF_1 h2.2.1
  refine JN_i ⟨wB.1, m2, by rw [k25]; exact q1, RG_e h4 (fun x x0 x1 => (f0' x (by omega)).trans (a2 x (by omega))) (ky 6 (by omega)) (kx 629 (by omega) (by omega)), ⟨by rw [pU_s, u1_s, k7], fun _ => ?_⟩, IE_e h6 (fun x x0 x1 => (f0' x (by omega)).trans (a2 x (by omega))) (fun k k0 k1 => ky k (by omega)) (kx 631 (by omega) (by omega))⟩ (by rw [ky 8 (by omega)]; exact t8) (fun _ => rfl)
  exact QQ_ext (QQ_eq a3 (fun x x0 x1 => f0' x (by omega))) (by omega) kr
theorem jo_restoreState (h : JA G H) : JO t1 True (fC_restoreState G 0) (fM_restoreState H 624) := by
  have o1 := JA_th (t := 0) h
  have o1' := o1
  have e8 : pU H 624 8 0 = th H 0 := rfl
  obtain ⟨vM, HM, m1, m2, -⟩ := oM_restoreState h.2.1
  rw [fM_restoreState, bnd_s, e8] at m1
  rw [fC_restoreState, fM_restoreState, bnd_s, e8]
  obtain ⟨h1, h2, h3, h4, h5, h6⟩ := o1
  have t8 : th H 0 624 8 = 0 := th8
  generalize th H 0 = H0 at *
  have h0 := h2.1.1
  have h28 := h2.1.2.2.1
  by_cases c : H0 624 7 = 0
  · rw [if_pos c, jM_restoreState_18, if_pos kd_c624, fl1, bdN_s, if_neg f0, h5.1.mpr c, st_n, qe2]
    exact JO_e (JA_th o1') (th8.trans rfl) (by decide)
  · have cs : fC_checkState G (G 0 6) = some (0, 0) := by rw [fC_checkState, if_neg (fun z => c (h5.1.mp z))]
    have hc := vM_copies (g := H0) (a := 628) (x := 0) (b := 625) (y := 0) (n := 780) ⟨kd_628, kd_625⟩ (by rw [sz_628]; omega) (by rw [sz_625]; omega) (by omega) (Or.inl (by omega))
    have kM : MS (pU (cpG H0 628 0 625 0 780) 624 6 0) := by
      unfold MS
      simp (disch := omega) only [cpG_n, pU_n, pU_s, u1_n, u1_s]
      exact h2.1
    have kr : ∀ k, 0 ≤ k → k < 780 → pU (cpG H0 628 0 625 0 780) 624 6 0 625 k = H0 628 k := fun k k0 k1 => by
      rw [pU_n (by omega)]
      unfold cpG
      rw [if_pos ⟨rfl, by omega, by omega⟩, show (0 + k - 0 : Int) = k by omega]
    have hq := h5.2 c
    have w8 := h2.2.2.2.2.1 c
    have hr := vM_runningMany (g := pU (cpG H0 628 0 625 0 780) 624 6 0) kM (by rw [kr 0 (by omega) (by omega)]; exact w8.1.1)
    rw [if_neg c, jM_restoreState_18, if_pos kd_c624, fl0, bdN_s, if_pos rfl, h0, h28, hc, bdN_s, bnd_s, hr, bdP_s] at m1 ⊢
    have em : HM = pU (cpG H0 628 0 625 0 780) 624 6 0 := by cases m1; rfl
    rw [em] at m2
    have k6 : pU (cpG H0 628 0 625 0 780) 624 6 0 624 6 = 0 := by rw [pU_s, u1_s]
    have ky : ∀ y, ¬ y = 6 → pU (cpG H0 628 0 625 0 780) 624 6 0 624 y = H0 624 y := fun y hy => by rw [pU_y hy, cpG_n (by omega)]
    have kx : ∀ x, ¬ x = 624 → ¬ x = 625 → pU (cpG H0 628 0 625 0 780) 624 6 0 x = H0 x := fun x hx hy => by rw [pU_n hx, cpG_n hy]
    generalize pU (cpG H0 628 0 625 0 780) 624 6 0 = H1 at *
    obtain ⟨A, a1, a2, a3⟩ := wT_take hq (h1.2.1 1 T1) T1 (by omega)
    have wA := CO_IT (CO_r h1) T1 ⟨a3.2.1, a2⟩
    have wB := CO_w (a := 133) (b := 1) (v := 0) wA (by omega)
    have fx : ∀ x, ¬ x = 133 → pU A 133 1 0 x = A x := fun x hx => pU_n hx
    have w1 := WBF_1 w8
    have q1 : QQ 1 (pU A 133 1 0) (H1 625) (fun _ => 0) := QQ_ext (QQ_eq a3 (fun x x0 x1 => fx x (by omega))) (by omega) kr
    rw [cs, bdQ_0, h1.1.1.1, h1.1.1.2.2.1, if_pos (kdT T1), a1, bdN_s, a2 0 (by omega), h1.1.1.2.2.2.1, if_pos kd_133, bnd_s, fx 0 (by omega), a2 0 (by omega), h1.1.1.1, if_pos (kdT T1), qT_count q1 (by omega), bdP_s]
    refine JO_i ⟨wB.1, m2, q1, ⟨by rw [pU_s, u1_s, k6], by rw [k6]; omega, ?_, fun j j0 j1 => absurd j1 (by rw [k6]; omega)⟩, ?_, ?_⟩ (by rw [ky 8 (by omega)]; exact t8) (fun _ => rfl)
    · rw [pU_y (by omega), a2 133 (by omega)]; exact h4.2.2.1
    · exact SV_e h5 (fun x x0 x1 => (fx x (by omega)).trans (a2 x (by omega))) (by rw [fx 0 (by omega), a2 0 (by omega)]) (ky 7 (by omega)) (kx 628 (by omega) (by omega))
    · exact IE_e h6 (fun x x0 x1 => (fx x (by omega)).trans (a2 x (by omega))) (fun k k0 k1 => ky k (by omega)) (kx 631 (by omega) (by omega))
end PAR33
/-! ===== exchanging two, in both (own work) ===== -/
section PAR34
variable {g g' G G' H H' K : gH} {r r' d d' dm f : Int → Int} {a b c e i j k l m n o p q s t u v w x y z S T gp code : Int}
theorem Bl_n (hx : en f 40 x = true) (h0 : x ≠ 0) (hc : x ≠ c) : Bl f c x = Bl f c (f x) := by
  unfold Bl
  rw [decide_eq_false hc, Bool.false_or, OV_s hx h0]
  by_cases z : f x = c
  · rw [if_pos z, decide_eq_true z, Bool.true_or]
  · rw [if_neg z, decide_eq_false z, Bool.false_or]
theorem Bl_z (hc : c ≠ 0) : Bl f c 0 = false := by
  unfold Bl
  rw [decide_eq_false (fun z => hc z.symm), OV_0]
  rfl
/-- the depths behind an exchange -/
theorem xc_dp (hA : Acy f m) (hcl : ∀ i, 0 < i → i < m → 0 ≤ f i ∧ f i < m) (hp : 0 < p ∧ p < m) (hq : 0 < q ∧ q < m) (hpq : p ≠ q) (o1 : OV f p q = false) (o2 : OV f q p = false) (hA' : Acy (u1 (u1 f p (f q)) q (f p)) m) : ∀ (n : Nat) (x : Int), en (u1 (u1 f p (f q)) q (f p)) n x = true → 0 ≤ x → x < m → DP (u1 (u1 f p (f q)) q (f p)) x = DP f x + (if Bl f p x = true then DP f q - DP f p else if Bl f q x = true then DP f p - DP f q else 0) := by
  have ep := hA p (by omega) hp.2
  have eq := hA q (by omega) hq.2
  have cp := hcl p hp.1 hp.2
  have cq := hcl q hq.1 hq.2
  have b1 : Bl f p q = false := by unfold Bl; rw [o1, decide_eq_false (fun z => hpq z.symm)]; rfl
  have b2 : Bl f q p = false := by unfold Bl; rw [o2, decide_eq_false hpq]; rfl
  have b3 : Bl f p p = true := Bl_i
  have b4 : Bl f q q = true := Bl_i
  -- the supervisors stand below neither
  have s1 : Bl f p (f q) = false := by rw [← Bl_n eq (by omega) (fun z => hpq z.symm)]; exact b1
  have s2 : Bl f q (f p) = false := by rw [← Bl_n ep (by omega) hpq]; exact b2
  have dpp := DP_s ep (by omega)
  have dpq := DP_s eq (by omega)
  have s3 : Bl f p (f p) = false := by
    cases hb : Bl f p (f p) with
    | false => rfl
    | true =>
      rcases Bl_or hb with z | z
      · rw [z] at dpp; omega
      · have := OV_dp (hA _ cp.1 cp.2) z; omega
  have s4 : Bl f q (f q) = false := by
    cases hb : Bl f q (f q) with
    | false => rfl
    | true =>
      rcases Bl_or hb with z | z
      · rw [z] at dpq; omega
      · have := OV_dp (hA _ cq.1 cq.2) z; omega
  have zero : DP (u1 (u1 f p (f q)) q (f p)) 0 = DP f 0 + (if Bl f p 0 = true then DP f q - DP f p else if Bl f q 0 = true then DP f p - DP f q else 0) := by
    rw [Bl_z (by omega), Bl_z (by omega), DP_0, DP_0]
    rfl
  intro n
  induction n with
  | zero =>
    intro x hx x0 x1
    have e : x = 0 := by simpa [en] using hx
    rw [e]; exact zero
  | succ n ih =>
    intro x hx x0 x1
    by_cases hz : x = 0
    · rw [hz]; exact zero
    · have hx40 := hA' x x0 x1
      have hup : en (u1 (u1 f p (f q)) q (f p)) n (u1 (u1 f p (f q)) q (f p) x) = true := by
        rcases en_s.mp hx with z | ⟨-, -, z⟩
        · exact absurd z hz
        · exact z
      rw [DP_s hx40 hz]
      by_cases hxq : x = q
      · have ef : u1 (u1 f p (f q)) q (f p) x = f p := by rw [hxq, u1_s]
        rw [ef] at hup ⊢
        rw [ih (f p) hup cp.1 cp.2, s3, s2, hxq, b1, b4]
        simp only [Bool.false_eq_true, if_false, if_true]
        omega
      · by_cases hxp : x = p
        · have ef : u1 (u1 f p (f q)) q (f p) x = f q := by rw [u1_n hxq, hxp, u1_s]
          rw [ef] at hup ⊢
          rw [ih (f q) hup cq.1 cq.2, s1, s4, hxp, b3]
          simp only [Bool.false_eq_true, if_false, if_true]
          omega
        · have ef : u1 (u1 f p (f q)) q (f p) x = f x := by rw [u1_n hxq, u1_n hxp]
          have cx := hcl x (by omega) x1
          rw [ef] at hup ⊢
          rw [ih (f x) hup cx.1 cx.2, Bl_n (hA x x0 x1) hz hxp, Bl_n (hA x x0 x1) hz hxq, DP_s (hA x x0 x1) hz]
          omega
/-- who stands below both has one of them below the other -/
theorem xc_both (hA : Acy f m) (hp : 0 < p ∧ p < m) (hq : 0 < q ∧ q < m) (b1 : Bl f p q = false) (b2 : Bl f q p = false) : ∀ (n : Nat) (x : Int), en f n x = true → en f 40 x = true → Bl f p x = true → Bl f q x = true → False := by
  intro n
  induction n with
  | zero =>
    intro x hx hx4 y1 y2
    have e : x = 0 := by simpa [en] using hx
    rw [e, Bl_z (by omega)] at y1
    cases y1
  | succ n ih =>
    intro x hx hx4 y1 y2
    by_cases hz : x = 0
    · rw [hz, Bl_z (by omega)] at y1
      cases y1
    · have hup : en f n (f x) = true := by
        rcases en_s.mp hx with z | ⟨-, -, z⟩
        · exact absurd z hz
        · exact z
      by_cases hxp : x = p
      · rw [hxp, b2] at y2; cases y2
      · by_cases hxq : x = q
        · rw [hxq, b1] at y1; cases y1
        · rw [Bl_n hx4 hz hxp] at y1
          rw [Bl_n hx4 hz hxq] at y2
          exact ih (f x) hup (en_40 hup) y1 y2
/-- counting two kinds that never meet -/
theorem cn_or {P Q R : Int → Bool} : ∀ (m : Nat) (k : Int), (∀ j, k ≤ j → j < k + m → R j = (P j || Q j) ∧ ¬ (P j = true ∧ Q j = true)) → cn R m k = cn P m k + cn Q m k := by
  intro m
  induction m with
  | zero => intro k _; rfl
  | succ m ih =>
    intro k h
    obtain ⟨h1, h2⟩ := h k (by omega) (by omega)
    rw [cn_s, cn_s, cn_s, ih (k + 1) (fun j j0 j1 => h j (by omega) (by omega)), h1]
    cases hP : P k with
    | false =>
      cases hQ : Q k with
      | false => simp
      | true => simp; omega
    | true =>
      cases hQ : Q k with
      | false => simp; omega
      | true => exact absurd ⟨hP, hQ⟩ h2
/-- how many below -/
theorem qT_below (h : QQ S G r d) (hp : 0 ≤ p ∧ p < r 0) (ha : ¬ a = 3) : fT_countBelow G S (pc S p) a = some (cn (fun k => decide (r (140 + k) = a) && OV (up r) p k) (r 0).toNat 0) := by
  have hb := QQ_b h
  have hfu := fu_ge
  have l : lT_countBelow_16 G (pc S p) a (S + 2) 40 fu 0 0 = some (0 + cn (fun k => decide (k < r 0) && (decide (r (140 + k) = a) && OV (up r) p k)) 40 0) := cnt_loop (L := fun n k x => lT_countBelow_16 G (pc S p) a (S + 2) 40 n x k) (E := some) (fun k => decide (k < r 0) && (decide (r (140 + k) = a) && OV (up r) p k)) 40 0 (by omega) (fun n k x h1 h2 h3 h4 => by
    show bT_countBelow_16 G (pc S p) a (S + 2) 40 (lT_countBelow_16 G (pc S p) a (S + 2) 40 n) x k = _
    rw [bT_countBelow_16, if_pos h2, if_pos ⟨kdT2 h.1, h1, by rw [szT2 h.1]; omega⟩, TS_p h.2.1.1 (by omega), if_pos (kdp h.1 (by omega)), if_pos (kdp h.1 (i := p) (by omega)), w32_r (x := k + 1) (by omega), w32_r (x := x + 1) (by omega)]
    by_cases c1 : k < r 0
    · rw [QQ_st h ⟨h1, c1⟩, qP_over h hp.1 ⟨h1, c1⟩, bdP_s, decide_eq_true c1, Bool.true_and]
      by_cases c2 : r (140 + k) = a
      · rw [if_pos c2, decide_eq_true c2, Bool.true_and]
        by_cases c3 : OV (up r) p k = true
        · rw [if_pos c3, if_neg f0]
        · rw [if_neg c3, if_pos rfl, Int.add_zero]
      · rw [if_neg c2, decide_eq_false c2, Bool.false_and, if_neg (by decide), Int.add_zero]
    · rw [QQ_out h (by omega), if_neg (fun z => ha z.symm), decide_eq_false c1, Bool.false_and, if_neg (by decide), Int.add_zero]) (fun n k x h1 h2 => by
    show bT_countBelow_16 G (pc S p) a (S + 2) 40 (lT_countBelow_16 G (pc S p) a (S + 2) 40 n) x k = _
    rw [bT_countBelow_16, if_neg h2]) 40 0 0 fu (by omega) (by omega) (by omega) (by omega) (by omega)
  rw [fT_countBelow, TS_1 h.2.1.1, if_pos (kdT2 h.1), szT2 h.1, l, Int.zero_add, cn_cut (Q := fun k => decide (r (140 + k) = a) && OV (up r) p k) (M := r 0) (by omega) (fun k k0 k1 => by rw [decide_eq_true k1, Bool.true_and]) (fun k k0 k1 => by rw [decide_eq_false (by omega), Bool.false_and])]
/-- one more than those below -/
theorem cn_Bl {r : Int → Int} (hp : 0 ≤ p ∧ p < r 0) (hst : r (140 + p) = 0) (ho : OV (up r) p p = false) : cn (fun k => decide (r (140 + k) = 0) && Bl (up r) p k) (r 0).toNat 0 = 1 + cn (fun k => decide (r (140 + k) = 0) && OV (up r) p k) (r 0).toNat 0 := by
  have := cn_up (P := fun k => decide (r (140 + k) = 0) && OV (up r) p k) (Q := fun k => decide (r (140 + k) = 0) && Bl (up r) p k) (p := p) (by show (decide (r (140 + p) = 0) && OV (up r) p p) = false; rw [ho, Bool.and_false]) (by show (decide (r (140 + p) = 0) && Bl (up r) p p) = true; rw [Bl_i, decide_eq_true hst]; rfl) (fun j hj => by
    show (decide (r (140 + j) = 0) && OV (up r) p j) = (decide (r (140 + j) = 0) && Bl (up r) p j)
    unfold Bl
    rw [decide_eq_false hj, Bool.false_or]) (r 0).toNat 0
  rw [if_pos (by omega)] at this
  omega
/-- the reference's exchange, behind its tests -/
theorem xc_m (j : MInv H) (hp : 0 < p ∧ p < H 625 0) (hq : 0 < q ∧ q < H 625 0) (hpq : ¬ p = q) (h4 : H 625 (140 + p) = 0) (h5 : H 625 (140 + q) = 0) (h7 : OV (up (H 625)) p q = false) (h8 : OV (up (H 625)) q p = false) : ∃ H1 r' v, lM_exchange_86 624 p q fu 0 H = some (v, sw H1 r') ∧ (∀ x, ¬ x = 633 → H1 x = H x) ∧ r' = u1 (u1 (H 625) (60 + p) (H 625 (60 + q))) (60 + q) (H 625 (60 + p)) ∧ v = cn (fun k => decide (r' (140 + k) = 0) && !decide (DP (up r') k = DP (up (H 625)) k)) (r' 0).toNat 0 := by
  have w := j.2.1
  have h04 := j.1.1
  have h21 := j.1.2.2.2.2.2.2.2.1
  have hM1 := w.1.1
  have hfu := fu_ge
  obtain ⟨G1, a1, a0, a2, a3⟩ := for_some (L := fun n k G' => lM_exchange_86 624 p q n k G') (E := fun G' => jM_exchange_125 G' 624 p q) (H 625 0) (fun k G' => 0 ≤ k ∧ (∀ x, ¬ x = 633 → G' x = H x) ∧ ∀ i, 0 ≤ i → i < k → H 625 (140 + i) = 0 → G' 633 i = DP (up (H 625)) i) (fun n k G' hk hI => by
    obtain ⟨k0, i1, i2⟩ := hI
    have g0 : G' 624 0 = 625 := by rw [i1 624 (by omega)]; exact h04
    have g21 : G' 624 21 = 633 := by rw [i1 624 (by omega)]; exact h21
    have g25 : G' 625 = H 625 := i1 625 (by omega)
    have hs' : MS G' := by unfold MS; rw [i1 624 (by omega)]; exact j.1
    have hr' := vM_runs (g := G') (p := k) hs' (by omega)
    have hd' := vM_deep (g := G') (x := k) hs' (by rw [g25]; exact w.1.2.2.1 k k0 hk)
    have step : lM_exchange_86 624 p q (n + 1) k G' = bM_exchange_86 624 p q (lM_exchange_86 624 p q n) k G' := rfl
    rw [g25] at hr' hd'
    by_cases c1 : H 625 (140 + k) = 0
    · refine ⟨pU G' 633 k (DP (up (H 625)) k), ?_, by omega, fun x hx => (pU_n hx).trans (i1 x hx), fun i i0 ik ir => ?_⟩
      · show lM_exchange_86 624 p q (n + 1) k G' = _
        rw [step, bM_exchange_86]
        simp (disch := omega) only [g0, g21, g25, hr', hd', c1, bdP_s, kd_625, sz_625, kd_633, sz_633, w32_r, true_and, le_t, lt_t, and_true, ↓reduceIte, ↓bnd_s, f0]
      · by_cases z : i = k
        · rw [z, pU_s, u1_s]
        · rw [pU_y z]; exact i2 i i0 (by omega) ir
    · refine ⟨pU G' 633 k (-1), ?_, by omega, fun x hx => (pU_n hx).trans (i1 x hx), fun i i0 ik ir => ?_⟩
      · show lM_exchange_86 624 p q (n + 1) k G' = _
        rw [step, bM_exchange_86]
        simp (disch := omega) only [g0, g21, g25, hr', hd', c1, bdP_s, kd_625, sz_625, kd_633, sz_633, w32_r, true_and, le_t, lt_t, and_true, ↓reduceIte, ↓bnd_s, f0]
      · by_cases z : i = k
        · rw [z] at ir; exact absurd ir c1
        · rw [pU_y z]; exact i2 i i0 (by omega) ir) (fun n k G' hk hI => by
    have g0 : G' 624 0 = 625 := by rw [hI.2.1 624 (by omega)]; exact h04
    have g25 : G' 625 = H 625 := hI.2.1 625 (by omega)
    show bM_exchange_86 624 p q (lM_exchange_86 624 p q n) k G' = _
    rw [bM_exchange_86]
    simp (disch := omega) only [g0, g25, kd_625, sz_625, true_and, le_t, lt_t, lt_f, and_true, ↓reduceIte]) (H 625 0).toNat 0 H fu (by omega) (by omega) ⟨by omega, fun _ _ => rfl, fun i i0 i1 => absurd i1 (by omega)⟩
  have g0 : G1 624 0 = 625 := by rw [a2 624 (by omega)]; exact h04
  have g21 : G1 624 21 = 633 := by rw [a2 624 (by omega)]; exact h21
  have g25 : G1 625 = H 625 := a2 625 (by omega)
  have hs1 : MS G1 := by unfold MS; rw [a2 624 (by omega)]; exact j.1
  have w2 := WBF_xc w hp hq hpq h4 h5 h7 h8
  have a1 : lM_exchange_86 624 p q fu 0 H = jM_exchange_125 G1 624 p q := a1
  rw [a1, jM_exchange_125]
  simp (disch := omega) only [g0, g25, kd_625, sz_625, w32_r, true_and, le_t, lt_t, and_true, ↓reduceIte, ↓bnd_s, pU_625, pU_sw, sw_n, sw_s, sw_sw]
  have er : ∀ k, 140 ≤ k → k < 180 → u1 (u1 (H 625) (60 + p) (H 625 (60 + q))) (60 + q) (H 625 (60 + p)) k = H 625 k := fun k k0 k1 => by rw [u1_n (by omega), u1_n (by omega)]
  generalize hr' : u1 (u1 (H 625) (60 + p) (H 625 (60 + q))) (60 + q) (H 625 (60 + p)) = r' at *
  have hM2 := w2.1.1
  have e0 : r' 0 = H 625 0 := by rw [← hr', u1_n (by omega), u1_n (by omega)]
  have l : lM_exchange_169 (sw G1 r') 624 fu 0 0 = some (0 + cn (fun k => decide (r' (140 + k) = 0) && !decide (DP (up r') k = DP (up (H 625)) k)) (r' 0).toNat 0, sw G1 r') := cnt_loop (L := fun n k x => lM_exchange_169 (sw G1 r') 624 n x k) (E := fun x => some (x, sw G1 r')) (fun k => decide (r' (140 + k) = 0) && !decide (DP (up r') k = DP (up (H 625)) k)) (r' 0) 0 (by omega) (fun n k x h1 h2 h3 h4 => by
    have hr'' := vM_runs (g := sw G1 r') (p := k) (MS_sw hs1) (by omega)
    have hd' := vM_deep (g := sw G1 r') (x := k) (MS_sw hs1) (by rw [sw_s]; exact w2.1.2.2.1 k h1 h2)
    rw [sw_s] at hr'' hd'
    show bM_exchange_169 (sw G1 r') 624 (lM_exchange_169 (sw G1 r') 624 n) x k = _
    rw [bM_exchange_169, hr'', hd', sw_n (show ¬ (624 : Int) = 625 by omega), g0, g21, sw_s, sw_n (show ¬ (633 : Int) = 625 by omega), if_pos (g625 (by omega)), if_pos h2, bdP_s, bdP_s, w32_r (x := k + 1) (by omega), w32_r (x := x + 1) (by omega), w32_r (x := x + 0) (by omega), if_pos (show kd 633 = 20 ∧ (0 : Int) ≤ k ∧ k < sz 633 from ⟨kd_633, h1, by rw [sz_633]; omega⟩)]
    by_cases c1 : r' (140 + k) = 0
    · have ed := a3 k h1 (by omega) (by rw [← er (140 + k) (by omega) (by omega)]; exact c1)
      rw [if_pos c1, if_neg f0, ed, decide_eq_true c1, Bool.true_and]
      by_cases c2 : DP (up r') k = DP (up (H 625)) k
      · rw [if_pos c2, decide_eq_true c2]; rfl
      · rw [if_neg c2, decide_eq_false c2]; rfl
    · rw [if_neg c1, if_pos rfl, decide_eq_false c1, Bool.false_and]
      rfl) (fun n k x h1 h2 => by
    show bM_exchange_169 (sw G1 r') 624 (lM_exchange_169 (sw G1 r') 624 n) x k = _
    rw [bM_exchange_169, sw_n (show ¬ (624 : Int) = 625 by omega), g0, sw_s, if_pos (g625 (by omega)), if_neg h2]) (r' 0).toNat 0 0 fu (by omega) (by omega) (by omega) (by omega) (by omega)
  rw [l]
  exact ⟨G1, r', _, rfl, a2, rfl, by rw [Int.zero_add]⟩
theorem jo_exchange (h : JA G H) : JO t2 True (fC_exchange G 0 p q) (fM_exchange H 624 p q) := by
  have hb := jaM h
  have qq := jaQ h
  have o1 := JA_th (t := 0) h
  have e625 : th H 0 625 = H 625 := th_n (by omega)
  have bad : ∀ X : Option (Int × gH), X = jM_exchange_71 (th H 0) 624 p q 624 1 → JO t2 True (jC_exchange_57 G 0 (pc 1 p) (pc 1 q) 0) X := by
    intro X hX
    rw [hX, jM_exchange_71, if_pos kd_c624, fl1, bdN_s, if_neg f0, jC_exchange_57, st_n, qe2]
    exact JO_e (JA_th o1) (th8.trans rfl) (by decide)
  rw [fC_exchange, fM_exchange, vM_noProcess h.2.1]
  by_cases a : 0 ≤ p ∧ p < H 625 0
  · rw [if_pos a, if_pos a, bdN_s, if_pos rfl, vM_noProcess2 h.2.1, jn_y h a, bdQ_0]
    by_cases b : 0 ≤ q ∧ q < H 625 0
    · have rp := vM_runs (g := th H 0) (p := p) o1.2.1.1 (by omega)
      have rq := vM_runs (g := th H 0) (p := q) o1.2.1.1 (by omega)
      have hov := vM_isOver (g := th H 0) (p := p) (x := q) o1.2.1.1 (by rw [e625]; exact QQ_en qq b)
      have ov2 := vM_isOver (g := th H 0) (p := q) (x := p) o1.2.1.1 (by rw [e625]; exact QQ_en qq a)
      rw [e625] at rp rq hov ov2
      rw [if_pos b, if_pos b, bdN_s, if_pos rfl, jn_y h b, bdQ_0, if_pos (kdp T1 (by omega)), qP_mortal qq (by omega), bdP_s, if_pos (kdp T1 (i := q) (by omega)), qP_mortal qq (i := q) (by omega), bdP_s, qP_over qq a.1 b, bdP_s, qP_over qq b.1 a, bdP_s, rp, bdP_s, rq, bdP_s, hov, bdP_s, ov2, bdP_s, jC_exchange_56, jM_exchange_66]
      by_cases c1 : (0 < p ∧ p < H 625 0) ∧ H 625 (140 + p) = 0
      · rw [if_pos c1, if_neg f0, if_neg (show ¬ p = 0 by omega), if_pos c1.2, if_neg f0]
        by_cases c2 : (0 < q ∧ q < H 625 0) ∧ H 625 (140 + q) = 0
        · rw [if_pos c2, if_neg f0, if_neg (show ¬ q = 0 by omega), if_pos c2.2, if_neg f0]
          by_cases c3 : p = q
          · rw [if_pos c3, if_pos (show pc 1 p = pc 1 q by rw [c3])]; exact bad _ rfl
          · rw [if_neg c3, if_neg (fun z => c3 (pc_inj a.1 b.1 z))]
            by_cases c4 : OV (up (H 625)) p q = true
            · rw [if_pos c4, if_neg f0, if_neg f0]; exact bad _ rfl
            · rw [if_neg c4, if_pos rfl, if_pos rfl]
              by_cases c5 : OV (up (H 625)) q p = true
              · rw [if_pos c5, if_neg f0, if_neg f0]; exact bad _ rfl
              · rw [if_neg c5, if_pos rfl, if_pos rfl, jC_exchange_57, jM_exchange_71, if_pos kd_c624, fl0, bdN_s, if_pos rfl, st_1, bdQ_0]
                obtain ⟨G1, H1, x1, x2, j, eG, x5, x6⟩ := JA_push o1
                have e25 := x5 625 (by omega) (by omega)
                have e1 : H1 625 = H 625 := e25.trans e625
                have w := j.2.1.2.1
                have q1 := jaQ j
                have hp : 0 < p ∧ p < H1 625 0 := by rw [e1]; exact c1.1
                have hq : 0 < q ∧ q < H1 625 0 := by rw [e1]; exact c2.1
                have sp : H1 625 (140 + p) = 0 := by rw [e1]; exact c1.2
                have sq : H1 625 (140 + q) = 0 := by rw [e1]; exact c2.2
                have v1 : OV (up (H1 625)) p q = false := by rw [e1]; exact Bool.eq_false_iff.mpr c4
                have v2 : OV (up (H1 625)) q p = false := by rw [e1]; exact Bool.eq_false_iff.mpr c5
                obtain ⟨H2, r2, vv, m1, m2, m3, m4⟩ := xc_m j.2.1 hp hq c3 sp sq v1 v2
                have w2 := WBF_xc w hp hq c3 sp sq v1 v2
                rw [← m3] at w2
                have hM := jaM j
                have hA := q1.2.2.1.2.2.1
                have hcl := q1.2.2.1.2.1
                have up_p : 0 ≤ up (H1 625) p ∧ up (H1 625) p < H1 625 0 := hcl p hp.1 hp.2
                have up_q : 0 ≤ up (H1 625) q ∧ up (H1 625) q < H1 625 0 := hcl q hq.1 hq.2
                have ep := hA p (by omega) hp.2
                have eq := hA q (by omega) hq.2
                -- the first hangs under the other's
                have b1 : Bl (up (H1 625)) p q = false := by unfold Bl; rw [v1, decide_eq_false (fun z => c3 z.symm)]; rfl
                have s1 : Bl (up (H1 625)) p (up (H1 625) q) = false := by rw [← Bl_n eq (by omega) (fun z => c3 z.symm)]; exact b1
                have n1 : ¬ up (H1 625) q = p := fun z => by rw [z, Bl_i] at s1; cases s1
                have k1 : OV (up (H1 625)) p (up (H1 625) q) = false := by
                  cases ho : OV (up (H1 625)) p (up (H1 625) q) with
                  | false => rfl
                  | true => rw [Bl_ov ho] at s1; cases s1
                have b2 : Bl (up (H1 625)) q p = false := by unfold Bl; rw [v2, decide_eq_false c3]; rfl
                have s2 : Bl (up (H1 625)) q (up (H1 625) p) = false := by rw [← Bl_n ep (by omega) c3]; exact b2
                have n2 : ¬ up (H1 625) p = q := fun z => by rw [z, Bl_i] at s2; cases s2
                have dpp := DP_s ep (by omega)
                have np : ¬ up (H1 625) p = p := fun z => by rw [z] at dpp; omega
                have op : OV (up (H1 625)) p (up (H1 625) p) = false := by
                  cases ho : OV (up (H1 625)) p (up (H1 625) p) with
                  | false => rfl
                  | true => have := OV_dp (hA _ up_p.1 up_p.2) ho; omega
                obtain ⟨G2, y1, y2, y3⟩ := aP_put q1 (ja40 j) hp sp up_q n1 k1
                have o0 : u1 (H1 625) (60 + p) (up (H1 625) q) 0 = H1 625 0 := u1_n (by omega)
                have o3 : OV (up (u1 (H1 625) (60 + p) (up (H1 625) q))) q (up (H1 625) p) = false := by
                  rw [up_u1]
                  show ov (u1 (up (H1 625)) p (up (H1 625) q)) 40 q (up (H1 625) p) = false
                  rw [ov_keep (hA _ up_p.1 up_p.2) np op]
                  cases ho : ov (up (H1 625)) 40 q (up (H1 625) p) with
                  | false => rfl
                  | true => rw [Bl_ov ho] at s2; cases s2
                obtain ⟨G3, z1, z2, z3⟩ := aP_put (c := q) (t := up (H1 625) p) y2 (by rw [u1_n (by omega)]; exact ja40 j) (by rw [o0]; exact hq) (by rw [u1_n (by omega)]; exact sq) (by rw [o0]; exact up_p) n2 o3
                have e3 : u1 (u1 (H1 625) (60 + p) (up (H1 625) q)) (60 + q) (up (H1 625) p) = r2 := m3.symm
                rw [e3] at z2
                have j2 : JA G1 H2 := JA_row j (OK_633 (OK_r j.2.1) m2).1 (fun k k0 k1 => by rw [m2 625 (by omega)]) (m2 629 (by omega)) (m2 628 (by omega)) (m2 631 (by omega)) (fun k k0 k1 k2 => by rw [m2 624 (by omega)])
                have cC : ∀ s, jC_exchange_88 G1 0 (pc 1 p) (pc 1 q) s = if s = 0 then some (0, (w32 (w32 (2 + cn (fun k => decide (H1 625 (140 + k) = 0) && OV (up (H1 625)) p k) (H1 625 0).toNat 0) + cn (fun k => decide (H1 625 (140 + k) = 0) && OV (up (H1 625)) q k) (H1 625 0).toNat 0), G3)) else some (0, (0, G3)) := by
                  intro s
                  rw [jC_exchange_88, ja0 j, if_pos (kdT T1), qT_below q1 (by omega) (by omega), bdP_s, qT_below q1 (by omega) (by omega), bdP_s, if_pos (kdp T1 (by omega)), if_pos (kdp T1 (by omega)), QQ_up q1 hq, y1, bdN_s, QQ_up q1 hp, z1, bdN_s]
                -- how many stand otherwise
                have cA := cn_bd (fun k => decide (H1 625 (140 + k) = 0) && OV (up (H1 625)) p k) (H1 625 0).toNat 0
                have cB := cn_bd (fun k => decide (H1 625 (140 + k) = 0) && OV (up (H1 625)) q k) (H1 625 0).toNat 0
                have r20 : r2 0 = H1 625 0 := by rw [m3, u1_n (by omega), u1_n (by omega)]
                have upr : up r2 = u1 (u1 (up (H1 625)) p (up (H1 625) q)) q (up (H1 625) p) := by rw [← e3, up_u1, up_u1]
                have hA2 : Acy (u1 (u1 (up (H1 625)) p (up (H1 625) q)) q (up (H1 625) p)) (H1 625 0) := by rw [← upr, ← r20]; exact w2.1.2.2.1
                have dps : ∀ x, 0 ≤ x → x < H1 625 0 → DP (up r2) x = DP (up (H1 625)) x + (if Bl (up (H1 625)) p x = true then DP (up (H1 625)) q - DP (up (H1 625)) p else if Bl (up (H1 625)) q x = true then DP (up (H1 625)) p - DP (up (H1 625)) q else 0) := fun x x0 x1 => by
                  rw [upr]
                  exact xc_dp hA hcl hp hq c3 v1 v2 hA2 40 x (hA2 x x0 x1) x0 x1
                have ev : vv = if DP (up (H1 625)) p = DP (up (H1 625)) q then 0 else w32 (w32 (2 + cn (fun k => decide (H1 625 (140 + k) = 0) && OV (up (H1 625)) p k) (H1 625 0).toNat 0) + cn (fun k => decide (H1 625 (140 + k) = 0) && OV (up (H1 625)) q k) (H1 625 0).toNat 0) := by
                  rw [m4, r20, w32_r (x := 2 + _) (by omega), w32_r (by omega)]
                  have st : ∀ k, 0 ≤ k → k < H1 625 0 → r2 (140 + k) = H1 625 (140 + k) := fun k k0 k1 => by rw [m3, u1_n (by omega), u1_n (by omega)]
                  by_cases c : DP (up (H1 625)) p = DP (up (H1 625)) q
                  · rw [if_pos c]
                    refine cn_z _ 0 (fun k k0 k1 => ?_)
                    have := dps k k0 (by omega)
                    rw [c, Int.sub_self, ite_self, ite_self, Int.add_zero] at this
                    rw [this, decide_eq_true rfl, Bool.not_true, Bool.and_false]
                  · rw [if_neg c]
                    have k1 := cn_Bl (p := p) (r := H1 625) (by omega) sp (OV_ir ep)
                    have k2 := cn_Bl (p := q) (r := H1 625) (by omega) sq (OV_ir eq)
                    have k3 := cn_or (P := fun k => decide (H1 625 (140 + k) = 0) && Bl (up (H1 625)) p k) (Q := fun k => decide (H1 625 (140 + k) = 0) && Bl (up (H1 625)) q k) (R := fun k => decide (r2 (140 + k) = 0) && !decide (DP (up r2) k = DP (up (H1 625)) k)) (H1 625 0).toNat 0 (fun k k0 k1 => by
                      have kb : k < H1 625 0 := by omega
                      have dk := dps k k0 kb
                      rw [st k k0 kb]
                      have both : ¬ (Bl (up (H1 625)) p k = true ∧ Bl (up (H1 625)) q k = true) := by
                        rintro ⟨y1, y2⟩
                        exact xc_both hA hp hq b1 b2 40 k (hA k k0 kb) (hA k k0 kb) y1 y2
                      refine ⟨?_, fun z => both ⟨(Bool.and_eq_true_iff.mp z.1).2, (Bool.and_eq_true_iff.mp z.2).2⟩⟩
                      cases hB1 : Bl (up (H1 625)) p k with
                      | true =>
                        rw [hB1, if_pos rfl] at dk
                        rw [decide_eq_false (show ¬ DP (up r2) k = DP (up (H1 625)) k by omega)]
                        cases decide (H1 625 (140 + k) = 0) <;> rfl
                      | false =>
                        rw [hB1, if_neg (by decide)] at dk
                        cases hB2 : Bl (up (H1 625)) q k with
                        | true =>
                          rw [hB2, if_pos rfl] at dk
                          rw [decide_eq_false (show ¬ DP (up r2) k = DP (up (H1 625)) k by omega)]
                          cases decide (H1 625 (140 + k) = 0) <;> rfl
                        | false =>
                          rw [hB2, if_neg (by decide), Int.add_zero] at dk
                          rw [decide_eq_true dk]
                          cases decide (H1 625 (140 + k) = 0) <;> rfl)
                    rw [k3, k1, k2]
                    omega
                rw [ja3 h, if_pos kd_133, ja0 h, x1, bdN_s, x2, bdN_s, m1, if_pos (kdp T1 (by omega)), qP_above q1 (by omega), bdP_s, if_pos (kdp T1 (by omega)), qP_above q1 (by omega), bdP_s, cC, cC, if_neg f0, if_pos rfl]
                have jf : JA G3 (sw H2 r2) := by
                  have := JA_act (d := H2 630) j2 (TF_t y3 z3) (QQ_d z2 (fun i i0 i1 => j2.2.1.2.2.1 i i0 i1)) (fun i i0 i1 => j2.2.1.2.2.1 i i0 i1) w2
                  rw [md_id] at this
                  exact this
                have f8 : sw H2 r2 624 8 = 0 := by
                  rw [sw_n (by omega), m2 624 (by omega), x6 8 (by omega)]
                  exact th8
                rw [ev]
                by_cases c : DP (up (H1 625)) p = DP (up (H1 625)) q
                · rw [if_pos c, if_pos c]; exact JO_i jf f8 (fun _ => rfl)
                · rw [if_neg c, if_neg c]; exact JO_i jf f8 (fun _ => rfl)
        · rw [if_neg c2, if_pos rfl]
          by_cases c0 : q = 0
          · rw [if_pos c0]; exact bad _ rfl
          · rw [if_neg c0, if_neg (fun z => c2 ⟨by omega, z⟩), if_pos rfl]; exact bad _ rfl
      · rw [if_neg c1, if_pos rfl]
        by_cases c0 : p = 0
        · rw [if_pos c0]; exact bad _ rfl
        · rw [if_neg c0]
          by_cases c0q : q = 0
          · rw [if_pos c0q]; exact bad _ rfl
          · rw [if_neg c0q, if_neg (fun z => c1 ⟨by omega, z⟩), if_pos rfl]; exact bad _ rfl
    · rw [if_neg b, if_neg b, bdN_s, if_neg f0, jn_n h b, qe3]
      exact JO_e (JA_th h) (th8.trans rfl) (by decide)
  · rw [if_neg a, if_neg a, bdN_s, if_neg f0, jn_n h a, qe3]
    exact JO_e (JA_th h) (th8.trans rfl) (by decide)
end PAR34
/-! ===== the input's calls and loading, with the whole state (own work) ===== -/
section PAR35
variable {g g' G G' H H' K : gH} {r r' dm : Int → Int} {a b c d e i j k l m n o p q s t u v w x y z S T gp code : Int}
theorem jo_loadTree (h : JA G H) : JN True (fC_loadTree G 0) (fM_loadTree H 624) := by
  obtain ⟨v, K, N, e1, e2, ⟨a1, a2⟩, ⟨l1, l2⟩, ⟨n8, n28, n29⟩, hL, z⟩ := ld_both h.1 h.2.1 h.2.2.2.2.2.1
  obtain ⟨v', N', m1, m2, -⟩ := oM_loadTree h.2.1
  rw [e2] at m1
  cases m1
  have q := jaQ h
  have ie : IE K N := ⟨⟨by rw [l1, l2], fun k k0 k1 => absurd k1 (by rw [l1]; omega)⟩, a1, a2⟩
  rcases z with ⟨s6, s7, t1, t2, t3, cp, cd, r3, r60, r380⟩ | ⟨f1, f2, f6, f7⟩
  · exact ⟨v, v, K, N, e1, e2, ⟨hL.1, m2, ⟨T1, hL.1.2.1 1 T1, m2.2.1.1, cp, cd, ⟨by rw [r3]; unfold InR; omega, r380⟩, r60⟩, ⟨by rw [t1, s6], by rw [s6]; omega, by rw [t3]; exact h.2.2.2.1.2.2.1, fun j j0 j1 => absurd j1 (by rw [s6]; omega)⟩, ⟨by rw [t2, s7], fun z => absurd s7 z⟩, ie⟩, n8, fun _ => rfl⟩
  · exact ⟨v, v, K, N, e1, e2, ⟨hL.1, m2, QQ_ext (QQ_eq q (fun x x0 x1 => f1 x (by omega))) (ja40 h) f2, RG_e h.2.2.2.1 (fun x _ x1 => f1 x x1) f6 n29, SV_e h.2.2.2.2.1 (fun x _ x1 => f1 x (by omega)) (by rw [f1 0 (by omega)]) f7 n28, ie⟩, n8, fun _ => rfl⟩
/-- input alone differs -/
theorem JA_in (h : JA G H) (hc : CInv G') (hm : MInv H') (hb : BB G' H') (e : ∀ x, ¬ x = 576 → ¬ x = 577 → G' x = G x) (ek : ∀ k, ¬ k = 10 → ¬ k = 8 → H' 624 k = H 624 k) (ex : ∀ x, ¬ x = 624 → ¬ x = 631 → H' x = H x) : JA G' H' := by
  obtain ⟨h1, h2, h3, h4, h5, h6⟩ := h
  refine ⟨hc, hm, by rw [ex 625 (by omega) (by omega)]; exact QQ_eq h3 (fun x x0 x1 => e x (by omega) (by omega)), RG_e h4 (fun x x0 x1 => e x (by omega) (by omega)) (ek 6 (by omega) (by omega)) (ex 629 (by omega) (by omega)), SV_e h5 (fun x x0 x1 => e x (by omega) (by omega)) (by rw [e 0 (by omega) (by omega)]) (ek 7 (by omega) (by omega)) (ex 628 (by omega) (by omega)), hb, ?_⟩
  rw [e 575 (by omega) (by omega), ek 11 (by omega) (by omega), ek 12 (by omega) (by omega)]
  exact h6.2
theorem jo_appendInput (h : JA G H) : JN True (fC_appendInput G 0 a b c d k) (fM_appendInput H 624 a b c d k) := by
  obtain ⟨v, G', H', e1, e2, hb, f1, f2, f3, f8⟩ := ap_input (a := a) (b := b) (c := c) (d := d) (k := k) h.1 h.2.1 h.2.2.2.2.2.1
  obtain ⟨X, c1, c2⟩ := tC_appendInput (a := a) (b := b) (c := c) (d := d) (k := k) h.1
  obtain ⟨Y, m1, m2, -⟩ := oM_appendInput (a := a) (b := b) (c := c) (d := d) (k := k) h.2.1
  have eX : X = G' := by rw [e1] at c1; exact (Prod.mk.inj (Option.some.inj c1)).2.symm
  have eY : Y = H' := by rw [e2] at m1; exact (Prod.mk.inj (Option.some.inj m1)).2.symm
  subst eX eY
  exact ⟨v, v, X, Y, e1, e2, JA_in h c2.1 m2 hb f1 f2 f3, f8, fun _ => rfl⟩
theorem jo_truncateInput (h : JA G H) : JN True (fC_truncateInput G 0 a) (fM_truncateInput H 624 a) := by
  obtain ⟨v, G', H', e1, e2, hb, f1, f2, f3, f8⟩ := tr_input (a := a) h.1 h.2.1 h.2.2.2.2.2.1
  obtain ⟨X, c1, c2⟩ := tC_truncateInput (v := a) h.1
  obtain ⟨Y, m1, m2, -⟩ := oM_truncateInput (a := a) h.2.1
  have eX : X = G' := by rw [e1] at c1; exact (Prod.mk.inj (Option.some.inj c1)).2.symm
  have eY : Y = H' := by rw [e2] at m1; exact (Prod.mk.inj (Option.some.inj m1)).2.symm
  subst eX eY
  exact ⟨v, v, X, Y, e1, e2, JA_in h c2.1 m2 hb f1 f2 f3, f8, fun _ => rfl⟩
end PAR35
/-! ===== the reference's questions leave all but the mark of a throw (own work, by program: wip/p7/gen_q8.py) ===== -/
section PAR36
variable {g0 : gH}
/-- all but the mark is as it was -/
def E8 (g0 g : gH) : Prop := (∀ x, ¬ x = 624 → g x = g0 x) ∧ ∀ k, ¬ k = 8 → g 624 k = g0 624 k
theorem E8_r : E8 g0 g0 := ⟨fun _ _ => rfl, fun _ _ => rfl⟩
/-- so far as it ends -/
def Q8 (g0 : gH) (X : Option (Int × gH)) : Prop := ∀ w H, X = some (w, H) → E8 g0 H
theorem Q8_n : Q8 g0 none := fun _ _ e => by cases e
theorem Q8_i {g : gH} {v : Int} (h : E8 g0 g) : Q8 g0 (some (v, g)) := fun _ _ e => by cases e; exact h
theorem Q8_ite {c : Prop} [Decidable c] {A B : Option (Int × gH)} (h1 : Q8 g0 A) (h2 : Q8 g0 B) : Q8 g0 (if c then A else B) := by
  split
  · exact h1
  · exact h2
theorem Q8_bdP {X : Option Int} {k : Int → Option (Int × gH)} (h : ∀ v, Q8 g0 (k v)) : Q8 g0 (bdP X k) := by
  cases X with
  | none => exact Q8_n
  | some v => exact h v
theorem Q8_bdN {X : Option (Int × gH)} {k : Int → gH → Option (Int × gH)} (hX : Q8 g0 X) (h : ∀ v g, E8 g0 g → Q8 g0 (k v g)) : Q8 g0 (bdN X k) := by
  cases X with
  | none => exact Q8_n
  | some z => exact h z.1 z.2 (hX z.1 z.2 rfl)
theorem Q8_bnd8 {g : gH} {v : Int} {k : gH → Option (Int × gH)} (h : E8 g0 g) (hk : ∀ g', E8 g0 g' → Q8 g0 (k g')) : Q8 g0 (bnd (pU g 624 8 v) k) := by
  rw [bnd_s]
  exact hk _ ⟨fun x hx => (pU_n hx).trans (h.1 x hx), fun y hy => (pU_y hy).trans (h.2 y hy)⟩
theorem q8_fM_fails {g : gH} {v1 : Int} {v2 : Int} (h : E8 g0 g) : Q8 g0 (fM_fails g 624 v1 v2) := by
  rw [fM_fails]
  exact (Q8_ite (Q8_i h) (Q8_bnd8 h (fun _ h1 => (Q8_i h1))))
theorem q8_jM_count_21 {g : gH} {v1 : Int} {s1 : Int} (h : E8 g0 g) : Q8 g0 (jM_count_21 g 624 v1 624 s1) := by
  rw [jM_count_21]
  exact (Q8_ite (Q8_bdN (q8_fM_fails h) (fun _ _ h2 => (Q8_ite (Q8_ite (Q8_ite (Q8_i h2) Q8_n) (Q8_ite (Q8_bdP (fun _ => (Q8_i h2))) (Q8_ite (Q8_bdP (fun _ => (Q8_i h2))) (Q8_ite (Q8_bdP (fun _ => (Q8_i h2))) (Q8_ite (Q8_ite (Q8_i h2) Q8_n) (Q8_ite (Q8_ite (Q8_i h2) Q8_n) (Q8_ite (Q8_ite (Q8_i h2) Q8_n) (Q8_ite (Q8_ite (Q8_i h2) Q8_n) (Q8_ite (Q8_bdP (fun _ => (Q8_bdP (fun _ => (Q8_i h2))))) (Q8_ite (Q8_i h2) (Q8_ite (Q8_ite (Q8_i h2) Q8_n) (Q8_ite (Q8_i h2) Q8_n)))))))))))) (Q8_i h2)))) Q8_n)
theorem q8_fM_count {g : gH} {v1 : Int} (h : E8 g0 g) : Q8 g0 (fM_count g 624 v1) := by
  rw [fM_count]
  exact (Q8_bnd8 h (fun _ h3 => (Q8_bdP (fun _ => (Q8_ite (q8_jM_count_21 h3) (q8_jM_count_21 h3))))))
theorem q8_fM_noProcess {g : gH} {v1 : Int} (h : E8 g0 g) : Q8 g0 (fM_noProcess g 624 v1) := by
  rw [fM_noProcess]
  exact (Q8_bnd8 h (fun _ h4 => (Q8_ite (Q8_bdP (fun _ => (Q8_ite (Q8_bdN (q8_fM_fails h4) (fun _ _ h5 => (Q8_i h5))) (Q8_bdN (q8_fM_fails h4) (fun _ _ h6 => (Q8_i h6)))))) Q8_n)))
theorem q8_jM_process_24 {g : gH} {v1 : Int} {v2 : Int} {s1 : Int} (h : E8 g0 g) : Q8 g0 (jM_process_24 g 624 v1 v2 624 s1) := by
  rw [jM_process_24]
  exact (Q8_ite (Q8_bdN (q8_fM_fails h) (fun _ _ h7 => (Q8_ite (Q8_ite (Q8_ite (Q8_i h7) Q8_n) (Q8_ite (Q8_ite (Q8_i h7) Q8_n) (Q8_ite (Q8_bdP (fun _ => (Q8_i h7))) (Q8_ite (Q8_bdP (fun _ => (Q8_i h7))) (Q8_ite (Q8_bdP (fun _ => (Q8_i h7))) (Q8_ite (Q8_ite (Q8_i h7) Q8_n) (Q8_ite (Q8_ite (Q8_i h7) Q8_n) (Q8_ite (Q8_ite (Q8_i h7) Q8_n) (Q8_ite (Q8_ite (Q8_i h7) Q8_n) (Q8_ite (Q8_bdP (fun _ => (Q8_i h7))) (Q8_ite (Q8_ite (Q8_i h7) Q8_n) (Q8_ite (Q8_ite (Q8_i h7) Q8_n) (Q8_ite (Q8_ite (Q8_i h7) Q8_n) (Q8_ite (Q8_ite (Q8_i h7) Q8_n) (Q8_bdP (fun _ => (Q8_i h7))))))))))))))))) (Q8_i h7)))) Q8_n)
theorem q8_fM_process {g : gH} {v1 : Int} {v2 : Int} (h : E8 g0 g) : Q8 g0 (fM_process g 624 v1 v2) := by
  rw [fM_process]
  exact (Q8_bdN (q8_fM_noProcess h) (fun _ _ h8 => (Q8_ite (Q8_bdP (fun _ => (Q8_ite (q8_jM_process_24 h8) (q8_jM_process_24 h8)))) (Q8_i h8))))
theorem q8_fM_noDuty {g : gH} {v1 : Int} {v2 : Int} (h : E8 g0 g) : Q8 g0 (fM_noDuty g 624 v1 v2) := by
  rw [fM_noDuty]
  exact (Q8_bdP (fun _ => (Q8_ite (Q8_bdN (q8_fM_fails h) (fun _ _ h9 => (Q8_i h9))) (Q8_bdN (q8_fM_fails h) (fun _ _ h10 => (Q8_i h10))))))
theorem q8_fM_holder {g : gH} {v1 : Int} (h : E8 g0 g) : Q8 g0 (fM_holder g 624 v1) := by
  rw [fM_holder]
  exact (Q8_bnd8 h (fun _ h11 => (Q8_bdN (q8_fM_noDuty h11) (fun _ _ h12 => (Q8_ite (Q8_ite (Q8_i h12) Q8_n) (Q8_i h12))))))
theorem q8_fM_rule {g : gH} {v1 : Int} (h : E8 g0 g) : Q8 g0 (fM_rule g 624 v1) := by
  rw [fM_rule]
  exact (Q8_bnd8 h (fun _ h13 => (Q8_ite (Q8_bdP (fun _ => (Q8_ite (Q8_i h13) (Q8_ite (Q8_i h13) Q8_n)))) Q8_n)))
theorem q8_fM_depth {g : gH} {v1 : Int} (h : E8 g0 g) : Q8 g0 (fM_depth g 624 v1) := by
  rw [fM_depth]
  exact (Q8_bdN (q8_fM_noProcess h) (fun _ _ h14 => (Q8_ite (Q8_bdP (fun _ => (Q8_bdN (q8_fM_fails h14) (fun _ _ h15 => (Q8_ite (Q8_bdP (fun _ => (Q8_i h15))) (Q8_i h15)))))) (Q8_i h14))))
theorem q8_fM_isAbove {g : gH} {v1 : Int} {v2 : Int} (h : E8 g0 g) : Q8 g0 (fM_isAbove g 624 v1 v2) := by
  rw [fM_isAbove]
  exact (Q8_bdN (q8_fM_noProcess h) (fun _ _ h16 => (Q8_ite (Q8_bdN (q8_fM_noProcess h16) (fun _ _ h17 => (Q8_ite (Q8_bdP (fun _ => (Q8_ite (Q8_bdP (fun _ => (Q8_ite (Q8_ite (Q8_i h17) (Q8_bdP (fun _ => (Q8_ite (Q8_i h17) (Q8_i h17))))) (Q8_i h17)))) (Q8_i h17)))) (Q8_i h17)))) (Q8_i h16))))
theorem q8_jM_anyGone_38 {g : gH} {s1 : Int} (h : E8 g0 g) : Q8 g0 (jM_anyGone_38 g 624 s1) := by
  rw [jM_anyGone_38]
  exact (Q8_ite (Q8_bdN (q8_fM_fails h) (fun _ _ h18 => (Q8_ite (Q8_i h18) (Q8_i h18)))) Q8_n)
theorem q8_jM_anyGone_33 {g : gH} (h : E8 g0 g) : Q8 g0 (jM_anyGone_33 g 624) := by
  rw [jM_anyGone_33]
  exact (q8_jM_anyGone_38 h)
theorem q8_fM_anyGone {g : gH} {v1 : Int} {v2 : Int} (h : E8 g0 g) : Q8 g0 (fM_anyGone g 624 v1 v2) := by
  rw [fM_anyGone]
  exact (Q8_bdN (q8_fM_noProcess h) (fun _ _ h19 => (Q8_ite (Q8_bdN (q8_fM_noProcess h19) (fun _ _ h20 => (Q8_ite (Q8_bdP (fun _ => (Q8_ite (Q8_bdP (fun _ => (Q8_ite (q8_jM_anyGone_38 h20) (q8_jM_anyGone_33 h20)))) (q8_jM_anyGone_33 h20)))) (Q8_i h20)))) (Q8_i h19))))
theorem q8_fM_meet {g : gH} {v1 : Int} {v2 : Int} (h : E8 g0 g) : Q8 g0 (fM_meet g 624 v1 v2) := by
  rw [fM_meet]
  exact (Q8_bdN (q8_fM_anyGone h) (fun _ _ h21 => (Q8_ite (Q8_bdP (fun _ => (Q8_i h21))) (Q8_i h21))))
theorem q8_fM_below {g : gH} {v1 : Int} (h : E8 g0 g) : Q8 g0 (fM_below g 624 v1) := by
  rw [fM_below]
  exact (Q8_bdN (q8_fM_noProcess h) (fun _ _ h22 => (Q8_ite (Q8_bdP (fun _ => (Q8_ite (Q8_i h22) (Q8_bdP (fun _ => (Q8_i h22)))))) (Q8_i h22))))
theorem q8_lM_walked_38_ (g : gH) (v1 : Int) (h : E8 g0 g) : ∀ (n : Nat) (s0 : Int) (s1 : Int), Q8 g0 (lM_walked_38 g 624 v1 n s0 s1) := by
  intro n
  induction n with
  | zero => intros; exact Q8_n
  | succ n ih =>
    intro s0 s1
    show Q8 g0 (bM_walked_38 g 624 v1 (lM_walked_38 g 624 v1 n) s0 s1)
    rw [bM_walked_38]
    exact (Q8_ite (Q8_bdP (fun _ => (ih _ _))) (Q8_i h))
theorem q8_lM_walked_38 {g : gH} {v1 : Int} {n : Nat} {s0 : Int} {s1 : Int} (h : E8 g0 g) : Q8 g0 (lM_walked_38 g 624 v1 n s0 s1) := q8_lM_walked_38_ g v1 h n s0 s1
theorem q8_jM_walked_25 {g : gH} {v1 : Int} {s1 : Int} (h : E8 g0 g) : Q8 g0 (jM_walked_25 g 624 v1 624 s1) := by
  rw [jM_walked_25]
  exact (Q8_ite (Q8_bdN (q8_fM_fails h) (fun _ _ h23 => (Q8_ite (q8_lM_walked_38 h23) (Q8_i h23)))) Q8_n)
theorem q8_fM_walked {g : gH} {v1 : Int} (h : E8 g0 g) : Q8 g0 (fM_walked g 624 v1) := by
  rw [fM_walked]
  exact (Q8_bnd8 h (fun _ h24 => (Q8_bdP (fun _ => (Q8_bdP (fun _ => (Q8_ite (q8_jM_walked_25 h24) (q8_jM_walked_25 h24))))))))
theorem q8_lM_atDepth_9_ (g : gH) (v1 : Int) (h : E8 g0 g) : ∀ (n : Nat) (s0 : Int) (s1 : Int), Q8 g0 (lM_atDepth_9 g 624 v1 n s0 s1) := by
  intro n
  induction n with
  | zero => intros; exact Q8_n
  | succ n ih =>
    intro s0 s1
    show Q8 g0 (bM_atDepth_9 g 624 v1 (lM_atDepth_9 g 624 v1 n) s0 s1)
    rw [bM_atDepth_9]
    exact (Q8_ite (Q8_ite (Q8_bdP (fun _ => (Q8_ite (ih _ _) (Q8_bdP (fun _ => (Q8_ite (ih _ _) (ih _ _))))))) (Q8_i h)) Q8_n)
theorem q8_lM_atDepth_9 {g : gH} {v1 : Int} {n : Nat} {s0 : Int} {s1 : Int} (h : E8 g0 g) : Q8 g0 (lM_atDepth_9 g 624 v1 n s0 s1) := q8_lM_atDepth_9_ g v1 h n s0 s1
theorem q8_fM_atDepth {g : gH} {v1 : Int} (h : E8 g0 g) : Q8 g0 (fM_atDepth g 624 v1) := by
  rw [fM_atDepth]
  exact (Q8_bnd8 h (fun _ h25 => (q8_lM_atDepth_9 h25)))
theorem q8_fM_height {g : gH} (h : E8 g0 g) : Q8 g0 (fM_height g 624) := by
  rw [fM_height]
  exact (Q8_bnd8 h (fun _ h26 => (Q8_bdP (fun _ => (Q8_i h26)))))
theorem q8_jM_notExiting_26 {g : gH} {v2 : Int} {s1 : Int} (h : E8 g0 g) : Q8 g0 (jM_notExiting_26 g v2 624 s1) := by
  rw [jM_notExiting_26]
  exact (Q8_ite (Q8_bdN (q8_fM_fails h) (fun _ _ h27 => (Q8_ite (Q8_i h27) (Q8_i h27)))) Q8_n)
theorem q8_jM_notExiting_21 {g : gH} {v2 : Int} (h : E8 g0 g) : Q8 g0 (jM_notExiting_21 g v2 624) := by
  rw [jM_notExiting_21]
  exact (q8_jM_notExiting_26 h)
theorem q8_fM_notExiting {g : gH} {v1 : Int} {v2 : Int} (h : E8 g0 g) : Q8 g0 (fM_notExiting g 624 v1 v2) := by
  rw [fM_notExiting]
  exact (Q8_bdN (q8_fM_noProcess h) (fun _ _ h28 => (Q8_ite (Q8_ite (q8_jM_notExiting_21 h28) (Q8_bdP (fun _ => (Q8_ite (q8_jM_notExiting_21 h28) (q8_jM_notExiting_26 h28))))) (Q8_i h28))))
theorem q8_fM_adopter {g : gH} {v1 : Int} (h : E8 g0 g) : Q8 g0 (fM_adopter g 624 v1) := by
  rw [fM_adopter]
  exact (Q8_bdN (q8_fM_notExiting h) (fun _ _ h29 => (Q8_ite (Q8_ite (Q8_bdP (fun _ => (Q8_i h29))) Q8_n) (Q8_i h29))))
theorem q8_fM_heirNow {g : gH} {v1 : Int} (h : E8 g0 g) : Q8 g0 (fM_heirNow g 624 v1) := by
  rw [fM_heirNow]
  exact (Q8_bdN (q8_fM_notExiting h) (fun _ _ h30 => (Q8_ite (Q8_bdP (fun _ => (Q8_i h30))) (Q8_i h30))))
theorem q8_lM_roomiest_31_ (g : gH) (v1 : Int) (h : E8 g0 g) : ∀ (n : Nat) (s0 : Int) (s1 : Int), Q8 g0 (lM_roomiest_31 g 624 v1 n s0 s1) := by
  intro n
  induction n with
  | zero => intros; exact Q8_n
  | succ n ih =>
    intro s0 s1
    show Q8 g0 (bM_roomiest_31 g 624 v1 (lM_roomiest_31 g 624 v1 n) s0 s1)
    rw [bM_roomiest_31]
    exact (Q8_ite (Q8_ite (Q8_bdP (fun _ => (Q8_ite (ih _ _) (Q8_bdP (fun _ => (Q8_ite (Q8_ite (ih _ _) (Q8_bdP (fun _ => (Q8_bdP (fun _ => (Q8_ite (ih _ _) (ih _ _))))))) (ih _ _))))))) (Q8_i h)) Q8_n)
theorem q8_lM_roomiest_31 {g : gH} {v1 : Int} {n : Nat} {s0 : Int} {s1 : Int} (h : E8 g0 g) : Q8 g0 (lM_roomiest_31 g 624 v1 n s0 s1) := q8_lM_roomiest_31_ g v1 h n s0 s1
theorem q8_jM_roomiest_18 {g : gH} {v1 : Int} {s1 : Int} (h : E8 g0 g) : Q8 g0 (jM_roomiest_18 g 624 v1 624 s1) := by
  rw [jM_roomiest_18]
  exact (Q8_ite (Q8_bdN (q8_fM_fails h) (fun _ _ h31 => (Q8_ite (q8_lM_roomiest_31 h31) (Q8_i h31)))) Q8_n)
theorem q8_fM_roomiest {g : gH} {v1 : Int} (h : E8 g0 g) : Q8 g0 (fM_roomiest g 624 v1) := by
  rw [fM_roomiest]
  exact (Q8_bnd8 h (fun _ h32 => (Q8_bdP (fun _ => (Q8_ite (q8_jM_roomiest_18 h32) (q8_jM_roomiest_18 h32))))))
theorem q8_lM_allRoom_9_ (g : gH) (h : E8 g0 g) : ∀ (n : Nat) (s0 : Int) (s1 : Int), Q8 g0 (lM_allRoom_9 g 624 n s0 s1) := by
  intro n
  induction n with
  | zero => intros; exact Q8_n
  | succ n ih =>
    intro s0 s1
    show Q8 g0 (bM_allRoom_9 g 624 (lM_allRoom_9 g 624 n) s0 s1)
    rw [bM_allRoom_9]
    exact (Q8_ite (Q8_ite (Q8_bdP (fun _ => (ih _ _))) (Q8_i h)) Q8_n)
theorem q8_lM_allRoom_9 {g : gH} {n : Nat} {s0 : Int} {s1 : Int} (h : E8 g0 g) : Q8 g0 (lM_allRoom_9 g 624 n s0 s1) := q8_lM_allRoom_9_ g h n s0 s1
theorem q8_fM_allRoom {g : gH} (h : E8 g0 g) : Q8 g0 (fM_allRoom g 624) := by
  rw [fM_allRoom]
  exact (Q8_bnd8 h (fun _ h33 => (q8_lM_allRoom_9 h33)))
theorem q8_lM_overfull_9_ (g : gH) (h : E8 g0 g) : ∀ (n : Nat) (s0 : Int) (s1 : Int), Q8 g0 (lM_overfull_9 g 624 n s0 s1) := by
  intro n
  induction n with
  | zero => intros; exact Q8_n
  | succ n ih =>
    intro s0 s1
    show Q8 g0 (bM_overfull_9 g 624 (lM_overfull_9 g 624 n) s0 s1)
    rw [bM_overfull_9]
    exact (Q8_ite (Q8_ite (Q8_bdP (fun _ => (Q8_ite (ih _ _) (Q8_bdP (fun _ => (Q8_ite (Q8_ite (ih _ _) (ih _ _)) Q8_n)))))) (Q8_i h)) Q8_n)
theorem q8_lM_overfull_9 {g : gH} {n : Nat} {s0 : Int} {s1 : Int} (h : E8 g0 g) : Q8 g0 (lM_overfull_9 g 624 n s0 s1) := q8_lM_overfull_9_ g h n s0 s1
theorem q8_fM_overfull {g : gH} (h : E8 g0 g) : Q8 g0 (fM_overfull g 624) := by
  rw [fM_overfull]
  exact (Q8_bnd8 h (fun _ h34 => (q8_lM_overfull_9 h34)))
theorem q8_lM_ofGroup_31_ (g : gH) (v1 : Int) (h : E8 g0 g) : ∀ (n : Nat) (s0 : Int) (s1 : Int), Q8 g0 (lM_ofGroup_31 g 624 v1 n s0 s1) := by
  intro n
  induction n with
  | zero => intros; exact Q8_n
  | succ n ih =>
    intro s0 s1
    show Q8 g0 (bM_ofGroup_31 g 624 v1 (lM_ofGroup_31 g 624 v1 n) s0 s1)
    rw [bM_ofGroup_31]
    exact (Q8_ite (Q8_ite (Q8_bdP (fun _ => (Q8_ite (ih _ _) (Q8_ite (Q8_ite (ih _ _) (ih _ _)) Q8_n)))) (Q8_i h)) Q8_n)
theorem q8_lM_ofGroup_31 {g : gH} {v1 : Int} {n : Nat} {s0 : Int} {s1 : Int} (h : E8 g0 g) : Q8 g0 (lM_ofGroup_31 g 624 v1 n s0 s1) := q8_lM_ofGroup_31_ g v1 h n s0 s1
theorem q8_jM_ofGroup_18 {g : gH} {v1 : Int} {s1 : Int} (h : E8 g0 g) : Q8 g0 (jM_ofGroup_18 g 624 v1 624 s1) := by
  rw [jM_ofGroup_18]
  exact (Q8_ite (Q8_bdN (q8_fM_fails h) (fun _ _ h35 => (Q8_ite (q8_lM_ofGroup_31 h35) (Q8_i h35)))) Q8_n)
theorem q8_fM_ofGroup {g : gH} {v1 : Int} (h : E8 g0 g) : Q8 g0 (fM_ofGroup g 624 v1) := by
  rw [fM_ofGroup]
  exact (Q8_bnd8 h (fun _ h36 => (Q8_bdP (fun _ => (Q8_ite (q8_jM_ofGroup_18 h36) (q8_jM_ofGroup_18 h36))))))
theorem q8_fM_nextTestament {g : gH} {v1 : Int} (h : E8 g0 g) : Q8 g0 (fM_nextTestament g 624 v1) := by
  rw [fM_nextTestament]
  exact (Q8_bdN (q8_fM_noProcess h) (fun _ _ h37 => (Q8_ite (Q8_bdP (fun _ => (Q8_i h37))) (Q8_i h37))))
theorem q8_jM_exited_27 {g : gH} {v1 : Int} {s1 : Int} (h : E8 g0 g) : Q8 g0 (jM_exited_27 g 624 v1 624 s1) := by
  rw [jM_exited_27]
  exact (Q8_ite (Q8_bdN (q8_fM_fails h) (fun _ _ h38 => (Q8_ite (Q8_ite (Q8_i h38) Q8_n) (Q8_i h38)))) Q8_n)
theorem q8_fM_exited {g : gH} {v1 : Int} (h : E8 g0 g) : Q8 g0 (fM_exited g 624 v1) := by
  rw [fM_exited]
  exact (Q8_bnd8 h (fun _ h39 => (Q8_ite (Q8_bdP (fun _ => (Q8_ite (q8_jM_exited_27 h39) (q8_jM_exited_27 h39)))) Q8_n)))
theorem q8_jM_meanDepth_45 {g : gH} {v1 : Int} (h : E8 g0 g) : Q8 g0 (jM_meanDepth_45 g 624 v1) := by
  rw [jM_meanDepth_45]
  exact (Q8_bdP (fun _ => (Q8_ite (Q8_i h) Q8_n)))
theorem q8_lM_meanDepth_9_ (g : gH) (h : E8 g0 g) : ∀ (n : Nat) (s0 : Int) (s1 : Int), Q8 g0 (lM_meanDepth_9 g 624 n s0 s1) := by
  intro n
  induction n with
  | zero => intros; exact Q8_n
  | succ n ih =>
    intro s0 s1
    show Q8 g0 (bM_meanDepth_9 g 624 (lM_meanDepth_9 g 624 n) s0 s1)
    rw [bM_meanDepth_9]
    exact (Q8_ite (Q8_ite (Q8_bdP (fun _ => (Q8_ite (ih _ _) (Q8_bdP (fun _ => (ih _ _)))))) (q8_jM_meanDepth_45 h)) Q8_n)
theorem q8_lM_meanDepth_9 {g : gH} {n : Nat} {s0 : Int} {s1 : Int} (h : E8 g0 g) : Q8 g0 (lM_meanDepth_9 g 624 n s0 s1) := q8_lM_meanDepth_9_ g h n s0 s1
theorem q8_fM_meanDepth {g : gH} (h : E8 g0 g) : Q8 g0 (fM_meanDepth g 624) := by
  rw [fM_meanDepth]
  exact (Q8_bnd8 h (fun _ h40 => (q8_lM_meanDepth_9 h40)))
theorem q8_fM_rootShare {g : gH} (h : E8 g0 g) : Q8 g0 (fM_rootShare g 624) := by
  rw [fM_rootShare]
  exact (Q8_bnd8 h (fun _ h41 => (Q8_ite (Q8_ite (Q8_i h41) (Q8_ite (Q8_ite (Q8_ite (Q8_i h41) Q8_n) Q8_n) Q8_n)) Q8_n)))
theorem q8_lM_testamentsBelow_22_ (g : gH) (v1 : Int) (h : E8 g0 g) : ∀ (n : Nat) (s0 : Int) (s1 : Int), Q8 g0 (lM_testamentsBelow_22 g 624 v1 n s0 s1) := by
  intro n
  induction n with
  | zero => intros; exact Q8_n
  | succ n ih =>
    intro s0 s1
    show Q8 g0 (bM_testamentsBelow_22 g 624 v1 (lM_testamentsBelow_22 g 624 v1 n) s0 s1)
    rw [bM_testamentsBelow_22]
    exact (Q8_ite (Q8_ite (Q8_ite (Q8_ite (Q8_bdP (fun _ => (Q8_ite (ih _ _) (ih _ _)))) (ih _ _)) Q8_n) (Q8_i h)) Q8_n)
theorem q8_lM_testamentsBelow_22 {g : gH} {v1 : Int} {n : Nat} {s0 : Int} {s1 : Int} (h : E8 g0 g) : Q8 g0 (lM_testamentsBelow_22 g 624 v1 n s0 s1) := q8_lM_testamentsBelow_22_ g v1 h n s0 s1
theorem q8_fM_testamentsBelow {g : gH} {v1 : Int} (h : E8 g0 g) : Q8 g0 (fM_testamentsBelow g 624 v1) := by
  rw [fM_testamentsBelow]
  exact (Q8_bdN (q8_fM_noProcess h) (fun _ _ h42 => (Q8_ite (Q8_bdP (fun _ => (Q8_ite (Q8_i h42) (q8_lM_testamentsBelow_22 h42)))) (Q8_i h42))))
theorem q8_lM_roomBelow_22_ (g : gH) (v1 : Int) (h : E8 g0 g) : ∀ (n : Nat) (s0 : Int) (s1 : Int), Q8 g0 (lM_roomBelow_22 g 624 v1 n s0 s1) := by
  intro n
  induction n with
  | zero => intros; exact Q8_n
  | succ n ih =>
    intro s0 s1
    show Q8 g0 (bM_roomBelow_22 g 624 v1 (lM_roomBelow_22 g 624 v1 n) s0 s1)
    rw [bM_roomBelow_22]
    exact (Q8_ite (Q8_ite (Q8_bdP (fun _ => (Q8_ite (ih _ _) (Q8_bdP (fun _ => (Q8_ite (ih _ _) (Q8_bdP (fun _ => (ih _ _))))))))) (Q8_i h)) Q8_n)
theorem q8_lM_roomBelow_22 {g : gH} {v1 : Int} {n : Nat} {s0 : Int} {s1 : Int} (h : E8 g0 g) : Q8 g0 (lM_roomBelow_22 g 624 v1 n s0 s1) := q8_lM_roomBelow_22_ g v1 h n s0 s1
theorem q8_fM_roomBelow {g : gH} {v1 : Int} (h : E8 g0 g) : Q8 g0 (fM_roomBelow g 624 v1) := by
  rw [fM_roomBelow]
  exact (Q8_bdN (q8_fM_noProcess h) (fun _ _ h43 => (Q8_ite (Q8_bdP (fun _ => (Q8_ite (Q8_i h43) (q8_lM_roomBelow_22 h43)))) (Q8_i h43))))
theorem q8_jM_mostAdopted_56 {X9 : Int → Int → Option (Int × gH)} {g : gH} {v1 : Int} {v2 : Int} {s0 : Int} {s1 : Int} (h : E8 g0 g) (hX : ∀ y0 y1 : Int, Q8 g0 (X9 y0 y1)) : Q8 g0 (jM_mostAdopted_56 X9 g 624 v1 v2 s0 s1) := by
  rw [jM_mostAdopted_56]
  exact (Q8_ite (hX _ _) (hX _ _))
theorem q8_lM_mostAdopted_9_ (g : gH) (h : E8 g0 g) : ∀ (n : Nat) (s0 : Int) (s1 : Int), Q8 g0 (lM_mostAdopted_9 g 624 n s0 s1) := by
  intro n
  induction n with
  | zero => intros; exact Q8_n
  | succ n ih =>
    intro s0 s1
    show Q8 g0 (bM_mostAdopted_9 g 624 (lM_mostAdopted_9 g 624 n) s0 s1)
    rw [bM_mostAdopted_9]
    exact (Q8_ite (Q8_ite (Q8_bdP (fun _ => (Q8_ite (ih _ _) (Q8_ite (Q8_ite (q8_jM_mostAdopted_56 h ih) (Q8_ite (q8_jM_mostAdopted_56 h ih) Q8_n)) Q8_n)))) (Q8_i h)) Q8_n)
theorem q8_lM_mostAdopted_9 {g : gH} {n : Nat} {s0 : Int} {s1 : Int} (h : E8 g0 g) : Q8 g0 (lM_mostAdopted_9 g 624 n s0 s1) := q8_lM_mostAdopted_9_ g h n s0 s1
theorem q8_fM_mostAdopted {g : gH} (h : E8 g0 g) : Q8 g0 (fM_mostAdopted g 624) := by
  rw [fM_mostAdopted]
  exact (Q8_bnd8 h (fun _ h44 => (q8_lM_mostAdopted_9 h44)))
theorem q8_lM_adopters_15_ (g : gH) (v1 : Int) (h : E8 g0 g) : ∀ (n : Nat) (s0 : Int) (s1 : Int), Q8 g0 (lM_adopters_15 g 624 v1 n s0 s1) := by
  intro n
  induction n with
  | zero => intros; exact Q8_n
  | succ n ih =>
    intro s0 s1
    show Q8 g0 (bM_adopters_15 g 624 v1 (lM_adopters_15 g 624 v1 n) s0 s1)
    rw [bM_adopters_15]
    exact (Q8_ite (Q8_ite (Q8_bdP (fun _ => (Q8_ite (ih _ _) (ih _ _)))) (Q8_i h)) Q8_n)
theorem q8_lM_adopters_15 {g : gH} {v1 : Int} {n : Nat} {s0 : Int} {s1 : Int} (h : E8 g0 g) : Q8 g0 (lM_adopters_15 g 624 v1 n s0 s1) := q8_lM_adopters_15_ g v1 h n s0 s1
theorem q8_fM_adopters {g : gH} {v1 : Int} (h : E8 g0 g) : Q8 g0 (fM_adopters g 624 v1) := by
  rw [fM_adopters]
  exact (Q8_bdN (q8_fM_notExiting h) (fun _ _ h45 => (Q8_ite (q8_lM_adopters_15 h45) (Q8_i h45))))
theorem q8_fM_readShare {g : gH} (h : E8 g0 g) : Q8 g0 (fM_readShare g 624) := by
  rw [fM_readShare]
  exact (Q8_bnd8 h (fun _ h46 => (Q8_ite (Q8_ite (Q8_i h46) (Q8_bdP (fun _ => (Q8_ite (Q8_ite (Q8_i h46) Q8_n) Q8_n)))) Q8_n)))
theorem q8_fM_apart {g : gH} {v1 : Int} {v2 : Int} (h : E8 g0 g) : Q8 g0 (fM_apart g 624 v1 v2) := by
  rw [fM_apart]
  exact (Q8_bdN (q8_fM_anyGone h) (fun _ _ h47 => (Q8_ite (Q8_bdP (fun _ => (Q8_bdP (fun _ => (Q8_bdP (fun _ => (Q8_bdP (fun _ => (Q8_i h47))))))))) (Q8_i h47))))
theorem q8_lM_heaviest_14_ (g : gH) (v1 : Int) (h : E8 g0 g) : ∀ (n : Nat) (s0 : Int) (s1 : Int), Q8 g0 (lM_heaviest_14 g 624 v1 n s0 s1) := by
  intro n
  induction n with
  | zero => intros; exact Q8_n
  | succ n ih =>
    intro s0 s1
    show Q8 g0 (bM_heaviest_14 g 624 v1 (lM_heaviest_14 g 624 v1 n) s0 s1)
    rw [bM_heaviest_14]
    exact (Q8_ite (Q8_ite (Q8_bdP (fun _ => (Q8_ite (ih _ _) (Q8_ite (ih _ _) (Q8_bdP (fun _ => (Q8_bdP (fun _ => (Q8_ite (ih _ _) (ih _ _)))))))))) (Q8_i h)) Q8_n)
theorem q8_lM_heaviest_14 {g : gH} {v1 : Int} {n : Nat} {s0 : Int} {s1 : Int} (h : E8 g0 g) : Q8 g0 (lM_heaviest_14 g 624 v1 n s0 s1) := q8_lM_heaviest_14_ g v1 h n s0 s1
theorem q8_fM_heaviest {g : gH} {v1 : Int} (h : E8 g0 g) : Q8 g0 (fM_heaviest g 624 v1) := by
  rw [fM_heaviest]
  exact (Q8_bdN (q8_fM_noProcess h) (fun _ _ h48 => (Q8_ite (q8_lM_heaviest_14 h48) (Q8_i h48))))
theorem q8_lM_groupsBelow_22_ (g : gH) (v1 : Int) (h : E8 g0 g) : ∀ (n : Nat) (s0 : Int) (s1 : Int), Q8 g0 (lM_groupsBelow_22 g 624 v1 n s0 s1) := by
  intro n
  induction n with
  | zero => intros; exact Q8_n
  | succ n ih =>
    intro s0 s1
    show Q8 g0 (bM_groupsBelow_22 g 624 v1 (lM_groupsBelow_22 g 624 v1 n) s0 s1)
    rw [bM_groupsBelow_22]
    exact (Q8_ite (Q8_ite (Q8_bdP (fun _ => (Q8_ite (ih _ _) (Q8_bdP (fun _ => (Q8_ite (ih _ _) (Q8_ite (ih _ _) Q8_n))))))) (Q8_i h)) Q8_n)
theorem q8_lM_groupsBelow_22 {g : gH} {v1 : Int} {n : Nat} {s0 : Int} {s1 : Int} (h : E8 g0 g) : Q8 g0 (lM_groupsBelow_22 g 624 v1 n s0 s1) := q8_lM_groupsBelow_22_ g v1 h n s0 s1
theorem q8_fM_groupsBelow {g : gH} {v1 : Int} (h : E8 g0 g) : Q8 g0 (fM_groupsBelow g 624 v1) := by
  rw [fM_groupsBelow]
  exact (Q8_bdN (q8_fM_noProcess h) (fun _ _ h49 => (Q8_ite (Q8_bdP (fun _ => (Q8_ite (Q8_i h49) (q8_lM_groupsBelow_22 h49)))) (Q8_i h49))))
theorem q8_lM_strangers_14_ (g : gH) (v1 : Int) (h : E8 g0 g) : ∀ (n : Nat) (s0 : Int) (s1 : Int), Q8 g0 (lM_strangers_14 g 624 v1 n s0 s1) := by
  intro n
  induction n with
  | zero => intros; exact Q8_n
  | succ n ih =>
    intro s0 s1
    show Q8 g0 (bM_strangers_14 g 624 v1 (lM_strangers_14 g 624 v1 n) s0 s1)
    rw [bM_strangers_14]
    exact (Q8_ite (Q8_ite (Q8_bdP (fun _ => (Q8_ite (ih _ _) (Q8_ite (Q8_ite (Q8_ite (ih _ _) (ih _ _)) Q8_n) Q8_n)))) (Q8_i h)) Q8_n)
theorem q8_lM_strangers_14 {g : gH} {v1 : Int} {n : Nat} {s0 : Int} {s1 : Int} (h : E8 g0 g) : Q8 g0 (lM_strangers_14 g 624 v1 n s0 s1) := q8_lM_strangers_14_ g v1 h n s0 s1
theorem q8_fM_strangers {g : gH} {v1 : Int} (h : E8 g0 g) : Q8 g0 (fM_strangers g 624 v1) := by
  rw [fM_strangers]
  exact (Q8_bdN (q8_fM_noProcess h) (fun _ _ h50 => (Q8_ite (q8_lM_strangers_14 h50) (Q8_i h50))))
theorem q8_fM_outputByte {g : gH} {v1 : Int} (h : E8 g0 g) : Q8 g0 (fM_outputByte g 624 v1) := by
  rw [fM_outputByte]
  exact (Q8_bnd8 h (fun _ h51 => (Q8_bdP (fun _ => (Q8_ite (Q8_i h51) (Q8_ite (Q8_i h51) Q8_n))))))
theorem q8_fM_errorCode {g : gH} (h : E8 g0 g) : Q8 g0 (fM_errorCode g 624) := by
  rw [fM_errorCode]
  exact (Q8_bnd8 h (fun _ h52 => (Q8_i h52)))
theorem q8_fM_errorOffset {g : gH} (h : E8 g0 g) : Q8 g0 (fM_errorOffset g 624) := by
  rw [fM_errorOffset]
  exact (Q8_bnd8 h (fun _ h53 => (Q8_i h53)))
/-- all but the mark and the output is as it was -/
def E9 (g0 g : gH) : Prop := g0 624 22 = 634 ∧ (∀ x, ¬ x = 624 → ¬ x = 634 → g x = g0 x) ∧ ∀ k, ¬ k = 8 → ¬ k = 23 → g 624 k = g0 624 k
theorem E9_r (h : g0 624 22 = 634) : E9 g0 g0 := ⟨h, fun _ _ _ => rfl, fun _ _ _ => rfl⟩
def Q9 (g0 : gH) (X : Option (Int × gH)) : Prop := ∀ w H, X = some (w, H) → E9 g0 H
theorem Q9_n : Q9 g0 none := fun _ _ e => by cases e
theorem Q9_i {g : gH} {v : Int} (h : E9 g0 g) : Q9 g0 (some (v, g)) := fun _ _ e => by cases e; exact h
theorem Q9_ite {c : Prop} [Decidable c] {A B : Option (Int × gH)} (h1 : Q9 g0 A) (h2 : Q9 g0 B) : Q9 g0 (if c then A else B) := by
  split
  · exact h1
  · exact h2
theorem Q9_bdP {X : Option Int} {k : Int → Option (Int × gH)} (h : ∀ v, Q9 g0 (k v)) : Q9 g0 (bdP X k) := by
  cases X with
  | none => exact Q9_n
  | some v => exact h v
theorem Q9_bdN {X : Option (Int × gH)} {k : Int → gH → Option (Int × gH)} (hX : Q9 g0 X) (h : ∀ v g, E9 g0 g → Q9 g0 (k v g)) : Q9 g0 (bdN X k) := by
  cases X with
  | none => exact Q9_n
  | some z => exact h z.1 z.2 (hX z.1 z.2 rfl)
theorem Q9_bnd8 {g : gH} {v : Int} {k : gH → Option (Int × gH)} (h : E9 g0 g) (hk : ∀ g', E9 g0 g' → Q9 g0 (k g')) : Q9 g0 (bnd (pU g 624 8 v) k) := by
  rw [bnd_s]
  exact hk _ ⟨h.1, fun x hx h2 => (pU_n hx).trans (h.2.1 x hx h2), fun y hy h2 => (pU_y hy).trans (h.2.2 y hy h2)⟩
theorem Q9_bnd23 {g : gH} {v : Int} {k : gH → Option (Int × gH)} (h : E9 g0 g) (hk : ∀ g', E9 g0 g' → Q9 g0 (k g')) : Q9 g0 (bnd (pU g 624 23 v) k) := by
  rw [bnd_s]
  exact hk _ ⟨h.1, fun x hx h2 => (pU_n hx).trans (h.2.1 x hx h2), fun y hy h2 => (pU_y h2).trans (h.2.2 y hy h2)⟩
theorem Q9_bndo {g : gH} {a v : Int} {k : gH → Option (Int × gH)} (h : E9 g0 g) (hk : ∀ g', E9 g0 g' → Q9 g0 (k g')) : Q9 g0 (bnd (pU g (g 624 22) a v) k) := by
  have e : g 624 22 = 634 := (h.2.2 22 (by omega) (by omega)).trans h.1
  rw [bnd_s, e]
  exact hk _ ⟨h.1, fun x hx h2 => (pU_n h2).trans (h.2.1 x hx h2), fun y hy h2 => by rw [pU_n (by omega)]; exact h.2.2 y hy h2⟩
theorem q9_fM_fails {g : gH} {v1 : Int} {v2 : Int} (h : E9 g0 g) : Q9 g0 (fM_fails g 624 v1 v2) := by
  rw [fM_fails]
  exact (Q9_ite (Q9_i h) (Q9_bnd8 h (fun _ h1 => (Q9_i h1))))
theorem q9_fM_noProcess {g : gH} {v1 : Int} (h : E9 g0 g) : Q9 g0 (fM_noProcess g 624 v1) := by
  rw [fM_noProcess]
  exact (Q9_bnd8 h (fun _ h2 => (Q9_ite (Q9_bdP (fun _ => (Q9_ite (Q9_bdN (q9_fM_fails h2) (fun _ _ h3 => (Q9_i h3))) (Q9_bdN (q9_fM_fails h2) (fun _ _ h4 => (Q9_i h4)))))) Q9_n)))
theorem q9_fM_write {g : gH} {v1 : Int} (h : E9 g0 g) : Q9 g0 (fM_write g 624 v1) := by
  rw [fM_write]
  exact (Q9_ite (Q9_bndo h (fun _ h5 => (Q9_bnd23 h5 (fun _ h6 => (Q9_i h6))))) Q9_n)
theorem q9_fM_writeBetween {g : gH} {v1 : Int} (h : E9 g0 g) : Q9 g0 (fM_writeBetween g 624 v1) := by
  rw [fM_writeBetween]
  exact (Q9_ite (Q9_bdN (q9_fM_write h) (fun _ _ h7 => (Q9_i h7))) (Q9_i h))
theorem q9_lM_writeNumber_18_ (v1 : Int) : ∀ (n : Nat) (s0 : Int) (G : gH), E9 g0 G → Q9 g0 (lM_writeNumber_18 624 v1 n s0 G) := by
  intro n
  induction n with
  | zero => intros; exact Q9_n
  | succ n ih =>
    intro s0 G h
    show Q9 g0 (bM_writeNumber_18 624 v1 (lM_writeNumber_18 624 v1 n) s0 G)
    rw [bM_writeNumber_18]
    exact (Q9_ite (Q9_ite (Q9_ite (Q9_bdN (q9_fM_write h) (fun _ _ h8 => (Q9_ite (ih _ _ h8) Q9_n))) Q9_n) Q9_n) (Q9_i h))
theorem q9_lM_writeNumber_18 {v1 : Int} {n : Nat} {s0 : Int} {G : gH} (h : E9 g0 G) : Q9 g0 (lM_writeNumber_18 624 v1 n s0 G) := q9_lM_writeNumber_18_ v1 n s0 G h
theorem q9_lM_writeNumber_2_ (g : gH) (v1 : Int) (h : E9 g0 g) : ∀ (n : Nat) (s0 : Int), Q9 g0 (lM_writeNumber_2 g 624 v1 n s0) := by
  intro n
  induction n with
  | zero => intros; exact Q9_n
  | succ n ih =>
    intro s0
    show Q9 g0 (bM_writeNumber_2 g 624 v1 (lM_writeNumber_2 g 624 v1 n) s0)
    rw [bM_writeNumber_2]
    exact (Q9_ite (Q9_ite (ih _) (q9_lM_writeNumber_18 h)) Q9_n)
theorem q9_lM_writeNumber_2 {g : gH} {v1 : Int} {n : Nat} {s0 : Int} (h : E9 g0 g) : Q9 g0 (lM_writeNumber_2 g 624 v1 n s0) := q9_lM_writeNumber_2_ g v1 h n s0
theorem q9_fM_writeNumber {g : gH} {v1 : Int} (h : E9 g0 g) : Q9 g0 (fM_writeNumber g 624 v1) := by
  rw [fM_writeNumber]
  exact (q9_lM_writeNumber_2 h)
theorem q9_lM_writePath_2_ (v1 : Int) : ∀ (n : Nat) (s0 : Int) (G : gH), E9 g0 G → Q9 g0 (lM_writePath_2 624 v1 n s0 G) := by
  intro n
  induction n with
  | zero => intros; exact Q9_n
  | succ n ih =>
    intro s0 G h
    show Q9 g0 (bM_writePath_2 624 v1 (lM_writePath_2 624 v1 n) s0 G)
    rw [bM_writePath_2]
    exact (Q9_bdP (fun _ => (Q9_ite (Q9_i h) (Q9_bdN (q9_fM_writeBetween h) (fun _ _ h9 => (Q9_bdP (fun _ => (Q9_bdN (q9_fM_writeNumber h9) (fun _ _ h10 => (ih _ _ h10))))))))))
theorem q9_lM_writePath_2 {v1 : Int} {n : Nat} {s0 : Int} {G : gH} (h : E9 g0 G) : Q9 g0 (lM_writePath_2 624 v1 n s0 G) := q9_lM_writePath_2_ v1 n s0 G h
theorem q9_fM_writePath {g : gH} {v1 : Int} (h : E9 g0 g) : Q9 g0 (fM_writePath g 624 v1) := by
  rw [fM_writePath]
  exact (q9_lM_writePath_2 h)
theorem q9_lM_writeChildren_7_ (v1 : Int) : ∀ (n : Nat) (s0 : Int) (G : gH), E9 g0 G → Q9 g0 (lM_writeChildren_7 624 v1 n s0 G) := by
  intro n
  induction n with
  | zero => intros; exact Q9_n
  | succ n ih =>
    intro s0 G h
    show Q9 g0 (bM_writeChildren_7 624 v1 (lM_writeChildren_7 624 v1 n) s0 G)
    rw [bM_writeChildren_7]
    exact (Q9_ite (Q9_i h) (Q9_bdN (q9_fM_writeBetween h) (fun _ _ h11 => (Q9_bdN (q9_fM_writeNumber h11) (fun _ _ h12 => (Q9_bdP (fun _ => (ih _ _ h12))))))))
theorem q9_lM_writeChildren_7 {v1 : Int} {n : Nat} {s0 : Int} {G : gH} (h : E9 g0 G) : Q9 g0 (lM_writeChildren_7 624 v1 n s0 G) := q9_lM_writeChildren_7_ v1 n s0 G h
theorem q9_fM_writeChildren {g : gH} {v1 : Int} (h : E9 g0 g) : Q9 g0 (fM_writeChildren g 624 v1) := by
  rw [fM_writeChildren]
  exact (Q9_bdP (fun _ => (q9_lM_writeChildren_7 h)))
theorem q9_jM_writeTree_42 {R : gH → Int → Int → Option (Int × gH)} {X26 : Int → gH → Option (Int × gH)} {g : gH} {v1 v2 v3 : Int} (hR : ∀ g v, E9 g0 g → Q9 g0 (R g 624 v)) (hX : ∀ v g, E9 g0 g → Q9 g0 (X26 v g)) (h : E9 g0 g) : Q9 g0 (jM_writeTree_42 R X26 g 624 v1 v2 v3) := by
  rw [jM_writeTree_42]
  exact Q9_bdN (hR _ _ h) (fun _ _ h2 => Q9_bdP (fun _ => hX _ _ h2))
theorem q9_lM_writeTree_26 {R : gH → Int → Int → Option (Int × gH)} {v1 v2 : Int} (hR : ∀ g v, E9 g0 g → Q9 g0 (R g 624 v)) : ∀ (n : Nat) (v3 : Int) (g : gH), E9 g0 g → Q9 g0 (lM_writeTree_26 R 624 v1 v2 n v3 g) := by
  intro n
  induction n with
  | zero => intros; exact Q9_n
  | succ n ih =>
    intro v3 g h
    show Q9 g0 (bM_writeTree_26 R 624 v1 v2 (lM_writeTree_26 R 624 v1 v2 n) v3 g)
    rw [bM_writeTree_26]
    exact Q9_ite (Q9_bdN (q9_fM_write h) (fun _ _ h2 => Q9_i h2)) (Q9_ite (q9_jM_writeTree_42 hR ih h) (Q9_bdN (q9_fM_write h) (fun _ _ h2 => q9_jM_writeTree_42 hR ih h2)))
theorem q9_fM_writeTree : ∀ (n : Nat) (g : gH) (v : Int), E9 g0 g → Q9 g0 (fM_writeTree n g 624 v) := by
  intro n
  induction n with
  | zero => intros; exact Q9_n
  | succ n ih =>
    intro g v h
    show Q9 g0 (fbM_writeTree (fM_writeTree n) g 624 v)
    rw [fbM_writeTree]
    exact Q9_bdN (q9_fM_writeNumber h) (fun _ _ h2 => Q9_bdP (fun _ => Q9_ite (Q9_i h2) (Q9_bdN (q9_fM_write h2) (fun _ _ h3 => q9_lM_writeTree_26 ih _ _ _ h3))))
theorem q9_lM_writeZombies_2_ (v1 : Int) : ∀ (n : Nat) (s0 : Int) (G : gH), E9 g0 G → Q9 g0 (lM_writeZombies_2 624 v1 n s0 G) := by
  intro n
  induction n with
  | zero => intros; exact Q9_n
  | succ n ih =>
    intro s0 G h
    show Q9 g0 (bM_writeZombies_2 624 v1 (lM_writeZombies_2 624 v1 n) s0 G)
    rw [bM_writeZombies_2]
    exact (Q9_ite (Q9_ite (Q9_ite (Q9_bdP (fun _ => (Q9_ite (ih _ _ h) (Q9_bdN (q9_fM_writeBetween h) (fun _ _ h13 => (Q9_bdN (q9_fM_writeNumber h13) (fun _ _ h14 => (Q9_bdN (q9_fM_write h14) (fun _ _ h15 => (Q9_ite (Q9_bdN (q9_fM_writeNumber h15) (fun _ _ h16 => (ih _ _ h16))) Q9_n)))))))))) Q9_n) (Q9_i h)) Q9_n)
theorem q9_lM_writeZombies_2 {v1 : Int} {n : Nat} {s0 : Int} {G : gH} (h : E9 g0 G) : Q9 g0 (lM_writeZombies_2 624 v1 n s0 G) := q9_lM_writeZombies_2_ v1 n s0 G h
theorem q9_fM_writeZombies {g : gH} {v1 : Int} (h : E9 g0 g) : Q9 g0 (fM_writeZombies g 624 v1) := by
  rw [fM_writeZombies]
  exact (q9_lM_writeZombies_2 h)
theorem q9_jM_print_126 {g : gH} (h : E9 g0 g) : Q9 g0 (jM_print_126 g 624) := by
  rw [jM_print_126]
  exact (Q9_ite (Q9_bdN (q9_fM_write h) (fun _ _ h17 => (Q9_i h17))) (Q9_i h))
theorem q9_jM_print_116 {g : gH} {v1 : Int} {v2 : Int} (h : E9 g0 g) : Q9 g0 (jM_print_116 g 624 v1 v2) := by
  rw [jM_print_116]
  exact (Q9_ite (Q9_bdN (q9_fM_writeZombies h) (fun _ _ h18 => (q9_jM_print_126 h18))) (q9_jM_print_126 h))
theorem q9_lM_print_81_ (v1 : Int) (v2 : Int) : ∀ (n : Nat) (s0 : Int) (G : gH), E9 g0 G → Q9 g0 (lM_print_81 624 v1 v2 n s0 G) := by
  intro n
  induction n with
  | zero => intros; exact Q9_n
  | succ n ih =>
    intro s0 G h
    show Q9 g0 (bM_print_81 624 v1 v2 (lM_print_81 624 v1 v2 n) s0 G)
    rw [bM_print_81]
    exact (Q9_ite (Q9_ite (Q9_ite (Q9_ite (Q9_bdN (q9_fM_writeNumber h) (fun _ _ h19 => (ih _ _ h19))) (ih _ _ h)) Q9_n) (q9_jM_print_116 h)) (q9_jM_print_116 h))
theorem q9_lM_print_81 {v1 : Int} {v2 : Int} {n : Nat} {s0 : Int} {G : gH} (h : E9 g0 G) : Q9 g0 (lM_print_81 624 v1 v2 n s0 G) := q9_lM_print_81_ v1 v2 n s0 G h
theorem q9_jM_print_69 {g : gH} {v1 : Int} {v2 : Int} (h : E9 g0 g) : Q9 g0 (jM_print_69 g 624 v1 v2) := by
  rw [jM_print_69]
  exact (Q9_ite (Q9_bdN (q9_fM_writeTree _ _ _ h) (fun _ _ h20 => (q9_lM_print_81 h20))) (q9_lM_print_81 h))
theorem q9_jM_print_59 {g : gH} {v1 : Int} {v2 : Int} (h : E9 g0 g) : Q9 g0 (jM_print_59 g 624 v1 v2) := by
  rw [jM_print_59]
  exact (Q9_ite (Q9_bdN (q9_fM_writeChildren h) (fun _ _ h21 => (q9_jM_print_69 h21))) (q9_jM_print_69 h))
theorem q9_jM_print_23 {g : gH} {v1 : Int} {v2 : Int} {s1 : Int} (h : E9 g0 g) : Q9 g0 (jM_print_23 g 624 v1 v2 624 s1) := by
  rw [jM_print_23]
  exact (Q9_ite (Q9_bdN (q9_fM_fails h) (fun _ _ h22 => (Q9_ite (Q9_bdP (fun _ => (Q9_bdN (q9_fM_fails h22) (fun _ _ h23 => (Q9_ite (Q9_bnd23 h23 (fun _ h24 => (Q9_ite (Q9_bdN (q9_fM_writePath h24) (fun _ _ h25 => (q9_jM_print_59 h25))) (q9_jM_print_59 h24)))) (Q9_i h23)))))) (Q9_i h22)))) Q9_n)
theorem q9_fM_print {g : gH} {v1 : Int} {v2 : Int} (h : E9 g0 g) : Q9 g0 (fM_print g 624 v1 v2) := by
  rw [fM_print]
  exact (Q9_bdN (q9_fM_noProcess h) (fun _ _ h26 => (Q9_ite (Q9_bdP (fun _ => (Q9_ite (q9_jM_print_23 h26) (q9_jM_print_23 h26)))) (Q9_i h26))))
end PAR36
