/-! ===== both between two calls: tree, history, saved state, input, error (own work) ===== -/
section PAR29
variable {g g' G G' H H' K : gH} {r r' d d' dm : Int → Int} {a b c e i j k l m n o p q s t u v w x y z S T gp code : Int}
/-- no marks of doom -/
def QZ (S : Int) (G : gH) (r : Int → Int) : Prop := QQ S G r (fun _ => 0)
theorem QQ_eq (h : QQ S G r d) (e : ∀ x, S ≤ x → x < S + 44 → H x = G x) : QQ S H r d :=
  ⟨h.1, TI_F h.2.1 e, h.2.2.1, CP_eq h.2.2.2.1 (by have := h.2.2.1.1; omega) e, fun i i0 i1 => by
    have := pc_b (T := S) ⟨i0, i1⟩
    rw [e _ (by omega) (by omega)]
    exact h.2.2.2.2.1 i i0 i1, h.2.2.2.2.2⟩
theorem CP_ext (h : CP S G r) (hb : WB r) (h1 : r 1 ≤ 40) (e : ∀ k, 0 ≤ k → k < 780 → r' k = r k) : CP S G r' := by
  obtain ⟨⟨p1, p2, p3, p4, p5, p6⟩, h2, h3, h4, h5, h6, h7⟩ := h
  have hM := hb.1
  have e0 : r' 0 = r 0 := e 0 (by omega) (by omega)
  have e1 : r' 1 = r 1 := e 1 (by omega) (by omega)
  refine ⟨⟨by rw [e0]; exact p1, by rw [e1]; exact p2, by rw [e 2 (by omega) (by omega)]; exact p3, by rw [e 3 (by omega) (by omega)]; exact p4, by rw [e 4 (by omega) (by omega)]; exact p5, by rw [e 59 (by omega) (by omega)]; exact p6⟩, fun i i0 i1 => ?_, fun d d0 d1 => ?_, fun i i0 i1 => ?_, fun i i0 i1 => ?_, fun i i0 i1 => ?_, RU_e h7 (fun k k0 k1 => e k (by omega) (by omega))⟩
  · rw [e 5 (by omega) (by omega), e (6 + i) (by omega) (by omega)]; exact h2 i i0 i1
  · rw [e (11 + d) (by omega) (by omega)]; exact h3 d d0 d1
  · rw [e0] at i1
    exact PE_row (h4 i i0 i1) ⟨i0, by omega⟩ h1 e1 (fun k hk => e k (by omega) (by omega)) (kids_eq e0 (fun j j0 j1 => ⟨e _ (by omega) (by omega), e _ (by omega) (by omega)⟩))
  · rw [e0] at i1
    rw [e (60 + i) (by omega) (by omega)]; exact h5 i i0 i1
  · rw [e0] at i0
    exact h6 i i0 i1
theorem QQ_ext (h : QQ S G r d) (h1 : r 1 ≤ 40) (e : ∀ k, 0 ≤ k → k < 780 → r' k = r k) : QQ S G r' d :=
  ⟨h.1, h.2.1, WB_eq h.2.2.1 (fun k hk => e k (by omega) (by omega)), CP_ext h.2.2.2.1 h.2.2.1 h1 e, h.2.2.2.2.1, LR_e h.2.2.2.2.2 (e 3 (by omega) (by omega)) (e 60 (by omega) (by omega)) (e 380 (by omega) (by omega))⟩
theorem QQ_TC (h : QQ S G r d) (hT : isT T) (ti : TI H T) (ht : TC S T G H) : QQ T H r d :=
  ⟨hT, ti, h.2.2.1, CP_TC h.2.2.2.1 h.2.2.1 h.1 ht, fun i i0 i1 => by
    rw [(ht.2.2.2 i i0 i1).1 13 (by omega) (by omega) (by omega)]
    exact h.2.2.2.2.1 i i0 i1, h.2.2.2.2.2⟩
/-- a tree is copied into another -/
theorem wT_take (h : QQ S G r d) (ti : TI G T) (hT : isT T) (hn : ¬ T = S) : ∃ H, fT_take G T S = some (0, H) ∧ TF T G H ∧ QQ T H r d := by
  obtain ⟨v, H, e1, e2⟩ := tT_take ti.1 hT h.1 h.2.1 hn
  obtain ⟨v', H', e3, e4, e5⟩ := vT_take ti.1 hT h.1 h.2.1 hn
  rw [e1] at e3
  cases e3
  exact ⟨H, by rw [e1, e4], e2.2, QQ_TC h hT e2.1 e5⟩
/-- the history: a ring of trees against rows -/
def RG (G H : gH) : Prop := G 133 1 = H 624 6 ∧ (0 ≤ H 624 6 ∧ H 624 6 ≤ 10) ∧ (0 ≤ G 133 2 ∧ G 133 2 ≤ 10) ∧ ∀ j, 0 ≤ j → j < H 624 6 → QZ (135 + 44 * ((G 133 2 + 10 - H 624 6 + j) % 10)) G (fun k => H 629 (780 * j + k))
/-- what is saved -/
def SV (G H : gH) : Prop := (G 0 6 = 0 ↔ H 624 7 = 0) ∧ (¬ H 624 7 = 0 → QZ 89 G (H 628))
/-- input and error -/
def IE (G H : gH) : Prop := BB G H ∧ G 575 2 = H 624 11 ∧ G 575 3 = H 624 12
def JA (G H : gH) : Prop := CInv G ∧ MInv H ∧ QZ 1 G (H 625) ∧ RG G H ∧ SV G H ∧ IE G H
theorem RG_e (h : RG G H) (e : ∀ x, 133 ≤ x → x < 575 → G' x = G x) (e6 : H' 624 6 = H 624 6) (e9 : H' 629 = H 629) : RG G' H' := by
  obtain ⟨h1, h2, h3, h4⟩ := h
  have e133 : G' 133 = G 133 := e 133 (by omega) (by omega)
  refine ⟨by rw [e133, e6]; exact h1, by rw [e6]; exact h2, by rw [e133]; exact h3, fun j j0 j1 => ?_⟩
  rw [e6] at j1
  rw [e133, e6, e9]
  exact QQ_eq (h4 j j0 j1) (fun x x0 x1 => e x (by omega) (by omega))
theorem SV_e (h : SV G H) (e : ∀ x, 89 ≤ x → x < 133 → G' x = G x) (e0 : G' 0 6 = G 0 6) (e7 : H' 624 7 = H 624 7) (e8 : H' 628 = H 628) : SV G' H' :=
  ⟨by rw [e0, e7]; exact h.1, fun z => by
    rw [e7] at z
    rw [e8]
    exact QQ_eq (h.2 z) (fun x x0 x1 => e x (by omega) (by omega))⟩
theorem IE_e (h : IE G H) (e : ∀ x, 575 ≤ x → x ≤ 577 → G' x = G x) (ek : ∀ k, 10 ≤ k → k ≤ 12 → H' 624 k = H 624 k) (ei : H' 631 = H 631) : IE G' H' := by
  unfold IE BB at h ⊢
  rw [e 575 (by omega) (by omega), e 576 (by omega) (by omega), e 577 (by omega) (by omega), ek 10 (by omega) (by omega), ek 11 (by omega) (by omega), ek 12 (by omega) (by omega), ei]
  exact h
theorem JA_th (h : JA G H) : JA G (th H t) := by
  obtain ⟨h1, h2, h3, h4, h5, h6⟩ := h
  exact ⟨h1, MInv_th h2, by rw [th_n (by omega)]; exact h3, RG_e h4 (fun _ _ _ => rfl) (th_f (by omega)) (th_n (by omega)), SV_e h5 (fun _ _ _ => rfl) rfl (th_f (by omega)) (th_n (by omega)), IE_e h6 (fun _ _ _ => rfl) (fun k k0 k1 => th_f (by omega)) (th_n (by omega))⟩
theorem WBF_1 (h : WBF r) : 0 ≤ r 1 ∧ r 1 ≤ 39 := by
  have := NX_bd h.1.1 h.2.1.2 h.2.2.2.2.2.1
  have := h.1.1
  omega
/-! the tree goes into the past -/
theorem push_c (h : CInv G) (q : QZ 1 G r) (hn : 0 ≤ G 133 2 ∧ G 133 2 ≤ 10) : ∃ G', fH_push G 133 1 = some (0, G') ∧ QZ (135 + 44 * (G 133 2 % 10)) G' r ∧ G' 133 2 = G 133 2 % 10 + 1 ∧ G' 133 1 = (if G 133 1 < 10 then w32 (G 133 1 + 1) else G 133 1) ∧ ∀ x, ¬ x = 133 → ¬ (135 + 44 * (G 133 2 % 10) ≤ x ∧ x < 179 + 44 * (G 133 2 % 10)) → G' x = G x := by
  have l21 : ∀ K, CInv K → QZ 1 K r → 0 ≤ K 133 2 ∧ K 133 2 < 10 → ∃ G', jH_push_21 K 133 1 = some (0, G') ∧ QZ (135 + 44 * K 133 2) G' r ∧ G' 133 2 = K 133 2 + 1 ∧ G' 133 1 = (if K 133 1 < 10 then w32 (K 133 1 + 1) else K 133 1) ∧ ∀ x, ¬ x = 133 → ¬ (135 + 44 * K 133 2 ≤ x ∧ x < 179 + 44 * K 133 2) → G' x = K x := by
    intro K h q hk
    have hT := Tk hk
    have hs := h.1
    obtain ⟨A, a1, a2, a3⟩ := wT_take q (h.2.1 _ hT) hT (by omega)
    have e133 : A 133 = K 133 := a2 133 (by omega)
    have f1 : pU A 133 2 (K 133 2 + 1) 133 1 = K 133 1 := by rw [pU_y (by omega), e133]
    rw [jH_push_21, hs.2.1, if_pos ⟨kd_134, hk.1, by rw [sz_134]; exact hk.2⟩, hs.2.2.1 _ hk.1 hk.2, if_pos (kdT hT), a1, bdN_s, bnd_s, e133, w32_r (x := K 133 2 + 1) (by omega), f1]
    by_cases c : K 133 1 < 10
    · rw [if_pos c, bnd_s]
      refine ⟨_, rfl, QQ_eq a3 (fun x x0 x1 => by rw [pU_n (by omega), pU_n (by omega)]), ?_, ?_, fun x x0 x1 => ?_⟩
      · rw [pU_y (by omega), pU_s, u1_s]
      · rw [pU_s, u1_s, if_pos c]
      · rw [pU_n x0, pU_n x0]; exact a2 x (by omega)
    · rw [if_neg c]
      refine ⟨_, rfl, QQ_eq a3 (fun x x0 x1 => by rw [pU_n (by omega)]), ?_, ?_, fun x x0 x1 => ?_⟩
      · rw [pU_s, u1_s]
      · rw [f1, if_neg c]
      · rw [pU_n x0]; exact a2 x (by omega)
  by_cases c : G 133 2 < 10
  · rw [fH_push, if_neg (by omega), if_pos c, show G 133 2 % 10 = G 133 2 by omega]
    exact l21 G h q ⟨hn.1, c⟩
  · have c : G 133 2 = 10 := by omega
    have e2 : pU G 133 2 0 133 2 = 0 := by rw [pU_s, u1_s]
    have e1 : pU G 133 2 0 133 1 = G 133 1 := pU_y (by omega)
    obtain ⟨G', x1, x2, x3, x4, x5⟩ := l21 (pU G 133 2 0) (CO_w (CO_r h) (by omega)).1 (QQ_eq q (fun x x0 x1 => pU_n (by omega))) (by omega)
    rw [e2] at x2 x3 x5
    rw [e1] at x4
    rw [fH_push, if_neg (by omega), if_neg (by omega), jH_push_16, bnd_s, c]
    exact ⟨G', x1, x2, x3, x4, fun x x0 x1 => (x5 x x0 x1).trans (pU_n x0)⟩
theorem push_m (hi : MInv g) : ∃ g', fM_remembers g 624 = some (0, g') ∧ MInv g' ∧ (∀ x, ¬ x = 624 → ¬ x = 629 → g' x = g x) ∧ (∀ k, ¬ k = 6 → g' 624 k = g 624 k) ∧ g' 624 6 = (if g 624 6 = 10 then 10 else g 624 6 + 1) ∧ (∀ k, 0 ≤ k → k < 780 → g' 629 (780 * (g' 624 6 - 1) + k) = g 625 k) ∧ ∀ j k, 0 ≤ j → j < g' 624 6 - 1 → 0 ≤ k → k < 780 → g' 629 (780 * j + k) = g 629 (780 * (j + g 624 6 - (g' 624 6 - 1)) + k) := by
  obtain ⟨g', x1, x2, x3, x4, x5⟩ := vM_remembers hi
  refine ⟨g', x1, x2, x4, x5, ?_⟩
  clear x2 x3 x4 x5
  obtain ⟨h1, h2, h3, ⟨h4, h5⟩, h6, h7, h8⟩ := hi
  have h0 := h1.1
  have h29 := h1.2.2.2.1
  have fin : ∀ G : gH, G 624 0 = 625 → G 624 4 = 629 → (0 ≤ G 624 6 ∧ G 624 6 ≤ 9) → jM_remembers_37 G 624 = some (0, pU (cpG G 625 0 629 (780 * G 624 6) 780) 624 6 (G 624 6 + 1)) := by
    intro G g0 g4 g6
    have e1 : opI 0 780 (G 624 6) = 780 * G 624 6 := by rw [opI_mul, w32_r (by omega)]
    have hc := vM_copies (g := G) (a := 625) (x := 0) (b := 629) (y := 780 * G 624 6) (n := 780) ⟨kd_625, kd_629⟩ (by rw [sz_625]; omega) (by rw [sz_629]; omega) (by omega) (Or.inl (by omega))
    rw [jM_remembers_37, g0, g4, e1, hc, bdN_s, bnd_s, cpG_n (by omega), w32_r (by omega)]
  rw [fM_remembers] at x1
  by_cases c10 : g 624 6 = 10
  · have hc := vM_copies (g := g) (a := 629) (x := 780) (b := 629) (y := 0) (n := 7020) ⟨kd_629, kd_629⟩ (by rw [sz_629]; omega) (by rw [sz_629]; omega) (by omega) (Or.inr (by omega))
    rw [if_pos c10, h29, hc, bdN_s, bnd_s, cpG_n (by omega), c10, w32_r (by omega)] at x1
    have y6 : pU (cpG g 629 780 629 0 7020) 624 6 (10 - 1) 624 6 = 9 := by rw [pU_s, u1_s]; rfl
    have y25 : pU (cpG g 629 780 629 0 7020) 624 6 (10 - 1) 625 = g 625 := by rw [pU_n (by omega), cpG_n (by omega)]
    have y29 : ∀ k, 0 ≤ k → k < 7020 → pU (cpG g 629 780 629 0 7020) 624 6 (10 - 1) 629 k = g 629 (780 + k) := by
      intro k k0 k1
      rw [pU_n (by omega)]
      unfold cpG
      rw [if_pos ⟨rfl, by omega, by omega⟩, show (780 + k - 0 : Int) = 780 + k by omega]
    have y0 : pU (cpG g 629 780 629 0 7020) 624 6 (10 - 1) 624 0 = 625 := by rw [pU_y (by omega), cpG_n (by omega)]; exact h0
    have y4 : pU (cpG g 629 780 629 0 7020) 624 6 (10 - 1) 624 4 = 629 := by rw [pU_y (by omega), cpG_n (by omega)]; exact h29
    generalize pU (cpG g 629 780 629 0 7020) 624 6 (10 - 1) = G at *
    rw [fin G y0 y4 (by omega), y6] at x1
    cases x1
    have z6 : pU (cpG G 625 0 629 (780 * 9) 780) 624 6 (9 + 1) 624 6 = 10 := by rw [pU_s, u1_s]; rfl
    rw [z6, if_pos c10, c10]
    refine ⟨rfl, fun k k0 k1 => ?_, fun j k j0 j1 k0 k1 => ?_⟩
    · rw [pU_n (by omega)]
      unfold cpG
      rw [if_pos ⟨rfl, by omega, by omega⟩, show (0 + (780 * (10 - 1) + k) - 780 * 9 : Int) = k by omega, y25]
    · rw [pU_n (by omega)]
      unfold cpG
      rw [if_neg (fun z => by have := z.2.1; omega), y29 _ (by omega) (by omega), show (780 + (780 * j + k) : Int) = 780 * (j + 10 - (10 - 1)) + k by omega]
  · rw [if_neg c10, fin g h0 h29 (by omega)] at x1
    cases x1
    have z6 : pU (cpG g 625 0 629 (780 * g 624 6) 780) 624 6 (g 624 6 + 1) 624 6 = g 624 6 + 1 := by rw [pU_s, u1_s]
    rw [z6, if_neg c10]
    refine ⟨rfl, fun k k0 k1 => ?_, fun j k j0 j1 k0 k1 => ?_⟩
    · rw [pU_n (by omega)]
      unfold cpG
      rw [if_pos ⟨rfl, by omega, by omega⟩, show (0 + (780 * (g 624 6 + 1 - 1) + k) - 780 * g 624 6 : Int) = k by omega]
    · rw [pU_n (by omega)]
      unfold cpG
      rw [if_neg (fun z => by have := z.2.1; omega), show (780 * (j + g 624 6 - (g 624 6 + 1 - 1)) + k : Int) = 780 * j + k by omega]
/-- the state is kept, in both -/
theorem JA_push (h : JA G H) : ∃ G' H', fH_push G 133 1 = some (0, G') ∧ fM_remembers H 624 = some (0, H') ∧ JA G' H' ∧ (∀ x, x < 133 → G' x = G x) ∧ (∀ x, ¬ x = 624 → ¬ x = 629 → H' x = H x) ∧ ∀ k, ¬ k = 6 → H' 624 k = H 624 k := by
  obtain ⟨h1, h2, h3, ⟨r1, r2, r3, r4⟩, h5, h6⟩ := h
  obtain ⟨G', c1, c2, c3, c4, c5⟩ := push_c h1 h3 r3
  obtain ⟨H', m1, m2, m3, m4, m5, m6, m7⟩ := push_m h2
  obtain ⟨v, X, t1, t2, t3⟩ := tH_push (CO_r h1)
  rw [c1] at t1
  cases t1
  have lo : ∀ x, x < 133 → G' x = G x := fun x hx => c5 x (by omega) (by omega)
  have e25 : H' 625 = H 625 := m3 625 (by omega) (by omega)
  refine ⟨G', H', c1, m1, ⟨t2.1, m2, ?_, ⟨?_, ?_, ?_, fun j j0 j1 => ?_⟩, ?_, ?_⟩, lo, m3, m4⟩
  · rw [e25]
    exact QQ_eq h3 (fun x x0 x1 => lo x (by omega))
  · rw [c4, r1, m5]
    by_cases z : H 624 6 = 10
    · rw [if_neg (by omega), if_pos z]; exact z
    · rw [if_pos (by omega), if_neg z, w32_r (by omega)]
  · rw [m5]
    split <;> omega
  · rw [c3]; omega
  · have n1 : 1 ≤ H' 624 6 ∧ H' 624 6 ≤ 10 ∧ (H' 624 6 = H 624 6 + 1 ∨ (H' 624 6 = 10 ∧ H 624 6 = 10)) := by
      rw [m5]
      split <;> omega
    rw [c3]
    by_cases z : j = H' 624 6 - 1
    · have ep : (G 133 2 % 10 + 1 + 10 - H' 624 6 + j) % 10 = G 133 2 % 10 := by omega
      rw [ep]
      refine QQ_ext c2 (by have := WBF_1 h2.2.1; omega) (fun k k0 k1 => ?_)
      show H' 629 (780 * j + k) = _
      rw [z]; exact m6 k k0 k1
    · have hj : 0 ≤ j + H 624 6 - (H' 624 6 - 1) ∧ j + H 624 6 - (H' 624 6 - 1) < H 624 6 := by omega
      have ep : (G 133 2 % 10 + 1 + 10 - H' 624 6 + j) % 10 = (G 133 2 + 10 - H 624 6 + (j + H 624 6 - (H' 624 6 - 1))) % 10 := by omega
      have en : ¬ (G 133 2 % 10 + 1 + 10 - H' 624 6 + j) % 10 = G 133 2 % 10 := by omega
      have old := r4 _ hj.1 hj.2
      rw [← ep] at old
      refine QQ_ext (QQ_eq old (fun x x0 x1 => c5 x (by omega) (by omega))) (by have := WBF_1 (h2.2.2.2.1.2 _ hj.1 hj.2); omega) (fun k k0 k1 => ?_)
      exact m7 j k j0 (by omega) k0 k1
  · exact SV_e h5 (fun x x0 x1 => lo x (by omega)) (by rw [lo 0 (by omega)]) (m4 7 (by omega)) (m3 628 (by omega) (by omega))
  · exact IE_e h6 (fun x x0 x1 => c5 x (by omega) (by omega)) (fun k k0 k1 => m4 k (by omega)) (m3 631 (by omega) (by omega))
theorem MInv_md (h : MInv g) (hd : ∀ i, 0 ≤ i → i < 40 → d i = 0) : MInv (md g d) := by
  obtain ⟨h1, h2, h3, h4, h5, h6, h7⟩ := h
  unfold MInv
  refine ⟨md_MS h1, by rw [md_n (by omega)]; exact h2, fun i i0 i1 => by rw [md_s]; exact hd i i0 i1, ?_⟩
  rw [md_n (show ¬ (624 : Int) = 630 by omega), md_n (show ¬ (629 : Int) = 630 by omega), md_n (show ¬ (628 : Int) = 630 by omega)]
  exact ⟨h4, h5, h6, h7⟩
/-- an act on the tree alone -/
theorem JA_act (h : JA G H) (hF : TF 1 G G') (hQ : QQ 1 G' r d) (hd : ∀ i, 0 ≤ i → i < 40 → d i = 0) (hw : WBF r) : JA G' (sw (md H d) r) := by
  obtain ⟨h1, h2, h3, h4, h5, h6⟩ := h
  have f : ∀ x, ¬ x = 625 → ¬ x = 630 → sw (md H d) r x = H x := fun x x1 x2 => by rw [sw_n x1, md_n x2]
  exact ⟨(CO_IT (CO_r h1) T1 ⟨hQ.2.1, hF⟩).1, MInv_sw (MInv_md h2 hd) hw, by rw [sw_s]; exact QQ_d hQ (fun i i0 i1 => (hd i i0 i1).symm), RG_e h4 (fun x x0 x1 => hF x (by omega)) (by rw [f 624 (by omega) (by omega)]) (f 629 (by omega) (by omega)), SV_e h5 (fun x x0 x1 => hF x (by omega)) (by rw [hF 0 (by omega)]) (by rw [f 624 (by omega) (by omega)]) (f 628 (by omega) (by omega)), IE_e h6 (fun x x0 x1 => hF x (by omega)) (fun k k0 k1 => by rw [f 624 (by omega) (by omega)]) (f 631 (by omega) (by omega))⟩
/-- the class's copy is used -/
theorem JA_45 (h : JA G H) (hF : TF 45 G G') (ti : TI G' 45) : JA G' H := by
  obtain ⟨h1, h2, h3, h4, h5, h6⟩ := h
  exact ⟨(CO_IT (CO_r h1) T45 ⟨ti, hF⟩).1, h2, QQ_eq h3 (fun x x0 x1 => hF x (by omega)), RG_e h4 (fun x x0 x1 => hF x (by omega)) rfl rfl, SV_e h5 (fun x x0 x1 => hF x (by omega)) (by rw [hF 0 (by omega)]) rfl rfl, IE_e h6 (fun x x0 x1 => hF x (by omega)) (fun _ _ _ => rfl) rfl⟩
/-- the reference's row is as before, where it is told -/
theorem JA_row (h : JA G H) (hM : MInv H') (e : ∀ k, 0 ≤ k → k < 780 → H' 625 k = H 625 k) (e9 : H' 629 = H 629) (e8 : H' 628 = H 628) (ei : H' 631 = H 631) (ek : ∀ k, 6 ≤ k → k ≤ 12 → ¬ k = 8 → H' 624 k = H 624 k) : JA G H' := by
  obtain ⟨h1, h2, h3, h4, h5, h6⟩ := h
  exact ⟨h1, hM, QQ_ext h3 (by have := WBF_1 h2.2.1; omega) e, RG_e h4 (fun _ _ _ => rfl) (ek 6 (by omega) (by omega) (by omega)) e9, SV_e h5 (fun _ _ _ => rfl) rfl (ek 7 (by omega) (by omega) (by omega)) e8, IE_e h6 (fun _ _ _ => rfl) (fun k k0 k1 => ek k (by omega) (by omega) (by omega)) ei⟩
end PAR29
