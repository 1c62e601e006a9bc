/-! ===== both readers in step: the order of the rules (own work) ===== -/
theorem msk2 : ∀ m : Fin 32, ∀ y : Fin 5, opI 1 (opI 5 (m.val : Int) (y.val : Int)) 1 = 1 ∨ (∃ j : Fin 32, opI 2 (m.val : Int) (opI 4 1 (y.val : Int)) = (j.val : Int) ∧ pcn j.val = pcn m.val + 1 ∧ ∀ z : Fin 5, (opI 1 (opI 5 (j.val : Int) (z.val : Int)) 1 = 1 ↔ (z = y ∨ opI 1 (opI 5 (m.val : Int) (z.val : Int)) 1 = 1))) := by decide +kernel
theorem pcn_31 : ∀ m : Fin 32, pcn m.val = 5 → ∀ y : Fin 5, opI 1 (opI 5 (m.val : Int) (y.val : Int)) 1 = 1 := by decide +kernel
theorem msk_0 : ∀ y : Fin 5, ¬ opI 1 (opI 5 ((0 : Fin 32).val : Int) (y.val : Int)) 1 = 1 := by decide +kernel
section PAR11
variable {C C' : gH → (Int → Int) → Prop} {g g' G H K A : gH} {r r' : Int → Int} {a b c d e i k l m n p q s t u v w x y z S T : Int}
theorem f5 (h : 0 ≤ y ∧ y < 5) : ∃ f : Fin 5, y = (f.val : Int) := ⟨⟨y.toNat, by omega⟩, by show y = ((y.toNat : Nat) : Int); omega⟩
theorem TQ_k (h : TQ G H) : (G 575 4 = 1 ↔ H 624 18 = 1) ∧ (G 575 4 = 3 ↔ H 624 18 = 3) ∧ (G 575 4 = 0 ↔ H 624 18 = 0) := by
  obtain ⟨-, -, q4, -⟩ := h
  rw [q4]
  by_cases c : H 624 18 = 2 ∧ 2 < H 624 15 - H 624 16
  · rw [if_pos c]; omega
  · rw [if_neg c]; exact ⟨Iff.rfl, Iff.rfl, Iff.rfl⟩
theorem aRule (h : RT C g g' G H) : ∃ y, fS_ruleOfWord G 575 = some y ∧ fM_ruleHere H 624 = some y ∧ (-1 ≤ y ∧ y ≤ 4) ∧ (¬ H 624 18 = 1 → y = -1) := by
  have hc := h.1.1.1
  have hm := h.1.2.1.1
  have tk := h.1.2.1.2.2.2.2.1
  have hb := h.1.2.2.1
  have hq := h.2
  have kz : ∀ (r : Nat) (y : Int), r < 13 → (y = 0 ∨ y = 1) → (y = 1 ↔ WM (H 631) (H 624 16) (H 624 15) r) → (y = 0 ∨ H 624 18 = 1) := by
    intro r y hr hy hw
    rcases hy with hy | hy
    · exact Or.inl hy
    · exact Or.inr (WM_kind hr (hw.mp hy) hq.2.1)
  obtain ⟨y0, s0, m0, b0, w0⟩ := aWord (r := 8) (w := 2000008) (v := 2000021) hc hm tk hb hq (by omega) rfl rfl
  obtain ⟨y1, s1, m1, b1, w1⟩ := aWord (r := 9) (w := 2000009) (v := 2000022) hc hm tk hb hq (by omega) rfl rfl
  obtain ⟨y2, s2, m2, b2, w2⟩ := aWord (r := 10) (w := 2000010) (v := 2000023) hc hm tk hb hq (by omega) rfl rfl
  obtain ⟨y3, s3, m3, b3, w3⟩ := aWord (r := 11) (w := 2000011) (v := 2000024) hc hm tk hb hq (by omega) rfl rfl
  obtain ⟨y4, s4, m4, b4, w4⟩ := aWord (r := 12) (w := 2000012) (v := 2000025) hc hm tk hb hq (by omega) rfl rfl
  have k0 := kz 8 y0 (by omega) b0 w0
  have k1 := kz 9 y1 (by omega) b1 w1
  have k2 := kz 10 y2 (by omega) b2 w2
  have k3 := kz 11 y3 (by omega) b3 w3
  have k4 := kz 12 y4 (by omega) b4 w4
  rw [fS_ruleOfWord, s0, bdP_s, s1, bdP_s, s2, bdP_s, s3, bdP_s, s4, bdP_s, fM_ruleHere, m0, bdP_s, m1, bdP_s, m2, bdP_s, m3, bdP_s, m4, bdP_s]
  by_cases c0 : y0 = 0
  · rw [if_pos c0]
    by_cases c1 : y1 = 0
    · rw [if_pos c1]
      by_cases c2 : y2 = 0
      · rw [if_pos c2]
        by_cases c3 : y3 = 0
        · rw [if_pos c3]
          by_cases c4 : y4 = 0
          · rw [if_pos c4]
            exact ⟨_, rfl, rfl, by omega, fun _ => rfl⟩
          · rw [if_neg c4]
            exact ⟨_, rfl, rfl, by omega, fun _ => by omega⟩
        · rw [if_neg c3]
          exact ⟨_, rfl, rfl, by omega, fun _ => by omega⟩
      · rw [if_neg c2]
        exact ⟨_, rfl, rfl, by omega, fun _ => by omega⟩
    · rw [if_neg c1]
      exact ⟨_, rfl, rfl, by omega, fun _ => by omega⟩
  · rw [if_neg c0]
    exact ⟨_, rfl, rfl, by omega, fun _ => by omega⟩
theorem vT_hasRule (h : TI G T) (hT : isT T) : WP (fun y => (y = 0 ∨ y = 1) ∧ (y = 1 ↔ ∃ i, 0 ≤ i ∧ i < 5 ∧ G (T + 4) i = v)) (fT_hasRule G T v) := by
  have hf := fu_ge
  rw [fT_hasRule, TS_3 h.1, if_pos (kdT4 hT), szT4 hT]
  refine W_loop (W := WP (fun y => (y = 0 ∨ y = 1) ∧ (y = 1 ↔ ∃ i, 0 ≤ i ∧ i < 5 ∧ G (T + 4) i = v))) (fun n (i : Int) => lT_hasRule_11 G v (T + 4) 5 n i) (fun i => (5 - i).toNat) (fun i => (0 ≤ i ∧ i ≤ 5) ∧ ∀ j, 0 ≤ j → j < i → ¬ G (T + 4) j = v) ?_ fu 0 ⟨by omega, fun j j0 j1 => by omega⟩ (by omega)
  intro n i hI ih
  show WP _ (bT_hasRule_11 G v (T + 4) 5 (lT_hasRule_11 G v (T + 4) 5 n) i)
  rw [bT_hasRule_11]
  refine W_ite (fun hi => ?_) (fun hi => WP_i ⟨Or.inl rfl, fun z => absurd z (by omega), fun ⟨j, j0, j1, j2⟩ => absurd j2 (hI.2 j j0 (by omega))⟩)
  rw [if_pos ⟨kdT4 hT, hI.1.1, by rw [szT4 hT]; exact hi⟩, w32_r (by omega)]
  refine W_ite (fun e => WP_i ⟨Or.inr rfl, fun _ => ⟨i, hI.1.1, hi, e⟩, fun _ => rfl⟩) (fun e => ih (i + 1) ⟨by omega, fun j j0 j1 => ?_⟩ (by omega))
  by_cases ej : j = i
  · rw [ej]; exact e
  · exact hI.2 j j0 (by omega)
theorem vT_clearRules (h : TS G T) (hT : isT T) : ∃ H, fT_clearRules G T = some (0, H) ∧ (∀ x, ¬ x = T + 4 → H x = G x) ∧ ∀ i, 0 ≤ i → i < 5 → H (T + 4) i = -1 := by
  have hf := fu_ge
  have key : WN (fun y H => y = 0 ∧ (∀ x, ¬ x = T + 4 → H x = G x) ∧ ∀ i, 0 ≤ i → i < 5 → H (T + 4) i = -1) (lT_clearRules_2 T fu 0 G) := by
    refine W_loop (W := WN (fun y H => y = 0 ∧ (∀ x, ¬ x = T + 4 → H x = G x) ∧ ∀ i, 0 ≤ i → i < 5 → H (T + 4) i = -1)) (fun n (a : Int × gH) => lT_clearRules_2 T n a.1 a.2) (fun a => (5 - a.1).toNat) (fun a => (0 ≤ a.1 ∧ a.1 ≤ 5) ∧ (∀ x, ¬ x = T + 4 → a.2 x = G x) ∧ ∀ i, 0 ≤ i → i < a.1 → a.2 (T + 4) i = -1) ?_ fu (0, G) ⟨by dsimp only; omega, fun _ _ => rfl, fun i i0 i1 => by dsimp only at i1; omega⟩ (by dsimp only; omega)
    rintro n ⟨i, K⟩ ⟨hi, hK, hv⟩ ih
    dsimp only at hi hK hv
    show WN _ (bT_clearRules_2 T (lT_clearRules_2 T n) i K)
    have e3 : K T 3 = T + 4 := by rw [hK T (by omega)]; exact TS_3 h
    rw [bT_clearRules_2]
    refine W_ite (fun h5 => ?_) (fun h5 => WN_i ⟨rfl, hK, fun j j0 j1 => hv j j0 (by omega)⟩)
    rw [e3, if_pos ⟨kdT4 hT, hi.1, by rw [szT4 hT]; exact h5⟩, bnd_s, w32_r (by omega)]
    refine ih (i + 1, pU K (T + 4) i (-1)) ⟨by dsimp only; omega, fun x hx => ?_, fun j j0 j1 => ?_⟩ (by dsimp only; omega)
    · show pU K (T + 4) i (-1) x = G x
      rw [pU_n hx]; exact hK x hx
    · show pU K (T + 4) i (-1) (T + 4) j = -1
      dsimp only at j1
      rw [pU_s]
      by_cases ej : j = i
      · rw [ej, u1_s]
      · rw [u1_n ej]; exact hv j j0 (by omega)
  obtain ⟨y, H, e, rfl, a, b⟩ := key
  exact ⟨H, e, a, b⟩
theorem rr_97 (h : RT (CQ 578) g g' G H) (hk : ¬ H 624 18 = 1) : RR (SE (CQ 578) g g') (jS_takeOrder_97 G 575) (bdN (some (1, H)) mt) := by
  obtain ⟨k1, k3, k0⟩ := TQ_k h.2
  obtain ⟨y, s, -, -, w⟩ := aRule h
  rw [jS_takeOrder_97, bdN_s]
  unfold mt
  rw [if_neg f0]
  by_cases c : H 624 18 = 3
  · rw [if_pos (k3.mpr c), if_pos c]
    exact RR_i (Or.inl ⟨rfl, rfl, h⟩)
  · rw [if_neg (fun z => c (k3.mp z)), if_neg c, s, bdP_s, w hk, if_pos rfl, jS_takeOrder_119, if_pos kd_575]
    exact rr_fail h (by omega) (fun _ => if_pos rfl) (fun _ => rfl) SE_e
/-- the mask says which rules stand -/
def MK (j : Fin 32) (M : gH) : Prop := ∀ z : Fin 5, (opI 1 (opI 5 (j.val : Int) (z.val : Int)) 1 = 1 ↔ ∃ i, 0 ≤ i ∧ i < (pcn j.val : Int) ∧ M 625 (6 + i) = (z.val : Int))
theorem rr_ordl : ∀ (m n1 n2 : Nat) (j : Fin 32) (K M : gH), RT (CQ 578) g g' K M → M 625 5 = (pcn j.val : Int) → MK j M → 5 - pcn j.val = m → m < n1 → m < n2 → RR (SE (CQ 578) g g') (lS_takeOrder_31 575 n1 (pcn j.val : Int) K) (bdN (lM_readOrder_19 624 n2 (j.val : Int) M) mt) := by
  intro m
  induction m with
  | zero =>
    intro n1 n2 j K M h h5 hm hj hn1 hn2
    obtain ⟨n1, rfl⟩ : ∃ k, n1 = k + 1 := ⟨n1 - 1, by omega⟩
    obtain ⟨n2, rfl⟩ : ∃ k, n2 = k + 1 := ⟨n2 - 1, by omega⟩
    have p5 := pcn_5 j
    show RR _ (bS_takeOrder_31 575 (lS_takeOrder_31 575 n1) (pcn j.val : Int) K) (bdN (bM_readOrder_19 624 (lM_readOrder_19 624 n2) (j.val : Int) M) mt)
    rw [bS_takeOrder_31, bM_readOrder_19, if_neg (show ¬ (pcn j.val : Int) < 5 by omega)]
    by_cases c1 : M 624 18 = 1
    · obtain ⟨k1, k3, k0⟩ := TQ_k h.2
      obtain ⟨y, es, em, b, -⟩ := aRule h
      rw [if_pos c1, em, bdP_s, jS_takeOrder_97, if_neg (fun z => by have := k3.mp z; omega), es, bdP_s]
      by_cases c2 : y = -1
      · rw [if_pos c2, if_pos c2, jS_takeOrder_119, if_pos kd_575]
        exact rr_failm h (by omega) (fun _ => if_pos rfl)
      · obtain ⟨f, rfl⟩ := f5 (y := y) (by omega)
        rw [if_neg c2, if_neg c2, if_pos (pcn_31 j (by omega) f), jS_takeOrder_119, if_pos kd_575]
        exact rr_failm h (by omega) (fun _ => if_pos rfl)
    · rw [if_neg c1]
      exact rr_97 h c1
  | succ m ih =>
    intro n1 n2 j K M h h5 hm hj hn1 hn2
    obtain ⟨n1, rfl⟩ : ∃ k, n1 = k + 1 := ⟨n1 - 1, by omega⟩
    obtain ⟨n2, rfl⟩ : ∃ k, n2 = k + 1 := ⟨n2 - 1, by omega⟩
    obtain ⟨k1, k3, k0⟩ := TQ_k h.2
    show RR _ (bS_takeOrder_31 575 (lS_takeOrder_31 575 n1) (pcn j.val : Int) K) (bdN (bM_readOrder_19 624 (lM_readOrder_19 624 n2) (j.val : Int) M) mt)
    rw [bS_takeOrder_31, bM_readOrder_19, if_pos (show (pcn j.val : Int) < 5 by omega)]
    by_cases c1 : M 624 18 = 1
    · obtain ⟨y, es, em, b, -⟩ := aRule h
      rw [if_pos c1, em, bdP_s, if_pos (k1.mpr c1), es, bdP_s]
      by_cases c2 : y = -1
      · rw [if_pos c2, if_pos c2]
        exact rr_failm h (by omega) (fun _ => rfl)
      · obtain ⟨f, rfl⟩ := f5 (y := y) (by omega)
        have hI := h.1.1
        have hD := h.1.2.1
        have ht := CR_T hI.1 T578
        have hcp := h.1.2.2.2.1.2
        obtain ⟨⟨p1, p2, p3, p4, p5, p6⟩, q2, q3, -⟩ := hcp
        obtain ⟨u, eu, u1_, u2⟩ := vT_hasRule (v := (f.val : Int)) ht T578
        have hu : u = 1 ↔ opI 1 (opI 5 (j.val : Int) (f.val : Int)) 1 = 1 := by
          rw [u2, hm f]
          constructor
          · rintro ⟨i, i0, i1, i2⟩
            rw [q2 i i0 i1] at i2
            by_cases ci : i < M 625 5
            · rw [if_pos ci] at i2
              exact ⟨i, i0, by omega, i2⟩
            · rw [if_neg ci] at i2
              exact absurd i2.symm c2
          · rintro ⟨i, i0, i1, i2⟩
            refine ⟨i, i0, by omega, ?_⟩
            rw [q2 i i0 (by omega), if_pos (by omega)]
            exact i2
        rw [if_neg c2, if_neg c2, if_pos (kd578 hI.1), r578 hI.1, eu, bdP_s]
        by_cases c3 : opI 1 (opI 5 (j.val : Int) (f.val : Int)) 1 = 1
        · rw [if_pos c3, if_neg (show ¬ u = 0 by have := hu.mpr c3; omega)]
          exact rr_failm h (by omega) (fun _ => rfl)
        · have u0 : u = 0 := by
            rcases u1_ with u1_ | u1_
            · exact u1_
            · exact absurd (hu.mp u1_) c3
          rcases msk2 j f with e1 | ⟨i, e1, e2, e3⟩
          · exact absurd e1 c3
          have pi := pcn_5 i
          rw [if_neg c3, if_pos u0, TS_3 ht.1, if_pos (show kd (578 + 4) = 20 ∧ (0 : Int) ≤ (pcn j.val : Int) ∧ (pcn j.val : Int) < sz (578 + 4) by rw [szT4 T578]; exact ⟨kdT4 T578, by omega, by omega⟩), bnd_s, m0_ h.1, h5, w32_r (show -2147483648 ≤ (6 : Int) + (pcn j.val : Int) ∧ (6 : Int) + (pcn j.val : Int) < 2147483648 by omega), w32_r (show -2147483648 ≤ (pcn j.val : Int) + 1 ∧ (pcn j.val : Int) + 1 < 2147483648 by omega)]
          refine RR_gm (g625 (by omega)) (RR_gm (g625 (by omega)) ?_)
          rw [bnd_s]
          have r1 := RD_row (k := 6 + (pcn j.val : Int)) (v := (f.val : Int)) hD (WBF_6 hD.1.2.1 (by omega)) (by omega) (by omega)
          have q5 : pU M 625 (6 + (pcn j.val : Int)) (f.val : Int) 625 = u1 (M 625) (6 + (pcn j.val : Int)) (f.val : Int) := pU_s
          have qx : ∀ x, ¬ x = 625 → pU M 625 (6 + (pcn j.val : Int)) (f.val : Int) x = M x := fun x hx => pU_n hx
          generalize pU M 625 (6 + (pcn j.val : Int)) (f.val : Int) = Q at *
          have q55 : Q 625 5 = (pcn j.val : Int) := by rw [q5, u1_n (by omega)]; exact h5
          have hQ0 : Q 624 0 = 625 := r1.1.1.1
          rw [hQ0, q55, w32_r (show -2147483648 ≤ (pcn j.val : Int) + 1 ∧ (pcn j.val : Int) + 1 < 2147483648 by omega)]
          refine RR_gm (g625 (by omega)) (RR_gm (g625 (by omega)) ?_)
          rw [bnd_s]
          have r2 := RD_row (k := 5) (v := (pcn j.val : Int) + 1) r1 (WBF_5 r1.1.2.1 (by omega)) (by omega) (by omega)
          have s5 : pU Q 625 5 ((pcn j.val : Int) + 1) 625 = u1 (u1 (M 625) (6 + (pcn j.val : Int)) (f.val : Int)) 5 ((pcn j.val : Int) + 1) := by rw [pU_s, q5]
          have sx : ∀ x, ¬ x = 625 → pU Q 625 5 ((pcn j.val : Int) + 1) x = M x := fun x hx => by rw [pU_n hx]; exact qx x hx
          generalize pU Q 625 5 ((pcn j.val : Int) + 1) = N at *
          have hT : RT (CQ 578) g g' (pU K (578 + 4) (pcn j.val : Int) (f.val : Int)) N := by
            refine RT_up h CF_CQ (RI_w hI (by omega)) (fun x hx => pU_n (by omega)) r2 sx ?_
            rw [s5]
            refine CQ_hd h.1.2.2.2.1.2 (RL_M h.1) (RL_1 h.1) (fun k hk => by rw [u1_n (by omega), u1_n (by omega)]) (fun x x0 x1 _ x3 => pU_n x3) ?_ (fun x x0 x1 => ?_) (fun d d0 d1 => ?_) (fun x x0 x1 x2 => ?_)
            · rw [pU_n (by omega)]
              simp (disch := omega) only [u1_n]
              exact ⟨p1, p2, p3, p4, p5, p6⟩
            · rw [pU_s, u1_s, u1_n (show ¬ 6 + x = 5 by omega)]
              by_cases ex : x = (pcn j.val : Int)
              · rw [ex, u1_s, u1_s, if_pos (by omega)]
              · rw [u1_n ex, u1_n (by omega), q2 x x0 x1, h5]
                by_cases cx : x < (pcn j.val : Int)
                · rw [if_pos cx, if_pos (by omega)]
                · rw [if_neg cx, if_neg (by omega)]
            · rw [pU_n (by omega), u1_n (by omega), u1_n (by omega)]
              exact q3 d d0 d1
            · rw [u1_s] at x2
              rw [u1_n (show ¬ 6 + x = 5 by omega)]
              by_cases ex : x = (pcn j.val : Int)
              · rw [ex, u1_s]; omega
              · rw [u1_n (by omega)]
                exact h.1.2.2.2.1.2.2.2.2.2.2.2.1 x x0 x1 (by omega)
          obtain ⟨y2, L, eL, hL, fL⟩ := rt_model hT
          rw [eL, bdN_s, e1]
          refine RR_l (ra_class hL) (fun _ K2 hK2 => ?_)
          have e25 : L 625 = u1 (u1 (M 625) (6 + (pcn j.val : Int)) (f.val : Int)) 5 ((pcn j.val : Int) + 1) := by rw [fL.1 625 (by omega), s5]
          have ep : (pcn j.val : Int) + 1 = (pcn i.val : Int) := by omega
          rw [ep]
          refine ih n1 n2 i K2 L hK2.1 (by rw [e25, u1_s]; exact ep) (fun z => ?_) (by omega) (by omega) (by omega)
          rw [e3 z, hm z, e25]
          constructor
          · rintro (rfl | ⟨x, x0, x1, x2⟩)
            · exact ⟨(pcn j.val : Int), by omega, by omega, by rw [u1_n (by omega), u1_s]⟩
            · exact ⟨x, x0, by omega, by rw [u1_n (by omega), u1_n (by omega)]; exact x2⟩
          · rintro ⟨x, x0, x1, x2⟩
            rw [u1_n (by omega)] at x2
            by_cases ex : x = (pcn j.val : Int)
            · rw [ex, u1_s] at x2
              exact Or.inl (Fin.ext (Int.ofNat.inj x2.symm))
            · rw [u1_n (by omega)] at x2
              exact Or.inr ⟨x, x0, by omega, x2⟩
    · rw [if_neg c1, if_neg (fun z => c1 (k1.mp z))]
      exact rr_97 h c1
theorem rr_order (h : RT (CQ 578) g g' G H) : RR (SE (CQ 578) g g') (fS_takeOrder G 575) (bdN (fM_readOrder H 624) mt) := by
  have hf := fu_ge
  rw [fS_takeOrder, fM_readOrder, bdN_mt]
  refine rr_once h (Or.inl ⟨rfl, rfl⟩) SE_e (fun L hL eL => ?_)
  have hI := hL.1.1
  have hD := hL.1.2.1
  have ht := CR_T hI.1 T578
  obtain ⟨A, eA, a1, a2⟩ := vT_clearRules ht.1 T578
  rw [if_pos (kd578 hI.1), r578 hI.1, eA, bdN_s, m0_ hL.1]
  refine RR_gm (g625 (by omega)) ?_
  rw [bnd_s]
  obtain ⟨⟨p1, p2, p3, p4, p5, p6⟩, q2, q3, -⟩ := hL.1.2.2.2.1.2
  have s5 : pU L 625 5 0 625 = u1 (L 625) 5 0 := pU_s
  have hN : RA (CQ 578) g g' A (pU L 625 5 0) := by
    refine RA_up hL CF_CQ (RI_IT hI (IT_e4 ht a1)) (fun x hx => a1 x (by omega)) (RD_row hD (WBF_5 hD.1.2.1 (by omega)) (by omega) (by omega)) (fun x hx => pU_n hx) ?_
    rw [s5]
    refine CQ_hd hL.1.2.2.2.1.2 (RL_M hL.1) (RL_1 hL.1) (fun k hk => by rw [u1_n (by omega)]) (fun x x0 x1 _ x3 => a1 x x3) ?_ (fun x x0 x1 => ?_) (fun d d0 d1 => ?_) (fun x x0 x1 x2 => by rw [u1_s] at x2; omega)
    · rw [a1 578 (by omega)]
      simp (disch := omega) only [u1_n]
      exact ⟨p1, p2, p3, p4, p5, p6⟩
    · rw [a2 x x0 x1, u1_s, if_neg (by omega)]
    · rw [a1 _ (by omega), u1_n (by omega)]
      exact q3 d d0 d1
  refine RR_l (ra_class hN) (fun _ K hK => ?_)
  exact rr_ordl 5 fu fu 0 K (pU L 625 5 0) hK.1 (by rw [s5, u1_s]; rfl) (fun z => ⟨fun x => absurd x (msk_0 z), fun ⟨i, i0, i1, _⟩ => absurd i1 (by
    have : (pcn (0 : Fin 32).val : Int) = 0 := rfl
    omega)⟩) rfl (by omega) (by omega)
end PAR11
