/-! ===== the answer to a question, in both (own work) ===== -/
section PAR43
variable {g g' G G' H H' K : gH} {r r' dm : Int → Int} {a b c d e i j k l m n o p q s t u v w x y z S T gp code : Int}
theorem qT_zof (h : QQ S G r dm) (hp : 0 ≤ p ∧ p < r 0) : fT_countZombiesOf G S (pc S p) = some (kids r p 1) := by
  have hb := QQ_b h
  have hfu := fu_ge
  have l : lT_countZombiesOf_14 G (pc S p) (S + 2) 40 fu 0 0 = some (0 + cn (fun k => decide (k < r 0) && ic r k p 1) 40 0) := cnt_loop (L := fun n k x => lT_countZombiesOf_14 G (pc S p) (S + 2) 40 n x k) (E := some) (fun k => decide (k < r 0) && ic r k p 1) 40 0 (by omega) (fun n k x h1 h2 h3 h4 => by
    show bT_countZombiesOf_14 G (pc S p) (S + 2) 40 (lT_countZombiesOf_14 G (pc S p) (S + 2) 40 n) x k = _
    rw [bT_countZombiesOf_14, if_pos h2, if_pos ⟨kdT2 h.1, h1, by rw [szT2 h.1]; omega⟩, TS_p h.2.1.1 (by omega), if_pos (kdp h.1 (by omega)), qP_zombie h (by omega) (by omega), bdP_s, w32_r (x := k + 1) (by omega), w32_r (x := x + 1) (by omega)]
    by_cases c1 : k < r 0 ∧ ic r k p 1 = true
    · rw [if_pos c1, if_neg f0, decide_eq_true c1.1, Bool.true_and, if_pos c1.2]
    · rw [if_neg c1, if_pos rfl, if_neg (fun z => by
        rw [Bool.and_eq_true] at z
        exact c1 ⟨of_decide_eq_true z.1, z.2⟩), Int.add_zero]) (fun n k x h1 h2 => by
    show bT_countZombiesOf_14 G (pc S p) (S + 2) 40 (lT_countZombiesOf_14 G (pc S p) (S + 2) 40 n) x k = _
    rw [bT_countZombiesOf_14, if_neg h2]) 40 0 0 fu (by omega) (by omega) (by omega) (by omega) (by omega)
  rw [fT_countZombiesOf, TS_1 h.2.1.1, if_pos (kdT2 h.1), szT2 h.1, l, Int.zero_add, cn_cut (Q := fun k => ic r k p 1) (M := r 0) (by omega) (fun k k0 k1 => by rw [decide_eq_true k1, Bool.true_and]) (fun k k0 k1 => by rw [decide_eq_false (by omega), Bool.false_and])]
  rfl
/-- the duties that it leaves by wills -/
theorem lk_wills (hs : MS H) (h : QQ S G r dm) (hp : 0 ≤ p ∧ p < r 0) : ∃ v, fP_willMask G (pc S p) = some v ∧ fM_willsOf (sw H r) 624 p = some v := by
  have hb := QQ_b h
  have hfu := fu_ge
  have key : ∀ (m n1 n2 : Nat) (d v : Int), (8 - d).toNat = m → m < n1 → m < n2 → 0 ≤ d → InR v → ∃ w, lP_willMask_4 G (pc S p) n1 v d = some w ∧ lM_willsOf_4 (sw H r) 624 p n2 v d = some w := by
    intro m
    induction m with
    | zero =>
      intro n1 n2 d v hm hn1 hn2 d0 hv
      obtain ⟨n1, rfl⟩ : ∃ k, n1 = k + 1 := ⟨n1 - 1, by omega⟩
      obtain ⟨n2, rfl⟩ : ∃ k, n2 = k + 1 := ⟨n2 - 1, by omega⟩
      refine ⟨v, ?_, ?_⟩
      · show bP_willMask_4 G (pc S p) (lP_willMask_4 G (pc S p) n1) v d = _
        rw [bP_willMask_4, if_neg (by omega)]
      · show bM_willsOf_4 (sw H r) 624 p (lM_willsOf_4 (sw H r) 624 p n2) v d = _
        rw [bM_willsOf_4, if_neg (by omega)]
    | succ m ih =>
      intro n1 n2 d v hm hn1 hn2 d0 hv
      obtain ⟨n1, rfl⟩ : ∃ k, n1 = k + 1 := ⟨n1 - 1, by omega⟩
      obtain ⟨n2, rfl⟩ : ∃ k, n2 = k + 1 := ⟨n2 - 1, by omega⟩
      have ew : fP_willFor G (pc S p) d = some (r (460 + 8 * p + d)) := congrArg some ((QQ_pe h (i := p) (by omega)).2.1 d d0 (by omega))
      have e8 : opI 0 8 p = 8 * p := by rw [opI_mul, w32_r (by omega)]
      show ∃ w, bP_willMask_4 G (pc S p) (lP_willMask_4 G (pc S p) n1) v d = _ ∧ bM_willsOf_4 (sw H r) 624 p (lM_willsOf_4 (sw H r) 624 p n2) v d = _
      rw [bP_willMask_4, bM_willsOf_4, if_pos (show d < 8 by omega), ew, bdP_s, w32_r (x := d + 1) (by omega), if_pos (show d < 8 by omega), e8, w32_r (x := 460 + 8 * p) (by omega), w32_r (x := 460 + 8 * p + d) (by omega), if_pos (gd25 hs (by omega)), m0s hs, sw_s, or_0 hv]
      by_cases c : r (460 + 8 * p + d) = -1
      · rw [if_pos c, if_pos c]
        exact ih n1 n2 (d + 1) v (by omega) (by omega) (by omega) (by omega) hv
      · rw [if_neg c, if_neg c]
        exact ih n1 n2 (d + 1) _ (by omega) (by omega) (by omega) (by omega) (inR_opI _ _ _)
  obtain ⟨w, e1, e2⟩ := key 8 fu fu 0 0 (by omega) (by omega) (by omega) (by omega) inR_0
  exact ⟨w, e1, e2⟩
theorem jq_process (h : JA G H) : JQ tp G (fC_process G 0 p a) (fM_process H 624 p a) := by
  have q := jaQ h
  have hb := jaM h
  have o1 := JA_th (t := 0) h
  have e25 : th H 0 625 = H 625 := th_n (by omega)
  have h01 : th H 0 624 0 = 625 := o1.2.1.1.1
  rw [fC_process, fM_process, vM_noProcess h.2.1]
  by_cases hp : 0 ≤ p ∧ p < H 625 0
  · have k3 : kd (pc 1 p) = 3 := kdp T1 (by omega)
    have pe := QQ_pe q hp
    rw [if_pos hp, if_pos hp, bdN_s, if_pos rfl, vM_inRange, bdP_s, jn_y h hp, bdQ_0]
    by_cases ha : 0 ≤ a ∧ a ≤ 14
    · rw [if_pos ha, if_neg f0, jM_process_24, if_pos kd_c624, fl0, bdN_s, if_pos rfl, h01, e25]
      have hv : a = 0 ∨ a = 1 ∨ a = 2 ∨ a = 3 ∨ a = 4 ∨ a = 5 ∨ a = 6 ∨ a = 7 ∨ a = 8 ∨ a = 9 ∨ a = 10 ∨ a = 11 ∨ a = 12 ∨ a = 13 ∨ a = 14 := by omega
      rcases hv with rfl | rfl | rfl | rfl | rfl | rfl | rfl | rfl | rfl | rfl | rfl | rfl | rfl | rfl | rfl
      · simp only [Int.reduceEq, ↓reduceIte]
        rw [if_pos k3, w32_r (x := 60 + p) (by omega), if_pos (g625 (by omega))]
        by_cases p0 : p = 0
        · have t0_ := QQ_top q
          rw [← p0] at t0_
          rw [t0_, fC_numberOf, if_pos (by omega), bdP_s, show H 625 (60 + p) = -1 by rw [p0]; exact q.2.2.2.2.2.2]
          exact JQ_i o1 th8
        · have hu := QQ_rg q (i := p) (by omega)
          rw [QQ_up q (by omega), fC_numberOf, if_neg (pc_pos T1 (by omega)), if_pos (kdp T1 (by omega)), TS_n q.2.1.1 (by omega), bdP_s]
          exact JQ_i o1 th8
      · simp only [Int.reduceEq, ↓reduceIte]
        rw [if_pos k3, pe.1.2.1, w32_r (x := 100 + p) (by omega), if_pos (g625 (by omega))]
        exact JQ_i o1 th8
      · simp only [Int.reduceEq, ↓reduceIte]
        have ro := vM_roomOf (g := th H 0) (p := p) o1.2.1.1 o1.2.1.2.1.1 (by rw [e25]; exact hp)
        rw [e25] at ro
        rw [if_pos k3, qP_room q hp, bdP_s, ro, bdP_s]
        exact JQ_i o1 th8
      · simp only [Int.reduceEq, ↓reduceIte]
        have kc := vM_childrenOf (g := th H 0) (a := p) (st := 0) o1.2.1.1 (by rw [e25]; exact hb)
        rw [e25] at kc
        rw [if_pos k3, pe.2.2.1, kc, bdP_s]
        exact JQ_i o1 th8
      · simp only [Int.reduceEq, ↓reduceIte]
        have kc := vM_childrenOf (g := th H 0) (a := p) (st := 1) o1.2.1.1 (by rw [e25]; exact hb)
        rw [e25] at kc
        rw [ja0 h, if_pos (kdT T1), qT_zof q hp, bdP_s, kc, bdP_s]
        exact JQ_i o1 th8
      · simp only [Int.reduceEq, ↓reduceIte]
        rw [if_pos k3, pe.1.1, w32_r (x := 140 + p) (by omega), if_pos (g625 (by omega))]
        exact JQ_i o1 th8
      · simp only [Int.reduceEq, ↓reduceIte]
        rw [if_pos k3, pe.1.2.2.1, w32_r (x := 180 + p) (by omega), if_pos (g625 (by omega))]
        exact JQ_i o1 th8
      · simp only [Int.reduceEq, ↓reduceIte]
        rw [if_pos k3, pe.1.2.2.2.1, w32_r (x := 220 + p) (by omega), if_pos (g625 (by omega))]
        exact JQ_i o1 th8
      · simp only [Int.reduceEq, ↓reduceIte]
        rw [if_pos k3, pe.1.2.2.2.2.1, w32_r (x := 260 + p) (by omega), if_pos (g625 (by omega))]
        exact JQ_i o1 th8
      · simp only [Int.reduceEq, ↓reduceIte]
        obtain ⟨v, d1, d2, -⟩ := lk_duties (p := p) o1.2.1.1 (jaQ o1) (by rw [e25]; exact hp)
        rw [sw_id] at d2
        rw [ja0 h, if_pos (kdT T1), d1, bdP_s, d2, bdP_s]
        exact JQ_i o1 th8
      · simp only [Int.reduceEq, ↓reduceIte]
        rw [if_pos k3, pe.1.2.2.2.2.2.2.1, w32_r (x := 300 + p) (by omega), if_pos (g625 (by omega))]
        exact JQ_i o1 th8
      · simp only [Int.reduceEq, ↓reduceIte]
        rw [if_pos k3, pe.1.2.2.2.2.2.1, w32_r (x := 340 + p) (by omega), if_pos (g625 (by omega))]
        exact JQ_i o1 th8
      · simp only [Int.reduceEq, ↓reduceIte]
        rw [if_pos k3, pe.1.2.2.2.2.2.2.2.1, w32_r (x := 380 + p) (by omega), if_pos (g625 (by omega))]
        exact JQ_i o1 th8
      · simp only [Int.reduceEq, ↓reduceIte]
        rw [if_pos k3, pe.1.2.2.2.2.2.2.2.2, w32_r (x := 420 + p) (by omega), if_pos (g625 (by omega))]
        exact JQ_i o1 th8
      · simp only [Int.reduceEq, ↓reduceIte]
        obtain ⟨v, d1, d2⟩ := lk_wills (p := p) o1.2.1.1 (jaQ o1) (by rw [e25]; exact hp)
        rw [sw_id] at d2
        rw [if_pos k3, d1, bdP_s, d2, bdP_s]
        exact JQ_i o1 th8
    · rw [if_neg ha, if_pos rfl, jM_process_24, if_pos kd_c624, fl1, bdN_s, if_neg f0, if_neg (show ¬ a = 0 by omega), if_neg (show ¬ a = 1 by omega), if_neg (show ¬ a = 2 by omega), if_neg (show ¬ a = 3 by omega), if_neg (show ¬ a = 4 by omega), if_neg (show ¬ a = 5 by omega), if_neg (show ¬ a = 6 by omega), if_neg (show ¬ a = 7 by omega), if_neg (show ¬ a = 8 by omega), if_neg (show ¬ a = 9 by omega), if_neg (show ¬ a = 10 by omega), if_neg (show ¬ a = 11 by omega), if_neg (show ¬ a = 12 by omega), if_neg (show ¬ a = 13 by omega), if_neg (show ¬ a = 14 by omega)]
      exact JQ_e (k := 0) (JA_th o1) (th8.trans rfl) (by decide)
  · rw [if_neg hp, if_neg hp, bdN_s, if_neg f0, jn_n h hp, qe3]
    exact JQ_e (JA_th h) (th8.trans rfl) (by decide)
end PAR43
