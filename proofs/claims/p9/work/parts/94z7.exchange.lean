/-! ===== exchanging two, in both (own work) ===== -/
section PAR34
variable {g g' G G' H H' K : gH} {r r' d d' dm f : Int → Int} {a b c e i j k l m n o p q s t u v w x y z S T gp code : Int}
theorem Bl_n (hx : en f 40 x = true) (h0 : x ≠ 0) (hc : x ≠ c) : Bl f c x = Bl f c (f x) := by
  unfold Bl
  rw [decide_eq_false hc, Bool.false_or, OV_s hx h0]
  by_cases z : f x = c
  · rw [if_pos z, decide_eq_true z, Bool.true_or]
  · rw [if_neg z, decide_eq_false z, Bool.false_or]
theorem Bl_z (hc : c ≠ 0) : Bl f c 0 = false := by
  unfold Bl
  rw [decide_eq_false (fun z => hc z.symm), OV_0]
  rfl
/-- the depths behind an exchange -/
theorem xc_dp (hA : Acy f m) (hcl : ∀ i, 0 < i → i < m → 0 ≤ f i ∧ f i < m) (hp : 0 < p ∧ p < m) (hq : 0 < q ∧ q < m) (hpq : p ≠ q) (o1 : OV f p q = false) (o2 : OV f q p = false) (hA' : Acy (u1 (u1 f p (f q)) q (f p)) m) : ∀ (n : Nat) (x : Int), en (u1 (u1 f p (f q)) q (f p)) n x = true → 0 ≤ x → x < m → DP (u1 (u1 f p (f q)) q (f p)) x = DP f x + (if Bl f p x = true then DP f q - DP f p else if Bl f q x = true then DP f p - DP f q else 0) := by
  have ep := hA p (by omega) hp.2
  have eq := hA q (by omega) hq.2
  have cp := hcl p hp.1 hp.2
  have cq := hcl q hq.1 hq.2
  have b1 : Bl f p q = false := by unfold Bl; rw [o1, decide_eq_false (fun z => hpq z.symm)]; rfl
  have b2 : Bl f q p = false := by unfold Bl; rw [o2, decide_eq_false hpq]; rfl
  have b3 : Bl f p p = true := Bl_i
  have b4 : Bl f q q = true := Bl_i
  -- the supervisors stand below neither
  have s1 : Bl f p (f q) = false := by rw [← Bl_n eq (by omega) (fun z => hpq z.symm)]; exact b1
  have s2 : Bl f q (f p) = false := by rw [← Bl_n ep (by omega) hpq]; exact b2
  have dpp := DP_s ep (by omega)
  have dpq := DP_s eq (by omega)
  have s3 : Bl f p (f p) = false := by
    cases hb : Bl f p (f p) with
    | false => rfl
    | true =>
      rcases Bl_or hb with z | z
      · rw [z] at dpp; omega
      · have := OV_dp (hA _ cp.1 cp.2) z; omega
  have s4 : Bl f q (f q) = false := by
    cases hb : Bl f q (f q) with
    | false => rfl
    | true =>
      rcases Bl_or hb with z | z
      · rw [z] at dpq; omega
      · have := OV_dp (hA _ cq.1 cq.2) z; omega
  have zero : DP (u1 (u1 f p (f q)) q (f p)) 0 = DP f 0 + (if Bl f p 0 = true then DP f q - DP f p else if Bl f q 0 = true then DP f p - DP f q else 0) := by
    rw [Bl_z (by omega), Bl_z (by omega), DP_0, DP_0]
    rfl
  intro n
  induction n with
  | zero =>
    intro x hx x0 x1
    have e : x = 0 := by simpa [en] using hx
    rw [e]; exact zero
  | succ n ih =>
    intro x hx x0 x1
    by_cases hz : x = 0
    · rw [hz]; exact zero
    · have hx40 := hA' x x0 x1
      have hup : en (u1 (u1 f p (f q)) q (f p)) n (u1 (u1 f p (f q)) q (f p) x) = true := by
        rcases en_s.mp hx with z | ⟨-, -, z⟩
        · exact absurd z hz
        · exact z
      rw [DP_s hx40 hz]
      by_cases hxq : x = q
      · have ef : u1 (u1 f p (f q)) q (f p) x = f p := by rw [hxq, u1_s]
        rw [ef] at hup ⊢
        rw [ih (f p) hup cp.1 cp.2, s3, s2, hxq, b1, b4]
        simp only [Bool.false_eq_true, if_false, if_true]
        omega
      · by_cases hxp : x = p
        · have ef : u1 (u1 f p (f q)) q (f p) x = f q := by rw [u1_n hxq, hxp, u1_s]
          rw [ef] at hup ⊢
          rw [ih (f q) hup cq.1 cq.2, s1, s4, hxp, b3]
          simp only [Bool.false_eq_true, if_false, if_true]
          omega
        · have ef : u1 (u1 f p (f q)) q (f p) x = f x := by rw [u1_n hxq, u1_n hxp]
          have cx := hcl x (by omega) x1
          rw [ef] at hup ⊢
          rw [ih (f x) hup cx.1 cx.2, Bl_n (hA x x0 x1) hz hxp, Bl_n (hA x x0 x1) hz hxq, DP_s (hA x x0 x1) hz]
          omega
/-- who stands below both has one of them below the other -/
theorem xc_both (hA : Acy f m) (hp : 0 < p ∧ p < m) (hq : 0 < q ∧ q < m) (b1 : Bl f p q = false) (b2 : Bl f q p = false) : ∀ (n : Nat) (x : Int), en f n x = true → en f 40 x = true → Bl f p x = true → Bl f q x = true → False := by
  intro n
  induction n with
  | zero =>
    intro x hx hx4 y1 y2
    have e : x = 0 := by simpa [en] using hx
    rw [e, Bl_z (by omega)] at y1
    cases y1
  | succ n ih =>
    intro x hx hx4 y1 y2
    by_cases hz : x = 0
    · rw [hz, Bl_z (by omega)] at y1
      cases y1
    · have hup : en f n (f x) = true := by
        rcases en_s.mp hx with z | ⟨-, -, z⟩
        · exact absurd z hz
        · exact z
      by_cases hxp : x = p
      · rw [hxp, b2] at y2; cases y2
      · by_cases hxq : x = q
        · rw [hxq, b1] at y1; cases y1
        · rw [Bl_n hx4 hz hxp] at y1
          rw [Bl_n hx4 hz hxq] at y2
          exact ih (f x) hup (en_40 hup) y1 y2
/-- counting two kinds that never meet -/
theorem cn_or {P Q R : Int → Bool} : ∀ (m : Nat) (k : Int), (∀ j, k ≤ j → j < k + m → R j = (P j || Q j) ∧ ¬ (P j = true ∧ Q j = true)) → cn R m k = cn P m k + cn Q m k := by
  intro m
  induction m with
  | zero => intro k _; rfl
  | succ m ih =>
    intro k h
    obtain ⟨h1, h2⟩ := h k (by omega) (by omega)
    rw [cn_s, cn_s, cn_s, ih (k + 1) (fun j j0 j1 => h j (by omega) (by omega)), h1]
    cases hP : P k with
    | false =>
      cases hQ : Q k with
      | false => simp
      | true => simp; omega
    | true =>
      cases hQ : Q k with
      | false => simp; omega
      | true => exact absurd ⟨hP, hQ⟩ h2
/-- how many below -/
theorem qT_below (h : QQ S G r d) (hp : 0 ≤ p ∧ p < r 0) (ha : ¬ a = 3) : fT_countBelow G S (pc S p) a = some (cn (fun k => decide (r (140 + k) = a) && OV (up r) p k) (r 0).toNat 0) := by
  have hb := QQ_b h
  have hfu := fu_ge
  have l : lT_countBelow_16 G (pc S p) a (S + 2) 40 fu 0 0 = some (0 + cn (fun k => decide (k < r 0) && (decide (r (140 + k) = a) && OV (up r) p k)) 40 0) := cnt_loop (L := fun n k x => lT_countBelow_16 G (pc S p) a (S + 2) 40 n x k) (E := some) (fun k => decide (k < r 0) && (decide (r (140 + k) = a) && OV (up r) p k)) 40 0 (by omega) (fun n k x h1 h2 h3 h4 => by
    show bT_countBelow_16 G (pc S p) a (S + 2) 40 (lT_countBelow_16 G (pc S p) a (S + 2) 40 n) x k = _
    rw [bT_countBelow_16, if_pos h2, if_pos ⟨kdT2 h.1, h1, by rw [szT2 h.1]; omega⟩, TS_p h.2.1.1 (by omega), if_pos (kdp h.1 (by omega)), if_pos (kdp h.1 (i := p) (by omega)), w32_r (x := k + 1) (by omega), w32_r (x := x + 1) (by omega)]
    by_cases c1 : k < r 0
    · rw [QQ_st h ⟨h1, c1⟩, qP_over h hp.1 ⟨h1, c1⟩, bdP_s, decide_eq_true c1, Bool.true_and]
      by_cases c2 : r (140 + k) = a
      · rw [if_pos c2, decide_eq_true c2, Bool.true_and]
        by_cases c3 : OV (up r) p k = true
        · rw [if_pos c3, if_neg f0]
        · rw [if_neg c3, if_pos rfl, Int.add_zero]
      · rw [if_neg c2, decide_eq_false c2, Bool.false_and, if_neg (by decide), Int.add_zero]
    · rw [QQ_out h (by omega), if_neg (fun z => ha z.symm), decide_eq_false c1, Bool.false_and, if_neg (by decide), Int.add_zero]) (fun n k x h1 h2 => by
    show bT_countBelow_16 G (pc S p) a (S + 2) 40 (lT_countBelow_16 G (pc S p) a (S + 2) 40 n) x k = _
    rw [bT_countBelow_16, if_neg h2]) 40 0 0 fu (by omega) (by omega) (by omega) (by omega) (by omega)
  rw [fT_countBelow, TS_1 h.2.1.1, if_pos (kdT2 h.1), szT2 h.1, l, Int.zero_add, cn_cut (Q := fun k => decide (r (140 + k) = a) && OV (up r) p k) (M := r 0) (by omega) (fun k k0 k1 => by rw [decide_eq_true k1, Bool.true_and]) (fun k k0 k1 => by rw [decide_eq_false (by omega), Bool.false_and])]
/-- one more than those below -/
theorem cn_Bl {r : Int → Int} (hp : 0 ≤ p ∧ p < r 0) (hst : r (140 + p) = 0) (ho : OV (up r) p p = false) : cn (fun k => decide (r (140 + k) = 0) && Bl (up r) p k) (r 0).toNat 0 = 1 + cn (fun k => decide (r (140 + k) = 0) && OV (up r) p k) (r 0).toNat 0 := by
  have := cn_up (P := fun k => decide (r (140 + k) = 0) && OV (up r) p k) (Q := fun k => decide (r (140 + k) = 0) && Bl (up r) p k) (p := p) (by show (decide (r (140 + p) = 0) && OV (up r) p p) = false; rw [ho, Bool.and_false]) (by show (decide (r (140 + p) = 0) && Bl (up r) p p) = true; rw [Bl_i, decide_eq_true hst]; rfl) (fun j hj => by
    show (decide (r (140 + j) = 0) && OV (up r) p j) = (decide (r (140 + j) = 0) && Bl (up r) p j)
    unfold Bl
    rw [decide_eq_false hj, Bool.false_or]) (r 0).toNat 0
  rw [if_pos (by omega)] at this
  omega
/-- the reference's exchange, behind its tests -/
theorem xc_m (j : MInv H) (hp : 0 < p ∧ p < H 625 0) (hq : 0 < q ∧ q < H 625 0) (hpq : ¬ p = q) (h4 : H 625 (140 + p) = 0) (h5 : H 625 (140 + q) = 0) (h7 : OV (up (H 625)) p q = false) (h8 : OV (up (H 625)) q p = false) : ∃ H1 r' v, lM_exchange_86 624 p q fu 0 H = some (v, sw H1 r') ∧ (∀ x, ¬ x = 633 → H1 x = H x) ∧ r' = u1 (u1 (H 625) (60 + p) (H 625 (60 + q))) (60 + q) (H 625 (60 + p)) ∧ v = cn (fun k => decide (r' (140 + k) = 0) && !decide (DP (up r') k = DP (up (H 625)) k)) (r' 0).toNat 0 := by
  have w := j.2.1
  have h04 := j.1.1
  have h21 := j.1.2.2.2.2.2.2.2.1
  have hM1 := w.1.1
  have hfu := fu_ge
  obtain ⟨G1, a1, a0, a2, a3⟩ := for_some (L := fun n k G' => lM_exchange_86 624 p q n k G') (E := fun G' => jM_exchange_125 G' 624 p q) (H 625 0) (fun k G' => 0 ≤ k ∧ (∀ x, ¬ x = 633 → G' x = H x) ∧ ∀ i, 0 ≤ i → i < k → H 625 (140 + i) = 0 → G' 633 i = DP (up (H 625)) i) (fun n k G' hk hI => by
    obtain ⟨k0, i1, i2⟩ := hI
    have g0 : G' 624 0 = 625 := by rw [i1 624 (by omega)]; exact h04
    have g21 : G' 624 21 = 633 := by rw [i1 624 (by omega)]; exact h21
    have g25 : G' 625 = H 625 := i1 625 (by omega)
    have hs' : MS G' := by unfold MS; rw [i1 624 (by omega)]; exact j.1
    have hr' := vM_runs (g := G') (p := k) hs' (by omega)
    have hd' := vM_deep (g := G') (x := k) hs' (by rw [g25]; exact w.1.2.2.1 k k0 hk)
    have step : lM_exchange_86 624 p q (n + 1) k G' = bM_exchange_86 624 p q (lM_exchange_86 624 p q n) k G' := rfl
    rw [g25] at hr' hd'
    by_cases c1 : H 625 (140 + k) = 0
    · refine ⟨pU G' 633 k (DP (up (H 625)) k), ?_, by omega, fun x hx => (pU_n hx).trans (i1 x hx), fun i i0 ik ir => ?_⟩
      · show lM_exchange_86 624 p q (n + 1) k G' = _
        rw [step, bM_exchange_86]
        simp (disch := omega) only [g0, g21, g25, hr', hd', c1, bdP_s, kd_625, sz_625, kd_633, sz_633, w32_r, true_and, le_t, lt_t, and_true, ↓reduceIte, ↓bnd_s, f0]
      · by_cases z : i = k
        · rw [z, pU_s, u1_s]
        · rw [pU_y z]; exact i2 i i0 (by omega) ir
    · refine ⟨pU G' 633 k (-1), ?_, by omega, fun x hx => (pU_n hx).trans (i1 x hx), fun i i0 ik ir => ?_⟩
      · show lM_exchange_86 624 p q (n + 1) k G' = _
        rw [step, bM_exchange_86]
        simp (disch := omega) only [g0, g21, g25, hr', hd', c1, bdP_s, kd_625, sz_625, kd_633, sz_633, w32_r, true_and, le_t, lt_t, and_true, ↓reduceIte, ↓bnd_s, f0]
      · by_cases z : i = k
        · rw [z] at ir; exact absurd ir c1
        · rw [pU_y z]; exact i2 i i0 (by omega) ir) (fun n k G' hk hI => by
    have g0 : G' 624 0 = 625 := by rw [hI.2.1 624 (by omega)]; exact h04
    have g25 : G' 625 = H 625 := hI.2.1 625 (by omega)
    show bM_exchange_86 624 p q (lM_exchange_86 624 p q n) k G' = _
    rw [bM_exchange_86]
    simp (disch := omega) only [g0, g25, kd_625, sz_625, true_and, le_t, lt_t, lt_f, and_true, ↓reduceIte]) (H 625 0).toNat 0 H fu (by omega) (by omega) ⟨by omega, fun _ _ => rfl, fun i i0 i1 => absurd i1 (by omega)⟩
  have g0 : G1 624 0 = 625 := by rw [a2 624 (by omega)]; exact h04
  have g21 : G1 624 21 = 633 := by rw [a2 624 (by omega)]; exact h21
  have g25 : G1 625 = H 625 := a2 625 (by omega)
  have hs1 : MS G1 := by unfold MS; rw [a2 624 (by omega)]; exact j.1
  have w2 := WBF_xc w hp hq hpq h4 h5 h7 h8
  have a1 : lM_exchange_86 624 p q fu 0 H = jM_exchange_125 G1 624 p q := a1
  rw [a1, jM_exchange_125]
  simp (disch := omega) only [g0, g25, kd_625, sz_625, w32_r, true_and, le_t, lt_t, and_true, ↓reduceIte, ↓bnd_s, pU_625, pU_sw, sw_n, sw_s, sw_sw]
  have er : ∀ k, 140 ≤ k → k < 180 → u1 (u1 (H 625) (60 + p) (H 625 (60 + q))) (60 + q) (H 625 (60 + p)) k = H 625 k := fun k k0 k1 => by rw [u1_n (by omega), u1_n (by omega)]
  generalize hr' : u1 (u1 (H 625) (60 + p) (H 625 (60 + q))) (60 + q) (H 625 (60 + p)) = r' at *
  have hM2 := w2.1.1
  have e0 : r' 0 = H 625 0 := by rw [← hr', u1_n (by omega), u1_n (by omega)]
  have l : lM_exchange_169 (sw G1 r') 624 fu 0 0 = some (0 + cn (fun k => decide (r' (140 + k) = 0) && !decide (DP (up r') k = DP (up (H 625)) k)) (r' 0).toNat 0, sw G1 r') := cnt_loop (L := fun n k x => lM_exchange_169 (sw G1 r') 624 n x k) (E := fun x => some (x, sw G1 r')) (fun k => decide (r' (140 + k) = 0) && !decide (DP (up r') k = DP (up (H 625)) k)) (r' 0) 0 (by omega) (fun n k x h1 h2 h3 h4 => by
    have hr'' := vM_runs (g := sw G1 r') (p := k) (MS_sw hs1) (by omega)
    have hd' := vM_deep (g := sw G1 r') (x := k) (MS_sw hs1) (by rw [sw_s]; exact w2.1.2.2.1 k h1 h2)
    rw [sw_s] at hr'' hd'
    show bM_exchange_169 (sw G1 r') 624 (lM_exchange_169 (sw G1 r') 624 n) x k = _
    rw [bM_exchange_169, hr'', hd', sw_n (show ¬ (624 : Int) = 625 by omega), g0, g21, sw_s, sw_n (show ¬ (633 : Int) = 625 by omega), if_pos (g625 (by omega)), if_pos h2, bdP_s, bdP_s, w32_r (x := k + 1) (by omega), w32_r (x := x + 1) (by omega), w32_r (x := x + 0) (by omega), if_pos (show kd 633 = 20 ∧ (0 : Int) ≤ k ∧ k < sz 633 from ⟨kd_633, h1, by rw [sz_633]; omega⟩)]
    by_cases c1 : r' (140 + k) = 0
    · have ed := a3 k h1 (by omega) (by rw [← er (140 + k) (by omega) (by omega)]; exact c1)
      rw [if_pos c1, if_neg f0, ed, decide_eq_true c1, Bool.true_and]
      by_cases c2 : DP (up r') k = DP (up (H 625)) k
      · rw [if_pos c2, decide_eq_true c2]; rfl
      · rw [if_neg c2, decide_eq_false c2]; rfl
    · rw [if_neg c1, if_pos rfl, decide_eq_false c1, Bool.false_and]
      rfl) (fun n k x h1 h2 => by
    show bM_exchange_169 (sw G1 r') 624 (lM_exchange_169 (sw G1 r') 624 n) x k = _
    rw [bM_exchange_169, sw_n (show ¬ (624 : Int) = 625 by omega), g0, sw_s, if_pos (g625 (by omega)), if_neg h2]) (r' 0).toNat 0 0 fu (by omega) (by omega) (by omega) (by omega) (by omega)
  rw [l]
  exact ⟨G1, r', _, rfl, a2, rfl, by rw [Int.zero_add]⟩
theorem jo_exchange (h : JA G H) : JO t2 True (fC_exchange G 0 p q) (fM_exchange H 624 p q) := by
  have hb := jaM h
  have qq := jaQ h
  have o1 := JA_th (t := 0) h
  have e625 : th H 0 625 = H 625 := th_n (by omega)
  have bad : ∀ X : Option (Int × gH), X = jM_exchange_71 (th H 0) 624 p q 624 1 → JO t2 True (jC_exchange_57 G 0 (pc 1 p) (pc 1 q) 0) X := by
    intro X hX
    rw [hX, jM_exchange_71, if_pos kd_c624, fl1, bdN_s, if_neg f0, jC_exchange_57, st_n, qe2]
    exact JO_e (JA_th o1) (th8.trans rfl) (by decide)
  rw [fC_exchange, fM_exchange, vM_noProcess h.2.1]
  by_cases a : 0 ≤ p ∧ p < H 625 0
  · rw [if_pos a, if_pos a, bdN_s, if_pos rfl, vM_noProcess2 h.2.1, jn_y h a, bdQ_0]
    by_cases b : 0 ≤ q ∧ q < H 625 0
    · have rp := vM_runs (g := th H 0) (p := p) o1.2.1.1 (by omega)
      have rq := vM_runs (g := th H 0) (p := q) o1.2.1.1 (by omega)
      have hov := vM_isOver (g := th H 0) (p := p) (x := q) o1.2.1.1 (by rw [e625]; exact QQ_en qq b)
      have ov2 := vM_isOver (g := th H 0) (p := q) (x := p) o1.2.1.1 (by rw [e625]; exact QQ_en qq a)
      rw [e625] at rp rq hov ov2
      rw [if_pos b, if_pos b, bdN_s, if_pos rfl, jn_y h b, bdQ_0, if_pos (kdp T1 (by omega)), qP_mortal qq (by omega), bdP_s, if_pos (kdp T1 (i := q) (by omega)), qP_mortal qq (i := q) (by omega), bdP_s, qP_over qq a.1 b, bdP_s, qP_over qq b.1 a, bdP_s, rp, bdP_s, rq, bdP_s, hov, bdP_s, ov2, bdP_s, jC_exchange_56, jM_exchange_66]
      by_cases c1 : (0 < p ∧ p < H 625 0) ∧ H 625 (140 + p) = 0
      · rw [if_pos c1, if_neg f0, if_neg (show ¬ p = 0 by omega), if_pos c1.2, if_neg f0]
        by_cases c2 : (0 < q ∧ q < H 625 0) ∧ H 625 (140 + q) = 0
        · rw [if_pos c2, if_neg f0, if_neg (show ¬ q = 0 by omega), if_pos c2.2, if_neg f0]
          by_cases c3 : p = q
          · rw [if_pos c3, if_pos (show pc 1 p = pc 1 q by rw [c3])]; exact bad _ rfl
          · rw [if_neg c3, if_neg (fun z => c3 (pc_inj a.1 b.1 z))]
            by_cases c4 : OV (up (H 625)) p q = true
            · rw [if_pos c4, if_neg f0, if_neg f0]; exact bad _ rfl
            · rw [if_neg c4, if_pos rfl, if_pos rfl]
              by_cases c5 : OV (up (H 625)) q p = true
              · rw [if_pos c5, if_neg f0, if_neg f0]; exact bad _ rfl
              · rw [if_neg c5, if_pos rfl, if_pos rfl, jC_exchange_57, jM_exchange_71, if_pos kd_c624, fl0, bdN_s, if_pos rfl, st_1, bdQ_0]
                obtain ⟨G1, H1, x1, x2, j, eG, x5, x6⟩ := JA_push o1
                have e25 := x5 625 (by omega) (by omega)
                have e1 : H1 625 = H 625 := e25.trans e625
                have w := j.2.1.2.1
                have q1 := jaQ j
                have hp : 0 < p ∧ p < H1 625 0 := by rw [e1]; exact c1.1
                have hq : 0 < q ∧ q < H1 625 0 := by rw [e1]; exact c2.1
                have sp : H1 625 (140 + p) = 0 := by rw [e1]; exact c1.2
                have sq : H1 625 (140 + q) = 0 := by rw [e1]; exact c2.2
                have v1 : OV (up (H1 625)) p q = false := by rw [e1]; exact Bool.eq_false_iff.mpr c4
                have v2 : OV (up (H1 625)) q p = false := by rw [e1]; exact Bool.eq_false_iff.mpr c5
                obtain ⟨H2, r2, vv, m1, m2, m3, m4⟩ := xc_m j.2.1 hp hq c3 sp sq v1 v2
                have w2 := WBF_xc w hp hq c3 sp sq v1 v2
                rw [← m3] at w2
                have hM := jaM j
                have hA := q1.2.2.1.2.2.1
                have hcl := q1.2.2.1.2.1
                have up_p : 0 ≤ up (H1 625) p ∧ up (H1 625) p < H1 625 0 := hcl p hp.1 hp.2
                have up_q : 0 ≤ up (H1 625) q ∧ up (H1 625) q < H1 625 0 := hcl q hq.1 hq.2
                have ep := hA p (by omega) hp.2
                have eq := hA q (by omega) hq.2
                -- the first hangs under the other's
                have b1 : Bl (up (H1 625)) p q = false := by unfold Bl; rw [v1, decide_eq_false (fun z => c3 z.symm)]; rfl
                have s1 : Bl (up (H1 625)) p (up (H1 625) q) = false := by rw [← Bl_n eq (by omega) (fun z => c3 z.symm)]; exact b1
                have n1 : ¬ up (H1 625) q = p := fun z => by rw [z, Bl_i] at s1; cases s1
                have k1 : OV (up (H1 625)) p (up (H1 625) q) = false := by
                  cases ho : OV (up (H1 625)) p (up (H1 625) q) with
                  | false => rfl
                  | true => rw [Bl_ov ho] at s1; cases s1
                have b2 : Bl (up (H1 625)) q p = false := by unfold Bl; rw [v2, decide_eq_false c3]; rfl
                have s2 : Bl (up (H1 625)) q (up (H1 625) p) = false := by rw [← Bl_n ep (by omega) c3]; exact b2
                have n2 : ¬ up (H1 625) p = q := fun z => by rw [z, Bl_i] at s2; cases s2
                have dpp := DP_s ep (by omega)
                have np : ¬ up (H1 625) p = p := fun z => by rw [z] at dpp; omega
                have op : OV (up (H1 625)) p (up (H1 625) p) = false := by
                  cases ho : OV (up (H1 625)) p (up (H1 625) p) with
                  | false => rfl
                  | true => have := OV_dp (hA _ up_p.1 up_p.2) ho; omega
                obtain ⟨G2, y1, y2, y3⟩ := aP_put q1 (ja40 j) hp sp up_q n1 k1
                have o0 : u1 (H1 625) (60 + p) (up (H1 625) q) 0 = H1 625 0 := u1_n (by omega)
                have o3 : OV (up (u1 (H1 625) (60 + p) (up (H1 625) q))) q (up (H1 625) p) = false := by
                  rw [up_u1]
                  show ov (u1 (up (H1 625)) p (up (H1 625) q)) 40 q (up (H1 625) p) = false
                  rw [ov_keep (hA _ up_p.1 up_p.2) np op]
                  cases ho : ov (up (H1 625)) 40 q (up (H1 625) p) with
                  | false => rfl
                  | true => rw [Bl_ov ho] at s2; cases s2
                obtain ⟨G3, z1, z2, z3⟩ := aP_put (c := q) (t := up (H1 625) p) y2 (by rw [u1_n (by omega)]; exact ja40 j) (by rw [o0]; exact hq) (by rw [u1_n (by omega)]; exact sq) (by rw [o0]; exact up_p) n2 o3
                have e3 : u1 (u1 (H1 625) (60 + p) (up (H1 625) q)) (60 + q) (up (H1 625) p) = r2 := m3.symm
                rw [e3] at z2
                have j2 : JA G1 H2 := JA_row j (OK_633 (OK_r j.2.1) m2).1 (fun k k0 k1 => by rw [m2 625 (by omega)]) (m2 629 (by omega)) (m2 628 (by omega)) (m2 631 (by omega)) (fun k k0 k1 k2 => by rw [m2 624 (by omega)])
                have cC : ∀ s, jC_exchange_88 G1 0 (pc 1 p) (pc 1 q) s = if s = 0 then some (0, (w32 (w32 (2 + cn (fun k => decide (H1 625 (140 + k) = 0) && OV (up (H1 625)) p k) (H1 625 0).toNat 0) + cn (fun k => decide (H1 625 (140 + k) = 0) && OV (up (H1 625)) q k) (H1 625 0).toNat 0), G3)) else some (0, (0, G3)) := by
                  intro s
                  rw [jC_exchange_88, ja0 j, if_pos (kdT T1), qT_below q1 (by omega) (by omega), bdP_s, qT_below q1 (by omega) (by omega), bdP_s, if_pos (kdp T1 (by omega)), if_pos (kdp T1 (by omega)), QQ_up q1 hq, y1, bdN_s, QQ_up q1 hp, z1, bdN_s]
                -- how many stand otherwise
                have cA := cn_bd (fun k => decide (H1 625 (140 + k) = 0) && OV (up (H1 625)) p k) (H1 625 0).toNat 0
                have cB := cn_bd (fun k => decide (H1 625 (140 + k) = 0) && OV (up (H1 625)) q k) (H1 625 0).toNat 0
                have r20 : r2 0 = H1 625 0 := by rw [m3, u1_n (by omega), u1_n (by omega)]
                have upr : up r2 = u1 (u1 (up (H1 625)) p (up (H1 625) q)) q (up (H1 625) p) := by rw [← e3, up_u1, up_u1]
                have hA2 : Acy (u1 (u1 (up (H1 625)) p (up (H1 625) q)) q (up (H1 625) p)) (H1 625 0) := by rw [← upr, ← r20]; exact w2.1.2.2.1
                have dps : ∀ x, 0 ≤ x → x < H1 625 0 → DP (up r2) x = DP (up (H1 625)) x + (if Bl (up (H1 625)) p x = true then DP (up (H1 625)) q - DP (up (H1 625)) p else if Bl (up (H1 625)) q x = true then DP (up (H1 625)) p - DP (up (H1 625)) q else 0) := fun x x0 x1 => by
                  rw [upr]
                  exact xc_dp hA hcl hp hq c3 v1 v2 hA2 40 x (hA2 x x0 x1) x0 x1
                have ev : vv = if DP (up (H1 625)) p = DP (up (H1 625)) q then 0 else w32 (w32 (2 + cn (fun k => decide (H1 625 (140 + k) = 0) && OV (up (H1 625)) p k) (H1 625 0).toNat 0) + cn (fun k => decide (H1 625 (140 + k) = 0) && OV (up (H1 625)) q k) (H1 625 0).toNat 0) := by
                  rw [m4, r20, w32_r (x := 2 + _) (by omega), w32_r (by omega)]
                  have st : ∀ k, 0 ≤ k → k < H1 625 0 → r2 (140 + k) = H1 625 (140 + k) := fun k k0 k1 => by rw [m3, u1_n (by omega), u1_n (by omega)]
                  by_cases c : DP (up (H1 625)) p = DP (up (H1 625)) q
                  · rw [if_pos c]
                    refine cn_z _ 0 (fun k k0 k1 => ?_)
                    have := dps k k0 (by omega)
                    rw [c, Int.sub_self, ite_self, ite_self, Int.add_zero] at this
                    rw [this, decide_eq_true rfl, Bool.not_true, Bool.and_false]
                  · rw [if_neg c]
                    have k1 := cn_Bl (p := p) (r := H1 625) (by omega) sp (OV_ir ep)
                    have k2 := cn_Bl (p := q) (r := H1 625) (by omega) sq (OV_ir eq)
                    have k3 := cn_or (P := fun k => decide (H1 625 (140 + k) = 0) && Bl (up (H1 625)) p k) (Q := fun k => decide (H1 625 (140 + k) = 0) && Bl (up (H1 625)) q k) (R := fun k => decide (r2 (140 + k) = 0) && !decide (DP (up r2) k = DP (up (H1 625)) k)) (H1 625 0).toNat 0 (fun k k0 k1 => by
                      have kb : k < H1 625 0 := by omega
                      have dk := dps k k0 kb
                      rw [st k k0 kb]
                      have both : ¬ (Bl (up (H1 625)) p k = true ∧ Bl (up (H1 625)) q k = true) := by
                        rintro ⟨y1, y2⟩
                        exact xc_both hA hp hq b1 b2 40 k (hA k k0 kb) (hA k k0 kb) y1 y2
                      refine ⟨?_, fun z => both ⟨(Bool.and_eq_true_iff.mp z.1).2, (Bool.and_eq_true_iff.mp z.2).2⟩⟩
                      cases hB1 : Bl (up (H1 625)) p k with
                      | true =>
                        rw [hB1, if_pos rfl] at dk
                        rw [decide_eq_false (show ¬ DP (up r2) k = DP (up (H1 625)) k by omega)]
                        cases decide (H1 625 (140 + k) = 0) <;> rfl
                      | false =>
                        rw [hB1, if_neg (by decide)] at dk
                        cases hB2 : Bl (up (H1 625)) q k with
                        | true =>
                          rw [hB2, if_pos rfl] at dk
                          rw [decide_eq_false (show ¬ DP (up r2) k = DP (up (H1 625)) k by omega)]
                          cases decide (H1 625 (140 + k) = 0) <;> rfl
                        | false =>
                          rw [hB2, if_neg (by decide), Int.add_zero] at dk
                          rw [decide_eq_true dk]
                          cases decide (H1 625 (140 + k) = 0) <;> rfl)
                    rw [k3, k1, k2]
                    omega
                rw [ja3 h, if_pos kd_133, ja0 h, x1, bdN_s, x2, bdN_s, m1, if_pos (kdp T1 (by omega)), qP_above q1 (by omega), bdP_s, if_pos (kdp T1 (by omega)), qP_above q1 (by omega), bdP_s, cC, cC, if_neg f0, if_pos rfl]
                have jf : JA G3 (sw H2 r2) := by
                  have := JA_act (d := H2 630) j2 (TF_t y3 z3) (QQ_d z2 (fun i i0 i1 => j2.2.1.2.2.1 i i0 i1)) (fun i i0 i1 => j2.2.1.2.2.1 i i0 i1) w2
                  rw [md_id] at this
                  exact this
                have f8 : sw H2 r2 624 8 = 0 := by
                  rw [sw_n (by omega), m2 624 (by omega), x6 8 (by omega)]
                  exact th8
                rw [ev]
                by_cases c : DP (up (H1 625)) p = DP (up (H1 625)) q
                · rw [if_pos c, if_pos c]; exact JO_i jf f8 (fun _ => rfl)
                · rw [if_neg c, if_neg c]; exact JO_i jf f8 (fun _ => rfl)
        · rw [if_neg c2, if_pos rfl]
          by_cases c0 : q = 0
          · rw [if_pos c0]; exact bad _ rfl
          · rw [if_neg c0, if_neg (fun z => c2 ⟨by omega, z⟩), if_pos rfl]; exact bad _ rfl
      · rw [if_neg c1, if_pos rfl]
        by_cases c0 : p = 0
        · rw [if_pos c0]; exact bad _ rfl
        · rw [if_neg c0]
          by_cases c0q : q = 0
          · rw [if_pos c0q]; exact bad _ rfl
          · rw [if_neg c0q, if_neg (fun z => c1 ⟨by omega, z⟩), if_pos rfl]; exact bad _ rfl
    · rw [if_neg b, if_neg b, bdN_s, if_neg f0, jn_n h b, qe3]
      exact JO_e (JA_th h) (th8.trans rfl) (by decide)
  · rw [if_neg a, if_neg a, bdN_s, if_neg f0, jn_n h a, qe3]
    exact JO_e (JA_th h) (th8.trans rfl) (by decide)
end PAR34
