/-! ===== questions leave the state; count, in both (own work) ===== -/
section PAR39
variable {g g' G G' H H' K : gH} {r r' dm : Int → Int} {a b c d e i j k l m n o p q s t u v w x y z S T gp code : Int}
/-- a question of the reference, behind which all stands -/
theorem jw_Q {X : Option (Int × gH)} (h : JA G H) (hp : PO H X) (q : Q8 H X) : ∃ w H', X = some (w, H') ∧ JA G H' := by
  obtain ⟨w, H', e, m1, -⟩ := hp
  have f := q w H' e
  exact ⟨w, H', e, JA_row h m1 (fun k _ _ => by rw [f.1 625 (by omega)]) (f.1 629 (by omega)) (f.1 628 (by omega)) (f.1 631 (by omega)) (fun k k0 k1 k2 => f.2 k k2)⟩
theorem jw_print (h : JA G H) : ∃ w H', fM_print H 624 p a = some (w, H') ∧ JA G H' := by
  obtain ⟨w, H', e, m1, -⟩ := oM_print (p := p) (a := a) h.2.1
  have f := q9_fM_print (v1 := p) (v2 := a) (E9_r h.2.1.1.2.2.2.2.2.2.2.2.1) w H' e
  exact ⟨w, H', e, JA_row h m1 (fun k _ _ => by rw [f.2.1 625 (by omega) (by omega)]) (f.2.1 629 (by omega) (by omega)) (f.2.1 628 (by omega) (by omega)) (f.2.1 631 (by omega) (by omega)) (fun k k0 k1 k2 => f.2.2 k k2 (by omega))⟩
theorem JA_OO (h : JA G H) (ho : OO G G') : JA G' H := by
  obtain ⟨h1, h2, h3, h4, h5, h6⟩ := h
  exact ⟨(CO_OO (CO_r h1) ho).1, h2, QQ_eq h3 (fun x x0 x1 => ho.1 x (by omega)), RG_e h4 (fun x x0 x1 => ho.1 x (by omega)) rfl rfl, SV_e h5 (fun x x0 x1 => ho.1 x (by omega)) (by rw [ho.1 0 (by omega)]) rfl rfl, IE_e h6 (fun x x0 x1 => ho.1 x (by omega)) (fun _ _ _ => rfl) rfl⟩
/-- the class's print writes its output alone -/
theorem jp_print (h : CInv G) : WT (fun _ K => OO G K) (fun e K => (e = 2 ∨ e = 0 ∨ e = 1) ∧ K = G) (fC_print G 0 v w) := by
  have hc := CO_r h
  rw [fC_print]
  refine W_bdQ (tC_namedP hc) (fun c hcc => W_bdQ tC_checkRange (fun _ _ => ?_) (fun e he => WT_e ⟨by subst he; simp, rfl⟩)) (fun e he => WT_e ⟨by subst he; simp, rfl⟩)
  have ht := CO_T hc T1
  have pa := Pn_a ht hcc
  have l137 : ∀ A, OO G A → WT (fun _ K => OO G K) (fun e K => (e = 2 ∨ e = 0 ∨ e = 1) ∧ K = G) (jC_print_137 A 0) := by
    intro A hA
    have wA := CO_OO hc hA
    rw [jC_print_137, co5 wA, if_pos kd_622]
    refine W_ite (fun _ => W_bdN (tO_putSign hA) (fun _ B hB => ?_)) (fun _ => WT_i hA)
    have wB := CO_OO hc hB
    rw [co5 wB, if_pos kd_622]
    exact WT_i hB
  have l24 : ∀ s, WT (fun _ K => OO G K) (fun e K => (e = 2 ∨ e = 0 ∨ e = 1) ∧ K = G) (jC_print_24 G 0 w c s) := by
    intro s
    rw [jC_print_24]
    refine W_bdQ tC_checkState (fun _ _ => ?_) (fun e he => WT_e ⟨by subst he; simp, rfl⟩)
    rw [co5 hc, if_pos kd_622, bnd_s]
    have wA := CO_w (a := 622) (b := 1) (v := 0) hc (by omega)
    have oA : OO G (pU G 622 1 0) := OO_w ⟨fun _ _ => rfl, h.1.2.2.2.2.2.2⟩ (by omega)
    generalize pU G 622 1 0 = A at *
    have go : ∀ B, OO G B → WT (fun _ K => OO G K) (fun e K => (e = 2 ∨ e = 0 ∨ e = 1) ∧ K = G) (jC_print_137 B 0) := fun B hB => l137 B hB
    rw [co5 wA, if_pos kd_622, co0 wA, if_pos kd_622, if_pos kd_622, if_pos kd_622]
    exact W_ite (fun _ => W_bdN (tO_putPath ht T1 oA pa) (fun _ B hB => go B hB)) (fun _ => W_ite (fun _ => W_bdN (tO_putChildren ht T1 oA) (fun _ B hB => go B hB)) (fun _ => W_ite (fun _ => W_bdN (tC_putBranch ht T1 fr 0 c A oA pa (by omega) (by show (41 - (0 : Int)).toNat < 60; omega)) (fun _ B hB => go B hB)) (fun _ => W_ite (fun _ => W_bdN (tO_putDuties ht T1 oA pa) (fun _ B hB => go B hB)) (fun _ => W_bdN (tO_putZombies ht T1 oA) (fun _ B hB => go B hB)))))
  rw [if_pos (Pa_kd T1 pa)]
  exact W_ite (fun _ => l24 0) (fun _ => l24 1)
/-- what a question of both answers -/
def JQ (tm : Nat → Int) (G : gH) (X : Option (Nat × Int)) (Y : Option (Int × gH)) : Prop := (∃ v H, X = some (0, v) ∧ Y = some (v, H) ∧ JA G H ∧ H 624 8 = 0) ∨ ∃ e v w H, X = some (e + 1, v) ∧ Y = some (w, H) ∧ JA G H ∧ H 624 8 = tm e ∧ ¬ tm e = 0
theorem JQ_i {tm : Nat → Int} (h : JA G H) (e : H 624 8 = 0) : JQ tm G (some (0, v)) (some (v, H)) := Or.inl ⟨v, H, rfl, rfl, h, e⟩
theorem JQ_e {tm : Nat → Int} {k : Nat} (h : JA G H) (e : H 624 8 = tm k) (hn : ¬ tm k = 0) : JQ tm G (some (k + 1, v)) (some (w, H)) := Or.inr ⟨k, v, w, H, rfl, rfl, h, e, hn⟩
theorem vM_inState (hs : MS H) (hM : 1 ≤ H 625 0 ∧ H 625 0 ≤ 40) : fM_inState H 624 a = some (cn (fun c => decide (H 625 (140 + c) = a)) (H 625 0).toNat 0) := by
  have h0 := hs.1
  have hfu := fu_ge
  have l : lM_inState_4 H 624 a fu 0 0 = some (0 + cn (fun c => decide (H 625 (140 + c) = a)) (H 625 0).toNat 0) := cnt_loop (L := fun n k x => lM_inState_4 H 624 a n x k) (E := some) (fun c => decide (H 625 (140 + c) = a)) (H 625 0) 0 (by omega) (fun n k x h1 h2 h3 h4 => by
    show bM_inState_4 H 624 a (lM_inState_4 H 624 a n) x k = _
    rw [bM_inState_4, h0, if_pos (g625 (by omega)), if_pos h2, w32_r (x := 140 + k) (by omega), if_pos (g625 (by omega)), w32_r (x := k + 1) (by omega), w32_r (x := x + 1) (by omega), w32_r (x := x + 0) (by omega)]
    by_cases c : H 625 (140 + k) = a
    · rw [if_pos c, if_pos (decide_eq_true c)]
    · rw [if_neg c, if_neg (fun z => c (of_decide_eq_true z))]) (fun n k x h1 h2 => by
    show bM_inState_4 H 624 a (lM_inState_4 H 624 a n) x k = _
    rw [bM_inState_4, h0, if_pos (g625 (by omega)), if_neg h2]) (H 625 0).toNat 0 0 fu (by omega) (by omega) (by omega) (by omega) (by omega)
  rw [fM_inState, l, Int.zero_add]
theorem or_0 (h : InR v) : opI 2 v 0 = v := by
  have e : opI 2 v 0 = (toI v ||| toI 0).toInt := rfl
  rw [e, show toI 0 = 0 from rfl, Int32.or_zero, toI_toInt]
  exact w32_id h
/-- the duties of a process as a mask -/
theorem lk_duties (hs : MS H) (h : QQ S G r dm) (hp : 0 ≤ p ∧ p < r 0) : ∃ v, fT_dutiesOf G S (pc S p) = some v ∧ fM_dutiesOf (sw H r) 624 p = some v ∧ InR v := by
  have hb := QQ_b h
  have hfu := fu_ge
  have key : ∀ (m n1 n2 : Nat) (d v : Int), (8 - d).toNat = m → m < n1 → m < n2 → 0 ≤ d → InR v → ∃ w, lT_dutiesOf_4 G S (pc S p) n1 v d = some w ∧ lM_dutiesOf_4 (sw H r) 624 p n2 v d = some w ∧ InR w := by
    intro m
    induction m with
    | zero =>
      intro n1 n2 d v hm hn1 hn2 d0 hv
      obtain ⟨n1, rfl⟩ : ∃ k, n1 = k + 1 := ⟨n1 - 1, by omega⟩
      obtain ⟨n2, rfl⟩ : ∃ k, n2 = k + 1 := ⟨n2 - 1, by omega⟩
      refine ⟨v, ?_, ?_, hv⟩
      · show bT_dutiesOf_4 G S (pc S p) (lT_dutiesOf_4 G S (pc S p) n1) v d = _
        rw [bT_dutiesOf_4, if_neg (by omega)]
      · show bM_dutiesOf_4 (sw H r) 624 p (lM_dutiesOf_4 (sw H r) 624 p n2) v d = _
        rw [bM_dutiesOf_4, if_neg (by omega)]
    | succ m ih =>
      intro n1 n2 d v hm hn1 hn2 d0 hv
      obtain ⟨n1, rfl⟩ : ∃ k, n1 = k + 1 := ⟨n1 - 1, by omega⟩
      obtain ⟨n2, rfl⟩ : ∃ k, n2 = k + 1 := ⟨n2 - 1, by omega⟩
      have eh : G (S + 3) d = r (11 + d) := h.2.2.2.1.2.2.1 d d0 (by omega)
      show ∃ w, bT_dutiesOf_4 G S (pc S p) (lT_dutiesOf_4 G S (pc S p) n1) v d = _ ∧ bM_dutiesOf_4 (sw H r) 624 p (lM_dutiesOf_4 (sw H r) 624 p n2) v d = _ ∧ _
      rw [bT_dutiesOf_4, bM_dutiesOf_4, if_pos (show d < 8 by omega), TS_2 h.2.1.1, if_pos ⟨kdT3 h.1, d0, by rw [szT3 h.1]; omega⟩, if_pos (kdp h.1 (by omega)), eh, TS_n h.2.1.1 (by omega), w32_r (x := d + 1) (by omega), if_pos (show d < 8 by omega), w32_r (x := 11 + d) (by omega), if_pos (gd25 hs (by omega)), m0s hs, sw_s, or_0 hv]
      by_cases c : r (11 + d) = p
      · rw [if_pos c, if_pos c]
        exact ih n1 n2 (d + 1) _ (by omega) (by omega) (by omega) (by omega) (inR_opI _ _ _)
      · rw [if_neg c, if_neg c]
        exact ih n1 n2 (d + 1) v (by omega) (by omega) (by omega) (by omega) hv
  obtain ⟨w, e1, e2, e3⟩ := key 8 fu fu 0 0 (by omega) (by omega) (by omega) (by omega) inR_0
  exact ⟨w, e1, e2, e3⟩
theorem jq_count (h : JA G H) : JQ t0 G (fC_count G 0 a) (fM_count H 624 a) := by
  have hb := jaM h
  have q := jaQ h
  have o1 := JA_th (t := 0) h
  have e25 : th H 0 625 = H 625 := th_n (by omega)
  have h01 : th H 0 624 0 = 625 := o1.2.1.1.1
  have e8 : pU H 624 8 0 = th H 0 := rfl
  obtain ⟨⟨c0, c1, c2, c3, c4, c5⟩, -⟩ := q.2.2.2.1
  have is := fun s => vM_inState (a := s) o1.2.1.1 (by rw [e25]; exact hb)
  rw [e25] at is
  have t6 : th H 0 624 6 = G 133 1 := by rw [th_f (by omega)]; exact h.2.2.2.1.1.symm
  obtain ⟨dv, d1, d2, -⟩ := lk_duties (p := 0) o1.2.1.1 (by rw [← e25] at q; exact q) (by rw [e25]; omega)
  rw [sw_id] at d2
  rw [fC_count, fM_count, bnd_s, e8, vM_inRange, bdP_s, ja0 h, ja3 h, if_pos (kdT T1), if_pos kd_133, TS_0 q.2.1.1, ← pc_0, d1]
  by_cases ha : 0 ≤ a ∧ a ≤ 10
  · rw [if_pos ha, if_neg f0, jM_count_21, if_pos kd_c624, fl0, bdN_s, if_pos rfl, h01, e25]
    have hv : a = 0 ∨ a = 1 ∨ a = 2 ∨ a = 3 ∨ a = 4 ∨ a = 5 ∨ a = 6 ∨ a = 7 ∨ a = 8 ∨ a = 9 ∨ a = 10 := by omega
    rcases hv with rfl | rfl | rfl | rfl | rfl | rfl | rfl | rfl | rfl | rfl | rfl
    · simp only [Int.reduceEq, ↓reduceIte]
      rw [if_pos (g625 (by omega)), c0]
      exact JQ_i o1 th8
    · simp only [Int.reduceEq, ↓reduceIte]
      rw [qT_count q (by omega), bdP_s, show w32 (1 - 1) = 0 from rfl, is 0, bdP_s]
      exact JQ_i o1 th8
    · simp only [Int.reduceEq, ↓reduceIte]
      rw [qT_count q (by omega), bdP_s, show w32 (2 - 1) = 1 from rfl, is 1, bdP_s]
      exact JQ_i o1 th8
    · simp only [Int.reduceEq, ↓reduceIte]
      rw [qT_count q (by omega), bdP_s, show w32 (3 - 1) = 2 from rfl, is 2, bdP_s]
      exact JQ_i o1 th8
    · simp only [Int.reduceEq, ↓reduceIte]
      rw [show w32 (w32 (1 + 4) - 4) = 1 from rfl, if_pos (g625 (by omega)), c1]
      exact JQ_i o1 th8
    · simp only [Int.reduceEq, ↓reduceIte]
      rw [show w32 (w32 (1 + 5) - 4) = 2 from rfl, if_pos (g625 (by omega)), c2]
      exact JQ_i o1 th8
    · simp only [Int.reduceEq, ↓reduceIte]
      rw [show w32 (w32 (1 + 6) - 4) = 3 from rfl, if_pos (g625 (by omega)), c3]
      exact JQ_i o1 th8
    · simp only [Int.reduceEq, ↓reduceIte]
      rw [show w32 (w32 (1 + 7) - 4) = 4 from rfl, if_pos (g625 (by omega)), c4]
      exact JQ_i o1 th8
    · simp only [Int.reduceEq, ↓reduceIte]
      rw [bdP_s, d2, bdP_s]
      exact JQ_i o1 th8
    · simp only [Int.reduceEq, ↓reduceIte]
      rw [t6]
      exact JQ_i o1 th8
    · simp only [Int.reduceEq, ↓reduceIte]
      rw [if_pos (g625 (by omega)), c5]
      exact JQ_i o1 th8
  · rw [if_neg ha, if_pos rfl, jM_count_21, if_pos kd_c624, fl1, bdN_s, if_neg f0, if_neg (show ¬ a = 0 by omega), if_neg (show ¬ a = 1 by omega), if_neg (show ¬ a = 2 by omega), if_neg (show ¬ a = 3 by omega), if_neg (show ¬ a = 4 by omega), if_neg (show ¬ a = 5 by omega), if_neg (show ¬ a = 6 by omega), if_neg (show ¬ a = 7 by omega), if_neg (show ¬ a = 8 by omega), if_neg (show ¬ a = 9 by omega), if_neg (show ¬ a = 10 by omega)]
    exact JQ_e (k := 0) (JA_th o1) (th8.trans rfl) (by decide)
end PAR39
