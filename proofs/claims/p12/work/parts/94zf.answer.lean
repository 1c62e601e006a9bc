/-! ===== the answer to a question, in both (own work) ===== -/
section PAR43
variable {g g' G G' H H' K : gH} {r r' dm : Int → Int} {a b c d e i j k l m n o p q s t u v w x y z S T gp code : Int}
theorem jq_isAbove (h : JA G H) : JQ tq G (fC_isAbove G 0 p q) (fM_isAbove H 624 p q) := by
  have qq := jaQ h
  have hb := jaM h
  have o1 := JA_th (t := 0) h
  have e25 : th H 0 625 = H 625 := th_n (by omega)
  rw [fC_isAbove, fM_isAbove, vM_noProcess h.2.1]
  by_cases a : 0 ≤ p ∧ p < H 625 0
  · rw [if_pos a, if_pos a, bdN_s, if_pos rfl, vM_noProcess2 h.2.1, jn_y h a, bdQ_0]
    by_cases b : 0 ≤ q ∧ q < H 625 0
    · have ig := gone_ o1 (p := p) (by rw [e25]; exact a)
      have ih := gone_ o1 (p := q) (by rw [e25]; exact b)
      have ov := vM_isOver (g := th H 0) (p := p) (x := q) o1.2.1.1 (by rw [e25]; exact QQ_en qq b)
      rw [e25] at ig ih ov
      rw [if_pos b, if_pos b, bdN_s, if_pos rfl, jn_y h b, bdQ_0, if_pos (kdp T1 (by omega)), QQ_st qq a, if_pos (kdp T1 (i := q) (by omega)), QQ_st qq b, qP_over qq a.1 b, bdP_s, ig, bdP_s, ih, bdP_s, ov, bdP_s]
      by_cases c : H 625 (140 + p) = 2
      · rw [if_pos c, if_pos c, if_neg f0]; exact JQ_i o1 th8
      · rw [if_neg c, if_neg c, if_pos rfl]
        by_cases c2 : H 625 (140 + q) = 2
        · rw [if_pos c2, if_pos c2, if_neg f0]; exact JQ_i o1 th8
        · rw [if_neg c2, if_neg c2, if_pos rfl]
          by_cases c3 : p = q
          · have o0 : OV (up (H 625)) p q = false := by rw [c3]; exact OV_ir (QQ_en qq b)
            rw [if_pos c3, if_neg (show ¬ OV (up (H 625)) p q = true by rw [o0]; decide), if_pos rfl]; exact JQ_i o1 th8
          · rw [if_neg c3]
            by_cases c4 : OV (up (H 625)) p q = true
            · rw [if_pos c4, if_neg f0, if_neg f0]; exact JQ_i o1 th8
            · rw [if_neg c4, if_pos rfl, if_pos rfl]; exact JQ_i o1 th8
    · rw [if_neg b, if_neg b, bdN_s, if_neg f0, jn_n h b, qe3]
      exact JQ_e (JA_th h) (th8.trans rfl) (by decide)
  · rw [if_neg a, if_neg a, bdN_s, if_neg f0, jn_n h a, qe3]
    exact JQ_e (JA_th h) (th8.trans rfl) (by decide)
end PAR43
section PAR45
variable {g G H K : gH} {v w : Int}
/-- a question that is answered by yes or no, through the law's own method -/
theorem step_Q2 {tm : Nat → Int} {Xc : Option (Nat × Int)} {Y : gH → Option (Int × gH)} {W : Nat → Option (Int × gH)} (h : JA g g) (hj : ∀ K, JA g K → JQ tm g Xc (Y K)) (hm : ∀ K w H, MInv K → Y K = some (w, H) → MF K H) (hW : ∀ k, ¬ tm k = 0 → W k = some (tm k, g)) : ∃ c G1 w H, bdQ Xc (fun y2 => if y2 = 0 then (if kd 635 = 23 ∧ (0 : Int) ≤ 0 ∧ 0 < sz 635 then bnd (pU g 635 0 0) (fun g11 => some (0, g11)) else none) else (if kd 635 = 23 ∧ (0 : Int) ≤ 0 ∧ 0 < sz 635 then bnd (pU g 635 0 1) (fun g14 => some (0, g14)) else none)) W = some (c, G1) ∧ Y G1 = some (w, H) ∧ JA H H ∧ H 624 8 = c ∧ (c = 0 → H 635 0 = if w = 0 then 0 else 1) := by
  rcases hj g h with ⟨v, H, e1, -⟩ | ⟨k, v, w, H, e1, -, -, -, hn⟩
  · have go : ∀ u, u = (if v = 0 then 0 else 1) → ∃ H', Y (pU g 635 0 u) = some (v, H') ∧ JA H' H' ∧ H' 624 8 = 0 ∧ H' 635 0 = if v = 0 then 0 else 1 := by
      intro u hu
      have jK : JA g (pU g 635 0 u) := JA_x h (fun _ _ => rfl) (fun x x0 x1 => pU_n (by omega))
      rcases hj _ jK with ⟨v', H', a1, a2, b1, b2⟩ | ⟨k, v', w', H', a1, -⟩
      · rw [e1] at a1
        cases a1
        have mf := hm _ v H' jK.2.1 a2
        refine ⟨H', a2, JA_x b1 (fun x hx => (mf x (by omega)).trans (pU_n (by omega))) (fun _ _ _ => rfl), b2, ?_⟩
        rw [mf 635 (by omega), pU_s, u1_s, hu]
      · rw [e1] at a1
        cases a1
    by_cases z : v = 0
    · obtain ⟨H', a1, a2, a3, a4⟩ := go 0 (by rw [if_pos z])
      exact ⟨0, pU g 635 0 0, v, H', by rw [e1, bdQ_0, if_pos z, if_pos k635, bnd_s], a1, a2, a3, fun _ => a4⟩
    · obtain ⟨H', a1, a2, a3, a4⟩ := go 1 (by rw [if_neg z])
      exact ⟨0, pU g 635 0 1, v, H', by rw [e1, bdQ_0, if_neg z, if_pos k635, bnd_s], a1, a2, a3, fun _ => a4⟩
  · rcases hj g h with ⟨v', H', a1, -⟩ | ⟨k', v', w', H', a1, a2, b1, b2, b3⟩
    · rw [e1] at a1
      cases a1
    · rw [e1] at a1
      cases a1
      have mf := hm g w' H' h.2.1 a2
      exact ⟨tm k, g, w', H', by rw [e1, bdQ_e]; exact hW k hn, a2, JA_x b1 (fun x hx => mf x (by omega)) (fun _ _ _ => rfl), b2, fun z => absurd z hn⟩
end PAR45
