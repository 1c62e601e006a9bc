/-! ===== calls that change the tree, in both, more (own work) ===== -/
section PAR30
variable {g g' G G' H H' K : gH} {r r' d d' dm : Int → Int} {a b c e i j k l m n o p q s t u v w x y z S T gp code : Int}
/-- a capacity or a budget, the class told by its field -/
theorem jo_sets {X : Option (Nat × (Int × gH))} {f : Int} (h : JA G H) (hf : (f = 4 ∧ k = 100) ∨ (f = 6 ∧ k = 220)) (hX : X = bdQ (fC_named G 0 p) (fun y1 => bdQ (fC_checkRange G c 9) (fun _ => if kd y1 = 3 then bdP (fP_isRunning G y1) (fun y14 => bdQ (fC_checkState G y14) (fun _ => if kd (G 0 3) = 0 then bdN (fH_push G (G 0 3) (G 0 0)) (fun _ g29 => bnd (pU g29 y1 f c) (fun g32 => some (0, ((g29 y1 f), g32)))) else none) (fun E23 => some (E23 + 1, (0, G)))) else none) (fun E12 => some (E12 + 1, (0, G)))) (fun E6 => some (E6 + 1, (0, G)))) : JO t3 True X (bdN (fM_sets H 624 k p c) (fun y1 g3 => some (y1, g3))) := by
  have hb := jaM h
  have q := jaQ h
  have o1 := JA_th (t := 0) h
  have e625 : th H 0 625 = H 625 := th_n (by omega)
  rw [hX, fM_sets, vM_noProcess h.2.1]
  by_cases a : 0 ≤ p ∧ p < H 625 0
  · rw [if_pos a, if_pos a, bdN_s, if_pos rfl, vM_isSmall, bdP_s, jn_y h a, bdQ_0]
    by_cases b : 0 ≤ c ∧ c ≤ 9
    · rw [if_pos b, if_neg f0, jM_sets_21, if_pos kd_c624, fl0, bdN_s, if_pos rfl, rg_y b, bdQ_0, if_pos (kdp T1 (by omega)), qP_run q a, bdP_s, vM_runs o1.2.1.1 (by omega), bdP_s, e625]
      by_cases c1 : H 625 (140 + p) = 0
      · rw [if_pos c1, if_neg f0, jM_sets_42, if_pos kd_c624, fl0, bdN_s, if_pos rfl, st_1, bdQ_0]
        have assoc : ∀ {Z : Option (Int × gH)} {B : Int → gH → Option (Int × gH)}, bdN (bdN Z B) (fun y1 g3 => some (y1, g3)) = bdN Z (fun y g => bdN (B y g) (fun y1 g3 => some (y1, g3))) := by
          intro Z B
          cases Z <;> rfl
        rw [assoc]
        refine jo_act0 o1 th8 (fun G1 H1 j q1 eG e25 => ?_)
        have e1 : H1 625 = H 625 := e25.trans e625
        have w := j.2.1.2.1
        have hp : 0 ≤ p ∧ p < H1 625 0 := by rw [e1]; exact a
        have m4 := j.2.1.1.1
        have hM := jaM j
        have w2 : WBF (u1 (H1 625) (k + p) c) := by
          rcases hf with ⟨-, rfl⟩ | ⟨-, rfl⟩
          · exact WBF_c1 w hp b
          · exact WBF_b1 w hp b
        obtain ⟨q2, t2⟩ := QQ_f (a := f) (b := k) (p := p) (v := c) q1 (ja40 j) hp (by omega) w2.1
        have fv : G1 (pc 1 p) f = H1 625 (k + p) := by
          have pe := (QQ_pe q1 hp).1
          rcases hf with ⟨rfl, rfl⟩ | ⟨rfl, rfl⟩
          · exact pe.2.1
          · exact pe.2.2.2.1
        rw [bnd_s, fv, m4, w32_r (x := k + p) (by omega), if_pos (g625 (by omega)), if_pos (g625 (by omega)), bnd_s, pU_625, bdN_s]
        exact ⟨_, _, _, _, rfl, rfl, fun _ => rfl, q2, w2, t2⟩
      · rw [if_neg c1, if_pos rfl, jM_sets_42, if_pos kd_c624, fl1, bdN_s, if_neg f0, st_n, qe2, bdN_s]
        exact JO_e (JA_th o1) (th8.trans rfl) (by decide)
    · rw [if_neg b, if_pos rfl, jM_sets_21, if_pos kd_c624, fl1, bdN_s, if_neg f0, rg_n b, qe1, bdN_s]
      exact JO_e (JA_th o1) (th8.trans rfl) (by decide)
  · rw [if_neg a, if_neg a, bdN_s, if_neg f0, jn_n h a, qe3, bdN_s]
    exact JO_e (JA_th h) (th8.trans rfl) (by decide)
end PAR30
