/-! ===== both readers in step: a process by its number (own work) ===== -/
section PAR8
variable {C : gH → (Int → Int) → Prop} {g g' G H K A : gH} {r r' : Int → Int} {a b c d e i j k l m n p q s t u v w x y z S : Int}
theorem aT_at (h : TI G S) (hS : isT S) (h0 : 0 ≤ v) (h1 : v < G S 5) : fT_at G S v = some (pc S v) := by
  have hc := h.2.1
  rw [fT_at, if_neg (show ¬ v < 0 by omega), if_pos h1, if_pos (show v < 40 by omega), TS_1 h.1, if_pos (show kd (S + 2) = 24 ∧ (0 : Int) ≤ v ∧ v < sz (S + 2) by rw [szT2 hS]; exact ⟨kdT2 hS, h0, by omega⟩), (h.1.2 v h0 (by omega)).1]
theorem rr_named {Φ : Int → gH → Int → gH → Prop} {X : Int → gH → Option (Int × gH)} {Y : gH → Option (Int × gH)} (h : RA (CQ 578) g g' G H) (ha : 0 ≤ a) (hE : ∀ G H, RE g g' G H → Φ 0 G 0 H) (hN : ∀ K, RT (CQ 578) g g' K H → (a ≤ H 624 17 ∧ H 624 17 < H 625 0) → K 575 7 = H 624 17 → (H 624 18 = 2 ∧ H 624 15 - H 624 16 ≤ 2) → RJ g G K → FBt G K → RR Φ (X (pc 578 (H 624 17)) K) (Y H)) : RR Φ (bdN (fS_takeNamed G 575 a) (fun y g => if y < 0 then some (0, g) else X y g)) (bdN (fM_isNumber H 624 a (w32 (H 625 0 - 1))) (fun y g => if y = 0 then some (0, g) else Y g)) := by
  have hM := RL_M h.1
  have c5 : G 578 5 = H 625 0 := h.1.2.2.2.1.2.1.1
  have hI := h.1.1
  obtain ⟨v, K, w, L, e1, e2, z⟩ := rr_number (a := a) (b := w32 (H 625 0 - 1)) (Φ := fun v K w L => (v = 0 ∧ w = 0 ∧ RE g g' K L) ∨ (v = 1 ∧ w = 1 ∧ L = H ∧ RT (CQ 578) g g' K H ∧ (a ≤ H 624 17 ∧ H 624 17 ≤ w32 (H 625 0 - 1)) ∧ K 575 7 = H 624 17 ∧ (H 624 18 = 2 ∧ H 624 15 - H 624 16 ≤ 2) ∧ RJ g G K ∧ FBt G K)) h (fun _ _ x => Or.inl ⟨rfl, rfl, x⟩) (fun K x1 x2 x3 x6 x4 x5 => Or.inr ⟨rfl, rfl, rfl, x1, x2, x3, x6, x4, x5⟩)
  rw [fS_takeNamed, if_pos (kd578 hI.1), r578 hI.1, c5, e1, e2, bdN_s, bdN_s]
  rcases z with ⟨rfl, rfl, z⟩ | ⟨rfl, rfl, rfl, z1, z2, z3, z6, z4, z5⟩
  · rw [if_pos rfl, bdN_s, if_pos (show (-1 : Int) < 0 by omega), if_pos rfl]
    exact RR_i (hE K L z)
  · rw [w32_r (by omega)] at z2
    have kI := z1.1.1
    have k5 : K 578 5 = L 625 0 := z1.1.2.2.2.1.2.1.1
    rw [if_neg f0, if_pos (kd578 kI.1), r578 kI.1, z3, aT_at (CR_T kI.1 T578) T578 (by omega) (by omega), bdP_s, bdN_s, if_neg f0]
    have pb := pc_b (T := 578) (i := L 624 17) (by omega)
    rw [if_neg (show ¬ pc 578 (L 624 17) < 0 by omega)]
    exact hN K z1 (by omega) z3 z6 z4 z5
theorem rr_namedT {Φ : Int → gH → Int → gH → Prop} {X : Int → gH → Option (Int × gH)} {Y : gH → Option (Int × gH)} (h : RA (CQ 578) g g' G H) (hk : 0 ≤ k ∧ k < 4) (ha : 0 ≤ a) (hE : ∀ G H, RE g g' G H → Φ 0 G 0 H) (hN : ∀ K L, RA (CQ 578) g g' K L → (a ≤ L 632 k ∧ L 632 k < L 625 0) → K 575 7 = L 632 k → L 625 = H 625 → (∀ j, ¬ j = k → L 632 j = H 632 j) → RJ g G K → FBt G K → RR Φ (X (pc 578 (L 632 k)) K) (Y L)) : RR Φ (bdN (fS_takeNamed G 575 a) (fun y g => if y < 0 then some (0, g) else X y g)) (bdN (fM_takes H 624 k a (w32 (H 625 0 - 1))) (fun y g => if y = 0 then some (0, g) else Y g)) := by
  have hM := RL_M h.1
  have c5 : G 578 5 = H 625 0 := h.1.2.2.2.1.2.1.1
  have hI := h.1.1
  have key := rr_takes (a := a) (b := w32 (H 625 0 - 1)) (k := k) (Φ := Φ) (X := fun K => X (pc 578 (K 575 7)) K) (Y := Y) h hk hE (fun K L h1 h2 h3 h4 h5 h6 h7 => by
    rw [w32_r (by omega)] at h2
    show RR Φ (X (pc 578 (K 575 7)) K) (Y L)
    rw [h3]
    exact hN K L h1 (by rw [h4]; omega) h3 h4 h5 h6 h7)
  obtain ⟨y, K, e, q⟩ := tS_takeNumber (a := a) (b := w32 (H 625 0 - 1)) (RI_J hI)
  rw [fS_takeNamed, if_pos (kd578 hI.1), r578 hI.1, c5, e, bdN_s]
  rw [e, bdN_s] at key
  by_cases c : y = 0
  · rw [if_pos c] at key
    rw [if_pos c, bdN_s, if_pos (show (-1 : Int) < 0 by omega)]
    exact key
  · obtain ⟨v, K', w, L, e1, e2, z⟩ := rr_number (a := a) (b := w32 (H 625 0 - 1)) (Φ := fun v K w L => (v = 0 ∧ w = 0 ∧ RE g g' K L) ∨ (v = 1 ∧ w = 1 ∧ L = H ∧ RT (CQ 578) g g' K H ∧ (a ≤ H 624 17 ∧ H 624 17 ≤ w32 (H 625 0 - 1)) ∧ K 575 7 = H 624 17 ∧ RJ g G K ∧ FBt G K)) h (fun _ _ x => Or.inl ⟨rfl, rfl, x⟩) (fun K x1 x2 x3 _ x4 x5 => Or.inr ⟨rfl, rfl, rfl, x1, x2, x3, x4, x5⟩)
    have ee := Prod.mk.inj (Option.some.inj (e.symm.trans e1))
    rcases z with ⟨v0, -, -⟩ | ⟨-, -, -, z1, z2, z3, -, -⟩
    · exact absurd (ee.1.trans v0) c
    · rw [← ee.2] at z1 z3
      rw [w32_r (by omega)] at z2
      have kI := z1.1.1
      have k5 : K 578 5 = H 625 0 := z1.1.2.2.2.1.2.1.1
      rw [if_neg c] at key
      have pb := pc_b (T := 578) (i := K 575 7) (by omega)
      rw [if_neg c, if_pos (kd578 kI.1), r578 kI.1, aT_at (CR_T kI.1 T578) T578 (by omega) (by omega), bdP_s, bdN_s, if_neg (show ¬ pc 578 (K 575 7) < 0 by omega)]
      exact key
end PAR8
