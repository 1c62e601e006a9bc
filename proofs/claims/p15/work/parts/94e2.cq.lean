/-! ===== the tree that is read: no marks of doom, no adoption by the root (own work) ===== -/
section PAR5Q
variable {g G H : gH} {r r' : Int → Int} {a b c d i j k p s v w x y S T : Int}
/-- the tree S says what the row says; no marks, no adoption -/
def CQ (S : Int) (G : gH) (r : Int → Int) : Prop :=
  (G S 5 = r 0 ∧ G S 6 = r 1 ∧ G S 7 = r 2 ∧ G S 8 = r 3 ∧ G S 9 = r 4 ∧ G S 4 = r 59) ∧
  (∀ i, 0 ≤ i → i < 5 → G (S + 4) i = if i < r 5 then r (6 + i) else -1) ∧
  (∀ d, 0 ≤ d → d < 8 → G (S + 3) d = r (11 + d)) ∧
  (∀ i, 0 ≤ i → i < r 0 → PE (G (pc S i)) r i) ∧
  (∀ i, 1 ≤ i → i < r 0 → G (pc S i) 2 = pc S (r (60 + i))) ∧
  (∀ i, r 0 ≤ i → i < 40 → G (pc S i) 1 = 3) ∧ RU r ∧ (∀ i, 0 ≤ i → i < 40 → G (pc S i) 13 = 0) ∧ r 3 = 0 ∧ r 60 = -1 ∧ r 380 = 0
theorem CQ_P (h : CQ S G r) : CP S G r := ⟨h.1, h.2.1, h.2.2.1, h.2.2.2.1, h.2.2.2.2.1, h.2.2.2.2.2.1, h.2.2.2.2.2.2.1⟩
theorem CQ_of (h : CP S G r) (hd : ∀ i, 0 ≤ i → i < 40 → G (pc S i) 13 = 0) (h3 : r 3 = 0 ∧ r 60 = -1 ∧ r 380 = 0) : CQ S G r := ⟨h.1, h.2.1, h.2.2.1, h.2.2.2.1, h.2.2.2.2.1, h.2.2.2.2.2.1, h.2.2.2.2.2.2, hd, h3⟩
theorem CQ_d0 (h : CQ S G r) : ∀ i, 0 ≤ i → i < 40 → G (pc S i) 13 = 0 := h.2.2.2.2.2.2.2.1
theorem CQ_r3 (h : CQ S G r) : r 3 = 0 ∧ r 60 = -1 ∧ r 380 = 0 := h.2.2.2.2.2.2.2.2
theorem CQ_eq (h : CQ S G r) (hr : 0 ≤ r 0 ∧ r 0 ≤ 40) (e : ∀ x, S ≤ x → x < S + 44 → H x = G x) : CQ S H r :=
  CQ_of (CP_eq (CQ_P h) hr e) (fun i i0 i1 => by
    have := pc_b (T := S) ⟨i0, i1⟩
    rw [e _ (by omega) (by omega)]; exact CQ_d0 h i i0 i1) (CQ_r3 h)
theorem CF_CQ : CF (CQ 578) := fun G H r h hr e => CQ_eq h hr (fun x x0 x1 => e x x0 (by omega))
theorem CQ_hd (h : CQ S G r) (hr : 0 ≤ r 0 ∧ r 0 ≤ 40) (h1 : r 1 ≤ 40) (e : ∀ k, k = 0 ∨ k = 1 ∨ k = 3 ∨ (19 ≤ k ∧ k < 59) ∨ 60 ≤ k → r' k = r k) (ec : ∀ x, S < x → x < S + 44 → ¬ x = S + 3 → ¬ x = S + 4 → H x = G x)
    (c1 : H S 5 = r 0 ∧ H S 6 = r 1 ∧ H S 7 = r' 2 ∧ H S 8 = r' 3 ∧ H S 9 = r' 4 ∧ H S 4 = r' 59) (c2 : ∀ i, 0 ≤ i → i < 5 → H (S + 4) i = if i < r' 5 then r' (6 + i) else -1) (c3 : ∀ d, 0 ≤ d → d < 8 → H (S + 3) d = r' (11 + d)) (hu : RU r') : CQ S H r' :=
  CQ_of (CP_hd (CQ_P h) hr h1 (fun k hk => e k (by omega)) ec c1 c2 c3 hu) (fun i i0 i1 => by
    have := pc_b (T := S) ⟨i0, i1⟩
    rw [ec _ this.1 this.2.1 this.2.2.2.1 this.2.2.2.2]; exact CQ_d0 h i i0 i1) (by rw [e 3 (by omega), e 60 (by omega), e 380 (by omega)]; exact CQ_r3 h)
theorem CQ_d (h : CQ S G r) (hr : 0 ≤ r 0 ∧ r 0 ≤ 40) (h1 : r 1 ≤ 40) (hd : 0 ≤ d ∧ d < 8) : CQ S (pU G (S + 3) d v) (u1 r (11 + d) v) :=
  CQ_of (CP_d (CQ_P h) hr h1 hd) (fun i i0 i1 => by
    have := pc_b (T := S) ⟨i0, i1⟩
    rw [pU_n (by omega)]; exact CQ_d0 h i i0 i1) (by rw [u1_n (by omega), u1_n (by omega), u1_n (by omega)]; exact CQ_r3 h)
theorem CQ_pf (h : CQ S G r) (hr : 0 ≤ r 0 ∧ r 0 ≤ 40) (h1 : r 1 ≤ 40) (hp : 0 ≤ p ∧ p < r 0) (hab : (a = 4 ∧ b = 100) ∨ (a = 5 ∧ b = 180) ∨ (a = 6 ∧ b = 220) ∨ (a = 7 ∧ b = 260) ∨ (a = 8 ∧ b = 340) ∨ (a = 9 ∧ b = 300) ∨ (a = 12 ∧ b = 420)) : CQ S (pU G (pc S p) a v) (u1 r (b + p) v) :=
  CQ_of (CP_pf (CQ_P h) hr h1 hp (by rcases hab with h | h | h | h | h | h | h; exact Or.inl h; exact Or.inr (Or.inl h); exact Or.inr (Or.inr (Or.inl h)); exact Or.inr (Or.inr (Or.inr (Or.inl h))); exact Or.inr (Or.inr (Or.inr (Or.inr (Or.inl h)))); exact Or.inr (Or.inr (Or.inr (Or.inr (Or.inr (Or.inl h))))); exact Or.inr (Or.inr (Or.inr (Or.inr (Or.inr (Or.inr (Or.inr h)))))))) (fun i i0 i1 => by rw [pU_y (by rcases hab with ⟨rfl, -⟩ | ⟨rfl, -⟩ | ⟨rfl, -⟩ | ⟨rfl, -⟩ | ⟨rfl, -⟩ | ⟨rfl, -⟩ | ⟨rfl, -⟩ <;> omega)]; exact CQ_d0 h i i0 i1) (by
    rcases hab with ⟨-, rfl⟩ | ⟨-, rfl⟩ | ⟨-, rfl⟩ | ⟨-, rfl⟩ | ⟨-, rfl⟩ | ⟨-, rfl⟩ | ⟨-, rfl⟩ <;> (rw [u1_n (by omega), u1_n (by omega), u1_n (by omega)]; exact CQ_r3 h))
theorem CQ_p0 (h : CQ S G r) (hr : 1 ≤ r 0 ∧ r 0 ≤ 40) (h1 : r 1 ≤ 40) (hab : (a = 4 ∧ b = 100) ∨ (a = 6 ∧ b = 220)) : CQ S (pU G (S + 1) a v) (u1 r b v) :=
  CQ_of (CP_p0 (CQ_P h) hr h1 hab) (fun i i0 i1 => by rw [pU_y (by omega)]; exact CQ_d0 h i i0 i1) (by rw [u1_n (by omega), u1_n (by omega), u1_n (by omega)]; exact CQ_r3 h)
theorem CQ_wl (h : CQ S G r) (hr : 0 ≤ r 0 ∧ r 0 ≤ 40) (h1 : r 1 ≤ 40) (hp : 0 ≤ p ∧ p < r 0) (hd : 0 ≤ d ∧ d < 8) (hw : ∀ j, 0 ≤ j → j < 8 → wl w j = if j = d then v else wl (G (pc S p) 14) j) : CQ S (pU G (pc S p) 14 w) (u1 r (460 + 8 * p + d) v) :=
  CQ_of (CP_wl (CQ_P h) hr h1 hp hd hw) (fun i i0 i1 => by rw [pU_y (by omega)]; exact CQ_d0 h i i0 i1) (by rw [u1_n (by omega), u1_n (by omega), u1_n (by omega)]; exact CQ_r3 h)
theorem CQ_cm (h : CQ S G r) (hw : WB r) (hr : r 0 < 40) (h1 : r 1 ≤ 40) (hj : 0 ≤ j ∧ j < r 0) (hT : H S = u1 (G S) 5 (r 0 + 1)) (ho : ∀ x, ¬ x = S → ¬ x = pc S (r 0) → ¬ x = pc S j → H x = G x) (hk : H (pc S j) = u1 (G (pc S j)) 3 (G (pc S j) 3 + 1)) (f1 : H (pc S (r 0)) 1 = 0 ∧ H (pc S (r 0)) 2 = pc S j ∧ H (pc S (r 0)) 3 = 0) (f2 : H (pc S (r 0)) 4 = a ∧ H (pc S (r 0)) 5 = b ∧ H (pc S (r 0)) 6 = d ∧ H (pc S (r 0)) 7 = -1) (f3 : H (pc S (r 0)) 8 = 0 ∧ H (pc S (r 0)) 9 = -1 ∧ H (pc S (r 0)) 10 = -1 ∧ H (pc S (r 0)) 11 = 0) (f4 : H (pc S (r 0)) 12 = -1 ∧ H (pc S (r 0)) 13 = 0 ∧ H (pc S (r 0)) 14 = 0) : CQ S H (cmR r j a b d) := by
  have hM := hw.1
  refine CQ_of (CP_cm (CQ_P h) hw hr h1 hj hT ho hk f1 f2 f3 f4) (fun i i0 i1 => ?_) ?_
  · have bi := pc_b (T := S) ⟨i0, i1⟩
    by_cases z : i = r 0
    · rw [z]; exact f4.2.1
    · by_cases z2 : i = j
      · rw [z2, hk, u1_n (by omega)]; exact CQ_d0 h j hj.1 (by omega)
      · rw [ho _ (by omega) (pc_ne i0 (by omega) z) (pc_ne i0 hj.1 z2)]; exact CQ_d0 h i i0 i1
  · rw [cmR_o (by omega) (by omega), cmR_o (by omega) (by omega), cmR_o (by omega) (by omega)]; exact CQ_r3 h
end PAR5Q
