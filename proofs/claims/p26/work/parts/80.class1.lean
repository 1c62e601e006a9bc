/-! ===== the class's trees (own work) ===== -/
/-- the cell of a process -/
def pc (T i : Int) : Int := if i = 0 then T + 1 else T + 4 + i
def ix (T c : Int) : Int := if c = T + 1 then 0 else c - T - 4
def Ts : List Int := [1, 45, 89, 578, 135, 179, 223, 267, 311, 355, 399, 443, 487, 531]
def isT (T : Int) : Prop := T ∈ Ts
/-! the cells' kinds and sizes by arithmetic: the list is gone through once -/
def kt (j : Nat) : Nat × Nat := match j with
  | 0 => (5, 10)
  | 2 => (24, 40)
  | 3 => (20, 8)
  | 4 => (20, 5)
  | _ => (3, 15)
def ku (j : Nat) : Nat × Nat := match j with
  | 0 => (2, 2)
  | 1 => (21, 300)
  | 2 => (7, 24)
  | 7 => (20, 7800)
  | 8 => (22, 40)
  | 9 => (20, 500)
  | 10 => (20, 4)
  | 11 => (20, 40)
  | 12 => (20, 400)
  | 13 => (23, 1)
  | _ => (20, 780)
def kz (i : Nat) : Nat × Nat :=
  bif Nat.beq i 0 then (6, 7) else
  bif Nat.ble i 132 then kt ((i - 1) % 44) else
  bif Nat.beq i 133 then (0, 3) else
  bif Nat.beq i 134 then (25, 10) else
  bif Nat.ble i 574 then kt ((i - 135) % 44) else
  bif Nat.beq i 575 then (4, 11) else
  bif Nat.beq i 576 then (1, 2) else
  bif Nat.beq i 577 then (21, 500) else
  bif Nat.ble i 621 then kt (i - 578) else ku (i - 622)
theorem kz_T : kd_T = (List.range 636).map kz := by decide +kernel
def kdF (a : Int) : Nat := bif decide (a < 0) then 99 else bif Nat.ble 636 a.toNat then 99 else (kz a.toNat).1
def szF (a : Int) : Int := bif decide (a < 0) then 0 else bif Nat.ble 636 a.toNat then 0 else ((kz a.toNat).2 : Nat)
theorem kz_D (n : Nat) : kd_T.getD n (99, 0) = bif Nat.ble 636 n then (99, 0) else kz n := by
  rw [kz_T, List.getD_eq_getElem?_getD]
  by_cases h : n < 636
  · have e : Nat.ble 636 n = false := by
      cases hq : Nat.ble 636 n with
      | false => rfl
      | true => exact absurd (Nat.le_of_ble_eq_true hq) (by omega)
    rw [e, List.getElem?_map, List.getElem?_range h]
    rfl
  · have e : Nat.ble 636 n = true := Nat.ble_eq.mpr (by omega)
    rw [e, List.getElem?_eq_none (by simp; omega)]
    rfl
theorem kd_F (a : Int) : kd a = kdF a := by
  unfold kd kdF
  by_cases h : a < 0
  · rw [if_pos h, decide_eq_true h]
    rfl
  · rw [if_neg h, decide_eq_false h, kz_D]
    cases Nat.ble 636 a.toNat
    · rfl
    · rfl
theorem sz_F (a : Int) : sz a = szF a := by
  unfold sz szF
  by_cases h : a < 0
  · rw [if_pos h, decide_eq_true h]
    rfl
  · rw [if_neg h, decide_eq_false h, kz_D]
    cases Nat.ble 636 a.toNat
    · rfl
    · rfl
theorem kd_Ts : ∀ T, T ∈ Ts → (kd T = 5 ∧ kd (T + 2) = 24 ∧ sz (T + 2) = 40 ∧ kd (T + 3) = 20 ∧ sz (T + 3) = 8 ∧ kd (T + 4) = 20 ∧ sz (T + 4) = 5 ∧ 1 ≤ T ∧ T ≤ 578 ∧ (T < 133 ∨ 133 < T)) ∧ ∀ i : Nat, i < 40 → kd (pc T i) = 3 := by
  simp only [kd_F, sz_F]
  decide +kernel
theorem dis_Ts : ∀ T, T ∈ Ts → ∀ S, S ∈ Ts → T = S ∨ (T + 44 ≤ S ∨ S + 44 ≤ T) := by decide +kernel
theorem out_Ts : ∀ T, T ∈ Ts → (T + 44 ≤ 133 ∨ 134 < T) ∧ (T + 44 ≤ 575 ∨ 577 < T) ∧ T + 44 ≤ 622 := by decide +kernel
theorem T1 : isT 1 := by unfold isT; decide +kernel
theorem T45 : isT 45 := by unfold isT; decide +kernel
theorem T89 : isT 89 := by unfold isT; decide +kernel
theorem T578 : isT 578 := by unfold isT; decide +kernel
theorem Tk {k : Int} (h : 0 ≤ k ∧ k < 10) : isT (135 + 44 * k) := by
  have : k = 0 ∨ k = 1 ∨ k = 2 ∨ k = 3 ∨ k = 4 ∨ k = 5 ∨ k = 6 ∨ k = 7 ∨ k = 8 ∨ k = 9 := by omega
  rcases this with rfl | rfl | rfl | rfl | rfl | rfl | rfl | rfl | rfl | rfl <;> (unfold isT; decide +kernel)
section CLS1
variable {g g' G H K : gH} {T S i j k a b c v w d p q s n m x y : Int}
theorem kdT (h : isT T) : kd T = 5 := (kd_Ts T h).1.1
theorem kdT2 (h : isT T) : kd (T + 2) = 24 := (kd_Ts T h).1.2.1
theorem szT2 (h : isT T) : sz (T + 2) = 40 := (kd_Ts T h).1.2.2.1
theorem kdT3 (h : isT T) : kd (T + 3) = 20 := (kd_Ts T h).1.2.2.2.1
theorem szT3 (h : isT T) : sz (T + 3) = 8 := (kd_Ts T h).1.2.2.2.2.1
theorem kdT4 (h : isT T) : kd (T + 4) = 20 := (kd_Ts T h).1.2.2.2.2.2.1
theorem szT4 (h : isT T) : sz (T + 4) = 5 := (kd_Ts T h).1.2.2.2.2.2.2.1
theorem isT_b (h : isT T) : 1 ≤ T ∧ T ≤ 578 := ⟨(kd_Ts T h).1.2.2.2.2.2.2.2.1, (kd_Ts T h).1.2.2.2.2.2.2.2.2.1⟩
theorem kdp (h : isT T) (hi : 0 ≤ i ∧ i < 40) : kd (pc T i) = 3 := by
  obtain ⟨n, rfl⟩ := Int.eq_ofNat_of_zero_le hi.1
  exact (kd_Ts T h).2 n (by omega)
theorem pc_0 : pc T 0 = T + 1 := if_pos rfl
theorem pc_b (hi : 0 ≤ i ∧ i < 40) : T < pc T i ∧ pc T i < T + 44 ∧ ¬ pc T i = T + 2 ∧ ¬ pc T i = T + 3 ∧ ¬ pc T i = T + 4 := by
  unfold pc
  split <;> omega
theorem ix_pc (hi : 0 ≤ i) : ix T (pc T i) = i := by
  unfold ix pc
  split <;> split <;> omega
theorem pc_inj (hi : 0 ≤ i) (hj : 0 ≤ j) (h : pc T i = pc T j) : i = j := by
  have := congrArg (ix T) h
  rw [ix_pc hi, ix_pc hj] at this
  exact this
theorem pc_ne (hi : 0 ≤ i) (hj : 0 ≤ j) (h : ¬ i = j) : ¬ pc T i = pc T j := fun e => h (pc_inj hi hj e)
/-- what never changes in a tree -/
def TS (g : gH) (T : Int) : Prop := (g T 0 = T + 1 ∧ g T 1 = T + 2 ∧ g T 2 = T + 3 ∧ g T 3 = T + 4) ∧ ∀ i, 0 ≤ i → i < 40 → g (T + 2) i = pc T i ∧ g (pc T i) 0 = i
/-- the supervisor's number -/
def sp (g : gH) (T : Int) : Int → Int := fun i => ix T (g (pc T i) 2)
/-- whose exit is told has a code -/
def ZI (g : gH) (T : Int) : Prop := ∀ i, 0 ≤ i → i < 40 → g (pc T i) 1 = 1 → 0 ≤ g (pc T i) 9 ∧ g (pc T i) 9 < 2147483648
/-- a tree as it stands between two calls -/
def TI (g : gH) (T : Int) : Prop := TS g T ∧ (1 ≤ g T 5 ∧ g T 5 ≤ 40) ∧ g (pc T 0) 2 = -1 ∧ (∀ i, g T 5 ≤ i → i < 40 → g (pc T i) 2 = -1) ∧ (∀ i, 1 ≤ i → i < g T 5 → ∃ j, 0 ≤ j ∧ j < g T 5 ∧ g (pc T i) 2 = pc T j) ∧ Acy (sp g T) (g T 5) ∧ ZI g T
/-- only this tree is touched -/
def TF (T : Int) (g g' : gH) : Prop := ∀ x, ¬ (T ≤ x ∧ x < T + 44) → g' x = g x
theorem TF_r : TF T g g := fun _ _ => rfl
theorem TF_t (h1 : TF T g G) (h2 : TF T G H) : TF T g H := fun x hx => (h2 x hx).trans (h1 x hx)
theorem TF_pU (h : TF T g G) (ha : T ≤ a ∧ a < T + 44) : TF T g (pU G a b v) := fun x hx => (pU_n (fun e => hx (by rw [e]; exact ha))).trans (h x hx)
theorem TS_eq (h : TS g T) (e1 : ∀ k, 0 ≤ k → k ≤ 3 → g' T k = g T k) (e2 : g' (T + 2) = g (T + 2)) (e3 : ∀ i, 0 ≤ i → i < 40 → g' (pc T i) 0 = g (pc T i) 0) : TS g' T := by
  obtain ⟨⟨a0, a1, a2, a3⟩, b⟩ := h
  refine ⟨⟨?_, ?_, ?_, ?_⟩, fun i i0 i1 => ?_⟩
  · rw [e1 0 (by omega) (by omega)]; exact a0
  · rw [e1 1 (by omega) (by omega)]; exact a1
  · rw [e1 2 (by omega) (by omega)]; exact a2
  · rw [e1 3 (by omega) (by omega)]; exact a3
  · rw [e2, e3 i i0 i1]; exact b i i0 i1
theorem sp_rg (h : TI g T) (h1 : 1 ≤ i) (h2 : i < g T 5) : (0 ≤ sp g T i ∧ sp g T i < g T 5) ∧ g (pc T i) 2 = pc T (sp g T i) := by
  obtain ⟨j, j0, j1, e⟩ := h.2.2.2.2.1 i h1 h2
  have : sp g T i = j := by unfold sp; rw [e, ix_pc j0]
  rw [this]
  exact ⟨⟨j0, j1⟩, e⟩
theorem TI_eq (h : TI g T) (e1 : ∀ k, 0 ≤ k → k ≤ 3 → g' T k = g T k) (e5 : g' T 5 = g T 5) (e2 : g' (T + 2) = g (T + 2)) (e3 : ∀ i, 0 ≤ i → i < 40 → g' (pc T i) 0 = g (pc T i) 0 ∧ g' (pc T i) 2 = g (pc T i) 2) (hz : ZI g' T) : TI g' T := by
  have hh := h
  obtain ⟨hs, hc, h0, hu, hb, ha, -⟩ := h
  refine ⟨TS_eq hs e1 e2 (fun i i0 i1 => (e3 i i0 i1).1), by rw [e5]; exact hc, by rw [(e3 0 (by omega) (by omega)).2]; exact h0, fun i i0 i1 => ?_, fun i i0 i1 => ?_, ?_, hz⟩
  · rw [e5] at i0
    rw [(e3 i (by omega) i1).2]; exact hu i i0 i1
  · rw [e5] at i1 ⊢
    rw [(e3 i (by omega) (by omega)).2]; exact hb i i0 i1
  · rw [e5]
    refine acy_ext ha (fun i i0 i1 => ?_) (fun i i0 i1 => ?_)
    · exact (sp_rg hh (by omega) i1).1
    · unfold sp
      rw [(e3 i (by omega) (by omega)).2]
theorem TI_F (h : TI g T) (hf : ∀ x, T ≤ x → x < T + 44 → g' x = g x) : TI g' T := by
  refine TI_eq h (fun k _ _ => by rw [hf T (by omega) (by omega)]) (by rw [hf T (by omega) (by omega)]) (hf _ (by omega) (by omega)) (fun i i0 i1 => ?_) (fun i i0 i1 => ?_)
  · have := pc_b (T := T) ⟨i0, i1⟩
    rw [hf _ (by omega) (by omega)]
    exact ⟨rfl, rfl⟩
  · have := pc_b (T := T) ⟨i0, i1⟩
    rw [hf _ (by omega) (by omega)]
    exact h.2.2.2.2.2.2 i i0 i1
/-- a place that the invariant doesn't speak of -/
theorem TI_w (h : TI g T) (hab : ¬ (T ≤ a ∧ a < T + 44) ∨ a = T + 3 ∨ a = T + 4 ∨ (a = T ∧ (b = 4 ∨ 5 < b)) ∨ (T < a ∧ ¬ a = T + 2 ∧ ¬ b = 0 ∧ ¬ b = 2 ∧ ¬ b = 1 ∧ ¬ b = 9)) : TI (pU g a b v) T := by
  have key : ∀ x y, (x = T ∧ ((0 ≤ y ∧ y ≤ 3) ∨ y = 5)) ∨ x = T + 2 ∨ (T < x ∧ x < T + 44 ∧ ¬ x = T + 3 ∧ ¬ x = T + 4 ∧ (y = 0 ∨ y = 2 ∨ y = 1 ∨ y = 9)) → pU g a b v x y = g x y := by
    intro x y hxy
    unfold pU
    rw [if_neg (by omega)]
  refine TI_eq h (fun k k0 k1 => key _ _ (by omega)) (key _ _ (by omega)) (by funext y; exact key _ _ (by omega)) (fun i i0 i1 => ?_) (fun i i0 i1 => ?_)
  · have := pc_b (T := T) ⟨i0, i1⟩
    exact ⟨key _ _ (by omega), key _ _ (by omega)⟩
  · have := pc_b (T := T) ⟨i0, i1⟩
    rw [key _ 1 (by omega), key _ 9 (by omega)]
    exact h.2.2.2.2.2.2 i i0 i1
/-! weakest ends -/
def WP (Q : Int → Prop) (X : Option Int) : Prop := ∃ v, X = some v ∧ Q v
def WN (Q : Int → gH → Prop) (X : Option (Int × gH)) : Prop := ∃ v g', X = some (v, g') ∧ Q v g'
def WQ (Q : Int → Prop) (E : Nat → Prop) (X : Option (Nat × Int)) : Prop := ∃ e v, X = some (e, v) ∧ ((e = 0 ∧ Q v) ∨ ∃ k, e = k + 1 ∧ E k)
def WT (Q : Int → gH → Prop) (E : Nat → gH → Prop) (X : Option (Nat × (Int × gH))) : Prop := ∃ e v g', X = some (e, (v, g')) ∧ ((e = 0 ∧ Q v g') ∨ ∃ k, e = k + 1 ∧ E k g')
theorem W_bdP {β : Type} {W : Option β → Prop} {Q : Int → Prop} {X : Option Int} {k : Int → Option β} (h : WP Q X) (hk : ∀ v, Q v → W (k v)) : W (bdP X k) := by
  obtain ⟨v, rfl, hv⟩ := h
  exact hk v hv
theorem W_bdN {β : Type} {W : Option β → Prop} {Q : Int → gH → Prop} {X : Option (Int × gH)} {k : Int → gH → Option β} (h : WN Q X) (hk : ∀ v g', Q v g' → W (k v g')) : W (bdN X k) := by
  obtain ⟨v, g', rfl, hv⟩ := h
  exact hk v g' hv
theorem W_bdQ {β : Type} {W : Option β → Prop} {Q : Int → Prop} {E : Nat → Prop} {X : Option (Nat × Int)} {k : Int → Option β} {l : Nat → Option β} (h : WQ Q E X) (hk : ∀ v, Q v → W (k v)) (hl : ∀ e, E e → W (l e)) : W (bdQ X k l) := by
  obtain ⟨e, v, rfl, ⟨rfl, hv⟩ | ⟨n, rfl, hn⟩⟩ := h
  · exact hk v hv
  · exact hl n hn
theorem W_bdT {β : Type} {W : Option β → Prop} {Q : Int → gH → Prop} {E : Nat → gH → Prop} {X : Option (Nat × (Int × gH))} {k : Int → gH → Option β} {l : Nat → gH → Option β} (h : WT Q E X) (hk : ∀ v g', Q v g' → W (k v g')) (hl : ∀ e g', E e g' → W (l e g')) : W (bdT X k l) := by
  obtain ⟨e, v, g', rfl, ⟨rfl, hv⟩ | ⟨n, rfl, hn⟩⟩ := h
  · exact hk v g' hv
  · exact hl n g' hn
theorem W_ite {β : Type} {W : Option β → Prop} {c : Prop} [Decidable c] {A B : Option β} (h1 : c → W A) (h2 : ¬ c → W B) : W (if c then A else B) := by
  split
  · next h => exact h1 h
  · next h => exact h2 h
theorem W_g {β : Type} {W : Option β → Prop} {c : Prop} [Decidable c] {A B : Option β} (h : c) (h1 : W A) : W (if c then A else B) := by
  rw [if_pos h]; exact h1
theorem W_n {β : Type} {W : Option β → Prop} {c : Prop} [Decidable c] {A B : Option β} (h : ¬ c) (h1 : W B) : W (if c then A else B) := by
  rw [if_neg h]; exact h1
theorem WP_i {Q : Int → Prop} (h : Q v) : WP Q (some v) := ⟨v, rfl, h⟩
theorem WN_i {Q : Int → gH → Prop} (h : Q v g) : WN Q (some (v, g)) := ⟨v, g, rfl, h⟩
theorem WQ_i {Q : Int → Prop} {E : Nat → Prop} (h : Q v) : WQ Q E (some (0, v)) := ⟨0, v, rfl, Or.inl ⟨rfl, h⟩⟩
theorem WQ_e {Q : Int → Prop} {E : Nat → Prop} {e : Nat} (h : E e) : WQ Q E (some (e + 1, v)) := ⟨e + 1, v, rfl, Or.inr ⟨e, rfl, h⟩⟩
theorem WT_i {Q : Int → gH → Prop} {E : Nat → gH → Prop} (h : Q v g) : WT Q E (some (0, (v, g))) := ⟨0, v, g, rfl, Or.inl ⟨rfl, h⟩⟩
theorem WT_e {Q : Int → gH → Prop} {E : Nat → gH → Prop} {e : Nat} (h : E e g) : WT Q E (some (e + 1, (v, g))) := ⟨e + 1, v, g, rfl, Or.inr ⟨e, rfl, h⟩⟩
theorem WP_m {Q R : Int → Prop} {X : Option Int} (h : WP Q X) (hm : ∀ v, Q v → R v) : WP R X := by
  obtain ⟨v, e, hv⟩ := h
  exact ⟨v, e, hm v hv⟩
theorem WN_m {Q R : Int → gH → Prop} {X : Option (Int × gH)} (h : WN Q X) (hm : ∀ v g', Q v g' → R v g') : WN R X := by
  obtain ⟨v, g', e, hv⟩ := h
  exact ⟨v, g', e, hm v g' hv⟩
/-- a loop -/
theorem W_loop {A β : Type} {W : Option β → Prop} (L : Nat → A → Option β) (mu : A → Nat) (I : A → Prop) (st : ∀ n a, I a → (∀ a', I a' → mu a' < mu a → W (L n a')) → W (L (n + 1) a)) : ∀ (n : Nat) (a : A), I a → mu a < n → W (L n a) := by
  intro n
  induction n with
  | zero => intro a _ h; exact absurd h (Nat.not_lt_zero _)
  | succ n ih => intro a ha h; exact st n a ha (fun a' ha' h' => ih a' ha' (by omega))
end CLS1
/-! ===== the class's trees: chains and simple questions (own work) ===== -/
section CLS2
variable {g g' G H K : gH} {T S i j k a b c v w d p q s m x y : Int}
theorem pc_pos (hT : isT T) (hi : 0 ≤ i ∧ i < 40) : ¬ pc T i < 0 := by
  have := pc_b (T := T) hi
  have := isT_b hT
  omega
theorem TI_S (h : TI g T) : TS g T := h.1
theorem TS_0 (h : TS g T) : g T 0 = T + 1 := h.1.1
theorem TS_1 (h : TS g T) : g T 1 = T + 2 := h.1.2.1
theorem TS_2 (h : TS g T) : g T 2 = T + 3 := h.1.2.2.1
theorem TS_3 (h : TS g T) : g T 3 = T + 4 := h.1.2.2.2
theorem TS_p (h : TS g T) (hi : 0 ≤ i ∧ i < 40) : g (T + 2) i = pc T i := (h.2 i hi.1 hi.2).1
theorem TS_n (h : TS g T) (hi : 0 ≤ i ∧ i < 40) : g (pc T i) 0 = i := (h.2 i hi.1 hi.2).2
/-- a process that has come; one that may not have -/
def Pn (g : gH) (T c : Int) : Prop := ∃ i, (0 ≤ i ∧ i < g T 5) ∧ c = pc T i
def Pa (T c : Int) : Prop := ∃ i, (0 ≤ i ∧ i < 40) ∧ c = pc T i
theorem Pn_a (h : TI g T) (hp : Pn g T c) : Pa T c := by
  obtain ⟨i, hi, e⟩ := hp
  have := h.2.1
  exact ⟨i, ⟨hi.1, by omega⟩, e⟩
theorem Pa_kd (hT : isT T) (hp : Pa T c) : kd c = 3 := by
  obtain ⟨i, hi, rfl⟩ := hp
  exact kdp hT hi
theorem Pa_pos (hT : isT T) (hp : Pa T c) : ¬ c < 0 := by
  obtain ⟨i, hi, rfl⟩ := hp
  exact pc_pos hT hi
theorem Pa_b (hp : Pa T c) : T < c ∧ c < T + 44 ∧ ¬ c = T + 2 ∧ ¬ c = T + 3 ∧ ¬ c = T + 4 := by
  obtain ⟨i, hi, rfl⟩ := hp
  exact pc_b hi
theorem Pn_0 (h : TI g T) : Pn g T (T + 1) := ⟨0, ⟨by omega, by have := h.2.1; omega⟩, pc_0.symm⟩
/-- above a process stands nobody, or one that has come -/
theorem sup_ (h : TI g T) (hp : Pa T c) : g c 2 = -1 ∨ Pn g T (g c 2) := by
  obtain ⟨i, hi, rfl⟩ := hp
  by_cases h0 : i = 0
  · rw [h0]; exact Or.inl h.2.2.1
  · by_cases h1 : i < g T 5
    · have := sp_rg h (by omega) h1
      exact Or.inr ⟨sp g T i, this.1, this.2⟩
    · exact Or.inl (h.2.2.2.1 i (by omega) hi.2)
theorem pc_eq (hi : 0 ≤ i) (hj : 0 ≤ j) : (pc T i = pc T j) ↔ i = j := ⟨pc_inj hi hj, fun e => by rw [e]⟩
theorem lx_ca (h : TI g T) (hT : isT T) : ∀ (n : Nat) (j : Int) (m : Nat) (v : Int), en (sp g T) n j = true → 0 ≤ j ∧ j < g T 5 → n + 1 < m → 0 ≤ v → v + n ≤ 1000 → lP_countAbove_7 g m v (pc T j) = some (v + 1 + dp (sp g T) n j) := by
  have hc := h.2.1
  intro n
  induction n with
  | zero =>
    intro j m v he hj hm hv hv2
    obtain ⟨m, rfl⟩ : ∃ k, m = k + 1 + 1 := ⟨m - 2, by omega⟩
    have j0 : j = 0 := by simp [en] at he; exact he
    subst j0
    show bP_countAbove_7 g (lP_countAbove_7 g (m + 1)) v (pc T 0) = _
    rw [bP_countAbove_7, if_neg (pc_pos hT (by omega)), if_pos (kdp hT (by omega)), h.2.2.1, w32_r (by omega)]
    show bP_countAbove_7 g (lP_countAbove_7 g m) (v + 1) (-1) = _
    rw [bP_countAbove_7, if_pos (by omega)]
    show some (v + 1) = some (v + 1 + 0)
    rw [Int.add_zero]
  | succ n ih =>
    intro j m v he hj hm hv hv2
    obtain ⟨m, rfl⟩ : ∃ k, m = k + 1 + 1 := ⟨m - 2, by omega⟩
    show bP_countAbove_7 g (lP_countAbove_7 g (m + 1)) v (pc T j) = _
    rw [bP_countAbove_7, if_neg (pc_pos hT (by omega)), if_pos (kdp hT (by omega)), w32_r (by omega)]
    by_cases j0 : j = 0
    · subst j0
      rw [h.2.2.1]
      show bP_countAbove_7 g (lP_countAbove_7 g m) (v + 1) (-1) = _
      rw [bP_countAbove_7, if_pos (by omega)]
      show some (v + 1) = some (v + 1 + (if (0 : Int) = 0 then 0 else 1 + dp (sp g T) n (sp g T 0)))
      rw [if_pos rfl, Int.add_zero]
    · have hs := sp_rg h (by omega) hj.2
      rw [hs.2]
      rcases en_s.mp he with e | ⟨-, -, e⟩
      · exact absurd e j0
      · rw [ih _ (m + 1) (v + 1) e hs.1 (by omega) (by omega) (by omega)]
        show some (v + 1 + 1 + dp (sp g T) n (sp g T j)) = some (v + 1 + (if j = 0 then 0 else 1 + dp (sp g T) n (sp g T j)))
        rw [if_neg j0]
        congr 1
        omega
theorem vP_countAbove (h : TI g T) (hT : isT T) (hi : 0 ≤ i ∧ i < 40) : fP_countAbove g (pc T i) = some (if i < g T 5 then DP (sp g T) i else 0) := by
  have hc := h.2.1
  have nn : lP_countAbove_7 g fu 0 (-1) = some 0 := by
    show bP_countAbove_7 g (lP_countAbove_7 g 9999) 0 (-1) = _
    rw [bP_countAbove_7, if_pos (by omega)]
  rw [fP_countAbove]
  by_cases h0 : i = 0
  · subst h0
    rw [h.2.2.1, nn, if_pos (by omega), DP_0]
  · by_cases h1 : i < g T 5
    · have hs := sp_rg h (by omega) h1
      rw [hs.2, if_pos h1, lx_ca h hT 40 _ fu 0 (h.2.2.2.2.2.1 _ hs.1.1 hs.1.2) hs.1 (by have := fu_ge; omega) (by omega) (by omega), DP_s (h.2.2.2.2.2.1 i (by omega) h1) h0]
      rw [Int.zero_add]
    · rw [h.2.2.2.1 i (by omega) hi.2, nn, if_neg h1]
theorem tP_countAbove (h : TI g T) (hT : isT T) (hp : Pa T c) : WP (fun v => 0 ≤ v ∧ v ≤ 40) (fP_countAbove g c) := by
  obtain ⟨i, hi, rfl⟩ := hp
  rw [vP_countAbove h hT hi]
  refine WP_i ?_
  have := dp_bd (sp g T) 40 i
  unfold DP
  split <;> omega
theorem lx_io (h : TI g T) (hT : isT T) (hq : 0 ≤ q) : ∀ (n : Nat) (j : Int) (m : Nat), en (sp g T) n j = true → 0 ≤ j ∧ j < g T 5 → n + 1 < m → lP_isOver_5 g (pc T q) m (pc T j) = some (if j = q ∨ ov (sp g T) n q j = true then 1 else 0) := by
  have hc := h.2.1
  intro n
  induction n with
  | zero =>
    intro j m he hj hm
    obtain ⟨m, rfl⟩ : ∃ k, m = k + 1 + 1 := ⟨m - 2, by omega⟩
    have j0 : j = 0 := by simp [en] at he; exact he
    subst j0
    show bP_isOver_5 g (pc T q) (lP_isOver_5 g (pc T q) (m + 1)) (pc T 0) = _
    rw [bP_isOver_5, if_neg (pc_pos hT (by omega))]
    by_cases e : (0 : Int) = q
    · rw [if_pos (by rw [e]), if_pos (Or.inl e)]
    · rw [if_neg (fun z => e (pc_inj (by omega) hq z)), if_pos (kdp hT (by omega)), h.2.2.1]
      show bP_isOver_5 g (pc T q) (lP_isOver_5 g (pc T q) m) (-1) = _
      rw [bP_isOver_5, if_pos (by omega), if_neg]
      rintro (z | z)
      · exact e z
      · cases z
  | succ n ih =>
    intro j m he hj hm
    obtain ⟨m, rfl⟩ : ∃ k, m = k + 1 + 1 := ⟨m - 2, by omega⟩
    show bP_isOver_5 g (pc T q) (lP_isOver_5 g (pc T q) (m + 1)) (pc T j) = _
    rw [bP_isOver_5, if_neg (pc_pos hT (by omega))]
    by_cases e : j = q
    · rw [if_pos (by rw [e]), if_pos (Or.inl e)]
    · rw [if_neg (fun z => e (pc_inj (by omega) hq z)), if_pos (kdp hT (by omega))]
      by_cases j0 : j = 0
      · subst j0
        rw [h.2.2.1]
        show bP_isOver_5 g (pc T q) (lP_isOver_5 g (pc T q) m) (-1) = _
        rw [bP_isOver_5, if_pos (by omega), if_neg]
        rintro (z | z)
        · exact e z
        · revert z
          show (if (0 : Int) = 0 then false else if sp g T 0 = q then true else ov (sp g T) n q (sp g T 0)) = true → False
          rw [if_pos rfl]
          intro z
          cases z
      · have hs := sp_rg h (by omega) hj.2
        rw [hs.2]
        rcases en_s.mp he with z | ⟨-, -, z⟩
        · exact absurd z j0
        · rw [ih _ (m + 1) z hs.1 (by omega)]
          congr 1
          have ee : ov (sp g T) (n + 1) q j = (if sp g T j = q then true else ov (sp g T) n q (sp g T j)) := by
            show (if j = 0 then false else if sp g T j = q then true else ov (sp g T) n q (sp g T j)) = _
            rw [if_neg j0]
          by_cases e2 : sp g T j = q
          · rw [if_pos (Or.inl e2), if_pos (Or.inr (by rw [ee, if_pos e2]))]
          · rw [if_neg e2] at ee
            rw [ee]
            by_cases e3 : ov (sp g T) n q (sp g T j) = true
            · rw [if_pos (Or.inr e3), if_pos (Or.inr e3)]
            · rw [if_neg (by rintro (z | z); exact e2 z; exact e3 z), if_neg (by rintro (z | z); exact e z; exact e3 z)]
theorem vP_isOver (h : TI g T) (hT : isT T) (hq : 0 ≤ q) (hi : 0 ≤ i ∧ i < 40) : fP_isOver g (pc T q) (pc T i) = some (if i < g T 5 ∧ OV (sp g T) q i = true then 1 else 0) := by
  have hc := h.2.1
  have nn : lP_isOver_5 g (pc T q) fu (-1) = some 0 := by
    show bP_isOver_5 g (pc T q) (lP_isOver_5 g (pc T q) 9999) (-1) = _
    rw [bP_isOver_5, if_pos (by omega)]
  rw [fP_isOver, if_pos (kdp hT hi)]
  by_cases h0 : i = 0
  · subst h0
    rw [h.2.2.1, nn, if_neg (by rw [OV_0]; simp)]
  · by_cases h1 : i < g T 5
    · have hs := sp_rg h (by omega) h1
      rw [hs.2, lx_io h hT hq 40 _ fu (h.2.2.2.2.2.1 _ hs.1.1 hs.1.2) hs.1 (by have := fu_ge; omega), OV_s (h.2.2.2.2.2.1 i (by omega) h1) h0]
      congr 1
      by_cases e : sp g T i = q
      · rw [if_pos (Or.inl e), if_pos ⟨h1, by rw [if_pos e]⟩]
      · rw [if_neg e]
        by_cases e3 : OV (sp g T) q (sp g T i) = true
        · rw [if_pos (Or.inr e3), if_pos ⟨h1, e3⟩]
        · rw [if_neg (by rintro (z | z); exact e z; exact e3 z), if_neg (fun z => e3 z.2)]
    · rw [h.2.2.2.1 i (by omega) hi.2, nn, if_neg (fun z => h1 z.1)]
theorem tP_isOver (h : TI g T) (hT : isT T) (hq : Pa T a) (hp : Pa T c) : WP (fun v => True) (fP_isOver g a c) := by
  obtain ⟨i, hi, rfl⟩ := hp
  obtain ⟨q, hq, rfl⟩ := hq
  rw [vP_isOver h hT hq.1 hi]
  exact WP_i trivial
theorem vT_at (h : TI g T) (hT : isT T) : fT_at g T v = some (if 0 ≤ v ∧ v < g T 5 then pc T v else -1) := by
  have hc := h.2.1
  have hs := h.1
  rw [fT_at, TS_1 hs]
  by_cases h0 : v < 0
  · rw [if_pos h0, if_neg (by omega)]
  · rw [if_neg h0]
    by_cases h1 : v < g T 5
    · rw [if_pos h1, if_pos (by omega), if_pos ⟨kdT2 hT, by omega, by rw [szT2 hT]; omega⟩, TS_p hs (by omega), if_pos (by omega)]
    · rw [if_neg h1, if_neg (by omega)]
theorem tT_at (h : TI g T) (hT : isT T) : WP (fun c => c = -1 ∨ Pn g T c) (fT_at g T v) := by
  rw [vT_at h hT]
  refine WP_i ?_
  split
  · next hv => exact Or.inr ⟨v, hv, rfl⟩
  · exact Or.inl rfl
theorem tP_room : WP (fun _ => True) (fP_room g c) := by
  rw [fP_room]
  exact W_ite (fun _ => W_ite (fun _ => WP_i trivial) (fun _ => WP_i trivial)) (fun _ => WP_i trivial)
theorem tP_isMortal : WP (fun v => ¬ v = 0 → ¬ g c 2 < 0) (fP_isMortal g c) := by
  rw [fP_isMortal]
  exact W_ite (fun _ => W_ite (fun _ => WP_i (fun z => absurd rfl z)) (fun hc => WP_i (fun _ => hc))) (fun _ => WP_i (fun z => absurd rfl z))
theorem tP_isRunning : WP (fun v => True) (fP_isRunning g c) := by
  rw [fP_isRunning]
  exact W_ite (fun _ => WP_i trivial) (fun _ => WP_i trivial)
theorem tP_hasExited : WP (fun v => True) (fP_hasExited g c) := by
  rw [fP_hasExited]
  exact W_ite (fun _ => WP_i trivial) (fun _ => W_ite (fun _ => WP_i trivial) (fun _ => WP_i trivial))
theorem tP_canInherit : WP (fun v => True) (fP_canInherit g c) := by
  rw [fP_canInherit]
  exact W_ite (fun _ => W_ite (fun _ => WP_i trivial) (fun _ => WP_i trivial)) (fun _ => WP_i trivial)
theorem tP_refuses : WP (fun v => True) (fP_refuses g c v) := by
  rw [fP_refuses]
  exact W_ite (fun _ => WP_i trivial) (fun _ => WP_i trivial)
theorem tP_isRunningChildOf : WP (fun v => ¬ v = 0 → g c 2 = a) (fP_isRunningChildOf g c a) := by
  rw [fP_isRunningChildOf]
  exact W_ite (fun _ => W_ite (fun e => WP_i (fun _ => e)) (fun _ => WP_i (fun z => absurd rfl z))) (fun _ => WP_i (fun z => absurd rfl z))
theorem tP_isZombieOf : WP (fun v => ¬ v = 0 → g c 2 = a) (fP_isZombieOf g c a) := by
  rw [fP_isZombieOf]
  exact W_ite (fun _ => W_ite (fun e => WP_i (fun _ => e)) (fun _ => WP_i (fun z => absurd rfl z))) (fun _ => WP_i (fun z => absurd rfl z))
theorem tP_isZombieOf1 : WP (fun v => ¬ v = 0 → g c 1 = 1) (fP_isZombieOf g c a) := by
  rw [fP_isZombieOf]
  exact W_ite (fun e => W_ite (fun _ => WP_i (fun _ => e)) (fun _ => WP_i (fun z => absurd rfl z))) (fun _ => WP_i (fun z => absurd rfl z))
theorem tP_willFor : WP (fun v => True) (fP_willFor g c v) := ⟨_, rfl, trivial⟩
end CLS2
/-! ===== the class's trees: questions over all processes (own work, by program: wip/p2/gen_cls.py) ===== -/
section CLS3
variable {g g' G H K : gH} {T S j k a b c v w d p q s m y : Int}
theorem tT_countInState (h : TI g T) (hT : isT T) : WP (fun _ => True) (fT_countInState g T w) := by
  have hs := h.1
  have hf := fu_ge
  have hc := h.2.1
  rw [fT_countInState, TS_1 hs, if_pos (kdT2 hT), szT2 hT]
  refine W_loop (W := WP (fun _ => True)) (fun n (a : Int × Int) => lT_countInState_14 g w (T + 2) 40 n a.1 a.2) (fun a => (40 - a.2).toNat) (fun a => (0 ≤ a.2 ∧ a.2 ≤ 40) ∧ True) ?_ fu (0, 0) ⟨⟨by show (0 : Int) ≤ 0; omega, by show (0 : Int) ≤ 40; omega⟩, trivial⟩ (by show (40 - (0 : Int)).toNat < fu; omega)
  rintro n ⟨x, i⟩ hI ih
  have i0 : 0 ≤ i := hI.1.1
  have i1 : i ≤ 40 := hI.1.2
  show WP (fun _ => True) (bT_countInState_14 g w (T + 2) 40 (lT_countInState_14 g w (T + 2) 40 n) x i)
  rw [bT_countInState_14]
  refine W_ite (fun hi => ?_) (fun _ => WP_i trivial)
  have hi : 0 ≤ i ∧ i < 40 := ⟨i0, hi⟩
  have nx : ∀ x', WP (fun _ => True) (lT_countInState_14 g w (T + 2) 40 n x' (w32 (i + 1))) := fun x' => by rw [w32_r (by omega)]; exact ih (x', i + 1) ⟨by dsimp only; omega, trivial⟩ (by dsimp only; omega)
  have pa : Pa T (pc T i) := ⟨i, hi, rfl⟩
  simp only [TS_p hs hi, TS_n hs hi, kdp hT hi, kdT2 hT, szT2 hT, hi.1, hi.2, if_true, true_and, and_self]
  repeat' first | exact WP_i trivial | exact nx _ | refine W_bdP tP_isRunning (fun _ _ => ?_) | refine W_bdP tP_isZombieOf (fun _ _ => ?_) | refine W_bdP tP_isRunningChildOf (fun _ _ => ?_) | refine W_bdP (tP_countAbove h hT pa) (fun _ _ => ?_) | refine W_bdP (tP_isOver h hT hp pa) (fun _ _ => ?_) | refine W_bdP tP_room (fun _ _ => ?_) | refine W_ite (fun _ => ?_) (fun _ => ?_)
theorem tT_countBelow (h : TI g T) (hT : isT T) (hp : Pa T c) : WP (fun _ => True) (fT_countBelow g T c w) := by
  have hs := h.1
  have hf := fu_ge
  have hc := h.2.1
  rw [fT_countBelow, TS_1 hs, if_pos (kdT2 hT), szT2 hT]
  refine W_loop (W := WP (fun _ => True)) (fun n (a : Int × Int) => lT_countBelow_16 g c w (T + 2) 40 n a.1 a.2) (fun a => (40 - a.2).toNat) (fun a => (0 ≤ a.2 ∧ a.2 ≤ 40) ∧ True) ?_ fu (0, 0) ⟨⟨by show (0 : Int) ≤ 0; omega, by show (0 : Int) ≤ 40; omega⟩, trivial⟩ (by show (40 - (0 : Int)).toNat < fu; omega)
  rintro n ⟨x, i⟩ hI ih
  have i0 : 0 ≤ i := hI.1.1
  have i1 : i ≤ 40 := hI.1.2
  show WP (fun _ => True) (bT_countBelow_16 g c w (T + 2) 40 (lT_countBelow_16 g c w (T + 2) 40 n) x i)
  rw [bT_countBelow_16]
  refine W_ite (fun hi => ?_) (fun _ => WP_i trivial)
  have hi : 0 ≤ i ∧ i < 40 := ⟨i0, hi⟩
  have nx : ∀ x', WP (fun _ => True) (lT_countBelow_16 g c w (T + 2) 40 n x' (w32 (i + 1))) := fun x' => by rw [w32_r (by omega)]; exact ih (x', i + 1) ⟨by dsimp only; omega, trivial⟩ (by dsimp only; omega)
  have pa : Pa T (pc T i) := ⟨i, hi, rfl⟩
  simp only [TS_p hs hi, TS_n hs hi, kdp hT hi, kdT2 hT, szT2 hT, hi.1, hi.2, if_true, true_and, and_self]
  simp only [Pa_kd hT hp, if_true]
  repeat' first | exact WP_i trivial | exact nx _ | refine W_bdP tP_isRunning (fun _ _ => ?_) | refine W_bdP tP_isZombieOf (fun _ _ => ?_) | refine W_bdP tP_isRunningChildOf (fun _ _ => ?_) | refine W_bdP (tP_countAbove h hT pa) (fun _ _ => ?_) | refine W_bdP (tP_isOver h hT hp pa) (fun _ _ => ?_) | refine W_bdP tP_room (fun _ _ => ?_) | refine W_ite (fun _ => ?_) (fun _ => ?_)
theorem tT_countZombiesOf (h : TI g T) (hT : isT T) : WP (fun _ => True) (fT_countZombiesOf g T c) := by
  have hs := h.1
  have hf := fu_ge
  have hc := h.2.1
  rw [fT_countZombiesOf, TS_1 hs, if_pos (kdT2 hT), szT2 hT]
  refine W_loop (W := WP (fun _ => True)) (fun n (a : Int × Int) => lT_countZombiesOf_14 g c (T + 2) 40 n a.1 a.2) (fun a => (40 - a.2).toNat) (fun a => (0 ≤ a.2 ∧ a.2 ≤ 40) ∧ True) ?_ fu (0, 0) ⟨⟨by show (0 : Int) ≤ 0; omega, by show (0 : Int) ≤ 40; omega⟩, trivial⟩ (by show (40 - (0 : Int)).toNat < fu; omega)
  rintro n ⟨x, i⟩ hI ih
  have i0 : 0 ≤ i := hI.1.1
  have i1 : i ≤ 40 := hI.1.2
  show WP (fun _ => True) (bT_countZombiesOf_14 g c (T + 2) 40 (lT_countZombiesOf_14 g c (T + 2) 40 n) x i)
  rw [bT_countZombiesOf_14]
  refine W_ite (fun hi => ?_) (fun _ => WP_i trivial)
  have hi : 0 ≤ i ∧ i < 40 := ⟨i0, hi⟩
  have nx : ∀ x', WP (fun _ => True) (lT_countZombiesOf_14 g c (T + 2) 40 n x' (w32 (i + 1))) := fun x' => by rw [w32_r (by omega)]; exact ih (x', i + 1) ⟨by dsimp only; omega, trivial⟩ (by dsimp only; omega)
  have pa : Pa T (pc T i) := ⟨i, hi, rfl⟩
  simp only [TS_p hs hi, TS_n hs hi, kdp hT hi, kdT2 hT, szT2 hT, hi.1, hi.2, if_true, true_and, and_self]
  repeat' first | exact WP_i trivial | exact nx _ | refine W_bdP tP_isRunning (fun _ _ => ?_) | refine W_bdP tP_isZombieOf (fun _ _ => ?_) | refine W_bdP tP_isRunningChildOf (fun _ _ => ?_) | refine W_bdP (tP_countAbove h hT pa) (fun _ _ => ?_) | refine W_bdP (tP_isOver h hT hp pa) (fun _ _ => ?_) | refine W_bdP tP_room (fun _ _ => ?_) | refine W_ite (fun _ => ?_) (fun _ => ?_)
theorem tT_greatestDepth (h : TI g T) (hT : isT T) : WP (fun _ => True) (fT_greatestDepth g T) := by
  have hs := h.1
  have hf := fu_ge
  have hc := h.2.1
  rw [fT_greatestDepth, TS_1 hs, if_pos (kdT2 hT), szT2 hT]
  refine W_loop (W := WP (fun _ => True)) (fun n (a : Int × Int) => lT_greatestDepth_13 g (T + 2) 40 n a.1 a.2) (fun a => (40 - a.2).toNat) (fun a => (0 ≤ a.2 ∧ a.2 ≤ 40) ∧ True) ?_ fu (0, 0) ⟨⟨by show (0 : Int) ≤ 0; omega, by show (0 : Int) ≤ 40; omega⟩, trivial⟩ (by show (40 - (0 : Int)).toNat < fu; omega)
  rintro n ⟨x, i⟩ hI ih
  have i0 : 0 ≤ i := hI.1.1
  have i1 : i ≤ 40 := hI.1.2
  show WP (fun _ => True) (bT_greatestDepth_13 g (T + 2) 40 (lT_greatestDepth_13 g (T + 2) 40 n) x i)
  rw [bT_greatestDepth_13]
  refine W_ite (fun hi => ?_) (fun _ => WP_i trivial)
  have hi : 0 ≤ i ∧ i < 40 := ⟨i0, hi⟩
  have nx : ∀ x', WP (fun _ => True) (lT_greatestDepth_13 g (T + 2) 40 n x' (w32 (i + 1))) := fun x' => by rw [w32_r (by omega)]; exact ih (x', i + 1) ⟨by dsimp only; omega, trivial⟩ (by dsimp only; omega)
  have pa : Pa T (pc T i) := ⟨i, hi, rfl⟩
  simp only [TS_p hs hi, TS_n hs hi, kdp hT hi, kdT2 hT, szT2 hT, hi.1, hi.2, if_true, true_and, and_self]
  repeat' first | exact WP_i trivial | exact nx _ | refine W_bdP tP_isRunning (fun _ _ => ?_) | refine W_bdP tP_isZombieOf (fun _ _ => ?_) | refine W_bdP tP_isRunningChildOf (fun _ _ => ?_) | refine W_bdP (tP_countAbove h hT pa) (fun _ _ => ?_) | refine W_bdP (tP_isOver h hT hp pa) (fun _ _ => ?_) | refine W_bdP tP_room (fun _ _ => ?_) | refine W_ite (fun _ => ?_) (fun _ => ?_)
theorem tT_childBehind (h : TI g T) (hT : isT T) : WP (fun v => v = -1 ∨ Pa T v) (fT_childBehind g T c w) := by
  have hs := h.1
  have hf := fu_ge
  have hc := h.2.1
  rw [fT_childBehind, TS_1 hs, if_pos (kdT2 hT), szT2 hT]
  refine W_loop (W := WP (fun v => v = -1 ∨ Pa T v)) (fun n (a : Int) => lT_childBehind_12 g c w (T + 2) 40 n a) (fun a => (40 - a).toNat) (fun a => (0 ≤ a ∧ a ≤ 40) ∧ True) ?_ fu 0 ⟨⟨by show (0 : Int) ≤ 0; omega, by show (0 : Int) ≤ 40; omega⟩, trivial⟩ (by show (40 - (0 : Int)).toNat < fu; omega)
  intro n i hI ih
  have i0 : 0 ≤ i := hI.1.1
  have i1 : i ≤ 40 := hI.1.2
  show WP (fun v => v = -1 ∨ Pa T v) (bT_childBehind_12 g c w (T + 2) 40 (lT_childBehind_12 g c w (T + 2) 40 n)  i)
  rw [bT_childBehind_12]
  refine W_ite (fun hi => ?_) (fun _ => WP_i (Or.inl rfl))
  have hi : 0 ≤ i ∧ i < 40 := ⟨i0, hi⟩
  have nx : ∀ _u : Int, WP (fun v => v = -1 ∨ Pa T v) (lT_childBehind_12 g c w (T + 2) 40 n  (w32 (i + 1))) := fun _u => by rw [w32_r (by omega)]; exact ih (i + 1) ⟨by omega, trivial⟩ (by omega)
  have pa : Pa T (pc T i) := ⟨i, hi, rfl⟩
  simp only [TS_p hs hi, TS_n hs hi, kdp hT hi, kdT2 hT, szT2 hT, hi.1, hi.2, if_true, true_and, and_self]
  refine W_ite (fun _ => W_bdP tP_isRunningChildOf (fun _ _ => W_ite (fun _ => nx 0) (fun _ => WP_i (Or.inr pa)))) (fun _ => nx 0)
theorem tT_zombieBehind (h : TI g T) (hT : isT T) : WP (fun v => v = -1 ∨ (Pa T v ∧ g v 1 = 1)) (fT_zombieBehind g T c w) := by
  have hs := h.1
  have hf := fu_ge
  have hc := h.2.1
  rw [fT_zombieBehind, TS_1 hs, if_pos (kdT2 hT), szT2 hT]
  refine W_loop (W := WP (fun v => v = -1 ∨ (Pa T v ∧ g v 1 = 1))) (fun n (a : Int × Int) => lT_zombieBehind_16 g c w (T + 2) 40 n a.1 a.2) (fun a => (40 - a.2).toNat) (fun a => (0 ≤ a.2 ∧ a.2 ≤ 40) ∧ (a.1 = -1 ∨ (Pa T a.1 ∧ g a.1 1 = 1))) ?_ fu (-1, 0) ⟨⟨by show (0 : Int) ≤ 0; omega, by show (0 : Int) ≤ 40; omega⟩, Or.inl rfl⟩ (by show (40 - (0 : Int)).toNat < fu; omega)
  rintro n ⟨x, i⟩ hI ih
  have i0 : 0 ≤ i := hI.1.1
  have i1 : i ≤ 40 := hI.1.2
  have hv : (x = -1 ∨ (Pa T x ∧ g x 1 = 1)) := hI.2
  show WP (fun v => v = -1 ∨ (Pa T v ∧ g v 1 = 1)) (bT_zombieBehind_16 g c w (T + 2) 40 (lT_zombieBehind_16 g c w (T + 2) 40 n) x i)
  rw [bT_zombieBehind_16]
  refine W_ite (fun hi => ?_) (fun _ => WP_i hv)
  have hi : 0 ≤ i ∧ i < 40 := ⟨i0, hi⟩
  have nx : ∀ x', (x' = -1 ∨ (Pa T x' ∧ g x' 1 = 1)) → WP (fun v => v = -1 ∨ (Pa T v ∧ g v 1 = 1)) (lT_zombieBehind_16 g c w (T + 2) 40 n x' (w32 (i + 1))) := fun x' hv' => by rw [w32_r (by omega)]; exact ih (x', i + 1) ⟨by dsimp only; omega, hv'⟩ (by dsimp only; omega)
  have pa : Pa T (pc T i) := ⟨i, hi, rfl⟩
  simp only [TS_p hs hi, TS_n hs hi, kdp hT hi, kdT2 hT, szT2 hT, hi.1, hi.2, if_true, true_and, and_self]
  refine W_bdP tP_isZombieOf1 (fun y hy => W_ite (fun _ => nx x hv) (fun hz => W_ite (fun _ => W_ite (fun _ => nx _ (Or.inr ⟨pa, hy hz⟩)) (fun h3 => ?_)) (fun _ => nx x hv)))
  rcases hv with hv | hv
  · exact absurd (by omega) h3
  · rw [if_pos (Pa_kd hT hv.1)]
    exact W_ite (fun _ => nx _ (Or.inr ⟨pa, hy hz⟩)) (fun _ => nx x (Or.inr hv))
theorem tT_deepestBelow (h : TI g T) (hT : isT T) (hp : Pa T c) : WP (fun v => v = -1 ∨ Pa T v) (fT_deepestBelow g T c) := by
  have hs := h.1
  have hf := fu_ge
  have hc := h.2.1
  rw [fT_deepestBelow, TS_1 hs, if_pos (kdT2 hT), szT2 hT]
  refine W_loop (W := WP (fun v => v = -1 ∨ Pa T v)) (fun n (a : Int × Int) => lT_deepestBelow_14 g c (T + 2) 40 n a.1 a.2) (fun a => (40 - a.2).toNat) (fun a => (0 ≤ a.2 ∧ a.2 ≤ 40) ∧ (a.1 = -1 ∨ Pa T a.1)) ?_ fu (-1, 0) ⟨⟨by show (0 : Int) ≤ 0; omega, by show (0 : Int) ≤ 40; omega⟩, Or.inl rfl⟩ (by show (40 - (0 : Int)).toNat < fu; omega)
  rintro n ⟨x, i⟩ hI ih
  have i0 : 0 ≤ i := hI.1.1
  have i1 : i ≤ 40 := hI.1.2
  have hv : (x = -1 ∨ Pa T x) := hI.2
  show WP (fun v => v = -1 ∨ Pa T v) (bT_deepestBelow_14 g c (T + 2) 40 (lT_deepestBelow_14 g c (T + 2) 40 n) x i)
  rw [bT_deepestBelow_14]
  refine W_ite (fun hi => ?_) (fun _ => WP_i hv)
  have hi : 0 ≤ i ∧ i < 40 := ⟨i0, hi⟩
  have nx : ∀ x', (x' = -1 ∨ Pa T x') → WP (fun v => v = -1 ∨ Pa T v) (lT_deepestBelow_14 g c (T + 2) 40 n x' (w32 (i + 1))) := fun x' hv' => by rw [w32_r (by omega)]; exact ih (x', i + 1) ⟨by dsimp only; omega, hv'⟩ (by dsimp only; omega)
  have pa : Pa T (pc T i) := ⟨i, hi, rfl⟩
  simp only [TS_p hs hi, TS_n hs hi, kdp hT hi, kdT2 hT, szT2 hT, hi.1, hi.2, if_true, true_and, and_self]
  simp only [Pa_kd hT hp, if_true]
  refine W_bdP tP_isRunning (fun _ _ => W_ite (fun _ => nx x hv) (fun _ => W_bdP (tP_isOver h hT hp pa) (fun _ _ => W_ite (fun _ => nx x hv) (fun _ => W_ite (fun _ => nx _ (Or.inr pa)) (fun h3 => W_bdP (tP_countAbove h hT pa) (fun _ _ => ?_))))))
  rcases hv with hv | hv
  · exact absurd (by omega) h3
  · rw [if_pos (Pa_kd hT hv)]
    exact W_bdP (tP_countAbove h hT hv) (fun _ _ => W_ite (fun _ => nx x (Or.inr hv)) (fun _ => nx _ (Or.inr pa)))
end CLS3
/-! ===== the class's trees: who adopts, who inherits (own work) ===== -/
section CLS4
variable {g g' G H K : gH} {T S i j k a b c v w d o p q s m x y : Int}
/-- how far a chain goes -/
def cl (g : gH) (T c : Int) : Nat := if c < 0 then 0 else (1 + DP (sp g T) (ix T c)).toNat
theorem cl_41 : cl g T c ≤ 41 := by
  unfold cl DP
  have := dp_bd (sp g T) 40 (ix T c)
  split <;> omega
theorem cl_up (h : TI g T) (hT : isT T) (hp : Pa T c) : cl g T (g c 2) < cl g T c := by
  obtain ⟨i, hi, rfl⟩ := hp
  have hpos := pc_pos hT hi
  have hd := dp_bd (sp g T) 40 i
  have e1 : cl g T (pc T i) = (1 + DP (sp g T) i).toNat := by
    unfold cl
    rw [if_neg hpos, ix_pc hi.1]
  have nn : cl g T (-1) = 0 := rfl
  rw [e1]
  unfold DP at *
  by_cases h0 : i = 0
  · subst h0
    rw [h.2.2.1, nn]
    omega
  · by_cases h1 : i < g T 5
    · have hs := sp_rg h (by omega) h1
      have hc := h.2.1
      rw [hs.2]
      have e2 : cl g T (pc T (sp g T i)) = (1 + dp (sp g T) 40 (sp g T i)).toNat := by
        unfold cl
        rw [if_neg (pc_pos hT (by omega)), ix_pc hs.1.1]
      have := DP_s (h.2.2.2.2.2.1 i (by omega) h1) h0
      unfold DP at this
      have := dp_bd (sp g T) 40 (sp g T i)
      rw [e2]
      omega
    · rw [h.2.2.2.1 i (by omega) hi.2, nn]
      omega
theorem sup_a (h : TI g T) (hp : Pa T c) : g c 2 = -1 ∨ Pa T (g c 2) := by
  rcases sup_ h hp with e | e
  · exact Or.inl e
  · exact Or.inr (Pn_a h e)
theorem tT_lowestOver (h : TI g T) (hT : isT T) (hp : Pa T a) (hq : Pa T b) : WP (Pa T) (fT_lowestOver g T a b) := by
  rw [fT_lowestOver]
  refine W_loop (W := WP (Pa T)) (fun n (c : Int) => lT_lowestOver_2 g T b n c) (fun c => cl g T c) (fun c => c = -1 ∨ Pa T c) ?_ fu a (Or.inr hp) (by have := cl_41 (g := g) (T := T) (c := a); have := fu_ge; omega)
  intro n c hc ih
  show WP _ (bT_lowestOver_2 g T b (lT_lowestOver_2 g T b n) c)
  rw [bT_lowestOver_2]
  refine W_ite (fun _ => WP_i ?_) (fun hn => ?_)
  · rw [TS_0 h.1]; exact Pn_a h (Pn_0 h)
  · have hc : Pa T c := by
      rcases hc with e | e
      · exact absurd (by omega) hn
      · exact e
    refine W_ite (fun _ => WP_i hc) (fun _ => ?_)
    rw [if_pos (Pa_kd hT hc)]
    exact W_bdP (tP_isOver h hT hc hq) (fun _ _ => W_ite (fun _ => ih _ (sup_a h hc) (cl_up h hT hc)) (fun _ => WP_i hc))
theorem tT_nextOfWalk (h : TI g T) (hT : isT T) (hp : Pa T a) : WP (fun v => v = -1 ∨ Pa T v) (fT_nextOfWalk g T a) := by
  rw [fT_nextOfWalk]
  refine W_bdP (tT_childBehind h hT) (fun x hx => ?_)
  refine W_loop (W := WP (fun v => v = -1 ∨ Pa T v)) (fun n (c : Int × Int) => lT_nextOfWalk_9 g T n c.1 c.2) (fun c => cl g T c.2) (fun c => (c.1 = -1 ∨ Pa T c.1) ∧ Pa T c.2) ?_ fu (x, a) ⟨hx, hp⟩ (by have := cl_41 (g := g) (T := T) (c := a); have := fu_ge; dsimp only; omega)
  rintro n ⟨x, c⟩ hI ih
  have hx : x = -1 ∨ Pa T x := hI.1
  have hc : Pa T c := hI.2
  show WP _ (bT_nextOfWalk_9 g T (lT_nextOfWalk_9 g T n) x c)
  rw [bT_nextOfWalk_9]
  refine W_ite (fun _ => ?_) (fun _ => WP_i hx)
  rw [if_pos (Pa_kd hT hc)]
  refine W_ite (fun _ => WP_i hx) (fun hn => ?_)
  refine W_bdP (tT_childBehind h hT) (fun x' hx' => ih (x', g c 2) ⟨hx', ?_⟩ (cl_up h hT hc))
  rcases sup_a h hc with e | e
  · exact absurd (by omega) hn
  · exact e
theorem tT_holderOf (h : TI g T) (hT : isT T) : WP (Pa T) (fT_holderOf g T d) := by
  have hs := h.1
  have r : ∀ s, (s = -1 ∨ Pn g T s) → WP (Pa T) (jT_holderOf_24 g T s) := by
    intro s hs'
    rw [jT_holderOf_24]
    refine W_ite (fun _ => WP_i ?_) (fun hn => WP_i ?_)
    · rw [TS_0 hs]; exact Pn_a h (Pn_0 h)
    · rcases hs' with e | e
      · exact absurd (by omega) hn
      · exact Pn_a h e
  rw [fT_holderOf]
  refine W_ite (fun _ => r _ (Or.inl rfl)) (fun _ => W_ite (fun _ => ?_) (fun _ => r _ (Or.inl rfl)))
  rw [TS_2 hs, if_pos ⟨kdT3 hT, by omega, by rw [szT3 hT]; omega⟩]
  exact W_bdP (tT_at h hT) (fun y hy => r y hy)
theorem tT_heirOf (h : TI g T) (hT : isT T) (hp : Pa T c) : WP (Pa T) (fT_heirOf g T c) := by
  have hs := h.1
  have hf := fu_ge
  have key : WP (Pa T) (lT_heirOf_34 g T c (T + 2) 40 fu 0) := by
    refine W_loop (W := WP (Pa T)) (fun n (i : Int) => lT_heirOf_34 g T c (T + 2) 40 n i) (fun i => (40 - i).toNat) (fun i => 0 ≤ i ∧ i ≤ 40) ?_ fu 0 (by omega) (by omega)
    intro n i hI ih
    show WP _ (bT_heirOf_34 g T c (T + 2) 40 (lT_heirOf_34 g T c (T + 2) 40 n) i)
    rw [bT_heirOf_34]
    refine W_ite (fun hi => ?_) (fun _ => ?_)
    · have hi : 0 ≤ i ∧ i < 40 := ⟨hI.1, hi⟩
      have pa : Pa T (pc T i) := ⟨i, hi, rfl⟩
      have nx : WP (Pa T) (lT_heirOf_34 g T c (T + 2) 40 n (w32 (i + 1))) := by rw [w32_r (by omega)]; exact ih (i + 1) (by omega) (by omega)
      simp only [TS_p hs hi, kdp hT hi, kdT2 hT, szT2 hT, hi.1, hi.2, if_true, true_and, and_self]
      exact W_bdP tP_isRunningChildOf (fun _ _ => W_ite (fun _ => nx) (fun _ => W_bdP tP_canInherit (fun _ _ => W_ite (fun _ => nx) (fun _ => WP_i pa))))
    · rw [jT_heirOf_73, if_pos (Pa_kd hT hp)]
      refine W_ite (fun _ => WP_i ?_) (fun hn => WP_i ?_)
      · rw [TS_0 hs]; exact Pn_a h (Pn_0 h)
      · rcases sup_a h hp with e | e
        · exact absurd (by omega) hn
        · exact e
  rw [fT_heirOf, if_pos (Pa_kd hT hp), TS_1 hs, szT2 hT, if_pos (kdT2 hT)]
  refine W_bdP (tT_at h hT) (fun y hy => W_ite (fun _ => key) (fun hn => ?_))
  have py : Pa T y := by
    rcases hy with e | e
    · exact absurd (by omega) hn
    · exact Pn_a h e
  rw [if_pos (Pa_kd hT py)]
  exact W_bdP tP_canInherit (fun _ _ => W_ite (fun _ => key) (fun _ => WP_i py))
theorem tT_inheritorOf (h : TI g T) (hT : isT T) (hp : Pa T c) : WP (Pa T) (fT_inheritorOf g T c d) := by
  rw [fT_inheritorOf, if_pos (Pa_kd hT hp)]
  have key : WP (Pa T) (bdP (fT_heirOf g T c) (fun y => some y)) := W_bdP (tT_heirOf h hT hp) (fun _ hy => WP_i hy)
  refine W_bdP tP_willFor (fun _ _ => W_bdP (tT_at h hT) (fun y hy => W_ite (fun _ => key) (fun hn => ?_)))
  have py : Pa T y := by
    rcases hy with e | e
    · exact absurd (by omega) hn
    · exact Pn_a h e
  rw [if_pos (Pa_kd hT py)]
  exact W_bdP tP_canInherit (fun _ _ => W_ite (fun _ => key) (fun _ => WP_i py))
/-- who can adopt -/
def ADc (g : gH) (T o c : Int) : Prop := c = T + 1 ∨ (Pa T c ∧ ¬ g c 2 < 0 ∧ ¬ c = o ∧ fP_isOver g o c = some 0)
theorem tT_canAdopt (h : TI g T) (hT : isT T) (hp : Pa T c) (ho : Pa T o) : WP (fun v => ¬ v = 0 → ADc g T o c) (fT_canAdopt g T c o) := by
  have z0 : WP (fun v => ¬ v = 0 → ADc g T o c) (some 0) := WP_i (fun z => absurd rfl z)
  rw [fT_canAdopt, if_pos (Pa_kd hT hp), if_pos (Pa_kd hT ho)]
  refine W_bdP tP_isMortal (fun y hy => W_ite (fun _ => z0) (fun hm => W_ite (fun _ => W_ite (fun _ => z0) (fun hn => W_bdP tP_refuses (fun _ _ => W_ite (fun _ => W_bdP tP_room (fun _ _ => W_ite (fun _ => z0) (fun _ => W_bdP (tP_countAbove h hT hp) (fun _ _ => W_ite (fun _ => ?_) (fun _ => z0))))) (fun _ => z0)))) (fun _ => z0)))
  obtain ⟨v, e, -⟩ := tP_isOver h hT ho hp
  rw [e, bdP_s]
  refine W_ite (fun hv => WP_i (fun _ => Or.inr ⟨hp, hy hm, hn, by rw [e, hv]⟩)) (fun _ => z0)
theorem ADc_a (h : TI g T) (hc : ADc g T o c) : Pa T c := by
  rcases hc with e | e
  · rw [e]; exact Pn_a h (Pn_0 h)
  · exact e.1
theorem tT_nearest (h : TI g T) (hT : isT T) (ho : Pa T o) (hf : Pa T a) : WP (fun v => v = -1 ∨ ADc g T o v) (fT_nearest g T o a) := by
  rw [fT_nearest, if_pos (Pa_kd hT hf)]
  refine W_loop (W := WP (fun v => v = -1 ∨ ADc g T o v)) (fun n (c : Int) => lT_nearest_5 g T o n c) (fun c => cl g T c) (fun c => c = -1 ∨ Pa T c) ?_ fu (g a 2) (sup_a h hf) (by have := cl_41 (g := g) (T := T) (c := g a 2); have := fu_ge; omega)
  intro n c hc ih
  show WP _ (bT_nearest_5 g T o (lT_nearest_5 g T o n) c)
  rw [bT_nearest_5]
  refine W_ite (fun _ => WP_i (Or.inl rfl)) (fun hn => ?_)
  have hc : Pa T c := by
    rcases hc with e | e
    · exact absurd (by omega) hn
    · exact e
  refine W_bdP (tT_canAdopt h hT hc ho) (fun v hv => W_ite (fun _ => ?_) (fun z => WP_i (Or.inr (hv z))))
  rw [if_pos (Pa_kd hT hc)]
  exact ih _ (sup_a h hc) (cl_up h hT hc)
theorem tT_firstKin (h : TI g T) (hT : isT T) (ho : Pa T o) (hf : Pa T a) : WP (fun v => v = -1 ∨ ADc g T o v) (fT_firstKin g T o a) := by
  have hs := h.1
  have hfu := fu_ge
  rw [fT_firstKin, if_pos (Pa_kd hT hf), TS_1 hs, if_pos (kdT2 hT), szT2 hT]
  refine W_loop (W := WP (fun v => v = -1 ∨ ADc g T o v)) (fun n (i : Int) => lT_firstKin_19 g T o a (g a 2) (T + 2) 40 n i) (fun i => (40 - i).toNat) (fun i => 0 ≤ i ∧ i ≤ 40) ?_ fu 0 (by omega) (by omega)
  intro n i hI ih
  show WP _ (bT_firstKin_19 g T o a (g a 2) (T + 2) 40 (lT_firstKin_19 g T o a (g a 2) (T + 2) 40 n) i)
  rw [bT_firstKin_19]
  refine W_ite (fun hi => ?_) (fun _ => WP_i (Or.inl rfl))
  have hi : 0 ≤ i ∧ i < 40 := ⟨hI.1, hi⟩
  have pa : Pa T (pc T i) := ⟨i, hi, rfl⟩
  have nx : WP (fun v => v = -1 ∨ ADc g T o v) (lT_firstKin_19 g T o a (g a 2) (T + 2) 40 n (w32 (i + 1))) := by rw [w32_r (by omega)]; exact ih (i + 1) (by omega) (by omega)
  simp only [TS_p hs hi, kdp hT hi, kdT2 hT, szT2 hT, hi.1, hi.2, if_true, true_and, and_self]
  exact W_ite (fun _ => nx) (fun _ => W_ite (fun _ => nx) (fun _ => W_bdP tP_isRunningChildOf (fun _ _ => W_ite (fun _ => nx) (fun _ => W_bdP (tT_canAdopt h hT pa ho) (fun v hv => W_ite (fun _ => nx) (fun z => WP_i (Or.inr (hv z))))))))
theorem tT_oldest (h : TI g T) (hT : isT T) (ho : Pa T o) : WP (fun v => v = -1 ∨ ADc g T o v) (fT_oldest g T o a) := by
  have hs := h.1
  have hfu := fu_ge
  rw [fT_oldest, TS_1 hs, if_pos (kdT2 hT), szT2 hT]
  refine W_loop (W := WP (fun v => v = -1 ∨ ADc g T o v)) (fun n (i : Int) => lT_oldest_12 g T o a (T + 2) 40 n i) (fun i => (40 - i).toNat) (fun i => 0 ≤ i ∧ i ≤ 40) ?_ fu 0 (by omega) (by omega)
  intro n i hI ih
  show WP _ (bT_oldest_12 g T o a (T + 2) 40 (lT_oldest_12 g T o a (T + 2) 40 n) i)
  rw [bT_oldest_12]
  refine W_ite (fun hi => ?_) (fun _ => WP_i (Or.inl rfl))
  have hi : 0 ≤ i ∧ i < 40 := ⟨hI.1, hi⟩
  have pa : Pa T (pc T i) := ⟨i, hi, rfl⟩
  have nx : WP (fun v => v = -1 ∨ ADc g T o v) (lT_oldest_12 g T o a (T + 2) 40 n (w32 (i + 1))) := by rw [w32_r (by omega)]; exact ih (i + 1) (by omega) (by omega)
  simp only [TS_p hs hi, kdp hT hi, kdT2 hT, szT2 hT, hi.1, hi.2, if_true, true_and, and_self]
  exact W_ite (fun _ => nx) (fun _ => W_bdP (tT_canAdopt h hT pa ho) (fun v hv => W_ite (fun _ => nx) (fun z => WP_i (Or.inr (hv z)))))
theorem tT_roomiestFor (h : TI g T) (hT : isT T) (ho : Pa T o) : WP (fun v => v = -1 ∨ ADc g T o v) (fT_roomiestFor g T o a b) := by
  have hs := h.1
  have hfu := fu_ge
  rw [fT_roomiestFor, TS_1 hs, if_pos (kdT2 hT), szT2 hT]
  refine W_loop (W := WP (fun v => v = -1 ∨ ADc g T o v)) (fun n (c : Int × Int) => lT_roomiestFor_17 g T o a b (T + 2) 40 n c.1 c.2) (fun c => (40 - c.2).toNat) (fun c => (0 ≤ c.2 ∧ c.2 ≤ 40) ∧ (c.1 = -1 ∨ ADc g T o c.1)) ?_ fu (-1, 0) ⟨by dsimp only; omega, Or.inl rfl⟩ (by dsimp only; omega)
  rintro n ⟨x, i⟩ hI ih
  have i0 : 0 ≤ i := hI.1.1
  have hx : x = -1 ∨ ADc g T o x := hI.2
  show WP _ (bT_roomiestFor_17 g T o a b (T + 2) 40 (lT_roomiestFor_17 g T o a b (T + 2) 40 n) x i)
  rw [bT_roomiestFor_17]
  refine W_ite (fun hi => ?_) (fun _ => WP_i hx)
  have hi : 0 ≤ i ∧ i < 40 := ⟨i0, hi⟩
  have pa : Pa T (pc T i) := ⟨i, hi, rfl⟩
  have nx : ∀ x', (x' = -1 ∨ ADc g T o x') → WP (fun v => v = -1 ∨ ADc g T o v) (lT_roomiestFor_17 g T o a b (T + 2) 40 n x' (w32 (i + 1))) := fun x' hx' => by rw [w32_r (by omega)]; exact ih (x', i + 1) ⟨by dsimp only; omega, hx'⟩ (by dsimp only; omega)
  have r83 : ∀ t s, WP (fun v => v = -1 ∨ ADc g T o v) (jT_roomiestFor_83 (lT_roomiestFor_17 g T o a b (T + 2) 40 n) g T o a b x (T + 2) 40 i (pc T i) t s) := by
    intro t s
    rw [jT_roomiestFor_83]
    exact W_ite (fun _ => nx x hx) (fun _ => W_ite (fun _ => nx x hx) (fun _ => W_bdP (tT_canAdopt h hT pa ho) (fun v hv => W_ite (fun _ => nx x hx) (fun z => nx _ (Or.inr (hv z))))))
  have r58 : ∀ s, WP (fun v => v = -1 ∨ ADc g T o v) (jT_roomiestFor_58 (lT_roomiestFor_17 g T o a b (T + 2) 40 n) g T o a b x (T + 2) 40 i (pc T i) s) := by
    intro s
    rw [jT_roomiestFor_58, jT_roomiestFor_78, if_pos (kdp hT hi)]
    refine W_ite (fun _ => r83 _ _) (fun hn => W_bdP tP_room (fun _ _ => ?_))
    have px : Pa T x := by
      rcases hx with e | e
      · exact absurd (by omega) hn
      · exact ADc_a h e
    rw [if_pos (Pa_kd hT px)]
    exact W_bdP tP_room (fun _ _ => W_ite (fun _ => r83 _ _) (fun _ => r83 _ _))
  simp only [TS_p hs hi, kdp hT hi, kdT2 hT, szT2 hT, hi.1, hi.2, Pa_kd hT ho, if_true, true_and, and_self, jT_roomiestFor_57, jT_roomiestFor_53]
  exact W_ite (fun _ => r58 _) (fun _ => W_ite (fun _ => r58 _) (fun _ => W_ite (fun _ => r58 _) (fun _ => r58 _)))
theorem tT_adopterOf (h : TI g T) (hT : isT T) (ho : Pa T o) : WP (ADc g T o) (fT_adopterOf g T o) := by
  have hs := h.1
  have hfu := fu_ge
  rw [fT_adopterOf, if_pos (Pa_kd hT ho), TS_0 hs]
  refine W_ite (fun _ => WP_i (Or.inl rfl)) (fun hn => ?_)
  have pf : Pa T (g o 2) := by
    rcases sup_a h ho with e | e
    · exact absurd (by omega) hn
    · exact e
  refine W_loop (W := WP (ADc g T o)) (fun n (c : Int × Int) => lT_adopterOf_19 g T o (g o 2) n c.1 c.2) (fun c => (5 - c.2).toNat) (fun c => (0 ≤ c.2 ∧ c.2 ≤ 5) ∧ (c.1 = -1 ∨ ADc g T o c.1)) ?_ fu (-1, 0) ⟨by dsimp only; omega, Or.inl rfl⟩ (by dsimp only; omega)
  rintro n ⟨x, i⟩ hI ih
  have i0 : 0 ≤ i := hI.1.1
  have hx : x = -1 ∨ ADc g T o x := hI.2
  have en : WP (ADc g T o) (jT_adopterOf_130 g T x) := by
    rw [jT_adopterOf_130, TS_0 hs]
    refine W_ite (fun _ => WP_i (Or.inl rfl)) (fun hn => WP_i ?_)
    rcases hx with e | e
    · exact absurd (by omega) hn
    · exact e
  show WP _ (bT_adopterOf_19 g T o (g o 2) (lT_adopterOf_19 g T o (g o 2) n) x i)
  rw [bT_adopterOf_19]
  refine W_ite (fun hi => W_ite (fun _ => ?_) (fun _ => en)) (fun _ => en)
  have nx : ∀ x', (x' = -1 ∨ ADc g T o x') → WP (ADc g T o) (lT_adopterOf_19 g T o (g o 2) n x' (w32 (i + 1))) := fun x' hx' => by rw [w32_r (by omega)]; exact ih (x', i + 1) ⟨by dsimp only; omega, hx'⟩ (by dsimp only; omega)
  rw [TS_3 hs, if_pos ⟨kdT4 hT, by omega, by rw [szT4 hT]; omega⟩]
  exact W_ite (fun _ => W_bdP (tT_nearest h hT ho pf) nx) (fun _ => W_ite (fun _ => W_bdP (tT_roomiestFor h hT ho) nx) (fun _ => W_ite (fun _ => W_bdP (tT_roomiestFor h hT ho) nx) (fun _ => W_ite (fun _ => W_bdP (tT_firstKin h hT ho pf) nx) (fun _ => W_ite (fun _ => W_bdP (tT_oldest h hT ho) nx) (fun _ => nx x hx)))))
end CLS4
/-! ===== the class's trees: coming, hanging under, adopting (own work) ===== -/
section CLS5
variable {g g' G H K : gH} {T S i j k a b c v w d o p q s m x y : Int}
/-- G came from g by work on the tree T, which stands whole -/
def IT (T : Int) (g G : gH) : Prop := TI G T ∧ TF T g G
theorem IT_r (h : TI g T) : IT T g g := ⟨h, TF_r⟩
theorem IT_t (h1 : IT T g G) (h2 : IT T G H) : IT T g H := ⟨h2.1, TF_t h1.2 h2.2⟩
theorem IT_w (h : IT T g G) (hab : a = T + 3 ∨ a = T + 4 ∨ (a = T ∧ (b = 4 ∨ 5 < b)) ∨ (T < a ∧ a < T + 44 ∧ ¬ a = T + 2 ∧ ¬ b = 0 ∧ ¬ b = 2 ∧ ¬ b = 1 ∧ ¬ b = 9)) : IT T g (pU G a b v) := ⟨TI_w h.1 (by omega), TF_pU h.2 (by omega)⟩
theorem pU_y (h : ¬ y = b) : pU g a b v x y = g x y := by
  unfold pU
  rw [if_neg (fun z => h z.2)]
/-- the supervisors are the same -/
def SS (T : Int) (g G : gH) : Prop := G T 5 = g T 5 ∧ ∀ k, 0 ≤ k → k < 40 → G (pc T k) 2 = g (pc T k) 2
theorem SS_r : SS T g g := ⟨rfl, fun _ _ _ => rfl⟩
theorem SS_t (h1 : SS T g G) (h2 : SS T G H) : SS T g H := ⟨h2.1.trans h1.1, fun k k0 k1 => (h2.2 k k0 k1).trans (h1.2 k k0 k1)⟩
theorem SS_w (h : SS T g G) (h2 : ¬ b = 2 ∨ a = T + 3) (h5 : ¬ b = 5 ∨ ¬ a = T) : SS T g (pU G a b v) := by
  refine ⟨?_, fun k k0 k1 => ?_⟩
  · rw [← h.1]
    unfold pU
    rw [if_neg (by omega)]
  · rw [← h.2 k k0 k1]
    have := pc_b (T := T) ⟨k0, k1⟩
    unfold pU
    rw [if_neg (by omega)]
theorem tT_giveDuty (h : TI g T) (hT : isT T) (hp : Pa T c) : WN (fun _ G => IT T g G ∧ SS T g G) (fT_giveDuty g T d c) := by
  have hs := h.1
  rw [fT_giveDuty]
  refine W_ite (fun _ => WN_i ⟨IT_r h, SS_r⟩) (fun _ => W_ite (fun _ => ?_) (fun _ => WN_i ⟨IT_r h, SS_r⟩))
  rw [if_pos (Pa_kd hT hp), TS_2 hs, if_pos ⟨kdT3 hT, by omega, by rw [szT3 hT]; omega⟩, bnd_s]
  exact WN_i ⟨IT_w (IT_r h) (by omega), SS_w SS_r (by omega) (by omega)⟩
theorem tP_become : WN (fun _ G => (∀ x, ¬ x = c → G x = g x) ∧ G c 0 = g c 0 ∧ G c 2 = -1 ∧ G c 1 = a) (fP_become g c a b d w) := by
  rw [fP_become]
  simp only [bnd_s]
  refine WN_i ⟨fun x hx => by simp only [pU_n hx], ?_, ?_, ?_⟩
  · simp (disch := omega) only [pU_y]
  · simp (disch := omega) only [pU_y]
    rw [pU_s, u1_s]
  · simp (disch := omega) only [pU_y]
    rw [pU_s, u1_s]
theorem TI_st (h : TI g T) (hp : Pa T c) (hv : ¬ v = 1) : TI (pU g c 1 v) T := by
  have bc := Pa_b hp
  have eT : pU g c 1 v T = g T := pU_n (by omega)
  refine TI_eq h (fun k _ _ => by rw [eT]) (by rw [eT]) (pU_n (by omega)) (fun i i0 i1 => ⟨pU_y (by omega), pU_y (by omega)⟩) (fun i i0 i1 => ?_)
  rw [pU_y (y := 9) (by omega)]
  by_cases e : pc T i = c
  · rw [e, pU_s, u1_s]
    exact fun z => absurd z hv
  · rw [pU_n e]
    exact h.2.2.2.2.2.2 i i0 i1
theorem TI_ex (h : TI g T) (hp : Pa T c) (hd : 0 ≤ d ∧ d < 2147483648) : TI (pU (pU g c 1 1) c 9 d) T := by
  have bc := Pa_b hp
  have eT : pU (pU g c 1 1) c 9 d T = g T := by rw [pU_n (by omega), pU_n (by omega)]
  refine TI_eq h (fun k _ _ => by rw [eT]) (by rw [eT]) (by rw [pU_n (by omega), pU_n (by omega)]) (fun i i0 i1 => ⟨by rw [pU_y (by omega), pU_y (by omega)], by rw [pU_y (by omega), pU_y (by omega)]⟩) (fun i i0 i1 => ?_)
  by_cases e : pc T i = c
  · intro _
    rw [e, pU_s, u1_s]
    exact hd
  · rw [pU_n e, pU_n e]
    exact h.2.2.2.2.2.2 i i0 i1
theorem TI_sup (h : TI g T) (hi : 0 < i ∧ i < g T 5) (hj : 0 ≤ j ∧ j < g T 5) (hij : ¬ j = i) (ho : OV (sp g T) i j = false) : TI (pU g (pc T i) 2 (pc T j)) T := by
  have hc := h.2.1
  have hb := pc_b (T := T) (i := i) ⟨by omega, by omega⟩
  have v2 : ∀ k, 0 ≤ k → pU g (pc T i) 2 (pc T j) (pc T k) 2 = if k = i then pc T j else g (pc T k) 2 := by
    intro k k0
    by_cases e : k = i
    · rw [e, pU_s, u1_s, if_pos rfl]
    · rw [pU_n (pc_ne k0 (by omega) e), if_neg e]
  have eT : pU g (pc T i) 2 (pc T j) T = g T := pU_n (by omega)
  refine ⟨TS_eq h.1 (fun k _ _ => by rw [eT]) (pU_n (by omega)) (fun k k0 k1 => pU_y (by omega)), by rw [eT]; exact hc, ?_, fun k k0 k1 => ?_, fun k k0 k1 => ?_, ?_, fun k k0 k1 => by rw [pU_y (by omega), pU_y (by omega)]; exact h.2.2.2.2.2.2 k k0 k1⟩
  · rw [v2 0 (by omega), if_neg (by omega)]; exact h.2.2.1
  · rw [eT] at k0
    rw [v2 k (by omega), if_neg (by omega)]; exact h.2.2.2.1 k k0 k1
  · rw [eT] at k1
    rw [v2 k (by omega), eT]
    by_cases e : k = i
    · rw [if_pos e]; exact ⟨j, hj.1, hj.2, rfl⟩
    · rw [if_neg e]; exact h.2.2.2.2.1 k k0 k1
  · rw [eT]
    have ha := acy_u1 h.2.2.2.2.2.1 hc.2 hi hj hij ho
    refine acy_ext ha (fun k k0 k1 => ?_) (fun k k0 k1 => ?_)
    · by_cases e : k = i
      · rw [e, u1_s]; exact hj
      · rw [u1_n e]; exact (sp_rg h (by omega) k1).1
    · show ix T (pU g (pc T i) 2 (pc T j) (pc T k) 2) = _
      rw [v2 k (by omega)]
      by_cases e : k = i
      · rw [if_pos e, ix_pc hj.1, e, u1_s]
      · rw [if_neg e, u1_n e]
        rfl
theorem sp_w (hb : ¬ b = 2) : sp (pU g a b v) T = sp g T := by
  funext k
  unfold sp
  rw [pU_y (by omega)]
theorem tP_putUnder (h : TI g T) (hT : isT T) (hi : 0 < i ∧ i < g T 5) (hj : 0 ≤ j ∧ j < g T 5) (hij : ¬ j = i) (ho : OV (sp g T) i j = false) : WN (fun _ G => IT T g G ∧ G T 5 = g T 5 ∧ ∀ k, 0 ≤ k → k < 40 → G (pc T k) 2 = if k = i then pc T j else g (pc T k) 2) (fP_putUnder g (pc T i) (pc T j)) := by
  have hc := h.2.1
  have hs := sp_rg h (by omega) hi.2
  have bi := pc_b (T := T) (i := i) ⟨by omega, by omega⟩
  have bj := pc_b (T := T) (i := j) ⟨by omega, by omega⟩
  have bs := pc_b (T := T) (i := sp g T i) ⟨by omega, by omega⟩
  rw [fP_putUnder, hs.2, if_neg (pc_pos hT (by omega)), if_pos (kdp hT (by omega)), bnd_s, bnd_s, if_pos (kdp hT (by omega)), bnd_s]
  have hA : IT T g (pU g (pc T (sp g T i)) 3 (w32 (g (pc T (sp g T i)) 3 - 1))) := IT_w (IT_r h) (by omega)
  have eA : pU g (pc T (sp g T i)) 3 (w32 (g (pc T (sp g T i)) 3 - 1)) T 5 = g T 5 := by rw [pU_n (by omega)]
  have sA : sp (pU g (pc T (sp g T i)) 3 (w32 (g (pc T (sp g T i)) 3 - 1))) T = sp g T := sp_w (by omega)
  have rA : ∀ k, pU g (pc T (sp g T i)) 3 (w32 (g (pc T (sp g T i)) 3 - 1)) (pc T k) 2 = g (pc T k) 2 := fun k => pU_y (by omega)
  generalize pU g (pc T (sp g T i)) 3 (w32 (g (pc T (sp g T i)) 3 - 1)) = A at *
  have hB : IT T g (pU A (pc T i) 2 (pc T j)) := ⟨TI_sup hA.1 (by rw [eA]; exact hi) (by rw [eA]; exact hj) hij (by rw [sA]; exact ho), TF_pU hA.2 (by omega)⟩
  refine WN_i ⟨IT_w hB (by omega), ?_, fun k k0 k1 => ?_⟩
  · rw [pU_n (by omega), pU_n (by omega)]; exact eA
  · rw [pU_y (by omega)]
    by_cases e : k = i
    · rw [e, pU_s, u1_s, if_pos rfl]
    · rw [pU_n (pc_ne k0 (by omega) e), if_neg e]; exact rA k
/-- a process comes -/
theorem tT_arrive (h : TI g T) (hT : isT T) (hj : 0 ≤ j ∧ j < g T 5) : WN (fun v G => IT T g G ∧ ((v = -1 ∧ G = g) ∨ (v = pc T (g T 5) ∧ G T 5 = g T 5 + 1 ∧ G v 2 = pc T j ∧ ∀ k, 0 ≤ k → k < g T 5 → G (pc T k) 2 = g (pc T k) 2))) (fT_arrive g T (pc T j) a b d) := by
  have hc := h.2.1
  have hs := h.1
  rw [fT_arrive, TS_1 hs]
  refine W_ite (fun _ => WN_i ⟨IT_r h, Or.inl ⟨rfl, rfl⟩⟩) (fun _ => W_ite (fun hl => ?_) (fun _ => WN_i ⟨IT_r h, Or.inl ⟨rfl, rfl⟩⟩))
  have bn := pc_b (T := T) (i := g T 5) ⟨by omega, hl⟩
  have bj := pc_b (T := T) (i := j) ⟨by omega, by omega⟩
  rw [if_pos ⟨kdT2 hT, by omega, by rw [szT2 hT]; exact hl⟩, bnd_s, TS_p hs ⟨by omega, hl⟩, if_pos (kdp hT ⟨by omega, hl⟩), w32_r (by omega)]
  generalize hn : g T 5 = n at *
  refine W_bdN tP_become (fun _ B hB => ?_)
  obtain ⟨b1, b2, b3, b4⟩ := hB
  rw [fP_putUnder, b3, if_pos (by omega), bnd_s, if_pos (kdp hT (by omega)), bnd_s, bdN_s]
  have jn : ¬ pc T j = pc T n := pc_ne hj.1 (by omega) (by omega)
  have eT : ∀ y, ¬ y = 5 → pU (pU B (pc T n) 2 (pc T j)) (pc T j) 3 (w32 (pU B (pc T n) 2 (pc T j) (pc T j) 3 + 1)) T y = g T y := by
    intro y hy
    rw [pU_n (by omega), pU_n (by omega), b1 T (by omega), pU_y hy]
  have e5 : pU (pU B (pc T n) 2 (pc T j)) (pc T j) 3 (w32 (pU B (pc T n) 2 (pc T j) (pc T j) 3 + 1)) T 5 = n + 1 := by
    rw [pU_n (by omega), pU_n (by omega), b1 T (by omega), pU_s, u1_s]
  have e2 : pU (pU B (pc T n) 2 (pc T j)) (pc T j) 3 (w32 (pU B (pc T n) 2 (pc T j) (pc T j) 3 + 1)) (T + 2) = g (T + 2) := by
    rw [pU_n (by omega), pU_n (by omega), b1 (T + 2) (by omega), pU_n (by omega)]
  have e0 : ∀ k, 0 ≤ k → k < 40 → pU (pU B (pc T n) 2 (pc T j)) (pc T j) 3 (w32 (pU B (pc T n) 2 (pc T j) (pc T j) 3 + 1)) (pc T k) 0 = g (pc T k) 0 := by
    intro k k0 k1
    have bk := pc_b (T := T) (i := k) ⟨k0, k1⟩
    rw [pU_y (by omega), pU_y (by omega)]
    by_cases e : k = n
    · rw [e, b2, pU_n (by omega)]
    · rw [b1 _ (pc_ne k0 (by omega) e), pU_n (by omega)]
  have r2 : ∀ k, 0 ≤ k → k < 40 → pU (pU B (pc T n) 2 (pc T j)) (pc T j) 3 (w32 (pU B (pc T n) 2 (pc T j) (pc T j) 3 + 1)) (pc T k) 2 = if k = n then pc T j else g (pc T k) 2 := by
    intro k k0 k1
    have bk := pc_b (T := T) (i := k) ⟨k0, k1⟩
    rw [pU_y (by omega)]
    by_cases e : k = n
    · rw [e, pU_s, u1_s, if_pos rfl]
    · rw [pU_n (pc_ne k0 (by omega) e), if_neg e, b1 _ (pc_ne k0 (by omega) e), pU_n (by omega)]
  have eZ : ZI (pU (pU B (pc T n) 2 (pc T j)) (pc T j) 3 (w32 (pU B (pc T n) 2 (pc T j) (pc T j) 3 + 1))) T := by
    intro k k0 k1
    rw [pU_y (by omega), pU_y (by omega), pU_y (by omega), pU_y (by omega)]
    by_cases e : k = n
    · rw [e, b4]
      exact fun z => absurd z (by omega)
    · have bk := pc_b (T := T) (i := k) ⟨k0, k1⟩
      rw [b1 _ (pc_ne k0 (by omega) e), pU_n (by omega)]
      exact h.2.2.2.2.2.2 k k0 k1
  have eF : TF T g (pU (pU B (pc T n) 2 (pc T j)) (pc T j) 3 (w32 (pU B (pc T n) 2 (pc T j) (pc T j) 3 + 1))) := by
    refine TF_pU (TF_pU (fun x hx => ?_) (by omega)) (by omega)
    rw [b1 x (by omega), pU_n (by omega)]
  generalize pU (pU B (pc T n) 2 (pc T j)) (pc T j) 3 (w32 (pU B (pc T n) 2 (pc T j) (pc T j) 3 + 1)) = C at *
  refine WN_i ⟨⟨⟨TS_eq hs (fun k _ _ => eT k (by omega)) e2 e0, by rw [e5]; omega, ?_, fun k k0 k1 => ?_, fun k k0 k1 => ?_, ?_, eZ⟩, eF⟩, Or.inr ⟨rfl, e5, ?_, fun k k0 k1 => ?_⟩⟩
  · rw [r2 0 (by omega) (by omega), if_neg (by omega)]; exact h.2.2.1
  · rw [e5] at k0
    rw [r2 k (by omega) k1, if_neg (by omega)]; exact h.2.2.2.1 k (by omega) k1
  · rw [e5] at k1 ⊢
    rw [r2 k (by omega) (by omega)]
    by_cases e : k = n
    · rw [if_pos e]; exact ⟨j, by omega, by omega, rfl⟩
    · rw [if_neg e]
      obtain ⟨j', a1, a2, a3⟩ := h.2.2.2.2.1 k k0 (by omega)
      exact ⟨j', a1, by omega, a3⟩
  · rw [e5]
    have hcl : ∀ k, 0 < k → k < n → 0 ≤ sp g T k ∧ sp g T k < n := fun k k0 k1 => by
      have := (sp_rg h (i := k) (by omega) (by omega)).1
      rw [hn] at this
      exact this
    have ha := h.2.2.2.2.2.1
    rw [hn] at ha
    have ha := acy_new ha (by omega) hj hcl
    refine acy_ext ha (fun k k0 k1 => ?_) (fun k k0 k1 => ?_)
    · by_cases e : k = n
      · rw [e, u1_s]; omega
      · rw [u1_n e]
        have := hcl k k0 (by omega)
        omega
    · show ix T (C (pc T k) 2) = _
      rw [r2 k (by omega) (by omega)]
      by_cases e : k = n
      · rw [if_pos e, ix_pc hj.1, e, u1_s]
      · rw [if_neg e, u1_n e]
        rfl
  · rw [r2 n (by omega) hl, if_pos rfl]
  · rw [r2 k k0 (by omega), if_neg (by omega)]
end CLS5
/-! ===== the class's trees: exits (own work) ===== -/
section CLS6
variable {g g' G H K : gH} {T S i j k a b c v w d o p q r s m x y : Int}
theorem hang_ (h : TI g T) (hi : 0 ≤ i ∧ i < 40) (e : ¬ g (pc T i) 2 < 0) : 0 < i ∧ i < g T 5 := by
  refine ⟨?_, ?_⟩
  · by_cases h0 : i = 0
    · exact absurd (by rw [h0, h.2.2.1]; omega) e
    · omega
  · by_cases h1 : i < g T 5
    · exact h1
    · exact absurd (by rw [h.2.2.2.1 i (by omega) hi.2]; omega) e
theorem ADc_f (h : TI g T) (hT : isT T) (hi : 0 < i ∧ i < g T 5) (ha : ADc g T (pc T i) c) : ∃ j, (0 ≤ j ∧ j < g T 5) ∧ c = pc T j ∧ ¬ j = i ∧ OV (sp g T) i j = false := by
  have hc := h.2.1
  rcases ha with e | ⟨⟨j, hj, rfl⟩, e1, e2, e3⟩
  · exact ⟨0, by omega, by rw [e, pc_0], by omega, OV_0⟩
  · have hj2 := hang_ h hj e1
    refine ⟨j, ⟨hj.1, hj2.2⟩, rfl, fun z => e2 (by rw [z]), ?_⟩
    rw [vP_isOver h hT (by omega) hj] at e3
    cases hh : OV (sp g T) i j with
    | false => rfl
    | true =>
      rw [if_pos ⟨hj2.2, hh⟩] at e3
      cases e3
theorem tT_adopt (h : TI g T) (hT : isT T) (hi : 0 < i ∧ i < g T 5) (hj : 0 ≤ j ∧ j < g T 5) (hij : ¬ j = i) (ho : OV (sp g T) i j = false) : WN (fun _ G => IT T g G ∧ G T 5 = g T 5 ∧ ∀ k, 0 ≤ k → k < 40 → G (pc T k) 2 = if k = i then pc T j else g (pc T k) 2) (fT_adopt g T (pc T i) (pc T j)) := by
  have hc := h.2.1
  have bi := pc_b (T := T) (i := i) ⟨by omega, by omega⟩
  rw [fT_adopt, if_pos (kdp hT (by omega))]
  refine W_bdN (tP_putUnder h hT hi hj hij ho) (fun _ A hA => ?_)
  obtain ⟨a1, a2, a3⟩ := hA
  rw [bnd_s, bnd_s]
  have w1 : IT T g (pU A (pc T i) 11 (w32 (A (pc T i) 11 + 1))) := IT_w a1 (by omega)
  have s1 : SS T A (pU A (pc T i) 11 (w32 (A (pc T i) 11 + 1))) := SS_w SS_r (by omega) (by omega)
  generalize pU A (pc T i) 11 (w32 (A (pc T i) 11 + 1)) = B at *
  have w2 : IT T g (pU B T 7 (w32 (B T 7 + 1))) := IT_w w1 (by omega)
  have s2 : SS T A (pU B T 7 (w32 (B T 7 + 1))) := SS_w s1 (by omega) (by omega)
  generalize pU B T 7 (w32 (B T 7 + 1)) = C at *
  have fin : ∀ D, IT T g D → SS T A D → WN (fun _ G => IT T g G ∧ G T 5 = g T 5 ∧ ∀ k, 0 ≤ k → k < 40 → G (pc T k) 2 = if k = i then pc T j else g (pc T k) 2) (some (0, D)) := fun D d1 d2 => WN_i ⟨d1, d2.1.trans a2, fun k k0 k1 => (d2.2 k k0 k1).trans (a3 k k0 k1)⟩
  refine W_ite (fun _ => ?_) (fun _ => fin C w2 s2)
  rw [bnd_s]
  exact fin _ (IT_w w2 (by omega)) (SS_w s2 (by omega) (by omega))
theorem tT_readZombiesOf (h : TI g T) (hT : isT T) : WN (fun _ G => IT T g G ∧ SS T g G) (fT_readZombiesOf g T c) := by
  have hfu := fu_ge
  rw [fT_readZombiesOf, TS_1 h.1, if_pos (kdT2 hT), szT2 hT]
  refine W_loop (W := WN (fun _ G => IT T g G ∧ SS T g G)) (fun n (a : Int × Int × gH) => lT_readZombiesOf_14 c (T + 2) 40 n a.1 a.2.1 a.2.2) (fun a => (40 - a.2.1).toNat) (fun a => (0 ≤ a.2.1 ∧ a.2.1 ≤ 40) ∧ IT T g a.2.2 ∧ SS T g a.2.2) ?_ fu (0, 0, g) ⟨by dsimp only; omega, IT_r h, SS_r⟩ (by dsimp only; omega)
  rintro n ⟨x, i, G⟩ hI ih
  have i0 : 0 ≤ i := hI.1.1
  have hG : IT T g G := hI.2.1
  have sG : SS T g G := hI.2.2
  show WN _ (bT_readZombiesOf_14 c (T + 2) 40 (lT_readZombiesOf_14 c (T + 2) 40 n) x i G)
  rw [bT_readZombiesOf_14]
  refine W_ite (fun hi => ?_) (fun _ => WN_i ⟨hG, sG⟩)
  have hi : 0 ≤ i ∧ i < 40 := ⟨i0, hi⟩
  have bi := pc_b (T := T) hi
  have nx : ∀ x' G', IT T g G' → SS T g G' → WN (fun _ G => IT T g G ∧ SS T g G) (lT_readZombiesOf_14 c (T + 2) 40 n x' (w32 (i + 1)) G') := fun x' G' h1 h2 => by rw [w32_r (by omega)]; exact ih (x', i + 1, G') ⟨by dsimp only; omega, h1, h2⟩ (by dsimp only; omega)
  simp only [TS_p hG.1.1 hi, kdp hT hi, kdT2 hT, szT2 hT, hi.1, hi.2, if_true, true_and, and_self, bnd_s]
  exact W_bdP tP_isZombieOf (fun _ _ => W_ite (fun _ => nx _ _ hG sG) (fun _ => nx _ _ ⟨TI_st hG.1 ⟨i, hi, rfl⟩ (by omega), TF_pU hG.2 (by omega)⟩ (SS_w sG (by omega) (by omega))))
theorem tT_passDuties (h : TI g T) (hT : isT T) (hp : Pa T p) (hr : r = -1 ∨ Pa T r) : WN (fun _ G => IT T g G ∧ SS T g G) (fT_passDuties g T p r) := by
  have hfu := fu_ge
  rw [fT_passDuties]
  refine W_loop (W := WN (fun _ G => IT T g G ∧ SS T g G)) (fun n (a : Int × gH) => lT_passDuties_2 T p r n a.1 a.2) (fun a => (8 - a.1).toNat) (fun a => (0 ≤ a.1 ∧ a.1 ≤ 8) ∧ IT T g a.2 ∧ SS T g a.2) ?_ fu (0, g) ⟨by dsimp only; omega, IT_r h, SS_r⟩ (by dsimp only; omega)
  rintro n ⟨i, G⟩ hI ih
  have i0 : 0 ≤ i := hI.1.1
  have hG : IT T g G := hI.2.1
  have sG : SS T g G := hI.2.2
  show WN _ (bT_passDuties_2 T p r (lT_passDuties_2 T p r n) i G)
  rw [bT_passDuties_2]
  refine W_ite (fun hi => ?_) (fun _ => WN_i ⟨hG, sG⟩)
  have nx : ∀ G', IT T g G' → SS T g G' → WN (fun _ G => IT T g G ∧ SS T g G) (lT_passDuties_2 T p r n (w32 (i + 1)) G') := fun G' h1 h2 => by rw [w32_r (by omega)]; exact ih (i + 1, G') ⟨by dsimp only; omega, h1, h2⟩ (by dsimp only; omega)
  have h8 : kd (T + 3) = 20 ∧ (0 : Int) ≤ i ∧ i < sz (T + 3) := ⟨kdT3 hT, i0, by rw [szT3 hT]; exact hi⟩
  have e2 := TS_2 hG.1.1
  simp only [e2]
  rw [if_pos h8, if_pos (Pa_kd hT hp)]
  refine W_ite (fun _ => W_ite (fun _ => W_bdP (tT_inheritorOf hG.1 hT hp) (fun y hy => ?_)) (fun hn => ?_)) (fun _ => nx _ hG sG)
  · rw [if_pos (Pa_kd hT hy), if_pos h8, bnd_s]
    exact nx _ (IT_w hG (by omega)) (SS_w sG (by omega) (by omega))
  · have hr : Pa T r := by
      rcases hr with e | e
      · exact absurd (by omega) hn
      · exact e
    rw [if_pos (Pa_kd hT hr), if_pos h8, bnd_s]
    exact nx _ (IT_w hG (by omega)) (SS_w sG (by omega) (by omega))
theorem tT_replace (h : TI g T) (hT : isT T) (hp : Pa T p) (hj : 0 ≤ j ∧ j < g T 5) : WN (fun v G => IT T g G ∧ g T 5 ≤ G T 5 ∧ (∀ k, 0 ≤ k → k < g T 5 → G (pc T k) 2 = g (pc T k) 2) ∧ (v = -1 ∨ ∃ k, (0 < k ∧ k < G T 5) ∧ v = pc T k ∧ G v 2 = pc T j)) (fT_replace g T p (pc T j)) := by
  have hc := h.2.1
  have bj := pc_b (T := T) (i := j) ⟨by omega, by omega⟩
  have bp := Pa_b hp
  have no : WN (fun v G => IT T g G ∧ g T 5 ≤ G T 5 ∧ (∀ k, 0 ≤ k → k < g T 5 → G (pc T k) 2 = g (pc T k) 2) ∧ (v = -1 ∨ ∃ k, (0 < k ∧ k < G T 5) ∧ v = pc T k ∧ G v 2 = pc T j)) (some (-1, g)) := WN_i ⟨IT_r h, Int.le_refl _, fun _ _ _ => rfl, Or.inl rfl⟩
  rw [fT_replace, if_pos (kdp hT (by omega)), if_pos (Pa_kd hT hp)]
  refine W_ite (fun _ => W_ite (fun _ => ?_) (fun _ => no)) (fun _ => no)
  refine W_bdN (tT_arrive h hT hj) (fun v A hA => ?_)
  obtain ⟨a1, ⟨rfl, rfl⟩ | ⟨a2, a3, a4, a5⟩⟩ := hA
  · rw [if_pos (by omega)]; exact no
  · have hn := a1.1.2.1
    have pv : Pa T v := ⟨g T 5, by omega, a2⟩
    rw [if_neg (Pa_pos hT pv), bnd_s, if_pos (Pa_kd hT pv), bnd_s, bnd_s]
    have w1 : IT T g (pU A (pc T j) 6 (w32 (A (pc T j) 6 - 1))) := IT_w a1 (by omega)
    have s1 : SS T A (pU A (pc T j) 6 (w32 (A (pc T j) 6 - 1))) := SS_w SS_r (by omega) (by omega)
    generalize pU A (pc T j) 6 (w32 (A (pc T j) 6 - 1)) = B at *
    have w2 : IT T g (pU B p 12 (B v 0)) := IT_w w1 (by omega)
    have s2 : SS T A (pU B p 12 (B v 0)) := SS_w s1 (by omega) (by omega)
    generalize pU B p 12 (B v 0) = C at *
    have w3 : IT T g (pU C T 9 (w32 (C T 9 + 1))) := IT_w w2 (by omega)
    have s3 : SS T A (pU C T 9 (w32 (C T 9 + 1))) := SS_w s2 (by omega) (by omega)
    generalize pU C T 9 (w32 (C T 9 + 1)) = D at *
    have e5 := s3.1
    refine WN_i ⟨w3, by omega, fun k k0 k1 => ?_, Or.inr ⟨g T 5, by omega, a2, ?_⟩⟩
    · rw [s3.2 k k0 (by omega)]; exact a5 k k0 k1
    · rw [a2, s3.2 _ (by omega) (by omega), ← a2]; exact a4
/-- in the midst of an exit: p stands under s, and so does who replaces it -/
def LI (T i s r : Int) (g G : gH) : Prop := IT T g G ∧ (0 < i ∧ i < G T 5) ∧ 0 ≤ s ∧ G (pc T i) 2 = pc T s ∧ (r = -1 ∨ ∃ k, (0 < k ∧ k < G T 5) ∧ r = pc T k ∧ G r 2 = pc T s)
theorem LI_s (h : LI T i s r g G) : s < G T 5 ∧ sp G T i = s ∧ DP (sp G T) i = 1 + DP (sp G T) s := by
  obtain ⟨h1, h2, h3, h4, -⟩ := h
  have e : sp G T i = s := by unfold sp; rw [h4, ix_pc h3]
  have := (sp_rg h1.1 (by omega) h2.2).1
  rw [e] at this
  refine ⟨this.2, e, ?_⟩
  rw [DP_s (h1.1.2.2.2.2.2.1 i (by omega) h2.2) (by omega), e]
theorem LI_k (h : LI T i s r g G) (hk : 0 < k ∧ k < G T 5) (e : G (pc T k) 2 = pc T i) : ¬ k = i ∧ ¬ s = k ∧ OV (sp G T) k s = false ∧ ∀ j, (0 < j ∧ j < G T 5) → G (pc T j) 2 = pc T s → ¬ j = k ∧ OV (sp G T) k j = false := by
  obtain ⟨e1, e2, e3⟩ := LI_s h
  obtain ⟨h1, h2, h3, h4, -⟩ := h
  have ay := h1.1.2.2.2.2.2.1
  have ek : sp G T k = i := by unfold sp; rw [e, ix_pc (by omega)]
  have dk : DP (sp G T) k = 1 + DP (sp G T) i := by rw [DP_s (ay k (by omega) hk.2) (by omega), ek]
  refine ⟨fun z => ?_, fun z => ?_, ?_, fun j hj ej => ⟨fun z => ?_, ?_⟩⟩
  · rw [z] at dk; omega
  · rw [z] at e3; omega
  · cases hh : OV (sp G T) k s with
    | false => rfl
    | true =>
      have := OV_dp (ay s h3 e1) hh
      omega
  · have es : sp G T j = s := by unfold sp; rw [ej, ix_pc h3]
    rw [z] at es
    rw [← es, ek] at e3
    omega
  · have es : sp G T j = s := by unfold sp; rw [ej, ix_pc h3]
    have dj : DP (sp G T) j = 1 + DP (sp G T) s := by rw [DP_s (ay j (by omega) hj.2) (by omega), es]
    cases hh : OV (sp G T) k j with
    | false => rfl
    | true =>
      have := OV_dp (ay j (by omega) hj.2) hh
      omega
/-- who stands under p is hung elsewhere -/
theorem LI_mv (h : LI T i s r g G) (hk : 0 < k ∧ k < G T 5) (e : G (pc T k) 2 = pc T i) (h1 : IT T G H) (h5 : H T 5 = G T 5) (h2 : ∀ j, 0 ≤ j → j < 40 → H (pc T j) 2 = if j = k then c else G (pc T j) 2) : LI T i s r g H := by
  have hl := LI_k h hk e
  obtain ⟨a1, a2, a3, a4, a5⟩ := h
  have hc := a1.1.2.1
  refine ⟨IT_t a1 h1, by rw [h5]; exact a2, a3, by rw [h2 i (by omega) (by omega), if_neg (fun z => hl.1 z.symm)]; exact a4, ?_⟩
  rcases a5 with z | ⟨j, j1, j2, j3⟩
  · exact Or.inl z
  · refine Or.inr ⟨j, by rw [h5]; exact j1, j2, ?_⟩
    rw [j2] at j3
    rw [j2, h2 j (by omega) (by omega), if_neg (hl.2.2.2 j j1 j3).1]; exact j3
end CLS6
/-! ===== the class's trees: letExit and what uses it (own work) ===== -/
section CLS7
variable {g g' G H K : gH} {T S i j k a b c v w d o p q r s m x y : Int}
theorem lx_212 (h : IT T g G) (hT : isT T) : WN (fun _ H => IT T g H) (jT_letExit_212 G T c d) := by
  rw [jT_letExit_212]
  refine W_ite (fun _ => ?_) (fun _ => WN_i h)
  refine W_bdN (tT_readZombiesOf h.1 hT) (fun _ H hH => WN_i (IT_t h hH.1))
theorem lx_163 (h : LI T i s r g G) (hT : isT T) : WN (fun _ H => IT T g H) (jT_letExit_163 G T (pc T i) (pc T s) d) := by
  have hfu := fu_ge
  have hs := h.1.1.1
  rw [jT_letExit_163, TS_1 hs, if_pos (kdT2 hT), szT2 hT]
  refine W_loop (W := WN (fun _ H => IT T g H)) (fun n (a : Int × gH) => lT_letExit_177 T (pc T i) (pc T s) d (T + 2) 40 n a.1 a.2) (fun a => (40 - a.1).toNat) (fun a => (0 ≤ a.1 ∧ a.1 ≤ 40) ∧ LI T i s r g a.2) ?_ fu (0, G) ⟨by dsimp only; omega, h⟩ (by dsimp only; omega)
  clear hs h
  rintro n ⟨k, G⟩ hI ih
  have k0 : 0 ≤ k := hI.1.1
  have h : LI T i s r g G := hI.2
  show WN _ (bT_letExit_177 T (pc T i) (pc T s) d (T + 2) 40 (lT_letExit_177 T (pc T i) (pc T s) d (T + 2) 40 n) k G)
  rw [bT_letExit_177]
  refine W_ite (fun hk => ?_) (fun _ => lx_212 h.1 hT)
  have hk : 0 ≤ k ∧ k < 40 := ⟨k0, hk⟩
  have bk := pc_b (T := T) hk
  have nx : ∀ G', LI T i s r g G' → WN (fun _ H => IT T g H) (lT_letExit_177 T (pc T i) (pc T s) d (T + 2) 40 n (w32 (k + 1)) G') := fun G' h1 => by rw [w32_r (by omega)]; exact ih (k + 1, G') ⟨by dsimp only; omega, h1⟩ (by dsimp only; omega)
  have hc := h.1.1.2.1
  simp only [TS_p h.1.1.1 hk, kdp hT hk, kdT2 hT, szT2 hT, hk.1, hk.2, if_true, true_and, and_self, bnd_s]
  refine W_bdP tP_isZombieOf (fun y hy => W_ite (fun _ => nx _ h) (fun hz => nx _ ?_))
  have e := hy hz
  have hi2 := h.2.1
  have hk2 := hang_ h.1.1 hk (by rw [e]; exact pc_pos hT (by omega))
  have hl := LI_k h hk2 e
  have hss := LI_s h
  have t := TI_sup h.1.1 hk2 ⟨h.2.2.1, hss.1⟩ hl.2.1 hl.2.2.1
  refine LI_mv (c := pc T s) h hk2 e ⟨t, TF_pU TF_r (by omega)⟩ (by rw [pU_n (by omega)]) (fun j j0 j1 => ?_)
  by_cases z : j = k
  · rw [z, pU_s, u1_s, if_pos rfl]
  · rw [pU_n (pc_ne j0 (by omega) z), if_neg z]
theorem lx_69 (h : LI T i s r g G) (hT : isT T) : WN (fun _ H => IT T g H) (jT_letExit_69 G T (pc T i) (pc T s) d r) := by
  have hfu := fu_ge
  have hc := h.1.1.2.1
  have hi2 := h.2.1
  have pr : r = -1 ∨ Pa T r := by
    rcases h.2.2.2.2 with z | ⟨j, j1, j2, -⟩
    · exact Or.inl z
    · exact Or.inr ⟨j, by omega, j2⟩
  rw [jT_letExit_69]
  refine W_bdN (tT_passDuties h.1.1 hT ⟨i, by omega, rfl⟩ pr) (fun _ A hA => ?_)
  have hL : LI T i s r g A := by
    obtain ⟨a1, a2⟩ := hA
    refine ⟨IT_t h.1 a1, by rw [a2.1]; exact h.2.1, h.2.2.1, by rw [a2.2 i (by omega) (by omega)]; exact h.2.2.2.1, ?_⟩
    rcases h.2.2.2.2 with z | ⟨j, j1, j2, j3⟩
    · exact Or.inl z
    · rw [j2] at j3
      exact Or.inr ⟨j, by rw [a2.1]; exact j1, j2, by rw [j2, a2.2 j (by omega) (by omega)]; exact j3⟩
  clear hA hi2 hc h
  rw [TS_1 hL.1.1.1, if_pos (kdT2 hT), szT2 hT]
  refine W_loop (W := WN (fun _ H => IT T g H)) (fun n (a : Int × gH) => lT_letExit_92 T (pc T i) (pc T s) d r (T + 2) 40 n a.1 a.2) (fun a => (40 - a.1).toNat) (fun a => (0 ≤ a.1 ∧ a.1 ≤ 40) ∧ LI T i s r g a.2) ?_ fu (0, A) ⟨by dsimp only; omega, hL⟩ (by dsimp only; omega)
  clear hL A
  rintro n ⟨k, G⟩ hI ih
  have k0 : 0 ≤ k := hI.1.1
  have h : LI T i s r g G := hI.2
  show WN _ (bT_letExit_92 T (pc T i) (pc T s) d r (T + 2) 40 (lT_letExit_92 T (pc T i) (pc T s) d r (T + 2) 40 n) k G)
  rw [bT_letExit_92]
  refine W_ite (fun hk => ?_) (fun _ => lx_163 h hT)
  have hk : 0 ≤ k ∧ k < 40 := ⟨k0, hk⟩
  have bk := pc_b (T := T) hk
  have nx : ∀ G', LI T i s r g G' → WN (fun _ H => IT T g H) (lT_letExit_92 T (pc T i) (pc T s) d r (T + 2) 40 n (w32 (k + 1)) G') := fun G' h1 => by rw [w32_r (by omega)]; exact ih (k + 1, G') ⟨by dsimp only; omega, h1⟩ (by dsimp only; omega)
  have hc := h.1.1.2.1
  have hi2 := h.2.1
  simp only [TS_p h.1.1.1 hk, kdp hT hk, kdT2 hT, szT2 hT, hk.1, hk.2, if_true, true_and, and_self]
  refine W_bdP tP_isRunningChildOf (fun y hy => W_ite (fun _ => nx _ h) (fun hz => ?_))
  have e := hy hz
  have hk2 := hang_ h.1.1 hk (by rw [e]; exact pc_pos hT (by omega))
  have hl := LI_k h hk2 e
  have ad : WN (fun _ H => IT T g H) (jT_letExit_132 (lT_letExit_92 T (pc T i) (pc T s) d r (T + 2) 40 n) G T (pc T i) (pc T s) d r (T + 2) 40 k (pc T k)) := by
    rw [jT_letExit_132, jT_letExit_133, if_pos rfl]
    refine W_bdP (tT_adopterOf h.1.1 hT ⟨k, hk, rfl⟩) (fun c hcc => ?_)
    obtain ⟨j, j1, rfl, j3, j4⟩ := ADc_f h.1.1 hT hk2 hcc
    exact W_bdN (tT_adopt h.1.1 hT hk2 j1 j3 j4) (fun _ A hA => nx A (LI_mv h hk2 e hA.1 hA.2.1 hA.2.2))
  refine W_ite (fun _ => ad) (fun hn => ?_)
  rcases h.2.2.2.2 with z | ⟨j, j1, j2, j3⟩
  · exact absurd (by omega) hn
  · subst j2
    rw [if_pos (kdp hT (by omega))]
    refine W_bdP tP_room (fun _ _ => W_ite (fun _ => ?_) (fun _ => ad))
    rw [jT_letExit_133, if_neg f0]
    have hj := hl.2.2.2 j j1 j3
    exact W_bdN (tT_adopt h.1.1 hT hk2 ⟨by omega, j1.2⟩ hj.1 hj.2) (fun _ A hA => nx A (LI_mv h hk2 e hA.1 hA.2.1 hA.2.2))
theorem tT_letExit (h : TI g T) (hT : isT T) (hp : Pa T p) (hd : 0 ≤ d ∧ d < 2147483648) : WN (fun _ G => IT T g G) (fT_letExit g T p d) := by
  have hc := h.2.1
  obtain ⟨i, hi, rfl⟩ := hp
  rw [fT_letExit, if_pos (kdp hT hi)]
  refine W_ite (fun _ => WN_i (IT_r h)) (fun hn => ?_)
  have hi2 := hang_ h hi hn
  have hs := sp_rg h (by omega) hi2.2
  have bi := pc_b (T := T) hi
  have bs := pc_b (T := T) (i := sp g T i) ⟨by omega, by omega⟩
  rw [hs.2]
  generalize hsp : sp g T i = s at *
  rw [bnd_s, bnd_s, bnd_s, bnd_s, if_pos (kdp hT (by omega)), bnd_s]
  have w2 : IT T g (pU (pU g (pc T i) 1 1) (pc T i) 9 d) := ⟨TI_ex h ⟨i, hi, rfl⟩ hd, TF_pU (TF_pU TF_r (by omega)) (by omega)⟩
  have s2 : SS T g (pU (pU g (pc T i) 1 1) (pc T i) 9 d) := SS_w (SS_w SS_r (by omega) (by omega)) (by omega) (by omega)
  generalize pU (pU g (pc T i) 1 1) (pc T i) 9 d = B at *
  have w3 : IT T g (pU B (pc T i) 10 (B T 6)) := IT_w w2 (by omega)
  have s3 : SS T g (pU B (pc T i) 10 (B T 6)) := SS_w s2 (by omega) (by omega)
  generalize pU B (pc T i) 10 (B T 6) = C at *
  have w4 : IT T g (pU C T 6 (w32 (C T 6 + 1))) := IT_w w3 (by omega)
  have s4 : SS T g (pU C T 6 (w32 (C T 6 + 1))) := SS_w s3 (by omega) (by omega)
  generalize pU C T 6 (w32 (C T 6 + 1)) = D at *
  have w5 : IT T g (pU D (pc T s) 3 (w32 (D (pc T s) 3 - 1))) := IT_w w4 (by omega)
  have s5 : SS T g (pU D (pc T s) 3 (w32 (D (pc T s) 3 - 1))) := SS_w s4 (by omega) (by omega)
  generalize pU D (pc T s) 3 (w32 (D (pc T s) 3 - 1)) = E at *
  clear s2 s3 s4 w2 w3 w4
  have hL : LI T i s (-1) g E := ⟨w5, by rw [s5.1]; exact hi2, hs.1.1, by rw [s5.2 i hi.1 hi.2]; exact hs.2, Or.inl rfl⟩
  refine W_ite (fun _ => lx_69 hL hT) (fun _ => ?_)
  refine W_bdN (tT_replace w5.1 hT ⟨i, hi, rfl⟩ (by rw [s5.1]; exact hs.1)) (fun v F hF => lx_69 (r := v) (T := T) (i := i) (s := s) (g := g) ?_ hT)
  obtain ⟨f1, f2, f3, f4⟩ := hF
  rw [s5.1] at f2 f3
  exact ⟨IT_t w5 f1, by omega, hs.1.1, by rw [f3 i hi.1 hi2.2, s5.2 i hi.1 hi.2]; exact hs.2, f4⟩
theorem tT_killGroup (h : TI g T) (hT : isT T) (hb : 0 ≤ b ∧ b < 2147483648) : WN (fun _ G => IT T g G) (fT_killGroup g T a b) := by
  have hfu := fu_ge
  have l127 : ∀ x G, IT T g G → WN (fun _ G => IT T g G) (lT_killGroup_127 x (T + 2) 40 fu 0 G) := by
    intro x G h
    refine W_loop (W := WN (fun _ G => IT T g G)) (fun n (a : Int × gH) => lT_killGroup_127 x (T + 2) 40 n a.1 a.2) (fun a => (40 - a.1).toNat) (fun a => (0 ≤ a.1 ∧ a.1 ≤ 40) ∧ IT T g a.2) ?_ fu (0, G) ⟨by dsimp only; omega, h⟩ (by dsimp only; omega)
    clear h G
    rintro n ⟨k, G⟩ hI ih
    have k0 : 0 ≤ k := hI.1.1
    have h : IT T g G := hI.2
    show WN _ (bT_killGroup_127 x (T + 2) 40 (lT_killGroup_127 x (T + 2) 40 n) k G)
    rw [bT_killGroup_127]
    refine W_ite (fun hk => ?_) (fun _ => WN_i h)
    have hk : 0 ≤ k ∧ k < 40 := ⟨k0, hk⟩
    have bk := pc_b (T := T) hk
    simp only [TS_p h.1.1 hk, kdp hT hk, kdT2 hT, szT2 hT, hk.1, hk.2, if_true, true_and, and_self, bnd_s]
    rw [w32_r (by omega)]
    exact ih (k + 1, _) ⟨by dsimp only; omega, IT_w h (by omega)⟩ (by dsimp only; omega)
  have l74 : ∀ G, IT T g G → WN (fun _ G => IT T g G) (lT_killGroup_74 T b (T + 2) 40 fu 0 0 G) := by
    intro G h
    refine W_loop (W := WN (fun _ G => IT T g G)) (fun n (a : Int × Int × gH) => lT_killGroup_74 T b (T + 2) 40 n a.1 a.2.1 a.2.2) (fun a => (40 - a.2.1).toNat) (fun a => (0 ≤ a.2.1 ∧ a.2.1 ≤ 40) ∧ IT T g a.2.2) ?_ fu (0, 0, G) ⟨by dsimp only; omega, h⟩ (by dsimp only; omega)
    clear h G
    rintro n ⟨x, k, G⟩ hI ih
    have k0 : 0 ≤ k := hI.1.1
    have h : IT T g G := hI.2
    show WN _ (bT_killGroup_74 T b (T + 2) 40 (lT_killGroup_74 T b (T + 2) 40 n) x k G)
    rw [bT_killGroup_74]
    refine W_ite (fun hk => ?_) (fun _ => ?_)
    · have hk : 0 ≤ k ∧ k < 40 := ⟨k0, hk⟩
      have nx : ∀ x' G', IT T g G' → WN (fun _ G => IT T g G) (lT_killGroup_74 T b (T + 2) 40 n x' (w32 (k + 1)) G') := fun x' G' h1 => by rw [w32_r (by omega)]; exact ih (x', k + 1, G') ⟨by dsimp only; omega, h1⟩ (by dsimp only; omega)
      simp only [TS_p h.1.1 hk, kdp hT hk, kdT2 hT, szT2 hT, hk.1, hk.2, if_true, true_and, and_self]
      exact W_ite (fun _ => nx _ _ h) (fun _ => W_bdN (tT_letExit h.1 hT ⟨k, hk, rfl⟩ hb) (fun _ A hA => nx _ _ (IT_t h hA)))
    · rw [jT_killGroup_113, TS_1 h.1.1, if_pos (kdT2 hT), szT2 hT]
      exact l127 x G h
  rw [fT_killGroup, TS_1 h.1, if_pos (kdT2 hT), szT2 hT]
  refine W_loop (W := WN (fun _ G => IT T g G)) (fun n (c : Int × gH) => lT_killGroup_12 T a b (T + 2) 40 n c.1 c.2) (fun c => (40 - c.1).toNat) (fun c => (0 ≤ c.1 ∧ c.1 ≤ 40) ∧ IT T g c.2) ?_ fu (0, g) ⟨by dsimp only; omega, IT_r h⟩ (by dsimp only; omega)
  rintro n ⟨k, G⟩ hI ih
  have k0 : 0 ≤ k := hI.1.1
  have h : IT T g G := hI.2
  show WN _ (bT_killGroup_12 T a b (T + 2) 40 (lT_killGroup_12 T a b (T + 2) 40 n) k G)
  rw [bT_killGroup_12]
  refine W_ite (fun hk => ?_) (fun _ => ?_)
  · have hk : 0 ≤ k ∧ k < 40 := ⟨k0, hk⟩
    have bk := pc_b (T := T) hk
    have nx : ∀ G', IT T g G' → WN (fun _ G => IT T g G) (lT_killGroup_12 T a b (T + 2) 40 n (w32 (k + 1)) G') := fun G' h1 => by rw [w32_r (by omega)]; exact ih (k + 1, G') ⟨by dsimp only; omega, h1⟩ (by dsimp only; omega)
    simp only [TS_p h.1.1 hk, kdp hT hk, kdT2 hT, szT2 hT, hk.1, hk.2, if_true, true_and, and_self, bnd_s]
    exact W_bdP tP_isMortal (fun _ _ => W_ite (fun _ => nx _ (IT_w h (by omega))) (fun _ => W_ite (fun _ => nx _ (IT_w h (by omega))) (fun _ => nx _ (IT_w h (by omega)))))
  · rw [jT_killGroup_58, TS_1 h.1.1, if_pos (kdT2 hT), szT2 hT]
    exact l74 G h
/-- a running child is handed on -/
theorem lx_hand (h : IT T g G) (hT : isT T) (hk : 0 ≤ k ∧ k < 40) (hc : Pa T c) (e : G (pc T k) 2 = c) {β : Type} {W : Option β → Prop} {X : gH → Option β} (hX : ∀ H, IT T g H → W (X H)) : W (bdP (fT_adopterOf G T (pc T k)) (fun y => bdN (fT_adopt G T (pc T k) y) (fun _ H => X H))) := by
  have hk2 := hang_ h.1 hk (by rw [e]; exact Pa_pos hT hc)
  refine W_bdP (tT_adopterOf h.1 hT ⟨k, hk, rfl⟩) (fun y hy => ?_)
  obtain ⟨j, j1, rfl, j3, j4⟩ := ADc_f h.1 hT hk2 hy
  exact W_bdN (tT_adopt h.1 hT hk2 j1 j3 j4) (fun _ A hA => hX A (IT_t h hA.1))
theorem tT_loseGroup (h : TI g T) (hT : isT T) (hp : Pa T c) : WN (fun _ G => IT T g G) (fT_loseGroup g T c b) := by
  have hfu := fu_ge
  rw [fT_loseGroup, TS_1 h.1, if_pos (kdT2 hT), szT2 hT]
  refine W_loop (W := WN (fun _ G => IT T g G)) (fun n (a : Int × Int × gH) => lT_loseGroup_16 T c b (T + 2) 40 n a.1 a.2.1 a.2.2) (fun a => (40 - a.2.1).toNat) (fun a => (0 ≤ a.2.1 ∧ a.2.1 ≤ 40) ∧ IT T g a.2.2) ?_ fu (0, 0, g) ⟨by dsimp only; omega, IT_r h⟩ (by dsimp only; omega)
  rintro n ⟨x, k, G⟩ hI ih
  have k0 : 0 ≤ k := hI.1.1
  have h : IT T g G := hI.2
  show WN _ (bT_loseGroup_16 T c b (T + 2) 40 (lT_loseGroup_16 T c b (T + 2) 40 n) x k G)
  rw [bT_loseGroup_16]
  refine W_ite (fun hk => ?_) (fun _ => WN_i h)
  have hk : 0 ≤ k ∧ k < 40 := ⟨k0, hk⟩
  have nx : ∀ x' G', IT T g G' → WN (fun _ G => IT T g G) (lT_loseGroup_16 T c b (T + 2) 40 n x' (w32 (k + 1)) G') := fun x' G' h1 => by rw [w32_r (by omega)]; exact ih (x', k + 1, G') ⟨by dsimp only; omega, h1⟩ (by dsimp only; omega)
  simp only [TS_p h.1.1 hk, kdp hT hk, kdT2 hT, szT2 hT, hk.1, hk.2, if_true, true_and, and_self]
  exact W_bdP tP_isRunningChildOf (fun y hy => W_ite (fun _ => nx _ _ h) (fun hz => W_ite (fun _ => lx_hand h hT hk hp (hy hz) (fun H hH => nx _ _ hH)) (fun _ => nx _ _ h)))
theorem tT_loseSurplus (h : TI g T) (hT : isT T) (hp : Pa T c) : WN (fun _ G => IT T g G) (fT_loseSurplus g T c) := by
  have hfu := fu_ge
  rw [fT_loseSurplus]
  refine W_loop (W := WN (fun _ G => IT T g G)) (fun n (a : Int × Int × gH) => lT_loseSurplus_5 T c n a.1 a.2.1 a.2.2) (fun a => (a.2.1 + 1).toNat) (fun a => (-1 ≤ a.2.1 ∧ a.2.1 < 40) ∧ IT T g a.2.2) ?_ fu (0, 39, g) ⟨by dsimp only; omega, IT_r h⟩ (by dsimp only; omega)
  rintro n ⟨x, k, G⟩ hI ih
  have k0 : k < 40 := hI.1.2
  have h : IT T g G := hI.2
  show WN _ (bT_loseSurplus_5 T c (lT_loseSurplus_5 T c n) x k G)
  rw [bT_loseSurplus_5]
  refine W_ite (fun _ => WN_i h) (fun hk => ?_)
  have hk : 0 ≤ k ∧ k < 40 := ⟨by omega, k0⟩
  have nx : ∀ x' G', IT T g G' → WN (fun _ G => IT T g G) (lT_loseSurplus_5 T c n x' (w32 (k + (-1))) G') := fun x' G' h1 => by rw [w32_r (by omega)]; exact ih (x', k + (-1), G') ⟨by dsimp only; omega, h1⟩ (by dsimp only; omega)
  simp only [TS_1 h.1.1, TS_p h.1.1 hk, kdp hT hk, kdT2 hT, szT2 hT, hk.1, hk.2, Pa_kd hT hp, if_true, true_and, and_self]
  exact W_ite (fun _ => W_bdP tP_isRunningChildOf (fun y hy => W_ite (fun _ => nx _ _ h) (fun hz => lx_hand h hT hk hp (hy hz) (fun H hH => nx _ _ hH)))) (fun _ => nx _ _ h)
theorem tT_pruneBelow (h : TI g T) (hT : isT T) (hp : Pa T c) (hb : 0 ≤ b ∧ b < 2147483648) : WN (fun _ G => IT T g G) (fT_pruneBelow g T c b) := by
  have hfu := fu_ge
  rw [fT_pruneBelow]
  refine W_bdP (tT_deepestBelow h hT hp) (fun y hy => ?_)
  refine W_loop (W := WN (fun _ G => IT T g G)) (fun n (a : Int × Int × gH) => lT_pruneBelow_9 T c b n a.1 a.2.1 a.2.2) (fun a => (40 - a.1).toNat) (fun a => (0 ≤ a.1 ∧ a.1 ≤ 40) ∧ (a.2.1 = -1 ∨ Pa T a.2.1) ∧ IT T g a.2.2) ?_ fu (0, y, g) ⟨by dsimp only; omega, hy, IT_r h⟩ (by dsimp only; omega)
  rintro n ⟨k, z, G⟩ hI ih
  have k0 : 0 ≤ k := hI.1.1
  have hz : z = -1 ∨ Pa T z := hI.2.1
  have h : IT T g G := hI.2.2
  show WN _ (bT_pruneBelow_9 T c b (lT_pruneBelow_9 T c b n) k z G)
  rw [bT_pruneBelow_9]
  refine W_ite (fun _ => WN_i h) (fun hn => W_ite (fun hk => ?_) (fun _ => WN_i h))
  have hz : Pa T z := by
    rcases hz with e | e
    · exact absurd (by omega) hn
    · exact e
  refine W_bdN (tT_letExit h.1 hT hz hb) (fun _ A hA => W_bdP (tT_deepestBelow hA.1 hT hp) (fun v hv => ?_))
  rw [w32_r (by omega)]
  exact ih (k + 1, v, A) ⟨by dsimp only; omega, hv, IT_t h hA⟩ (by dsimp only; omega)
end CLS7
/-! ===== the class's trees: one taken from another, a new one (own work) ===== -/
section CLS8
variable {g g' G H K : gH} {T S i j k a b c v w d o p q r s m x y : Int}
theorem vT_atS (hs : TS g T) (hT : isT T) (hc : g T 5 ≤ 40) : fT_at g T v = some (if 0 ≤ v ∧ v < g T 5 then pc T v else -1) := by
  rw [fT_at, TS_1 hs]
  by_cases h0 : v < 0
  · rw [if_pos h0, if_neg (by omega)]
  · rw [if_neg h0]
    by_cases h1 : v < g T 5
    · rw [if_pos h1, if_pos (by omega), if_pos ⟨kdT2 hT, by omega, by rw [szT2 hT]; omega⟩, TS_p hs (by omega), if_pos (by omega)]
    · rw [if_neg h1, if_neg (by omega)]
theorem tP_take (hd : kd d = 3) (hn : ¬ d = c) : WN (fun _ G => (∀ x, ¬ x = c → G x = g x) ∧ G c 0 = g c 0 ∧ G c 2 = g c 2 ∧ G c 1 = g d 1 ∧ G c 9 = g d 9) (fP_take g c d) := by
  rw [fP_take, if_pos hd]
  simp only [bnd_s]
  refine WN_i ⟨fun x hx => by simp only [pU_n hx], ?_, ?_, ?_, ?_⟩
  · simp (disch := omega) only [pU_y]
  · simp (disch := omega) only [pU_y]
  · simp (disch := omega) only [pU_y]
    rw [pU_s, u1_s]
  · simp (disch := omega) only [pU_y]
    rw [pU_s, u1_s]
theorem cpyG_n (h : ¬ x = p) : cpyG g q p m x = g x := by
  funext y
  unfold cpyG
  rw [if_neg (fun z => h z.1)]
theorem IT_cp (h : IT T g G) (hp : p = T + 3 ∨ p = T + 4) : IT T g (cpyG G q p m) := by
  have e : ∀ x, ¬ x = p → cpyG G q p m x = G x := fun x hx => cpyG_n hx
  refine ⟨TI_eq h.1 (fun k _ _ => by rw [e T (by omega)]) (by rw [e T (by omega)]) (e _ (by omega)) (fun i i0 i1 => ?_) (fun i i0 i1 => ?_), fun x hx => (e x (by omega)).trans (h.2 x hx)⟩
  · have := pc_b (T := T) ⟨i0, i1⟩
    rw [e _ (by omega)]; exact ⟨rfl, rfl⟩
  · have := pc_b (T := T) ⟨i0, i1⟩
    rw [e _ (by omega)]; exact h.1.2.2.2.2.2.2 i i0 i1
theorem tT_take (hs : TS g T) (hT : isT T) (hS : isT S) (h : TI g S) (hn : ¬ T = S) : WN (fun _ G => IT T g G) (fT_take g T S) := by
  have hfu := fu_ge
  have hdis := dis_Ts T hT S hS
  have hc := h.2.1
  rw [fT_take, if_pos (kdT hS), bnd_s]
  have z1 : TF T g (pU g T 5 (g S 5)) := TF_pU TF_r (by omega)
  have z2 : TS (pU g T 5 (g S 5)) T := TS_eq hs (fun k _ _ => pU_y (by omega)) (pU_n (by omega)) (fun i i0 i1 => by have := pc_b (T := T) ⟨i0, i1⟩; rw [pU_n (by omega)])
  have z3 : pU g T 5 (g S 5) T 5 = g S 5 := by rw [pU_s, u1_s]
  refine W_loop (W := WN (fun _ G => IT T g G)) (fun n (a : Int × gH) => lT_take_10 T S n a.1 a.2) (fun a => (40 - a.1).toNat) (fun a => (0 ≤ a.1 ∧ a.1 ≤ 40) ∧ TF T g a.2 ∧ TS a.2 T ∧ a.2 T 5 = g S 5 ∧ ∀ k, 0 ≤ k → k < a.1 → a.2 (pc T k) 2 = (if g (pc S k) 2 < 0 then -1 else pc T (sp g S k)) ∧ a.2 (pc T k) 1 = g (pc S k) 1 ∧ a.2 (pc T k) 9 = g (pc S k) 9) ?_ fu (0, _) ⟨by dsimp only; omega, z1, z2, z3, fun k k0 k1 => absurd k0 (by dsimp only at k1; omega)⟩ (by dsimp only; omega)
  clear z1 z2 z3
  rintro n ⟨i, G⟩ hI ih
  have i0 : 0 ≤ i := hI.1.1
  have i1 : i ≤ 40 := hI.1.2
  have gF : TF T g G := hI.2.1
  have gS : TS G T := hI.2.2.1
  have g5 : G T 5 = g S 5 := hI.2.2.2.1
  have gk : ∀ k, 0 ≤ k → k < i → G (pc T k) 2 = (if g (pc S k) 2 < 0 then -1 else pc T (sp g S k)) ∧ G (pc T k) 1 = g (pc S k) 1 ∧ G (pc T k) 9 = g (pc S k) 9 := hI.2.2.2.2
  clear hI
  have eS : ∀ x, S ≤ x → x < S + 44 → G x = g x := fun x x0 x1 => gF x (by omega)
  show WN _ (bT_take_10 T S (lT_take_10 T S n) i G)
  rw [bT_take_10]
  refine W_ite (fun hi => ?_) (fun hi => ?_)
  · have hi : 0 ≤ i ∧ i < 40 := ⟨i0, hi⟩
    have bi := pc_b (T := T) hi
    have bs := pc_b (T := S) hi
    have e1 : G S 1 = S + 2 := by rw [eS S (by omega) (by omega)]; exact TS_1 h.1
    have e2 : G (S + 2) i = pc S i := by rw [eS _ (by omega) (by omega)]; exact TS_p h.1 hi
    have e3 := TS_1 gS
    have e4 := TS_p gS hi
    have h24 : ∀ {U : Int}, isT U → kd (U + 2) = 24 ∧ (0 : Int) ≤ i ∧ i < sz (U + 2) := fun hU => ⟨kdT2 hU, i0, by rw [szT2 hU]; exact hi.2⟩
    rw [e1, e3, if_pos (kdT hS), if_pos (h24 hS), if_pos (h24 hT), e2, e4, if_pos (kdp hT hi)]
    refine W_bdN (tP_take (kdp hS hi) (by omega)) (fun _ A hA => ?_)
    obtain ⟨a1, a2, a3, a4, a5⟩ := hA
    have aT : A T = G T := a1 T (by omega)
    have a2T : A (T + 2) = G (T + 2) := a1 _ (by omega)
    have aS : ∀ x, S ≤ x → x < S + 44 → A x = g x := fun x x0 x1 => by rw [a1 x (by omega)]; exact eS x x0 x1
    have sA : TS A T := TS_eq gS (fun k _ _ => by rw [aT]) a2T (fun k k0 k1 => by
      by_cases e : k = i
      · rw [e]; exact a2
      · rw [a1 _ (pc_ne k0 i0 e)])
    have nx : ∀ z, z = (if g (pc S i) 2 < 0 then -1 else pc T (sp g S i)) → WN (fun _ G => IT T g G) (lT_take_10 T S n (w32 (i + 1)) (pU A (pc T i) 2 z)) := by
      intro z hz
      rw [w32_r (by omega)]
      refine ih (i + 1, pU A (pc T i) 2 z) ⟨by dsimp only; omega, ?_, ?_, ?_, fun k k0 k1 => ?_⟩ (by dsimp only; omega)
      · exact TF_pU (fun x hx => (a1 x (by omega)).trans (gF x hx)) (by omega)
      · exact TS_eq sA (fun k _ _ => by show pU A (pc T i) 2 z T k = _; rw [pU_n (by omega)]) (pU_n (by omega)) (fun k k0 k1 => pU_y (by omega))
      · show pU A (pc T i) 2 z T 5 = _
        rw [pU_n (by omega), aT]; exact g5
      · have k1 : k < i + 1 := k1
        show pU A (pc T i) 2 z (pc T k) 2 = _ ∧ pU A (pc T i) 2 z (pc T k) 1 = _ ∧ pU A (pc T i) 2 z (pc T k) 9 = _
        by_cases e : k = i
        · rw [e, pU_s, u1_s, u1_n (by omega), u1_n (by omega), a4, a5, eS _ (by omega) (by omega)]
          exact ⟨hz, rfl, rfl⟩
        · rw [pU_n (pc_ne k0 i0 e), a1 _ (pc_ne k0 i0 e)]
          exact gk k k0 (by omega)
    rw [aT, e3, if_pos (h24 hT), if_pos (kdp hS hi), aS (pc S i) (by omega) (by omega), a2T, e4, if_pos (kdp hT hi)]
    refine W_ite (fun hneg => ?_) (fun hpos => ?_)
    · rw [bnd_s]
      exact nx _ (by rw [if_pos hneg])
    · have hi2 := hang_ h hi hpos
      have hs2 := sp_rg h (by omega) hi2.2
      have bj := pc_b (T := S) (i := sp g S i) ⟨by omega, by omega⟩
      rw [if_pos (by rw [hs2.2]; exact kdp hS (by omega)), hs2.2, aS _ (by omega) (by omega), TS_n h.1 (by omega), vT_atS sA hT (by rw [aT, g5]; exact hc.2), bdP_s, aT, g5, if_pos hs2.1, if_pos (kdp hT hi), bnd_s]
      exact nx _ (by rw [if_neg hpos])
  · have e40 : i = 40 := by omega
    subst e40
    have hI : IT T g G := by
      refine ⟨⟨gS, by rw [g5]; exact hc, ?_, fun k k0 k1 => ?_, fun k k0 k1 => ?_, ?_, fun k k0 k1 => ?_⟩, gF⟩
      · rw [(gk 0 (by omega) (by omega)).1, if_pos (by rw [h.2.2.1]; omega)]
      · rw [g5] at k0
        rw [(gk k (by omega) k1).1, if_pos (by rw [h.2.2.2.1 k k0 k1]; omega)]
      · rw [g5] at k1 ⊢
        have hs2 := sp_rg h k0 k1
        exact ⟨sp g S k, hs2.1.1, hs2.1.2, by rw [(gk k (by omega) (by omega)).1, if_neg (by rw [hs2.2]; exact pc_pos hS (by omega))]⟩
      · rw [g5]
        refine acy_ext h.2.2.2.2.2.1 (fun k k0 k1 => (sp_rg h (by omega) k1).1) (fun k k0 k1 => ?_)
        have hs2 := sp_rg h (i := k) (by omega) k1
        show ix T (G (pc T k) 2) = _
        rw [(gk k (by omega) (by omega)).1, if_neg (by rw [hs2.2]; exact pc_pos hS (by omega)), ix_pc hs2.1.1]
      · rw [(gk k k0 k1).2.1, (gk k k0 k1).2.2]
        exact h.2.2.2.2.2.2 k k0 k1
    have e2 : G S 2 = S + 3 := by rw [eS S (by omega) (by omega)]; exact TS_2 h.1
    have e3 : G S 3 = S + 4 := by rw [eS S (by omega) (by omega)]; exact TS_3 h.1
    have t2 := TS_2 gS
    have t3 := TS_3 gS
    rw [jT_take_70, if_pos (kdT hS), e2, t2, if_pos ⟨⟨kdT3 hS, kdT3 hT⟩, by omega, by rw [szT3 hS]; omega, by rw [szT3 hT]; omega⟩, bnd_s]
    have w1 : IT T g (cpyG G (S + 3) (T + 3) 8) := IT_cp hI (Or.inl rfl)
    have c3 : cpyG G (S + 3) (T + 3) 8 S 3 = S + 4 := by rw [cpyG_n (by omega)]; exact e3
    have c4 : cpyG G (S + 3) (T + 3) 8 T 3 = T + 4 := by rw [cpyG_n (by omega)]; exact t3
    generalize cpyG G (S + 3) (T + 3) 8 = C at *
    rw [c3, c4, if_pos ⟨⟨kdT4 hS, kdT4 hT⟩, by omega, by rw [szT4 hS]; omega, by rw [szT4 hT]; omega⟩]
    simp only [bnd_s]
    exact WN_i (IT_w (IT_w (IT_w (IT_w (IT_w (IT_cp w1 (Or.inr rfl)) (by omega)) (by omega)) (by omega)) (by omega)) (by omega))
theorem tT_clearRules (h : TS g T) (hT : isT T) : WN (fun _ G => (∀ x, ¬ x = T + 4 → G x = g x)) (fT_clearRules g T) := by
  have hfu := fu_ge
  rw [fT_clearRules]
  refine W_loop (W := WN (fun _ G => (∀ x, ¬ x = T + 4 → G x = g x))) (fun n (a : Int × gH) => lT_clearRules_2 T n a.1 a.2) (fun a => (5 - a.1).toNat) (fun a => (0 ≤ a.1 ∧ a.1 ≤ 5) ∧ (∀ x, ¬ x = T + 4 → a.2 x = g x)) ?_ fu (0, g) ⟨by dsimp only; omega, fun _ _ => rfl⟩ (by dsimp only; omega)
  rintro n ⟨i, G⟩ hI ih
  have i0 : 0 ≤ i := hI.1.1
  have hG : ∀ x, ¬ x = T + 4 → G x = g x := hI.2
  show WN _ (bT_clearRules_2 T (lT_clearRules_2 T n) i G)
  rw [bT_clearRules_2]
  refine W_ite (fun hi => ?_) (fun _ => WN_i hG)
  rw [hG T (by omega), TS_3 h, if_pos ⟨kdT4 hT, i0, by rw [szT4 hT]; exact hi⟩, bnd_s, w32_r (by omega)]
  exact ih (i + 1, pU G (T + 4) i (-1)) ⟨by dsimp only; omega, fun x hx => by show pU G (T + 4) i (-1) x = _; rw [pU_n hx]; exact hG x hx⟩ (by dsimp only; omega)
end CLS8
/-! ===== the class: a new tree, the whole object, its past (own work) ===== -/
section CLS9
variable {g g' G H K : gH} {T S i j k a b c v w d o p q r s m x y : Int}
/-- nobody hangs under anybody -/
def RZ (T : Int) (g G : gH) : Prop := TF T g G ∧ TS G T ∧ ∀ k, 0 ≤ k → k < 40 → G (pc T k) 2 = -1 ∧ ¬ G (pc T k) 1 = 1
theorem RZ_w (h : RZ T g G) (hab : a = T + 3 ∨ a = T + 4 ∨ (a = T ∧ 4 ≤ b)) : RZ T g (pU G a b v) := by
  obtain ⟨h1, h2, h3⟩ := h
  refine ⟨TF_pU h1 (by omega), TS_eq h2 (fun k _ _ => ?_) (pU_n (by omega)) (fun k k0 k1 => ?_), fun k k0 k1 => ?_⟩
  · unfold pU
    rw [if_neg (by omega)]
  · have := pc_b (T := T) ⟨k0, k1⟩
    rw [pU_n (by omega)]
  · have := pc_b (T := T) ⟨k0, k1⟩
    rw [pU_n (by omega)]; exact h3 k k0 k1
theorem RZ_e (h : RZ T g G) (hab : ∀ x, ¬ x = T + 4 → H x = G x) : RZ T g H := by
  obtain ⟨h1, h2, h3⟩ := h
  refine ⟨fun x hx => (hab x (by omega)).trans (h1 x hx), TS_eq h2 (fun k _ _ => ?_) (hab _ (by omega)) (fun k k0 k1 => ?_), fun k k0 k1 => ?_⟩
  · rw [hab T (by omega)]
  · have := pc_b (T := T) ⟨k0, k1⟩
    rw [hab _ (by omega)]
  · have := pc_b (T := T) ⟨k0, k1⟩
    rw [hab _ (by omega)]; exact h3 k k0 k1
theorem RZ_I (h : RZ T g G) (h5 : G T 5 = 1) : IT T g G := by
  obtain ⟨h1, h2, h3⟩ := h
  refine ⟨⟨h2, by rw [h5]; omega, (h3 0 (by omega) (by omega)).1, fun k k0 k1 => (h3 k (by rw [h5] at k0; omega) k1).1, fun k k0 k1 => absurd k0 (by rw [h5] at k1; omega), fun k k0 k1 => ?_, fun k k0 k1 z => absurd z (h3 k k0 k1).2⟩, h1⟩
  rw [h5] at k1
  rw [show k = 0 by omega]
  exact en_0
theorem lx_68 (h : RZ T g G) (hT : isT T) : WN (fun _ H => IT T g H) (jT_reset_68 G T) := by
  rw [jT_reset_68]
  refine W_bdN (tT_clearRules h.2.1 hT) (fun _ A hA => ?_)
  have hA := RZ_e h hA
  rw [TS_3 hA.2.1, if_pos ⟨kdT4 hT, by omega, by rw [szT4 hT]; omega⟩, bnd_s]
  have w1 : RZ T g (pU A (T + 4) 0 0) := RZ_w hA (by omega)
  generalize pU A (T + 4) 0 0 = B at *
  rw [TS_3 w1.2.1, if_pos ⟨kdT4 hT, by omega, by rw [szT4 hT]; omega⟩, bnd_s]
  have w2 : RZ T g (pU B (T + 4) 1 1) := RZ_w w1 (by omega)
  generalize pU B (T + 4) 1 1 = C at *
  rw [TS_3 w2.2.1, if_pos ⟨kdT4 hT, by omega, by rw [szT4 hT]; omega⟩]
  simp only [bnd_s]
  have w3 : RZ T g (pU (pU (pU C (T + 4) 2 2) T 4 20) T 5 1) := RZ_w (RZ_w (RZ_w w2 (by omega)) (by omega)) (by omega)
  have w4 := RZ_I w3 (by rw [pU_s, u1_s])
  exact WN_i (IT_w (IT_w (IT_w (IT_w w4 (by omega)) (by omega)) (by omega)) (by omega))
theorem lx_49 (h : RZ T g G) (hT : isT T) : WN (fun _ H => IT T g H) (lT_reset_49 T fu 0 G) := by
  have hfu := fu_ge
  refine W_loop (W := WN (fun _ G => IT T g G)) (fun n (a : Int × gH) => lT_reset_49 T n a.1 a.2) (fun a => (8 - a.1).toNat) (fun a => (0 ≤ a.1 ∧ a.1 ≤ 8) ∧ RZ T g a.2) ?_ fu (0, G) ⟨by dsimp only; omega, h⟩ (by dsimp only; omega)
  clear h
  rintro n ⟨i, G⟩ hI ih
  have i0 : 0 ≤ i := hI.1.1
  have h : RZ T g G := hI.2
  show WN _ (bT_reset_49 T (lT_reset_49 T n) i G)
  rw [bT_reset_49]
  refine W_ite (fun hi => ?_) (fun _ => lx_68 h hT)
  rw [TS_2 h.2.1, if_pos ⟨kdT3 hT, i0, by rw [szT3 hT]; exact hi⟩, bnd_s, w32_r (by omega)]
  exact ih (i + 1, pU G (T + 3) i 0) ⟨by dsimp only; omega, RZ_w h (by omega)⟩ (by dsimp only; omega)
theorem tT_reset (h : TS g T) (hT : isT T) : WN (fun _ G => IT T g G) (fT_reset g T) := by
  have hfu := fu_ge
  rw [fT_reset, TS_1 h, if_pos (kdT2 hT), szT2 hT]
  refine W_loop (W := WN (fun _ G => IT T g G)) (fun n (a : Int × gH) => lT_reset_10 T (T + 2) 40 n a.1 a.2) (fun a => (40 - a.1).toNat) (fun a => (0 ≤ a.1 ∧ a.1 ≤ 40) ∧ TF T g a.2 ∧ TS a.2 T ∧ ∀ k, 0 ≤ k → k < a.1 → a.2 (pc T k) 2 = -1 ∧ ¬ a.2 (pc T k) 1 = 1) ?_ fu (0, g) ⟨by dsimp only; omega, TF_r, h, fun k k0 k1 => absurd k0 (by dsimp only at k1; omega)⟩ (by dsimp only; omega)
  clear h
  rintro n ⟨i, G⟩ hI ih
  have i0 : 0 ≤ i := hI.1.1
  have i1 : i ≤ 40 := hI.1.2
  have h1 : TF T g G := hI.2.1
  have h2 : TS G T := hI.2.2.1
  have h3 : ∀ k, 0 ≤ k → k < i → G (pc T k) 2 = -1 ∧ ¬ G (pc T k) 1 = 1 := hI.2.2.2
  show WN _ (bT_reset_10 T (T + 2) 40 (lT_reset_10 T (T + 2) 40 n) i G)
  rw [bT_reset_10]
  refine W_ite (fun hi => ?_) (fun hi => ?_)
  · have hi : 0 ≤ i ∧ i < 40 := ⟨i0, hi⟩
    have bi := pc_b (T := T) hi
    simp only [TS_p h2 hi, kdp hT hi, kdT2 hT, szT2 hT, hi.1, hi.2, if_true, true_and, and_self]
    refine W_bdN tP_become (fun _ A hA => ?_)
    obtain ⟨a1, a2, a3, a4⟩ := hA
    rw [w32_r (by omega)]
    refine ih (i + 1, A) ⟨by dsimp only; omega, fun x hx => (a1 x (by omega)).trans (h1 x hx), ?_, fun k k0 k1 => ?_⟩ (by dsimp only; omega)
    · refine TS_eq h2 (fun k _ _ => ?_) (a1 _ (by omega)) (fun k k0 k1 => ?_)
      · show A T k = _
        rw [a1 T (by omega)]
      · show A (pc T k) 0 = _
        by_cases e : k = i
        · rw [e]; exact a2
        · rw [a1 _ (pc_ne k0 i0 e)]
    · have k1 : k < i + 1 := k1
      show A (pc T k) 2 = -1 ∧ ¬ A (pc T k) 1 = 1
      by_cases e : k = i
      · rw [e, a3, a4]; omega
      · rw [a1 _ (pc_ne k0 i0 e)]; exact h3 k k0 (by omega)
  · rw [jT_reset_35, TS_0 h2, ← pc_0, if_pos (kdp hT (by omega))]
    have b0 := pc_b (T := T) (i := 0) (by omega)
    refine W_bdN tP_become (fun _ A hA => ?_)
    obtain ⟨a1, a2, a3, a4⟩ := hA
    refine lx_49 ⟨fun x hx => (a1 x (by omega)).trans (h1 x hx), TS_eq h2 (fun k _ _ => by rw [a1 T (by omega)]) (a1 _ (by omega)) (fun k k0 k1 => ?_), fun k k0 k1 => ?_⟩ hT
    · by_cases e : k = 0
      · rw [e]; exact a2
      · rw [a1 _ (pc_ne k0 (by omega) e)]
    · by_cases e : k = 0
      · rw [e, a3, a4]; omega
      · rw [a1 _ (pc_ne k0 (by omega) e)]; exact h3 k k0 (by omega)
/-- the object -/
def CS (g : gH) : Prop := (g 0 0 = 1 ∧ g 0 1 = 45 ∧ g 0 2 = 89 ∧ g 0 3 = 133 ∧ g 0 4 = 575 ∧ g 0 5 = 622) ∧ g 133 0 = 134 ∧ (∀ k, 0 ≤ k → k < 10 → g 134 k = 135 + 44 * k) ∧ g 575 0 = 576 ∧ g 575 1 = 578 ∧ g 576 0 = 577 ∧ g 622 0 = 623
def CInv (g : gH) : Prop := CS g ∧ (∀ T, isT T → TI g T) ∧ (0 ≤ g 576 1 ∧ g 576 1 ≤ 500)
/-- a call of the class that leaves the input's length alone -/
def CR (g G : gH) : Prop := CInv G ∧ (∀ x, 624 ≤ x → G x = g x) ∧ G 576 1 = g 576 1
theorem CR_r (h : CInv g) : CR g g := ⟨h, fun _ _ => rfl, rfl⟩
theorem CR_t (h1 : CR g G) (h2 : CR G H) : CR g H := ⟨h2.1, fun x hx => (h2.2.1 x hx).trans (h1.2.1 x hx), h2.2.2.trans h1.2.2⟩
theorem CR_IT (h : CR g G) (hT : isT T) (hi : IT T G H) : CR g H := by
  have o := out_Ts T hT
  have b := isT_b hT
  have b2 := (kd_Ts T hT).1.2.2.2.2.2.2.2.2.2
  obtain ⟨⟨⟨h1, h2, h3, h4, h5, h6, h7⟩, ht, hl⟩, hx, h8⟩ := h
  have e : ∀ x, ¬ (T ≤ x ∧ x < T + 44) → H x = G x := hi.2
  have e0 := e 0 (by omega)
  have e133 := e 133 (by omega)
  have e134 := e 134 (by omega)
  have e575 := e 575 (by omega)
  have e576 := e 576 (by omega)
  have e622 := e 622 (by omega)
  refine ⟨⟨⟨by rw [e0]; exact h1, by rw [e133]; exact h2, by rw [e134]; exact h3, by rw [e575]; exact h4, by rw [e575]; exact h5, by rw [e576]; exact h6, by rw [e622]; exact h7⟩, fun S hS => ?_, by rw [e576]; exact hl⟩, fun x x0 => (e x (by omega)).trans (hx x x0), by rw [e576]; exact h8⟩
  rcases dis_Ts T hT S hS with z | z
  · rw [← z]; exact hi.1
  · exact TI_F (ht S hS) (fun x x0 x1 => e x (by omega))
theorem CR_w (h : CR g G) (hab : (a = 0 ∧ b = 6) ∨ (a = 133 ∧ 1 ≤ b) ∨ (a = 622 ∧ 1 ≤ b) ∨ a = 623 ∨ a = 577 ∨ (a = 575 ∧ 2 ≤ b)) : CR g (pU G a b v) := by
  obtain ⟨⟨⟨h1, h2, h3, h4, h5, h6, h7⟩, ht, hl⟩, hx, h8⟩ := h
  have e : ∀ x y, ¬ (x = a ∧ y = b) → pU G a b v x y = G x y := fun x y z => by
    unfold pU
    rw [if_neg z]
  refine ⟨⟨⟨?_, ?_, fun k k0 k1 => ?_, ?_, ?_, ?_, ?_⟩, fun S hS => ?_, ?_⟩, fun x x0 => ?_, ?_⟩
  · rw [e 0 0 (by omega), e 0 1 (by omega), e 0 2 (by omega), e 0 3 (by omega), e 0 4 (by omega), e 0 5 (by omega)]; exact h1
  · rw [e _ _ (by omega)]; exact h2
  · rw [e _ _ (by omega)]; exact h3 k k0 k1
  · rw [e _ _ (by omega)]; exact h4
  · rw [e _ _ (by omega)]; exact h5
  · rw [e _ _ (by omega)]; exact h6
  · rw [e _ _ (by omega)]; exact h7
  · have o := out_Ts S hS
    have b := isT_b hS
    have b2 := (kd_Ts S hS).1.2.2.2.2.2.2.2.2.2
    exact TI_F (ht S hS) (fun x x0 x1 => pU_n (by omega))
  · rw [e _ _ (by omega)]; exact hl
  · rw [pU_n (by omega)]; exact hx x x0
  · rw [e _ _ (by omega)]; exact h8
theorem CR_T (h : CR g G) (hT : isT T) : TI G T := h.1.2.1 T hT
/-- a call of the class that leaves the input alone -/
def CO (g G : gH) : Prop := CInv G ∧ (∀ x, (575 ≤ x ∧ x ≤ 577) ∨ 624 ≤ x → G x = g x) ∧ G 576 1 = g 576 1
theorem CO_r (h : CInv g) : CO g g := ⟨h, fun _ _ => rfl, rfl⟩
theorem CO_t (h1 : CO g G) (h2 : CO G H) : CO g H := ⟨h2.1, fun x hx => (h2.2.1 x hx).trans (h1.2.1 x hx), h2.2.2.trans h1.2.2⟩
theorem CO_IT (h : CO g G) (hT : isT T) (hi : IT T G H) (hn : ¬ T = 578 := by omega) : CO g H := by
  have o := out_Ts T hT
  have b := isT_b hT
  have b2 := (kd_Ts T hT).1.2.2.2.2.2.2.2.2.2
  obtain ⟨⟨⟨h1, h2, h3, h4, h5, h6, h7⟩, ht, hl⟩, hx, h8⟩ := h
  have e : ∀ x, ¬ (T ≤ x ∧ x < T + 44) → H x = G x := hi.2
  have e0 := e 0 (by omega)
  have e133 := e 133 (by omega)
  have e134 := e 134 (by omega)
  have e575 := e 575 (by omega)
  have e576 := e 576 (by omega)
  have e622 := e 622 (by omega)
  refine ⟨⟨⟨by rw [e0]; exact h1, by rw [e133]; exact h2, by rw [e134]; exact h3, by rw [e575]; exact h4, by rw [e575]; exact h5, by rw [e576]; exact h6, by rw [e622]; exact h7⟩, fun S hS => ?_, by rw [e576]; exact hl⟩, fun x x0 => (e x (by omega)).trans (hx x x0), by rw [e576]; exact h8⟩
  rcases dis_Ts T hT S hS with z | z
  · rw [← z]; exact hi.1
  · exact TI_F (ht S hS) (fun x x0 x1 => e x (by omega))
theorem CO_w (h : CO g G) (hab : (a = 0 ∧ b = 6) ∨ (a = 133 ∧ 1 ≤ b) ∨ (a = 622 ∧ 1 ≤ b) ∨ a = 623) : CO g (pU G a b v) := by
  obtain ⟨⟨⟨h1, h2, h3, h4, h5, h6, h7⟩, ht, hl⟩, hx, h8⟩ := h
  have e : ∀ x y, ¬ (x = a ∧ y = b) → pU G a b v x y = G x y := fun x y z => by
    unfold pU
    rw [if_neg z]
  refine ⟨⟨⟨?_, ?_, fun k k0 k1 => ?_, ?_, ?_, ?_, ?_⟩, fun S hS => ?_, ?_⟩, fun x x0 => ?_, ?_⟩
  · rw [e 0 0 (by omega), e 0 1 (by omega), e 0 2 (by omega), e 0 3 (by omega), e 0 4 (by omega), e 0 5 (by omega)]; exact h1
  · rw [e _ _ (by omega)]; exact h2
  · rw [e _ _ (by omega)]; exact h3 k k0 k1
  · rw [e _ _ (by omega)]; exact h4
  · rw [e _ _ (by omega)]; exact h5
  · rw [e _ _ (by omega)]; exact h6
  · rw [e _ _ (by omega)]; exact h7
  · have o := out_Ts S hS
    have b := isT_b hS
    have b2 := (kd_Ts S hS).1.2.2.2.2.2.2.2.2.2
    exact TI_F (ht S hS) (fun x x0 x1 => pU_n (by omega))
  · rw [e _ _ (by omega)]; exact hl
  · rw [pU_n (by omega)]; exact hx x x0
  · rw [e _ _ (by omega)]; exact h8
theorem CO_T (h : CO g G) (hT : isT T) : TI G T := h.1.2.1 T hT
theorem CO_R (h : CO g G) : CR g G := ⟨h.1, fun x x0 => h.2.1 x (Or.inr x0), h.2.2⟩
theorem kd_133 : kd 133 = 0 := by decide +kernel
theorem kd_134 : kd 134 = 25 := by decide +kernel
theorem sz_134 : sz 134 = 10 := by decide +kernel
theorem tH_push (h : CO g G) : WN (fun _ H => CO g H ∧ ∀ x, x < 133 → H x = G x) (fH_push G 133 1) := by
  have l21 : ∀ K, CO g K → (∀ x, x < 133 → K x = G x) → 0 ≤ K 133 2 ∧ K 133 2 < 10 → WN (fun _ H => CO g H ∧ ∀ x, x < 133 → H x = G x) (jH_push_21 K 133 1) := by
    intro K h hx hk
    obtain ⟨⟨hs, -⟩, -⟩ := id h
    have hT := Tk hk
    rw [jH_push_21, hs.2.1, if_pos ⟨kd_134, hk.1, by rw [sz_134]; exact hk.2⟩, hs.2.2.1 _ hk.1 hk.2, if_pos (kdT hT)]
    refine W_bdN (tT_take (CO_T h hT).1 hT T1 (CO_T h T1) (by omega)) (fun _ A hA => ?_)
    have w := CO_IT h hT hA
    have e : ∀ x, x < 133 → A x = G x := fun x x1 => (hA.2 x (by omega)).trans (hx x x1)
    rw [bnd_s]
    refine W_ite (fun _ => ?_) (fun _ => WN_i ⟨CO_w w (by omega), fun x x1 => (pU_n (by omega)).trans (e x x1)⟩)
    rw [bnd_s]
    exact WN_i ⟨CO_w (CO_w w (by omega)) (by omega), fun x x1 => (pU_n (by omega)).trans ((pU_n (by omega)).trans (e x x1))⟩
  have l16 : WN (fun _ H => CO g H ∧ ∀ x, x < 133 → H x = G x) (jH_push_16 G 133 1) := by
    rw [jH_push_16, bnd_s]
    exact l21 _ (CO_w h (by omega)) (fun x x1 => pU_n (by omega)) (by rw [pU_s, u1_s]; omega)
  rw [fH_push]
  exact W_ite (fun _ => l16) (fun _ => W_ite (fun _ => l21 G h (fun _ _ => rfl) (by omega)) (fun _ => l16))
theorem tH_pop (h : CO g G) : WN (fun _ H => CO g H) (fH_pop G 133 1) := by
  have l31 : ∀ G, CO g G → 1 ≤ G 133 2 ∧ G 133 2 ≤ 10 → WN (fun _ H => CO g H) (jH_pop_31 G 133 1) := by
    intro G h hk
    rw [jH_pop_31, bnd_s, bnd_s, w32_r (by omega)]
    have w := CO_w (a := 133) (b := 1) (v := w32 (pU G 133 2 (G 133 2 - 1) 133 1 - 1)) (CO_w (a := 133) (b := 2) (v := G 133 2 - 1) h (by omega)) (by omega)
    have e : pU (pU G 133 2 (G 133 2 - 1)) 133 1 (w32 (pU G 133 2 (G 133 2 - 1) 133 1 - 1)) 133 2 = G 133 2 - 1 := by rw [pU_y (by omega), pU_s, u1_s]
    generalize pU (pU G 133 2 (G 133 2 - 1)) 133 1 (w32 (pU G 133 2 (G 133 2 - 1) 133 1 - 1)) = A at *
    obtain ⟨⟨hs, -⟩, -⟩ := id w
    have hT := Tk (k := G 133 2 - 1) (by omega)
    rw [hs.2.1, e, if_pos ⟨kd_134, by omega, by rw [sz_134]; omega⟩, hs.2.2.1 _ (by omega) (by omega), if_pos (kdT T1)]
    exact W_bdN (tT_take (CO_T w T1).1 T1 hT (CO_T w hT) (by omega)) (fun _ B hB => WN_i (CO_IT w T1 hB))
  have l25 : WN (fun _ H => CO g H) (jH_pop_25 G 133 1) := by
    rw [jH_pop_25, bnd_s]
    exact l31 _ (CO_w h (by omega)) (by rw [pU_s, u1_s]; omega)
  rw [fH_pop]
  exact W_ite (fun _ => WN_i h) (fun _ => W_ite (fun _ => W_ite (fun _ => l25) (fun _ => l31 G h (by omega))) (fun _ => l25))
end CLS9
/-! ===== the class: its output (own work) ===== -/
section CLS10
variable {g g' G H K : gH} {T S i j k a b c v w d o p q r s m x y : Int}
/-- only the output is written -/
def OO (g G : gH) : Prop := (∀ x, ¬ (x = 622 ∨ x = 623) → G x = g x) ∧ G 622 0 = 623
theorem OO_t (h1 : OO g G) (h2 : OO G H) : OO g H := ⟨fun x hx => (h2.1 x hx).trans (h1.1 x hx), h2.2⟩
theorem OO_w (h : OO g G) (hab : (a = 622 ∧ ¬ b = 0) ∨ a = 623) : OO g (pU G a b v) := by
  refine ⟨fun x hx => (pU_n (by omega)).trans (h.1 x hx), ?_⟩
  unfold pU
  rw [if_neg (by omega)]
  exact h.2
theorem OO_T (h : OO g G) (hT : isT T) (ht : TI g T) : TI G T := by
  have o := out_Ts T hT
  exact TI_F ht (fun x x0 x1 => h.1 x (by omega))
theorem OO_p (h : OO g G) (hT : isT T) (hp : Pa T c) : G c = g c := by
  have o := out_Ts T hT
  have b := Pa_b hp
  exact h.1 c (by omega)
theorem CO_OO (h : CO g G) (ho : OO G H) : CO g H := by
  obtain ⟨⟨⟨h1, h2, h3, h4, h5, h6, h7⟩, ht, hl⟩, hx, h8⟩ := h
  have e := ho.1
  have e0 := e 0 (by omega)
  have e133 := e 133 (by omega)
  have e134 := e 134 (by omega)
  have e575 := e 575 (by omega)
  have e576 := e 576 (by omega)
  refine ⟨⟨⟨by rw [e0]; exact h1, by rw [e133]; exact h2, by rw [e134]; exact h3, by rw [e575]; exact h4, by rw [e575]; exact h5, by rw [e576]; exact h6, ho.2⟩, fun S hS => OO_T ho hS (ht S hS), by rw [e576]; exact hl⟩, fun x x0 => (e x (by omega)).trans (hx x x0), by rw [e576]; exact h8⟩
theorem kd_622 : kd 622 = 2 := by decide +kernel
theorem kd_623 : kd 623 = 21 := by decide +kernel
theorem sz_623 : sz 623 = 300 := by decide +kernel
theorem tO_putSign (h : OO g G) : WN (fun _ H => OO g H) (fO_putSign G 622 v) := by
  rw [fO_putSign, h.2]
  refine W_ite (fun _ => WN_i h) (fun _ => W_ite (fun _ => ?_) (fun _ => WN_i h))
  rw [if_pos ⟨kd_623, by omega, by rw [sz_623]; omega⟩, bnd_s, bnd_s]
  exact WN_i (OO_w (OO_w h (by omega)) (by omega))
theorem tO_putNumber (h : OO g G) (hv : 0 ≤ v ∧ v < 2147483648) : WN (fun _ H => OO g H) (fO_putNumber G 622 v) := by
  have l : ∀ G, OO g G → WN (fun _ H => OO g H) (jO_putNumber_18 G 622 v) := by
    intro G h
    have dv : 0 ≤ v / 10 ∧ v / 10 < 2147483648 := by omega
    rw [jO_putNumber_18]
    simp only [show ((1 : Int) ≤ 10 ∧ (10 : Int) < 2147483648 ∧ 0 ≤ v ∧ v < 2147483648) = True by simp; omega, show ((1 : Int) ≤ 10 ∧ (10 : Int) < 2147483648 ∧ 0 ≤ v / 10 ∧ v / 10 < 2147483648) = True by simp; omega, if_true]
    exact W_ite (fun _ => W_bdN (tO_putSign h) (fun _ A hA => WN_i hA)) (fun _ => W_bdN (tO_putSign h) (fun _ A hA => W_bdN (tO_putSign hA) (fun _ B hB => WN_i hB)))
  rw [fO_putNumber]
  refine W_ite (fun _ => l G h) (fun _ => ?_)
  rw [if_pos (by omega)]
  exact W_bdN (tO_putSign h) (fun _ A hA => l A hA)
theorem tO_putComma (h : OO g G) : WN (fun _ H => OO g H) (fO_putComma G 622) := by
  rw [fO_putComma]
  exact W_ite (fun _ => W_bdN (tO_putSign h) (fun _ A hA => WN_i hA)) (fun _ => WN_i h)
theorem num_ (ht : TI g T) (hp : Pa T c) : 0 ≤ g c 0 ∧ g c 0 < 2147483648 := by
  obtain ⟨i, hi, rfl⟩ := hp
  rw [TS_n ht.1 hi]
  omega
theorem tO_putPath (ht : TI g T) (hT : isT T) (h : OO g G) (hp : Pa T c) : WN (fun _ H => OO g H) (fO_putPath G 622 c) := by
  have hfu := fu_ge
  rw [fO_putPath, if_pos (Pa_kd hT hp)]
  refine W_bdP (tP_countAbove (OO_T h hT ht) hT hp) (fun v hv => ?_)
  refine W_loop (W := WN (fun _ G => OO g G)) (fun n (a : Int × gH) => lO_putPath_5 622 c n a.1 a.2) (fun a => a.1.toNat) (fun a => (0 ≤ a.1 ∧ a.1 ≤ 40) ∧ OO g a.2) ?_ fu (v, G) ⟨by dsimp only; omega, h⟩ (by dsimp only; omega)
  clear h
  rintro n ⟨u, G⟩ hI ih
  have u0 : 0 ≤ u := hI.1.1
  have u1 : u ≤ 40 := hI.1.2
  have h : OO g G := hI.2
  have hg := OO_T h hT ht
  show WN _ (bO_putPath_5 622 c (lO_putPath_5 622 c n) u G)
  rw [bO_putPath_5]
  refine W_ite (fun hu => ?_) (fun _ => ?_)
  · have l38 : ∀ e, Pa T e → WN (fun _ H => OO g H) (jO_putPath_38 (lO_putPath_5 622 c n) G 622 c u e) := by
      intro e he
      rw [jO_putPath_38, if_pos (Pa_kd hT he)]
      refine W_bdN (tO_putNumber h (num_ hg he)) (fun _ A hA => W_bdN (tO_putSign hA) (fun _ B hB => ?_))
      rw [w32_r (by omega)]
      exact ih (u + (-1), B) ⟨by dsimp only; omega, hB⟩ (by dsimp only; omega)
    refine W_loop (W := WN (fun _ G => OO g G)) (fun m (a : Int × Int) => lO_putPath_14 (lO_putPath_5 622 c n) G 622 c u m a.1 a.2) (fun a => (u - a.2).toNat) (fun a => Pa T a.1 ∧ 0 ≤ a.2) ?_ fu (c, 0) ⟨hp, by dsimp only; omega⟩ (by dsimp only; omega)
    rintro m ⟨e, j⟩ hJ jh
    have he : Pa T e := hJ.1
    have j0 : 0 ≤ j := hJ.2
    show WN _ (bO_putPath_14 (lO_putPath_5 622 c n) G 622 c u (lO_putPath_14 (lO_putPath_5 622 c n) G 622 c u m) e j)
    rw [bO_putPath_14]
    refine W_ite (fun hj => ?_) (fun _ => l38 e he)
    rw [if_pos (Pa_kd hT he)]
    refine W_ite (fun _ => l38 e he) (fun hn => ?_)
    rw [w32_r (by omega)]
    refine jh (G e 2, j + 1) ⟨?_, by dsimp only; omega⟩ (by dsimp only; omega)
    rcases sup_a hg he with z | z
    · exact absurd (by omega) hn
    · exact z
  · rw [if_pos (Pa_kd hT hp)]
    exact W_bdN (tO_putNumber h (num_ hg hp)) (fun _ A hA => WN_i hA)
theorem tO_putChildren (ht : TI g T) (hT : isT T) (h : OO g G) : WN (fun _ H => OO g H) (fO_putChildren G 622 T c) := by
  have hfu := fu_ge
  rw [fO_putChildren, if_pos (kdT hT), TS_1 (OO_T h hT ht).1, if_pos (kdT2 hT), szT2 hT]
  refine W_loop (W := WN (fun _ G => OO g G)) (fun n (a : Int × gH) => lO_putChildren_12 622 c (T + 2) 40 n a.1 a.2) (fun a => (40 - a.1).toNat) (fun a => (0 ≤ a.1 ∧ a.1 ≤ 40) ∧ OO g a.2) ?_ fu (0, G) ⟨by dsimp only; omega, h⟩ (by dsimp only; omega)
  clear h
  rintro n ⟨k, G⟩ hI ih
  have k0 : 0 ≤ k := hI.1.1
  have h : OO g G := hI.2
  have hg := OO_T h hT ht
  show WN _ (bO_putChildren_12 622 c (T + 2) 40 (lO_putChildren_12 622 c (T + 2) 40 n) k G)
  rw [bO_putChildren_12]
  refine W_ite (fun hk => ?_) (fun _ => WN_i h)
  have hk : 0 ≤ k ∧ k < 40 := ⟨k0, hk⟩
  have pa : Pa T (pc T k) := ⟨k, hk, rfl⟩
  have nx : ∀ G', OO g G' → WN (fun _ G => OO g G) (lO_putChildren_12 622 c (T + 2) 40 n (w32 (k + 1)) G') := fun G' h1 => by rw [w32_r (by omega)]; exact ih (k + 1, G') ⟨by dsimp only; omega, h1⟩ (by dsimp only; omega)
  simp only [TS_p hg.1 hk, kdp hT hk, kdT2 hT, szT2 hT, hk.1, hk.2, if_true, true_and, and_self]
  exact W_bdP tP_isRunningChildOf (fun _ _ => W_ite (fun _ => nx _ h) (fun _ => W_bdN (tO_putComma h) (fun _ A hA => W_bdN (tO_putNumber hA (num_ (OO_T hA hT ht) pa)) (fun _ B hB => nx B hB))))
theorem tT_dutiesOf (h : TI g T) (hT : isT T) (hp : Pa T c) : WP (fun _ => True) (fT_dutiesOf g T c) := by
  have hfu := fu_ge
  rw [fT_dutiesOf]
  refine W_loop (W := WP (fun _ => True)) (fun n (a : Int × Int) => lT_dutiesOf_4 g T c n a.1 a.2) (fun a => (8 - a.2).toNat) (fun a => (0 ≤ a.2 ∧ a.2 ≤ 8)) ?_ fu (0, 0) (by dsimp only; omega) (by dsimp only; omega)
  rintro n ⟨x, i⟩ hI ih
  have i0 : 0 ≤ i := hI.1
  show WP _ (bT_dutiesOf_4 g T c (lT_dutiesOf_4 g T c n) x i)
  rw [bT_dutiesOf_4]
  refine W_ite (fun hi => ?_) (fun _ => WP_i trivial)
  have nx : ∀ x', WP (fun _ => True) (lT_dutiesOf_4 g T c n x' (w32 (i + 1))) := fun x' => by rw [w32_r (by omega)]; exact ih (x', i + 1) (by dsimp only; omega) (by dsimp only; omega)
  rw [TS_2 h.1, if_pos ⟨kdT3 hT, i0, by rw [szT3 hT]; exact hi⟩, if_pos (Pa_kd hT hp)]
  exact W_ite (fun _ => nx _) (fun _ => nx _)
theorem tP_willMask : WP (fun _ => True) (fP_willMask g c) := by
  have hfu := fu_ge
  rw [fP_willMask]
  refine W_loop (W := WP (fun _ => True)) (fun n (a : Int × Int) => lP_willMask_4 g c n a.1 a.2) (fun a => (8 - a.2).toNat) (fun a => (0 ≤ a.2 ∧ a.2 ≤ 8)) ?_ fu (0, 0) (by dsimp only; omega) (by dsimp only; omega)
  rintro n ⟨x, i⟩ hI ih
  have i0 : 0 ≤ i := hI.1
  show WP _ (bP_willMask_4 g c (lP_willMask_4 g c n) x i)
  rw [bP_willMask_4]
  refine W_ite (fun hi => ?_) (fun _ => WP_i trivial)
  have nx : ∀ x', WP (fun _ => True) (lP_willMask_4 g c n x' (w32 (i + 1))) := fun x' => by rw [w32_r (by omega)]; exact ih (x', i + 1) (by dsimp only; omega) (by dsimp only; omega)
  exact W_bdP tP_willFor (fun _ _ => W_ite (fun _ => nx _) (fun _ => nx _))
theorem tO_putDuties (ht : TI g T) (hT : isT T) (h : OO g G) (hp : Pa T c) : WN (fun _ H => OO g H) (fO_putDuties G 622 T c) := by
  have hfu := fu_ge
  rw [fO_putDuties, if_pos (kdT hT)]
  refine W_bdP (tT_dutiesOf (OO_T h hT ht) hT hp) (fun y _ => ?_)
  refine W_loop (W := WN (fun _ G => OO g G)) (fun n (a : Int × gH) => lO_putDuties_9 622 y n a.1 a.2) (fun a => (8 - a.1).toNat) (fun a => (0 ≤ a.1 ∧ a.1 ≤ 8) ∧ OO g a.2) ?_ fu (0, G) ⟨by dsimp only; omega, h⟩ (by dsimp only; omega)
  clear h
  rintro n ⟨k, G⟩ hI ih
  have k0 : 0 ≤ k := hI.1.1
  have h : OO g G := hI.2
  show WN _ (bO_putDuties_9 622 y (lO_putDuties_9 622 y n) k G)
  rw [bO_putDuties_9]
  refine W_ite (fun hk => ?_) (fun _ => WN_i h)
  have nx : ∀ G', OO g G' → WN (fun _ G => OO g G) (lO_putDuties_9 622 y n (w32 (k + 1)) G') := fun G' h1 => by rw [w32_r (by omega)]; exact ih (k + 1, G') ⟨by dsimp only; omega, h1⟩ (by dsimp only; omega)
  exact W_ite (fun _ => nx _ h) (fun _ => W_bdN (tO_putNumber h (by omega)) (fun _ A hA => nx _ hA))
theorem tO_putZombies (ht : TI g T) (hT : isT T) (h : OO g G) : WN (fun _ H => OO g H) (fO_putZombies G 622 T c) := by
  have hfu := fu_ge
  rw [fO_putZombies, if_pos (kdT hT)]
  refine W_bdP (tT_zombieBehind (OO_T h hT ht) hT) (fun y hy => ?_)
  refine W_loop (W := WN (fun _ G => OO g G)) (fun n (a : Int × Int × gH) => lO_putZombies_10 622 T c n a.1 a.2.1 a.2.2) (fun a => (40 - a.2.1).toNat) (fun a => (0 ≤ a.2.1 ∧ a.2.1 ≤ 40) ∧ OO g a.2.2 ∧ (a.1 = -1 ∨ (Pa T a.1 ∧ a.2.2 a.1 1 = 1))) ?_ fu (y, 0, G) ⟨by dsimp only; omega, h, hy⟩ (by dsimp only; omega)
  clear h hy
  rintro n ⟨z, k, G⟩ hI ih
  have k0 : 0 ≤ k := hI.1.1
  have h : OO g G := hI.2.1
  have hz : z = -1 ∨ (Pa T z ∧ G z 1 = 1) := hI.2.2
  show WN _ (bO_putZombies_10 622 T c (lO_putZombies_10 622 T c n) z k G)
  rw [bO_putZombies_10]
  refine W_ite (fun hk => W_ite (fun _ => WN_i h) (fun hn => ?_)) (fun _ => WN_i h)
  have hz : Pa T z ∧ G z 1 = 1 := by
    rcases hz with e | e
    · exact absurd (by omega) hn
    · exact e
  refine W_bdN (tO_putComma h) (fun _ A hA => ?_)
  rw [if_pos (Pa_kd hT hz.1)]
  refine W_bdN (tO_putNumber hA (num_ (OO_T hA hT ht) hz.1)) (fun _ B hB => W_bdN (tO_putSign hB) (fun _ C hC => ?_))
  have hc : 0 ≤ C z 9 ∧ C z 9 < 2147483648 := by
    rw [OO_p hC hT hz.1, ← OO_p h hT hz.1]
    obtain ⟨⟨i, hi, e⟩, z1⟩ := hz
    rw [e] at z1 ⊢
    exact (OO_T h hT ht).2.2.2.2.2.2 i hi.1 hi.2 z1
  refine W_bdN (tO_putNumber hC hc) (fun _ D hD => ?_)
  rw [if_pos (kdT hT)]
  refine W_bdP (tT_zombieBehind (OO_T hD hT ht) hT) (fun y hy => ?_)
  rw [w32_r (by omega)]
  exact ih (y, k + 1, D) ⟨by dsimp only; omega, hD, hy⟩ (by dsimp only; omega)
theorem tC_putBranch (ht : TI g T) (hT : isT T) : ∀ (n : Nat) (l c : Int) (G : gH), OO g G → Pa T c → 0 ≤ l → (41 - l).toNat < n → WN (fun _ H => OO g H) (fC_putBranch n G 622 T c l) := by
  have hfu := fu_ge
  intro n
  induction n with
  | zero => intro l c G _ _ _ h; exact absurd h (by omega)
  | succ n ih0 =>
    intro l c G h hp hl hn
    show WN _ (fbC_putBranch (fC_putBranch n) G 622 T c l)
    rw [fbC_putBranch, if_pos (Pa_kd hT hp), if_pos kd_622]
    refine W_bdN (tO_putNumber h (num_ (OO_T h hT ht) hp)) (fun _ A hA => W_ite (fun _ => WN_i hA) (fun _ => W_ite (fun hl2 => ?_) (fun _ => WN_i hA)))
    rw [if_pos (kdT hT), TS_1 (OO_T hA hT ht).1, if_pos (kdT2 hT), szT2 hT]
    refine W_loop (W := WN (fun _ G => OO g G)) (fun m (a : Int × Int × gH) => lC_putBranch_40 (fC_putBranch n) 622 T c l (T + 2) 40 m a.1 a.2.1 a.2.2) (fun a => (40 - a.2.1).toNat) (fun a => (0 ≤ a.2.1 ∧ a.2.1 ≤ 40) ∧ OO g a.2.2) ?_ fu (40, 0, A) ⟨by dsimp only; omega, hA⟩ (by dsimp only; omega)
    clear h hA
    rintro m ⟨x, k, G⟩ hI ih
    have k0 : 0 ≤ k := hI.1.1
    have h : OO g G := hI.2
    have hg := OO_T h hT ht
    show WN _ (bC_putBranch_40 (fC_putBranch n) 622 T c l (T + 2) 40 (lC_putBranch_40 (fC_putBranch n) 622 T c l (T + 2) 40 m) x k G)
    rw [bC_putBranch_40]
    simp only [kd_622, if_true]
    refine W_ite (fun hk => ?_) (fun hk => ?_)
    case' refine_2 =>
      obtain ⟨v', A, e, hA⟩ := tO_putSign (v := 41) h
      rw [e, bdN_s]
      exact WN_i hA
    have hk : 0 ≤ k ∧ k < 40 := ⟨k0, hk⟩
    have pa : Pa T (pc T k) := ⟨k, hk, rfl⟩
    have nx : ∀ x' G', OO g G' → WN (fun _ G => OO g G) (lC_putBranch_40 (fC_putBranch n) 622 T c l (T + 2) 40 m x' (w32 (k + 1)) G') := fun x' G' h1 => by rw [w32_r (by omega)]; exact ih (x', k + 1, G') ⟨by dsimp only; omega, h1⟩ (by dsimp only; omega)
    simp only [TS_p hg.1 hk, kdp hT hk, kdT2 hT, szT2 hT, hk.1, hk.2, kd_622, if_true, true_and, and_self]
    refine W_bdP tP_isRunningChildOf (fun _ _ => W_ite (fun _ => nx _ _ h) (fun _ => ?_))
    refine W_bdN (tO_putSign h) (fun _ B hB => ?_)
    rw [w32_r (x := l + 1) (by omega)]
    exact W_bdN (ih0 (l + 1) _ B hB pa (by omega) (by omega)) (fun _ C hC => nx _ _ hC)
end CLS10
/-! ===== the class's questions (own work, by program: wip/p2/gen_cls2.py) ===== -/
section CLS11
variable {g g' G H K : gH} {T S j k a b c v w d o p q s m x y : Int}
theorem HR_T (h : HR g) (hT : isT T) (hk : k = 6 ∨ k = 7) : InR (g T k) := by
  have := h T k
  rw [kdT hT] at this
  rcases hk with rfl | rfl <;> exact this
theorem kd_575 : kd 575 = 4 := by decide +kernel
theorem zb_ : ∀ c, (c = -1 ∨ (Pa T c ∧ g c 1 = 1)) → (c = -1 ∨ Pa T c) := by
  intro c h
  rcases h with e | e
  · exact Or.inl e
  · exact Or.inr e.1
theorem ex_ (hT : isT T) (hv : c = -1 ∨ Pa T c) : WQ (fun _ => True) (fun e => e = 3) (if c < 0 then some (4, 0) else if kd c = 3 then some (0, g c 0) else none) := by
  refine W_ite (fun _ => WQ_e rfl) (fun hn => ?_)
  rcases hv with e | e
  · exact absurd (by omega) hn
  · rw [if_pos (Pa_kd hT e)]; exact WQ_i trivial
theorem CI_T (h : CInv g) : ∃ T, isT T ∧ g 0 0 = T ∧ TI g T ∧ g 0 3 = 133 ∧ g 0 5 = 622 := ⟨1, T1, h.1.1.1, h.2.1 1 T1, h.1.1.2.2.2.1, h.1.1.2.2.2.2.2⟩
theorem tC_named (e0 : g 0 0 = T) (hT : isT T) (ht : TI g T) : WQ (Pa T) (fun e => e = 2) (fC_named g 0 v) := by
  rw [fC_named, e0, if_pos (kdT hT)]
  refine W_bdP (tT_at ht hT) (fun y hy => W_ite (fun _ => WQ_e rfl) (fun hn => WQ_i ?_))
  rcases hy with e | e
  · exact absurd (by omega) hn
  · exact Pn_a ht e
theorem tC_checkRange : WQ (fun _ => 0 ≤ v ∧ v ≤ w) (fun e => e = 0) (fC_checkRange g v w) := by
  rw [fC_checkRange]
  exact W_ite (fun _ => WQ_e rfl) (fun _ => W_ite (fun _ => WQ_e rfl) (fun _ => WQ_i (by omega)))
theorem tC_checkState : WQ (fun _ => ¬ v = 0) (fun e => e = 1) (fC_checkState g v) := by
  rw [fC_checkState]
  exact W_ite (fun _ => WQ_e rfl) (fun h => WQ_i h)
theorem tC_numberOf (hT : isT T) (hc : c = -1 ∨ Pa T c) : WP (fun _ => True) (fC_numberOf g c) := by
  rw [fC_numberOf]
  refine W_ite (fun _ => WP_i trivial) (fun hn => ?_)
  rcases hc with e | e
  · exact absurd (by omega) hn
  · rw [if_pos (Pa_kd hT e)]; exact WP_i trivial
theorem tT_adopterOf1 (h : TI g T) (hT : isT T) (ho : Pa T o) : WP (Pa T) (fT_adopterOf g T o) := WP_m (tT_adopterOf h hT ho) (fun _ hv => ADc_a h hv)
theorem tT_canAdopt1 (h : TI g T) (hT : isT T) (hp : Pa T c) (ho : Pa T o) : WP (fun _ => True) (fT_canAdopt g T c o) := WP_m (tT_canAdopt h hT hp ho) (fun _ _ => trivial)
theorem tJ_bitCount : WP (fun _ => True) (fJ_bitCount g v) := ⟨_, rfl, trivial⟩
theorem tC_errorCode (h : CInv g) : WP (fun _ => True) (fC_errorCode g 0) := by
  rw [fC_errorCode, h.1.1.2.2.2.2.1, if_pos kd_575]; exact WP_i trivial
theorem tC_errorOffset (h : CInv g) : WP (fun _ => True) (fC_errorOffset g 0) := by
  rw [fC_errorOffset, h.1.1.2.2.2.2.1, if_pos kd_575]; exact WP_i trivial
theorem tC_rule (h : CInv g) : WP (fun _ => True) (fC_rule g 0 v) := by
  obtain ⟨T, hT, e0, ht, e3, e5⟩ := CI_T h
  rw [fC_rule, e0, if_pos (kdT hT), TS_3 ht.1]
  refine W_ite (fun _ => WP_i trivial) (fun _ => W_ite (fun _ => ?_) (fun _ => WP_i trivial))
  rw [if_pos ⟨kdT4 hT, by omega, by rw [szT4 hT]; omega⟩]
  exact WP_i trivial
theorem tC_outputByte (h : CInv g) : WP (fun _ => True) (fC_outputByte g 0 v) := by
  rw [fC_outputByte, h.1.1.2.2.2.2.2, if_pos kd_622, h.1.2.2.2.2.2.2]
  refine W_ite (fun _ => WP_i trivial) (fun _ => W_ite (fun _ => W_ite (fun _ => ?_) (fun _ => WP_i trivial)) (fun _ => WP_i trivial))
  rw [if_pos ⟨kd_623, by omega, by rw [sz_623]; omega⟩]
  exact WP_i trivial
theorem tC_height (h : CInv g) : WP (fun _ => True) (fC_height g 0) := by
  obtain ⟨T, hT, e0, ht, e3, e5⟩ := CI_T h
  rw [fC_height]
  try simp only [e0, e3]
  repeat' first | exact WQ_i trivial | exact WQ_e rfl | exact WQ_e (Or.inr rfl) | exact WP_i trivial | exact nx _ | exact nx _ _ | refine W_bdP (tT_greatestDepth ht hT) (fun _ _ => ?_) | refine W_g (Pa_kd hT (by assumption)) ?_ | refine W_g (kdT hT) ?_ | refine W_g kd_133 ?_ | refine W_ite (fun _ => ?_) (fun _ => ?_)
theorem tC_atDepth (h : CInv g) : WP (fun _ => True) (fC_atDepth g 0 w) := by
  obtain ⟨T, hT, e0, ht, e3, e5⟩ := CI_T h
  have hs := ht.1
  have hf := fu_ge
  rw [fC_atDepth]
  simp only [e0, e3, kdT hT, TS_1 hs, kdT2 hT, szT2 hT, if_true]
  refine W_loop (W := WP (fun _ => True)) (fun n (a : Int × Int) => lC_atDepth_17 g w (T + 2) 40 n a.1 a.2) (fun a => (40 - a.2).toNat) (fun a => (0 ≤ a.2 ∧ a.2 ≤ 40) ∧ True) ?_ fu (0, 0) ⟨⟨by show (0 : Int) ≤ 0; omega, by show (0 : Int) ≤ 40; omega⟩, trivial⟩ (by show (40 - (0 : Int)).toNat < fu; omega)
  rintro n ⟨x, i⟩ hI ih
  have i0 : 0 ≤ i := hI.1.1
  show WP (fun _ => True) (bC_atDepth_17 g w (T + 2) 40 (lC_atDepth_17 g w (T + 2) 40 n) x i)
  rw [bC_atDepth_17]
  refine W_ite (fun hi => ?_) (fun _ => ?_)
  case' refine_2 => exact WP_i trivial
  have hi : 0 ≤ i ∧ i < 40 := ⟨i0, hi⟩
  have pa : Pa T (pc T i) := ⟨i, hi, rfl⟩
  have nx : ∀ x', WP (fun _ => True) (lC_atDepth_17 g w (T + 2) 40 n x' (w32 (i + 1))) := fun x' => by rw [w32_r (by omega)]; exact ih (x', i + 1) ⟨by dsimp only; omega, trivial⟩ (by dsimp only; omega)
  simp only [e0, kdT hT, TS_p hs hi, TS_n hs hi, kdp hT hi, kdT2 hT, szT2 hT, hi.1, hi.2, if_true, true_and, and_self]
  repeat' first | exact WQ_i trivial | exact WQ_e rfl | exact WQ_e (Or.inr rfl) | exact WP_i trivial | exact nx _ | exact nx _ _ | refine W_bdP tP_isRunning (fun _ _ => ?_) | refine W_bdP (tP_countAbove ht hT (by assumption)) (fun _ _ => ?_) | refine W_g (Pa_kd hT (by assumption)) ?_ | refine W_g (kdT hT) ?_ | refine W_g kd_133 ?_ | refine W_ite (fun _ => ?_) (fun _ => ?_)
theorem tC_allRoom (h : CInv g) : WP (fun _ => True) (fC_allRoom g 0) := by
  obtain ⟨T, hT, e0, ht, e3, e5⟩ := CI_T h
  have hs := ht.1
  have hf := fu_ge
  rw [fC_allRoom]
  simp only [e0, e3, kdT hT, TS_1 hs, kdT2 hT, szT2 hT, if_true]
  refine W_loop (W := WP (fun _ => True)) (fun n (a : Int × Int) => lC_allRoom_16 g (T + 2) 40 n a.1 a.2) (fun a => (40 - a.2).toNat) (fun a => (0 ≤ a.2 ∧ a.2 ≤ 40) ∧ True) ?_ fu (0, 0) ⟨⟨by show (0 : Int) ≤ 0; omega, by show (0 : Int) ≤ 40; omega⟩, trivial⟩ (by show (40 - (0 : Int)).toNat < fu; omega)
  rintro n ⟨x, i⟩ hI ih
  have i0 : 0 ≤ i := hI.1.1
  show WP (fun _ => True) (bC_allRoom_16 g (T + 2) 40 (lC_allRoom_16 g (T + 2) 40 n) x i)
  rw [bC_allRoom_16]
  refine W_ite (fun hi => ?_) (fun _ => ?_)
  case' refine_2 => exact WP_i trivial
  have hi : 0 ≤ i ∧ i < 40 := ⟨i0, hi⟩
  have pa : Pa T (pc T i) := ⟨i, hi, rfl⟩
  have nx : ∀ x', WP (fun _ => True) (lC_allRoom_16 g (T + 2) 40 n x' (w32 (i + 1))) := fun x' => by rw [w32_r (by omega)]; exact ih (x', i + 1) ⟨by dsimp only; omega, trivial⟩ (by dsimp only; omega)
  simp only [e0, kdT hT, TS_p hs hi, TS_n hs hi, kdp hT hi, kdT2 hT, szT2 hT, hi.1, hi.2, if_true, true_and, and_self]
  repeat' first | exact WQ_i trivial | exact WQ_e rfl | exact WQ_e (Or.inr rfl) | exact WP_i trivial | exact nx _ | exact nx _ _ | refine W_bdP tP_room (fun _ _ => ?_) | refine W_g (Pa_kd hT (by assumption)) ?_ | refine W_g (kdT hT) ?_ | refine W_g kd_133 ?_ | refine W_ite (fun _ => ?_) (fun _ => ?_)
theorem tC_overfull (h : CInv g) : WP (fun _ => True) (fC_overfull g 0) := by
  obtain ⟨T, hT, e0, ht, e3, e5⟩ := CI_T h
  have hs := ht.1
  have hf := fu_ge
  rw [fC_overfull]
  simp only [e0, e3, kdT hT, TS_1 hs, kdT2 hT, szT2 hT, if_true]
  refine W_loop (W := WP (fun _ => True)) (fun n (a : Int × Int) => lC_overfull_16 g (T + 2) 40 n a.1 a.2) (fun a => (40 - a.2).toNat) (fun a => (0 ≤ a.2 ∧ a.2 ≤ 40) ∧ True) ?_ fu (0, 0) ⟨⟨by show (0 : Int) ≤ 0; omega, by show (0 : Int) ≤ 40; omega⟩, trivial⟩ (by show (40 - (0 : Int)).toNat < fu; omega)
  rintro n ⟨x, i⟩ hI ih
  have i0 : 0 ≤ i := hI.1.1
  show WP (fun _ => True) (bC_overfull_16 g (T + 2) 40 (lC_overfull_16 g (T + 2) 40 n) x i)
  rw [bC_overfull_16]
  refine W_ite (fun hi => ?_) (fun _ => ?_)
  case' refine_2 => exact WP_i trivial
  have hi : 0 ≤ i ∧ i < 40 := ⟨i0, hi⟩
  have pa : Pa T (pc T i) := ⟨i, hi, rfl⟩
  have nx : ∀ x', WP (fun _ => True) (lC_overfull_16 g (T + 2) 40 n x' (w32 (i + 1))) := fun x' => by rw [w32_r (by omega)]; exact ih (x', i + 1) ⟨by dsimp only; omega, trivial⟩ (by dsimp only; omega)
  simp only [e0, kdT hT, TS_p hs hi, TS_n hs hi, kdp hT hi, kdT2 hT, szT2 hT, hi.1, hi.2, if_true, true_and, and_self]
  repeat' first | exact WQ_i trivial | exact WQ_e rfl | exact WQ_e (Or.inr rfl) | exact WP_i trivial | exact nx _ | exact nx _ _ | refine W_bdP tP_isRunning (fun _ _ => ?_) | refine W_g (Pa_kd hT (by assumption)) ?_ | refine W_g (kdT hT) ?_ | refine W_g kd_133 ?_ | refine W_ite (fun _ => ?_) (fun _ => ?_)
theorem tC_mostAdopted (h : CInv g) : WP (fun _ => True) (fC_mostAdopted g 0) := by
  obtain ⟨T, hT, e0, ht, e3, e5⟩ := CI_T h
  have hs := ht.1
  have hf := fu_ge
  rw [fC_mostAdopted]
  simp only [e0, e3, kdT hT, TS_1 hs, kdT2 hT, szT2 hT, if_true]
  refine W_loop (W := WP (fun _ => True)) (fun n (a : Int × Int × Int) => lC_mostAdopted_19 g (T + 2) 40 n a.1 a.2.1 a.2.2) (fun a => (40 - a.2.2).toNat) (fun a => (0 ≤ a.2.2 ∧ a.2.2 ≤ 40) ∧ True) ?_ fu (-1, 0, 0) ⟨⟨by show (0 : Int) ≤ 0; omega, by show (0 : Int) ≤ 40; omega⟩, trivial⟩ (by show (40 - (0 : Int)).toNat < fu; omega)
  rintro n ⟨x, y, i⟩ hI ih
  have i0 : 0 ≤ i := hI.1.1
  show WP (fun _ => True) (bC_mostAdopted_19 g (T + 2) 40 (lC_mostAdopted_19 g (T + 2) 40 n) x y i)
  rw [bC_mostAdopted_19]
  refine W_ite (fun hi => ?_) (fun _ => ?_)
  case' refine_2 => exact WP_i trivial
  have hi : 0 ≤ i ∧ i < 40 := ⟨i0, hi⟩
  have pa : Pa T (pc T i) := ⟨i, hi, rfl⟩
  have nx : ∀ x' y', WP (fun _ => True) (lC_mostAdopted_19 g (T + 2) 40 n x' y' (w32 (i + 1))) := fun x' y' => by rw [w32_r (by omega)]; exact ih (x', y', i + 1) ⟨by dsimp only; omega, trivial⟩ (by dsimp only; omega)
  simp only [e0, kdT hT, TS_p hs hi, TS_n hs hi, kdp hT hi, kdT2 hT, szT2 hT, hi.1, hi.2, if_true, true_and, and_self]
  repeat' first | exact WQ_i trivial | exact WQ_e rfl | exact WQ_e (Or.inr rfl) | exact WP_i trivial | exact nx _ | exact nx _ _ | refine W_bdP tP_isRunning (fun _ _ => ?_) | refine W_g (Pa_kd hT (by assumption)) ?_ | refine W_g (kdT hT) ?_ | refine W_g kd_133 ?_ | refine W_ite (fun _ => ?_) (fun _ => ?_)
theorem tC_meanDepth (h : CInv g) : WP (fun _ => True) (fC_meanDepth g 0) := by
  obtain ⟨T, hT, e0, ht, e3, e5⟩ := CI_T h
  have hs := ht.1
  have hf := fu_ge
  rw [fC_meanDepth]
  simp only [e0, e3, kdT hT, TS_1 hs, kdT2 hT, szT2 hT, if_true]
  refine W_loop (W := WP (fun _ => True)) (fun n (a : Int × Int × Int) => lC_meanDepth_19 g (T + 2) 40 n a.1 a.2.1 a.2.2) (fun a => (40 - a.2.2).toNat) (fun a => (0 ≤ a.2.2 ∧ a.2.2 ≤ 40) ∧ InR a.2.1) ?_ fu (0, 0, 0) ⟨⟨by show (0 : Int) ≤ 0; omega, by show (0 : Int) ≤ 40; omega⟩, (by show InR 0; unfold InR; omega)⟩ (by show (40 - (0 : Int)).toNat < fu; omega)
  rintro n ⟨x, y, i⟩ hI ih
  have i0 : 0 ≤ i := hI.1.1
  have hv : InR y := hI.2
  show WP (fun _ => True) (bC_meanDepth_19 g (T + 2) 40 (lC_meanDepth_19 g (T + 2) 40 n) x y i)
  rw [bC_meanDepth_19]
  refine W_ite (fun hi => ?_) (fun _ => ?_)
  case' refine_2 => (rw [jC_meanDepth_57]; exact W_ite (fun _ => WP_i trivial) (fun hz => W_g (okd (toI_ne hv hz)) (WP_i trivial)))
  have hi : 0 ≤ i ∧ i < 40 := ⟨i0, hi⟩
  have pa : Pa T (pc T i) := ⟨i, hi, rfl⟩
  have nx : ∀ x' y', InR y' → WP (fun _ => True) (lC_meanDepth_19 g (T + 2) 40 n x' y' (w32 (i + 1))) := fun x' y' hv' => by rw [w32_r (by omega)]; exact ih (x', y', i + 1) ⟨by dsimp only; omega, hv'⟩ (by dsimp only; omega)
  simp only [e0, kdT hT, TS_p hs hi, TS_n hs hi, kdp hT hi, kdT2 hT, szT2 hT, hi.1, hi.2, if_true, true_and, and_self]
  exact W_bdP tP_isRunning (fun _ _ => W_ite (fun _ => nx x y hv) (fun _ => W_bdP (tP_countAbove ht hT pa) (fun _ _ => nx _ _ (inR_w32 _))))
theorem tC_rootShare (h : CInv g) (hr : HR g) : WP (fun _ => True) (fC_rootShare g 0) := by
  obtain ⟨T, hT, e0, ht, e3, e5⟩ := CI_T h
  rw [fC_rootShare, e0, if_pos (kdT hT)]
  exact W_ite (fun _ => WP_i trivial) (fun hz => W_g (okf (toI_ne (HR_T hr hT (by omega)) hz)) (WP_i trivial))
theorem tC_readShare (h : CInv g) (hr : HR g) : WP (fun _ => True) (fC_readShare g 0) := by
  obtain ⟨T, hT, e0, ht, e3, e5⟩ := CI_T h
  rw [fC_readShare, e0, if_pos (kdT hT)]
  exact W_ite (fun _ => WP_i trivial) (fun hz => W_bdP (tT_countInState ht hT) (fun _ _ => W_g (okd (toI_ne (HR_T hr hT (by omega)) hz)) (WP_i trivial)))
theorem tC_count (h : CInv g) : WQ (fun _ => True) (fun e => e = 0) (fC_count g 0 v) := by
  obtain ⟨T, hT, e0, ht, e3, e5⟩ := CI_T h
  rw [fC_count]
  try simp only [e0, e3]
  repeat' first | exact WQ_i trivial | exact WQ_e rfl | exact WQ_e (Or.inr rfl) | exact WP_i trivial | exact nx _ | exact nx _ _ | refine W_bdP (tT_dutiesOf ht hT (by rw [TS_0 ht.1]; exact Pn_a ht (Pn_0 ht))) (fun _ _ => W_bdP tJ_bitCount (fun _ _ => ?_)) | refine W_bdP (tT_countInState ht hT) (fun _ _ => ?_) | refine W_bdP (tT_dutiesOf ht hT (by assumption)) (fun _ _ => ?_) | refine W_g (Pa_kd hT (by assumption)) ?_ | refine W_g (kdT hT) ?_ | refine W_g kd_133 ?_ | refine W_ite (fun _ => ?_) (fun _ => ?_)
theorem tC_process (h : CInv g) : WQ (fun _ => True) (fun e => e = 2 ∨ e = 0) (fC_process g 0 v w) := by
  obtain ⟨T, hT, e0, ht, e3, e5⟩ := CI_T h
  rw [fC_process]
  try simp only [e0, e3]
  repeat' first | exact WQ_i trivial | exact WQ_e rfl | exact WQ_e (Or.inr rfl) | exact WP_i trivial | exact nx _ | exact nx _ _ | refine W_bdQ (tC_named e0 hT ht) (fun _ _ => ?_) (fun _ he => WQ_e (by subst he; simp)) | refine W_bdP tP_room (fun _ _ => ?_) | refine W_bdP tP_willMask (fun _ _ => ?_) | refine W_bdP (tT_countZombiesOf ht hT) (fun _ _ => ?_) | refine W_bdP (tT_dutiesOf ht hT (by assumption)) (fun _ _ => ?_) | refine W_bdP (tC_numberOf hT (sup_a ht (by assumption))) (fun _ _ => ?_) | refine W_g (Pa_kd hT (by assumption)) ?_ | refine W_g (kdT hT) ?_ | refine W_g kd_133 ?_ | refine W_ite (fun _ => ?_) (fun _ => ?_)
theorem tC_holder (h : CInv g) : WQ (fun _ => True) (fun e => e = 0) (fC_holder g 0 v) := by
  obtain ⟨T, hT, e0, ht, e3, e5⟩ := CI_T h
  rw [fC_holder]
  try simp only [e0, e3]
  repeat' first | exact WQ_i trivial | exact WQ_e rfl | exact WQ_e (Or.inr rfl) | exact WP_i trivial | exact nx _ | exact nx _ _ | refine W_bdQ tC_checkRange (fun _ _ => ?_) (fun _ he => WQ_e (by subst he; simp)) | refine W_bdP (tT_holderOf ht hT) (fun _ _ => ?_) | refine W_g (Pa_kd hT (by assumption)) ?_ | refine W_g (kdT hT) ?_ | refine W_g kd_133 ?_ | refine W_ite (fun _ => ?_) (fun _ => ?_)
theorem tC_depth (h : CInv g) : WQ (fun _ => True) (fun e => e = 2 ∨ e = 1) (fC_depth g 0 v) := by
  obtain ⟨T, hT, e0, ht, e3, e5⟩ := CI_T h
  rw [fC_depth]
  try simp only [e0, e3]
  repeat' first | exact WQ_i trivial | exact WQ_e rfl | exact WQ_e (Or.inr rfl) | exact WP_i trivial | exact nx _ | exact nx _ _ | refine W_bdQ (tC_named e0 hT ht) (fun _ _ => ?_) (fun _ he => WQ_e (by subst he; simp)) | refine W_bdQ tC_checkState (fun _ _ => ?_) (fun _ he => WQ_e (by subst he; simp)) | refine W_bdP (tP_countAbove ht hT (by assumption)) (fun _ _ => ?_) | refine W_g (Pa_kd hT (by assumption)) ?_ | refine W_g (kdT hT) ?_ | refine W_g kd_133 ?_ | refine W_ite (fun _ => ?_) (fun _ => ?_)
theorem tC_isAbove (h : CInv g) : WQ (fun _ => True) (fun e => e = 2) (fC_isAbove g 0 v w) := by
  obtain ⟨T, hT, e0, ht, e3, e5⟩ := CI_T h
  rw [fC_isAbove]
  try simp only [e0, e3]
  repeat' first | exact WQ_i trivial | exact WQ_e rfl | exact WQ_e (Or.inr rfl) | exact WP_i trivial | exact nx _ | exact nx _ _ | refine W_bdQ (tC_named e0 hT ht) (fun _ _ => ?_) (fun _ he => WQ_e (by subst he; simp)) | refine W_bdP (tP_isOver ht hT (by assumption) (by assumption)) (fun _ _ => ?_) | refine W_g (Pa_kd hT (by assumption)) ?_ | refine W_g (kdT hT) ?_ | refine W_g kd_133 ?_ | refine W_ite (fun _ => ?_) (fun _ => ?_)
theorem tC_meet (h : CInv g) : WQ (fun _ => True) (fun e => e = 2 ∨ e = 1) (fC_meet g 0 v w) := by
  obtain ⟨T, hT, e0, ht, e3, e5⟩ := CI_T h
  rw [fC_meet]
  try simp only [e0, e3]
  repeat' first | exact WQ_i trivial | exact WQ_e rfl | exact WQ_e (Or.inr rfl) | exact WP_i trivial | exact nx _ | exact nx _ _ | refine W_bdQ (tC_named e0 hT ht) (fun _ _ => ?_) (fun _ he => WQ_e (by subst he; simp)) | refine W_bdQ tC_checkState (fun _ _ => ?_) (fun _ he => WQ_e (by subst he; simp)) | refine W_bdP (tT_lowestOver ht hT (by assumption) (by assumption)) (fun _ _ => ?_) | refine W_g (Pa_kd hT (by assumption)) ?_ | refine W_g (kdT hT) ?_ | refine W_g kd_133 ?_ | refine W_ite (fun _ => ?_) (fun _ => ?_)
theorem tC_below (h : CInv g) : WQ (fun _ => True) (fun e => e = 2) (fC_below g 0 v) := by
  obtain ⟨T, hT, e0, ht, e3, e5⟩ := CI_T h
  rw [fC_below]
  try simp only [e0, e3]
  exact W_bdQ (tC_named e0 hT ht) (fun c hc => W_g (kdT hT) (W_bdP (tT_countBelow ht hT hc) (fun _ _ => WQ_i trivial))) (fun _ he => WQ_e (by subst he; simp))
theorem tC_nextTestament (h : CInv g) : WQ (fun _ => True) (fun e => e = 2) (fC_nextTestament g 0 v) := by
  obtain ⟨T, hT, e0, ht, e3, e5⟩ := CI_T h
  rw [fC_nextTestament]
  try simp only [e0, e3]
  repeat' first | exact WQ_i trivial | exact WQ_e rfl | exact WQ_e (Or.inr rfl) | exact WP_i trivial | exact nx _ | exact nx _ _ | refine W_bdQ (tC_named e0 hT ht) (fun _ _ => ?_) (fun _ he => WQ_e (by subst he; simp)) | refine W_bdP (WP_m (tT_zombieBehind ht hT) zb_) (fun _ hz => W_bdP (tC_numberOf hT hz) (fun _ _ => ?_)) | refine W_bdP (tC_numberOf hT (sup_a ht (by assumption))) (fun _ _ => ?_) | refine W_g (Pa_kd hT (by assumption)) ?_ | refine W_g (kdT hT) ?_ | refine W_g kd_133 ?_ | refine W_ite (fun _ => ?_) (fun _ => ?_)
theorem tC_testamentsBelow (h : CInv g) : WQ (fun _ => True) (fun e => e = 2) (fC_testamentsBelow g 0 v) := by
  obtain ⟨T, hT, e0, ht, e3, e5⟩ := CI_T h
  rw [fC_testamentsBelow]
  try simp only [e0, e3]
  exact W_bdQ (tC_named e0 hT ht) (fun c hc => W_g (kdT hT) (W_bdP (tT_countBelow ht hT hc) (fun _ _ => WQ_i trivial))) (fun _ he => WQ_e (by subst he; simp))
theorem tC_adopter (h : CInv g) : WQ (fun _ => True) (fun e => e = 2 ∨ e = 1) (fC_adopter g 0 v) := by
  obtain ⟨T, hT, e0, ht, e3, e5⟩ := CI_T h
  rw [fC_adopter]
  try simp only [e0, e3]
  repeat' first | exact WQ_i trivial | exact WQ_e rfl | exact WQ_e (Or.inr rfl) | exact WP_i trivial | exact nx _ | exact nx _ _ | refine W_bdQ (tC_named e0 hT ht) (fun _ _ => ?_) (fun _ he => WQ_e (by subst he; simp)) | refine W_bdQ tC_checkState (fun _ _ => ?_) (fun _ he => WQ_e (by subst he; simp)) | refine W_bdP tP_isMortal (fun _ _ => ?_) | refine W_bdP (tT_adopterOf1 ht hT (by assumption)) (fun _ _ => ?_) | refine W_g (Pa_kd hT (by assumption)) ?_ | refine W_g (kdT hT) ?_ | refine W_g kd_133 ?_ | refine W_ite (fun _ => ?_) (fun _ => ?_)
theorem tC_heirNow (h : CInv g) : WQ (fun _ => True) (fun e => e = 2 ∨ e = 1) (fC_heirNow g 0 v) := by
  obtain ⟨T, hT, e0, ht, e3, e5⟩ := CI_T h
  rw [fC_heirNow]
  try simp only [e0, e3]
  repeat' first | exact WQ_i trivial | exact WQ_e rfl | exact WQ_e (Or.inr rfl) | exact WP_i trivial | exact nx _ | exact nx _ _ | refine W_bdQ (tC_named e0 hT ht) (fun _ _ => ?_) (fun _ he => WQ_e (by subst he; simp)) | refine W_bdQ tC_checkState (fun _ _ => ?_) (fun _ he => WQ_e (by subst he; simp)) | refine W_bdP tP_isMortal (fun _ _ => ?_) | refine W_bdP (tT_heirOf ht hT (by assumption)) (fun _ _ => ?_) | refine W_g (Pa_kd hT (by assumption)) ?_ | refine W_g (kdT hT) ?_ | refine W_g kd_133 ?_ | refine W_ite (fun _ => ?_) (fun _ => ?_)
theorem tC_apart (h : CInv g) : WQ (fun _ => True) (fun e => e = 2 ∨ e = 1) (fC_apart g 0 v w) := by
  obtain ⟨T, hT, e0, ht, e3, e5⟩ := CI_T h
  rw [fC_apart]
  simp only [jC_apart_34, jC_apart_35]
  try simp only [e0, e3]
  repeat' first | exact WQ_i trivial | exact WQ_e rfl | exact WQ_e (Or.inr rfl) | exact WP_i trivial | exact nx _ | exact nx _ _ | refine W_bdQ (tC_named e0 hT ht) (fun _ _ => ?_) (fun _ he => WQ_e (by subst he; simp)) | refine W_bdQ tC_checkState (fun _ _ => ?_) (fun _ he => WQ_e (by subst he; simp)) | refine W_bdP (tP_countAbove ht hT (by assumption)) (fun _ _ => ?_) | refine W_bdP (tT_lowestOver ht hT (by assumption) (by assumption)) (fun _ _ => ?_) | refine W_g (Pa_kd hT (by assumption)) ?_ | refine W_g (kdT hT) ?_ | refine W_g kd_133 ?_ | refine W_ite (fun _ => ?_) (fun _ => ?_)
theorem tC_roomiest (h : CInv g) : WQ (fun _ => True) (fun e => e = 0) (fC_roomiest g 0 w) := by
  obtain ⟨T, hT, e0, ht, e3, e5⟩ := CI_T h
  have hs := ht.1
  have hf := fu_ge
  rw [fC_roomiest]
  simp only [e0, e3, kdT hT, TS_1 hs, kdT2 hT, szT2 hT, if_true]
  refine W_bdQ tC_checkRange (fun _ _ => ?_) (fun _ he => WQ_e (by subst he; simp))
  refine W_loop (W := WQ (fun _ => True) (fun e => e = 0)) (fun n (a : Int × Int × Int) => lC_roomiest_27 g w (T + 2) 40 n a.1 a.2.1 a.2.2) (fun a => (40 - a.2.2).toNat) (fun a => (0 ≤ a.2.2 ∧ a.2.2 ≤ 40) ∧ True) ?_ fu (-1, 0, 0) ⟨⟨by show (0 : Int) ≤ 0; omega, by show (0 : Int) ≤ 40; omega⟩, trivial⟩ (by show (40 - (0 : Int)).toNat < fu; omega)
  rintro n ⟨x, y, i⟩ hI ih
  have i0 : 0 ≤ i := hI.1.1
  show WQ (fun _ => True) (fun e => e = 0) (bC_roomiest_27 g w (T + 2) 40 (lC_roomiest_27 g w (T + 2) 40 n) x y i)
  rw [bC_roomiest_27]
  refine W_ite (fun hi => ?_) (fun _ => ?_)
  case' refine_2 => exact WQ_i trivial
  have hi : 0 ≤ i ∧ i < 40 := ⟨i0, hi⟩
  have pa : Pa T (pc T i) := ⟨i, hi, rfl⟩
  have nx : ∀ x' y', WQ (fun _ => True) (fun e => e = 0) (lC_roomiest_27 g w (T + 2) 40 n x' y' (w32 (i + 1))) := fun x' y' => by rw [w32_r (by omega)]; exact ih (x', y', i + 1) ⟨by dsimp only; omega, trivial⟩ (by dsimp only; omega)
  simp only [e0, kdT hT, TS_p hs hi, TS_n hs hi, kdp hT hi, kdT2 hT, szT2 hT, hi.1, hi.2, if_true, true_and, and_self]
  repeat' first | exact WQ_i trivial | exact WQ_e rfl | exact WQ_e (Or.inr rfl) | exact WP_i trivial | exact nx _ | exact nx _ _ | refine W_bdQ tC_checkRange (fun _ _ => ?_) (fun _ he => WQ_e (by subst he; simp)) | refine W_bdP tP_room (fun _ _ => ?_) | refine W_bdP tP_isMortal (fun _ _ => ?_) | refine W_bdP tP_refuses (fun _ _ => ?_) | refine W_g (Pa_kd hT (by assumption)) ?_ | refine W_g (kdT hT) ?_ | refine W_g kd_133 ?_ | refine W_ite (fun _ => ?_) (fun _ => ?_)
theorem tC_ofGroup (h : CInv g) : WQ (fun _ => True) (fun e => e = 0) (fC_ofGroup g 0 w) := by
  obtain ⟨T, hT, e0, ht, e3, e5⟩ := CI_T h
  have hs := ht.1
  have hf := fu_ge
  rw [fC_ofGroup]
  simp only [e0, e3, kdT hT, TS_1 hs, kdT2 hT, szT2 hT, if_true]
  refine W_bdQ tC_checkRange (fun _ _ => ?_) (fun _ he => WQ_e (by subst he; simp))
  refine W_loop (W := WQ (fun _ => True) (fun e => e = 0)) (fun n (a : Int × Int) => lC_ofGroup_23 g w (T + 2) 40 n a.1 a.2) (fun a => (40 - a.2).toNat) (fun a => (0 ≤ a.2 ∧ a.2 ≤ 40) ∧ True) ?_ fu (0, 0) ⟨⟨by show (0 : Int) ≤ 0; omega, by show (0 : Int) ≤ 40; omega⟩, trivial⟩ (by show (40 - (0 : Int)).toNat < fu; omega)
  rintro n ⟨x, i⟩ hI ih
  have i0 : 0 ≤ i := hI.1.1
  show WQ (fun _ => True) (fun e => e = 0) (bC_ofGroup_23 g w (T + 2) 40 (lC_ofGroup_23 g w (T + 2) 40 n) x i)
  rw [bC_ofGroup_23]
  refine W_ite (fun hi => ?_) (fun _ => ?_)
  case' refine_2 => exact WQ_i trivial
  have hi : 0 ≤ i ∧ i < 40 := ⟨i0, hi⟩
  have pa : Pa T (pc T i) := ⟨i, hi, rfl⟩
  have nx : ∀ x', WQ (fun _ => True) (fun e => e = 0) (lC_ofGroup_23 g w (T + 2) 40 n x' (w32 (i + 1))) := fun x' => by rw [w32_r (by omega)]; exact ih (x', i + 1) ⟨by dsimp only; omega, trivial⟩ (by dsimp only; omega)
  simp only [e0, kdT hT, TS_p hs hi, TS_n hs hi, kdp hT hi, kdT2 hT, szT2 hT, hi.1, hi.2, if_true, true_and, and_self]
  repeat' first | exact WQ_i trivial | exact WQ_e rfl | exact WQ_e (Or.inr rfl) | exact WP_i trivial | exact nx _ | exact nx _ _ | refine W_bdQ tC_checkRange (fun _ _ => ?_) (fun _ he => WQ_e (by subst he; simp)) | refine W_bdP tP_isRunning (fun _ _ => ?_) | refine W_g (Pa_kd hT (by assumption)) ?_ | refine W_g (kdT hT) ?_ | refine W_g kd_133 ?_ | refine W_ite (fun _ => ?_) (fun _ => ?_)
theorem tC_exited (h : CInv g) : WQ (fun _ => True) (fun e => e = 3) (fC_exited g 0 w) := by
  obtain ⟨T, hT, e0, ht, e3, e5⟩ := CI_T h
  have hs := ht.1
  have hf := fu_ge
  rw [fC_exited]
  simp only [e0, e3, kdT hT, TS_1 hs, kdT2 hT, szT2 hT, if_true]
  refine W_loop (W := WQ (fun _ => True) (fun e => e = 3)) (fun n (a : Int × Int) => lC_exited_17 g w (T + 2) 40 n a.1 a.2) (fun a => (40 - a.2).toNat) (fun a => (0 ≤ a.2 ∧ a.2 ≤ 40) ∧ (a.1 = -1 ∨ Pa T a.1)) ?_ fu (-1, 0) ⟨⟨by show (0 : Int) ≤ 0; omega, by show (0 : Int) ≤ 40; omega⟩, Or.inl rfl⟩ (by show (40 - (0 : Int)).toNat < fu; omega)
  rintro n ⟨x, i⟩ hI ih
  have i0 : 0 ≤ i := hI.1.1
  have hv : (x = -1 ∨ Pa T x) := hI.2
  show WQ (fun _ => True) (fun e => e = 3) (bC_exited_17 g w (T + 2) 40 (lC_exited_17 g w (T + 2) 40 n) x i)
  rw [bC_exited_17]
  refine W_ite (fun hi => ?_) (fun _ => ?_)
  case' refine_2 => (rw [jC_exited_56]; exact ex_ hT hv)
  have hi : 0 ≤ i ∧ i < 40 := ⟨i0, hi⟩
  have pa : Pa T (pc T i) := ⟨i, hi, rfl⟩
  have nx : ∀ x', (x' = -1 ∨ Pa T x') → WQ (fun _ => True) (fun e => e = 3) (lC_exited_17 g w (T + 2) 40 n x' (w32 (i + 1))) := fun x' hv' => by rw [w32_r (by omega)]; exact ih (x', i + 1) ⟨by dsimp only; omega, hv'⟩ (by dsimp only; omega)
  simp only [e0, kdT hT, TS_p hs hi, TS_n hs hi, kdp hT hi, kdT2 hT, szT2 hT, hi.1, hi.2, if_true, true_and, and_self]
  exact W_bdP tP_hasExited (fun _ _ => W_ite (fun _ => nx x hv) (fun _ => W_ite (fun _ => nx _ (Or.inr pa)) (fun _ => nx x hv)))
theorem tC_roomBelow (h : CInv g) : WQ (fun _ => True) (fun e => e = 2) (fC_roomBelow g 0 w) := by
  obtain ⟨T, hT, e0, ht, e3, e5⟩ := CI_T h
  have hs := ht.1
  have hf := fu_ge
  rw [fC_roomBelow]
  simp only [e0, e3, kdT hT, TS_1 hs, kdT2 hT, szT2 hT, if_true]
  refine W_bdQ (tC_named e0 hT ht) (fun c hc => ?_) (fun _ he => WQ_e (by subst he; simp))
  refine W_loop (W := WQ (fun _ => True) (fun e => e = 2)) (fun n (a : Int × Int) => lC_roomBelow_25 g c (T + 2) 40 n a.1 a.2) (fun a => (40 - a.2).toNat) (fun a => (0 ≤ a.2 ∧ a.2 ≤ 40) ∧ True) ?_ fu (0, 0) ⟨⟨by show (0 : Int) ≤ 0; omega, by show (0 : Int) ≤ 40; omega⟩, trivial⟩ (by show (40 - (0 : Int)).toNat < fu; omega)
  rintro n ⟨x, i⟩ hI ih
  have i0 : 0 ≤ i := hI.1.1
  show WQ (fun _ => True) (fun e => e = 2) (bC_roomBelow_25 g c (T + 2) 40 (lC_roomBelow_25 g c (T + 2) 40 n) x i)
  rw [bC_roomBelow_25]
  refine W_ite (fun hi => ?_) (fun _ => ?_)
  case' refine_2 => exact WQ_i trivial
  have hi : 0 ≤ i ∧ i < 40 := ⟨i0, hi⟩
  have pa : Pa T (pc T i) := ⟨i, hi, rfl⟩
  have nx : ∀ x', WQ (fun _ => True) (fun e => e = 2) (lC_roomBelow_25 g c (T + 2) 40 n x' (w32 (i + 1))) := fun x' => by rw [w32_r (by omega)]; exact ih (x', i + 1) ⟨by dsimp only; omega, trivial⟩ (by dsimp only; omega)
  simp only [e0, kdT hT, TS_p hs hi, TS_n hs hi, kdp hT hi, kdT2 hT, szT2 hT, hi.1, hi.2, if_true, true_and, and_self]
  repeat' first | exact WQ_i trivial | exact WQ_e rfl | exact WQ_e (Or.inr rfl) | exact WP_i trivial | exact nx _ | exact nx _ _ | refine W_bdQ (tC_named e0 hT ht) (fun _ _ => ?_) (fun _ he => WQ_e (by subst he; simp)) | refine W_bdP tP_room (fun _ _ => ?_) | refine W_bdP tP_isRunning (fun _ _ => ?_) | refine W_bdP (tP_isOver ht hT (by assumption) (by assumption)) (fun _ _ => ?_) | refine W_g (Pa_kd hT (by assumption)) ?_ | refine W_g (kdT hT) ?_ | refine W_g kd_133 ?_ | refine W_ite (fun _ => ?_) (fun _ => ?_)
theorem tC_adopters (h : CInv g) : WQ (fun _ => True) (fun e => e = 2 ∨ e = 1) (fC_adopters g 0 w) := by
  obtain ⟨T, hT, e0, ht, e3, e5⟩ := CI_T h
  have hs := ht.1
  have hf := fu_ge
  rw [fC_adopters]
  simp only [e0, e3, kdT hT, TS_1 hs, kdT2 hT, szT2 hT, if_true]
  refine W_bdQ (tC_named e0 hT ht) (fun c hc => ?_) (fun _ he => WQ_e (by subst he; simp))
  refine W_g (Pa_kd hT hc) ?_
  refine W_bdP tP_isMortal (fun _ _ => W_bdQ tC_checkState (fun _ _ => ?_) (fun _ he => WQ_e (by subst he; simp)))
  refine W_loop (W := WQ (fun _ => True) (fun e => e = 2 ∨ e = 1)) (fun n (a : Int × Int) => lC_adopters_32 g 0 c (T + 2) 40 n a.1 a.2) (fun a => (40 - a.2).toNat) (fun a => (0 ≤ a.2 ∧ a.2 ≤ 40) ∧ True) ?_ fu (0, 0) ⟨⟨by show (0 : Int) ≤ 0; omega, by show (0 : Int) ≤ 40; omega⟩, trivial⟩ (by show (40 - (0 : Int)).toNat < fu; omega)
  rintro n ⟨x, i⟩ hI ih
  have i0 : 0 ≤ i := hI.1.1
  show WQ (fun _ => True) (fun e => e = 2 ∨ e = 1) (bC_adopters_32 g 0 c (T + 2) 40 (lC_adopters_32 g 0 c (T + 2) 40 n) x i)
  rw [bC_adopters_32]
  refine W_ite (fun hi => ?_) (fun _ => ?_)
  case' refine_2 => exact WQ_i trivial
  have hi : 0 ≤ i ∧ i < 40 := ⟨i0, hi⟩
  have pa : Pa T (pc T i) := ⟨i, hi, rfl⟩
  have nx : ∀ x', WQ (fun _ => True) (fun e => e = 2 ∨ e = 1) (lC_adopters_32 g 0 c (T + 2) 40 n x' (w32 (i + 1))) := fun x' => by rw [w32_r (by omega)]; exact ih (x', i + 1) ⟨by dsimp only; omega, trivial⟩ (by dsimp only; omega)
  simp only [e0, kdT hT, TS_p hs hi, TS_n hs hi, kdp hT hi, kdT2 hT, szT2 hT, hi.1, hi.2, if_true, true_and, and_self]
  repeat' first | exact WQ_i trivial | exact WQ_e rfl | exact WQ_e (Or.inr rfl) | exact WP_i trivial | exact nx _ | exact nx _ _ | refine W_bdQ (tC_named e0 hT ht) (fun _ _ => ?_) (fun _ he => WQ_e (by subst he; simp)) | refine W_bdQ tC_checkState (fun _ _ => ?_) (fun _ he => WQ_e (by subst he; simp)) | refine W_bdP tP_isMortal (fun _ _ => ?_) | refine W_bdP (tT_canAdopt1 ht hT (by assumption) (by assumption)) (fun _ _ => ?_) | refine W_g (Pa_kd hT (by assumption)) ?_ | refine W_g (kdT hT) ?_ | refine W_g kd_133 ?_ | refine W_ite (fun _ => ?_) (fun _ => ?_)
theorem tC_heaviest (h : CInv g) : WQ (fun _ => True) (fun e => e = 2) (fC_heaviest g 0 w) := by
  obtain ⟨T, hT, e0, ht, e3, e5⟩ := CI_T h
  have hs := ht.1
  have hf := fu_ge
  rw [fC_heaviest]
  simp only [e0, e3, kdT hT, TS_1 hs, kdT2 hT, szT2 hT, if_true]
  refine W_bdQ (tC_named e0 hT ht) (fun c hc => ?_) (fun _ he => WQ_e (by subst he; simp))
  refine W_loop (W := WQ (fun _ => True) (fun e => e = 2)) (fun n (a : Int × Int × Int) => lC_heaviest_28 g 0 c (T + 2) 40 n a.1 a.2.1 a.2.2) (fun a => (40 - a.2.2).toNat) (fun a => (0 ≤ a.2.2 ∧ a.2.2 ≤ 40) ∧ True) ?_ fu (-1, -1, 0) ⟨⟨by show (0 : Int) ≤ 0; omega, by show (0 : Int) ≤ 40; omega⟩, trivial⟩ (by show (40 - (0 : Int)).toNat < fu; omega)
  rintro n ⟨x, y, i⟩ hI ih
  have i0 : 0 ≤ i := hI.1.1
  show WQ (fun _ => True) (fun e => e = 2) (bC_heaviest_28 g 0 c (T + 2) 40 (lC_heaviest_28 g 0 c (T + 2) 40 n) x y i)
  rw [bC_heaviest_28]
  refine W_ite (fun hi => ?_) (fun _ => ?_)
  case' refine_2 => exact WQ_i trivial
  have hi : 0 ≤ i ∧ i < 40 := ⟨i0, hi⟩
  have pa : Pa T (pc T i) := ⟨i, hi, rfl⟩
  have nx : ∀ x' y', WQ (fun _ => True) (fun e => e = 2) (lC_heaviest_28 g 0 c (T + 2) 40 n x' y' (w32 (i + 1))) := fun x' y' => by rw [w32_r (by omega)]; exact ih (x', y', i + 1) ⟨by dsimp only; omega, trivial⟩ (by dsimp only; omega)
  simp only [e0, kdT hT, TS_p hs hi, TS_n hs hi, kdp hT hi, kdT2 hT, szT2 hT, hi.1, hi.2, if_true, true_and, and_self]
  have j65 : ∀ s, WQ (fun _ => True) (fun e => e = 2) (jC_heaviest_65 (lC_heaviest_28 g 0 c (T + 2) 40 n) g 0 c x y (T + 2) 40 i (pc T i) s) := by
    intro s
    rw [jC_heaviest_65]
    exact W_ite (fun _ => W_g (kdp hT hi) (nx _ _)) (fun _ => nx _ _)
  exact W_bdP tP_isRunningChildOf (fun _ _ => W_ite (fun _ => j65 _) (fun _ => W_bdP (tT_countBelow ht hT pa) (fun _ _ => j65 _)))
theorem tC_groupsBelow (h : CInv g) : WQ (fun _ => True) (fun e => e = 2) (fC_groupsBelow g 0 w) := by
  obtain ⟨T, hT, e0, ht, e3, e5⟩ := CI_T h
  have hs := ht.1
  have hf := fu_ge
  rw [fC_groupsBelow]
  simp only [e0, e3, kdT hT, TS_1 hs, kdT2 hT, szT2 hT, if_true]
  refine W_bdQ (tC_named e0 hT ht) (fun c hc => ?_) (fun _ he => WQ_e (by subst he; simp))
  refine W_loop (W := WQ (fun _ => True) (fun e => e = 2)) (fun n (a : Int × Int) => lC_groupsBelow_25 g c (T + 2) 40 n a.1 a.2) (fun a => (40 - a.2).toNat) (fun a => (0 ≤ a.2 ∧ a.2 ≤ 40) ∧ True) ?_ fu (0, 0) ⟨⟨by show (0 : Int) ≤ 0; omega, by show (0 : Int) ≤ 40; omega⟩, trivial⟩ (by show (40 - (0 : Int)).toNat < fu; omega)
  rintro n ⟨x, i⟩ hI ih
  have i0 : 0 ≤ i := hI.1.1
  show WQ (fun _ => True) (fun e => e = 2) (bC_groupsBelow_25 g c (T + 2) 40 (lC_groupsBelow_25 g c (T + 2) 40 n) x i)
  rw [bC_groupsBelow_25]
  refine W_ite (fun hi => ?_) (fun _ => ?_)
  case' refine_2 => exact WQ_i trivial
  have hi : 0 ≤ i ∧ i < 40 := ⟨i0, hi⟩
  have pa : Pa T (pc T i) := ⟨i, hi, rfl⟩
  have nx : ∀ x', WQ (fun _ => True) (fun e => e = 2) (lC_groupsBelow_25 g c (T + 2) 40 n x' (w32 (i + 1))) := fun x' => by rw [w32_r (by omega)]; exact ih (x', i + 1) ⟨by dsimp only; omega, trivial⟩ (by dsimp only; omega)
  simp only [e0, kdT hT, TS_p hs hi, TS_n hs hi, kdp hT hi, kdT2 hT, szT2 hT, hi.1, hi.2, if_true, true_and, and_self]
  repeat' first | exact WQ_i trivial | exact WQ_e rfl | exact WQ_e (Or.inr rfl) | exact WP_i trivial | exact nx _ | exact nx _ _ | refine W_bdQ (tC_named e0 hT ht) (fun _ _ => ?_) (fun _ he => WQ_e (by subst he; simp)) | refine W_bdP tP_isRunning (fun _ _ => ?_) | refine W_bdP (tP_isOver ht hT (by assumption) (by assumption)) (fun _ _ => ?_) | refine W_g (Pa_kd hT (by assumption)) ?_ | refine W_g (kdT hT) ?_ | refine W_g kd_133 ?_ | refine W_ite (fun _ => ?_) (fun _ => ?_)
theorem tC_strangers (h : CInv g) : WQ (fun _ => True) (fun e => e = 2) (fC_strangers g 0 w) := by
  obtain ⟨T, hT, e0, ht, e3, e5⟩ := CI_T h
  have hs := ht.1
  have hf := fu_ge
  rw [fC_strangers]
  simp only [e0, e3, kdT hT, TS_1 hs, kdT2 hT, szT2 hT, if_true]
  refine W_bdQ (tC_named e0 hT ht) (fun c hc => ?_) (fun _ he => WQ_e (by subst he; simp))
  refine W_loop (W := WQ (fun _ => True) (fun e => e = 2)) (fun n (a : Int × Int) => lC_strangers_25 g c (T + 2) 40 n a.1 a.2) (fun a => (40 - a.2).toNat) (fun a => (0 ≤ a.2 ∧ a.2 ≤ 40) ∧ True) ?_ fu (0, 0) ⟨⟨by show (0 : Int) ≤ 0; omega, by show (0 : Int) ≤ 40; omega⟩, trivial⟩ (by show (40 - (0 : Int)).toNat < fu; omega)
  rintro n ⟨x, i⟩ hI ih
  have i0 : 0 ≤ i := hI.1.1
  show WQ (fun _ => True) (fun e => e = 2) (bC_strangers_25 g c (T + 2) 40 (lC_strangers_25 g c (T + 2) 40 n) x i)
  rw [bC_strangers_25]
  refine W_ite (fun hi => ?_) (fun _ => ?_)
  case' refine_2 => exact WQ_i trivial
  have hi : 0 ≤ i ∧ i < 40 := ⟨i0, hi⟩
  have pa : Pa T (pc T i) := ⟨i, hi, rfl⟩
  have nx : ∀ x', WQ (fun _ => True) (fun e => e = 2) (lC_strangers_25 g c (T + 2) 40 n x' (w32 (i + 1))) := fun x' => by rw [w32_r (by omega)]; exact ih (x', i + 1) ⟨by dsimp only; omega, trivial⟩ (by dsimp only; omega)
  simp only [e0, kdT hT, TS_p hs hi, TS_n hs hi, kdp hT hi, kdT2 hT, szT2 hT, hi.1, hi.2, if_true, true_and, and_self]
  repeat' first | exact WQ_i trivial | exact WQ_e rfl | exact WQ_e (Or.inr rfl) | exact WP_i trivial | exact nx _ | exact nx _ _ | refine W_bdQ (tC_named e0 hT ht) (fun _ _ => ?_) (fun _ he => WQ_e (by subst he; simp)) | refine W_bdP tP_isRunningChildOf (fun _ _ => ?_) | refine W_g (Pa_kd hT (by assumption)) ?_ | refine W_g (kdT hT) ?_ | refine W_g kd_133 ?_ | refine W_ite (fun _ => ?_) (fun _ => ?_)
theorem tC_walked (h : CInv g) : WQ (fun _ => True) (fun e => e = 3) (fC_walked g 0 v) := by
  obtain ⟨T, hT, e0, ht, e3, e5⟩ := CI_T h
  have hf := fu_ge
  have lw : ∀ c, (c = -1 ∨ Pa T c) → v < 40 ∨ c = -1 → WQ (fun _ => True) (fun e => e = 3) (lC_walked_24 g 0 v fu c 0) := by
    intro c hc hv
    refine W_loop (W := WQ (fun _ => True) (fun e => e = 3)) (fun n (a : Int × Int) => lC_walked_24 g 0 v n a.1 a.2) (fun a => (41 - a.2).toNat) (fun a => (0 ≤ a.2 ∧ (a.2 ≤ 40)) ∧ (a.1 = -1 ∨ Pa T a.1) ∧ (v < 40 ∨ a.1 = -1)) ?_ fu (c, 0) ⟨by dsimp only; omega, hc, hv⟩ (by dsimp only; omega)
    rintro n ⟨x, i⟩ hI ih
    have i0 : 0 ≤ i := hI.1.1
    have i1 : i ≤ 40 := hI.1.2
    have hx : x = -1 ∨ Pa T x := hI.2.1
    have hv : v < 40 ∨ x = -1 := hI.2.2
    show WQ _ _ (bC_walked_24 g 0 v (lC_walked_24 g 0 v n) x i)
    rw [bC_walked_24, e0, if_pos (kdT hT), jC_walked_48]
    refine W_ite (fun hi => W_ite (fun _ => ex_ hT hx) (fun hn => ?_)) (fun _ => ex_ hT hx)
    have px : Pa T x := by
      rcases hx with e | e
      · exact absurd (by omega) hn
      · exact e
    have hv : v < 40 := by
      rcases hv with e | e
      · exact e
      · exact absurd (by omega) hn
    refine W_bdP (tT_nextOfWalk ht hT px) (fun y hy => ?_)
    rw [w32_r (by omega)]
    exact ih (y, i + 1) ⟨by dsimp only; omega, hy, Or.inl hv⟩ (by dsimp only; omega)
  rw [fC_walked, e0, if_pos (kdT hT), TS_0 ht.1]
  exact W_ite (fun _ => lw _ (Or.inl rfl) (Or.inr rfl)) (fun _ => W_ite (fun h4 => lw _ (Or.inr (Pn_a ht (Pn_0 ht))) (Or.inl h4)) (fun _ => lw _ (Or.inl rfl) (Or.inr rfl)))
end CLS11
/-! ===== the class's acts (own work) ===== -/
section CLS12
variable {g g' G H K : gH} {T S i j k a b c v w d o p q r s m x y z : Int} {E : Nat → Prop}
/-- a call that may throw, and leaves the input alone -/
def WC (E : Nat → Prop) (g : gH) (X : Option (Nat × (Int × gH))) : Prop := WT (fun _ H => CO g H) (fun e H => E e ∧ CO g H) X
theorem co0 (h : CO g G) : G 0 0 = 1 := h.1.1.1.1
theorem co1 (h : CO g G) : G 0 1 = 45 := h.1.1.1.2.1
theorem co2 (h : CO g G) : G 0 2 = 89 := h.1.1.1.2.2.1
theorem co3 (h : CO g G) : G 0 3 = 133 := h.1.1.1.2.2.2.1
theorem co5 (h : CO g G) : G 0 5 = 622 := h.1.1.1.2.2.2.2.2
theorem WC_i (h : CO g G) : WC E g (some (0, (v, G))) := WT_i h
theorem WC_e {e : Nat} (he : E e) (h : CO g G) : WC E g (some (e + 1, (v, G))) := WT_e ⟨he, h⟩
theorem tC_namedP (h : CO g G) : WQ (Pn G 1) (fun e => e = 2) (fC_named G 0 v) := by
  rw [fC_named, co0 h, if_pos (kdT T1)]
  refine W_bdP (tT_at (CO_T h T1) T1) (fun y hy => W_ite (fun _ => WQ_e rfl) (fun hn => WQ_i ?_))
  rcases hy with e | e
  · exact absurd (by omega) hn
  · exact e
theorem tC_namedForExit (h : CO g G) : WQ (fun c => Pa 1 c ∧ 0 ≤ w ∧ w ≤ 255) (fun e => e = 2 ∨ e = 0 ∨ e = 1) (fC_namedForExit G 0 v w) := by
  rw [fC_namedForExit]
  refine W_bdQ (tC_namedP h) (fun c hc => W_bdQ tC_checkRange (fun _ hr => ?_) (fun _ he => WQ_e (by subst he; simp))) (fun _ he => WQ_e (by subst he; simp))
  have pa := Pn_a (CO_T h T1) hc
  rw [if_pos (Pa_kd T1 pa)]
  exact W_bdP tP_isMortal (fun _ _ => W_bdQ tC_checkState (fun _ _ => WQ_i ⟨pa, hr⟩) (fun _ he => WQ_e (by subst he; simp)))
theorem tC_checkKill : WQ (fun _ => 0 ≤ w ∧ w ≤ 255) (fun e => e = 0) (fC_checkKill g v w) := by
  rw [fC_checkKill]
  exact W_bdQ tC_checkRange (fun _ _ => W_bdQ tC_checkRange (fun _ hr => WQ_i hr) (fun _ he => WQ_e he)) (fun _ he => WQ_e he)
/-- the tree goes into the past -/
theorem W_push {β : Type} {W : Option β → Prop} {k : Int → gH → Option β} (h : CO g G) (hk : ∀ y H, CO g H → (∀ x, x < 133 → H x = G x) → W (k y H)) : W (if kd (G 0 3) = 0 then bdN (fH_push G (G 0 3) (G 0 0)) k else none) := by
  rw [co3 h, if_pos kd_133, co0 h]
  exact W_bdN (tH_push h) (fun y H hH => hk y H hH.1 hH.2)
theorem kd1 (h : CO g G) : kd (G 0 0) = 5 := by rw [co0 h]; exact kdT T1
theorem kd45 (h : CO g G) : kd (G 0 1) = 5 := by rw [co1 h]; exact kdT T45
/-- a place of a process -/
theorem CO_p (h : CO g G) (hp : Pa 1 c) (hb : ¬ b = 0 ∧ ¬ b = 2 ∧ ¬ b = 1 ∧ ¬ b = 9) : CO g (pU G c b v) := by
  have := Pa_b hp
  exact CO_IT h T1 (IT_w (IT_r (CO_T h T1)) (by omega))
theorem tC_exit (h : CO g G) : WC (fun e => e = 2 ∨ e = 0 ∨ e = 1) g (fC_exit G 0 v w) := by
  rw [fC_exit]
  refine W_bdQ (tC_namedForExit h) (fun c hc => W_push h (fun _ A hA _ => W_g (kd1 hA) ?_)) (fun e he => WC_e he h)
  rw [co0 hA]
  exact W_bdN (tT_letExit (CO_T hA T1) T1 hc.1 (by omega)) (fun _ B hB => WC_i (CO_IT hA T1 hB))
theorem tC_kill (h : CO g G) : WC (fun e => e = 0) g (fC_kill G 0 v w) := by
  rw [fC_kill]
  refine W_bdQ tC_checkKill (fun c hc => W_push h (fun _ A hA _ => W_g (kd1 hA) ?_)) (fun e he => WC_e he h)
  rw [co0 hA]
  exact W_bdN (tT_killGroup (CO_T hA T1) T1 (by omega)) (fun _ B hB => WC_i (CO_IT hA T1 hB))
theorem tC_read (h : CO g G) : WC (fun e => e = 2 ∨ e = 1 ∨ e = 3) g (fC_read G 0 v) := by
  rw [fC_read]
  refine W_bdQ (tC_namedP h) (fun c hc => ?_) (fun e he => WC_e (by subst he; simp) h)
  have pa := Pn_a (CO_T h T1) hc
  rw [if_pos (Pa_kd T1 pa)]
  refine W_bdP tP_isRunning (fun _ _ => W_bdQ tC_checkState (fun _ _ => W_g (kd1 h) ?_) (fun e he => WC_e (by subst he; simp) h))
  rw [show fT_zombieBehind G (G 0 0) c (-1) = fT_zombieBehind G 1 c (-1) by rw [co0 h]]
  refine W_bdP (tT_zombieBehind (CO_T h T1) T1) (fun z hz => W_ite (fun _ => WC_e (by simp) h) (fun hn => W_push h (fun _ A hA _ => ?_)))
  have pz : Pa 1 z := by
    rcases hz with e | e
    · exact absurd (by omega) hn
    · exact e.1
  have := Pa_b pz
  rw [if_pos (Pa_kd T1 pz), bnd_s]
  exact WC_i (CO_IT hA T1 ⟨TI_st (CO_T hA T1) pz (by omega), TF_pU TF_r (by omega)⟩)
theorem tC_refuse (h : CO g G) : WC (fun e => e = 2 ∨ e = 0 ∨ e = 1) g (fC_refuse G 0 v w) := by
  rw [fC_refuse]
  refine W_bdQ (tC_namedP h) (fun c hc => W_bdQ tC_checkRange (fun _ _ => ?_) (fun e he => WC_e (by subst he; simp) h)) (fun e he => WC_e (by subst he; simp) h)
  have pa := Pn_a (CO_T h T1) hc
  rw [if_pos (Pa_kd T1 pa)]
  refine W_bdP tP_isMortal (fun _ _ => W_bdQ tC_checkState (fun _ _ => W_push h (fun _ A hA _ => ?_)) (fun e he => WC_e (by subst he; simp) h))
  rw [bnd_s]
  have hB := CO_p (v := opI 2 (A c 8) (opI 4 1 w)) (b := 8) hA pa (by omega)
  generalize pU A c 8 (opI 2 (A c 8) (opI 4 1 w)) = B at *
  rw [if_pos (kd1 hB), co0 hB]
  exact W_bdN (tT_loseGroup (CO_T hB T1) T1 pa) (fun _ C hC => WC_i (CO_IT hB T1 hC))
theorem tC_accept (h : CO g G) : WC (fun e => e = 2 ∨ e = 0 ∨ e = 1) g (fC_accept G 0 v w) := by
  rw [fC_accept]
  refine W_bdQ (tC_namedP h) (fun c hc => W_bdQ tC_checkRange (fun _ _ => ?_) (fun e he => WC_e (by subst he; simp) h)) (fun e he => WC_e (by subst he; simp) h)
  have pa := Pn_a (CO_T h T1) hc
  rw [if_pos (Pa_kd T1 pa)]
  refine W_bdP tP_isRunning (fun _ _ => W_bdQ tC_checkState (fun _ _ => W_push h (fun _ A hA _ => W_bdP tP_refuses (fun _ _ => ?_))) (fun e he => WC_e (by subst he; simp) h))
  rw [bnd_s]
  exact WC_i (CO_p hA pa (by omega))
theorem tC_setCapacity (h : CO g G) : WC (fun e => e = 2 ∨ e = 0 ∨ e = 1) g (fC_setCapacity G 0 v w) := by
  rw [fC_setCapacity]
  refine W_bdQ (tC_namedP h) (fun c hc => W_bdQ tC_checkRange (fun _ _ => ?_) (fun e he => WC_e (by subst he; simp) h)) (fun e he => WC_e (by subst he; simp) h)
  have pa := Pn_a (CO_T h T1) hc
  rw [if_pos (Pa_kd T1 pa)]
  refine W_bdP tP_isRunning (fun _ _ => W_bdQ tC_checkState (fun _ _ => W_push h (fun _ A hA _ => ?_)) (fun e he => WC_e (by subst he; simp) h))
  rw [bnd_s]
  exact WC_i (CO_p hA pa (by omega))
theorem tC_setBudget (h : CO g G) : WC (fun e => e = 2 ∨ e = 0 ∨ e = 1) g (fC_setBudget G 0 v w) := by
  rw [fC_setBudget]
  refine W_bdQ (tC_namedP h) (fun c hc => W_bdQ tC_checkRange (fun _ _ => ?_) (fun e he => WC_e (by subst he; simp) h)) (fun e he => WC_e (by subst he; simp) h)
  have pa := Pn_a (CO_T h T1) hc
  rw [if_pos (Pa_kd T1 pa)]
  refine W_bdP tP_isRunning (fun _ _ => W_bdQ tC_checkState (fun _ _ => W_push h (fun _ A hA _ => ?_)) (fun e he => WC_e (by subst he; simp) h))
  rw [bnd_s]
  exact WC_i (CO_p hA pa (by omega))
theorem tC_setHeir (h : CO g G) : WC (fun e => e = 2 ∨ e = 0 ∨ e = 1) g (fC_setHeir G 0 v w) := by
  rw [fC_setHeir]
  refine W_bdQ (tC_namedP h) (fun c hc => ?_) (fun e he => WC_e (by subst he; simp) h)
  have pa := Pn_a (CO_T h T1) hc
  rw [if_pos (Pa_kd T1 pa)]
  refine W_ite (fun _ => ?_) (fun _ => W_bdQ (tC_namedP h) (fun _ _ => W_ite (fun _ => WC_e (by simp) h) (fun _ => ?_)) (fun e he => WC_e (by subst he; simp) h))
  · refine W_bdP tP_isMortal (fun _ _ => W_bdQ tC_checkState (fun _ _ => W_push h (fun _ A hA _ => ?_)) (fun e he => WC_e (by subst he; simp) h))
    rw [bnd_s]
    exact WC_i (CO_p hA pa (by omega))
  · refine W_bdP tP_isMortal (fun _ _ => W_bdQ tC_checkState (fun _ _ => W_push h (fun _ A hA _ => ?_)) (fun e he => WC_e (by subst he; simp) h))
    rw [bnd_s]
    exact WC_i (CO_p hA pa (by omega))
theorem tC_give (h : CO g G) : WC (fun e => e = 0 ∨ e = 2 ∨ e = 1) g (fC_give G 0 v w) := by
  rw [fC_give]
  refine W_bdQ tC_checkRange (fun _ _ => W_bdQ (tC_namedP h) (fun c hc => ?_) (fun e he => WC_e (by subst he; simp) h)) (fun e he => WC_e (by subst he; simp) h)
  have pa := Pn_a (CO_T h T1) hc
  rw [if_pos (Pa_kd T1 pa)]
  refine W_bdP tP_isRunning (fun _ _ => W_bdQ tC_checkState (fun _ _ => W_push h (fun _ A hA _ => W_g (kd1 hA) ?_)) (fun e he => WC_e (by subst he; simp) h))
  rw [co0 hA]
  refine W_bdP (tT_holderOf (CO_T hA T1) T1) (fun y hy => W_g (Pa_kd T1 hy) ?_)
  exact W_bdN (tT_giveDuty (CO_T hA T1) T1 pa) (fun _ B hB => WC_i (CO_IT hA T1 hB.1))
theorem tC_spawn (h : CO g G) : WC (fun e => e = 2 ∨ e = 0 ∨ e = 1) g (fC_spawn G 0 a b v w) := by
  rw [fC_spawn]
  refine W_bdQ (tC_namedP h) (fun c hc => W_bdQ tC_checkRange (fun _ _ => W_bdQ tC_checkRange (fun _ _ => W_bdQ tC_checkRange (fun _ _ => ?_) (fun e he => WC_e (by subst he; simp) h)) (fun e he => WC_e (by subst he; simp) h)) (fun e he => WC_e (by subst he; simp) h)) (fun e he => WC_e (by subst he; simp) h)
  have pa := Pn_a (CO_T h T1) hc
  have l51 : ∀ s, WC (fun e => e = 2 ∨ e = 0 ∨ e = 1) g (jC_spawn_51 G 0 b v w c s) := by
    intro s
    rw [jC_spawn_51]
    refine W_bdQ tC_checkState (fun _ _ => W_push h (fun _ A hA eA => W_g (kd1 hA) ?_)) (fun e he => WC_e (by subst he; simp) h)
    obtain ⟨i, hi, rfl⟩ := hc
    have e5 : A 1 5 = G 1 5 := by rw [eA 1 (by omega)]
    rw [co0 hA]
    refine W_bdN (tT_arrive (CO_T hA T1) T1 (by rw [e5]; exact hi)) (fun y B hB => W_bdP (tC_numberOf T1 ?_) (fun _ _ => WC_i (CO_IT hA T1 hB.1)))
    rcases hB.2 with z | z
    · exact Or.inl z.1
    · have := hB.1.1.2.1
      exact Or.inr ⟨A 1 5, by omega, z.1⟩
  rw [if_pos (Pa_kd T1 pa)]
  refine W_bdP tP_room (fun _ _ => W_ite (fun _ => W_g (kd1 h) (W_ite (fun _ => l51 1) (fun _ => ?_))) (fun _ => ?_))
  · rw [jC_spawn_50]; exact l51 0
  · rw [jC_spawn_50]; exact l51 0
theorem tC_readAll (h : CO g G) : WC (fun e => e = 2 ∨ e = 1) g (fC_readAll G 0 v) := by
  rw [fC_readAll]
  refine W_bdQ (tC_namedP h) (fun c hc => ?_) (fun e he => WC_e (by subst he; simp) h)
  have pa := Pn_a (CO_T h T1) hc
  rw [if_pos (Pa_kd T1 pa)]
  refine W_bdP tP_isRunning (fun _ _ => W_bdQ tC_checkState (fun _ _ => W_push h (fun _ A hA _ => W_g (kd1 hA) ?_)) (fun e he => WC_e (by subst he; simp) h))
  rw [co0 hA]
  exact W_bdN (tT_readZombiesOf (CO_T hA T1) T1) (fun _ B hB => WC_i (CO_IT hA T1 hB.1))
theorem tC_prune (h : CO g G) : WC (fun e => e = 2 ∨ e = 0 ∨ e = 1) g (fC_prune G 0 v w) := by
  rw [fC_prune]
  refine W_bdQ (tC_namedP h) (fun c hc => W_bdQ tC_checkRange (fun _ hr => ?_) (fun e he => WC_e (by subst he; simp) h)) (fun e he => WC_e (by subst he; simp) h)
  have pa := Pn_a (CO_T h T1) hc
  rw [if_pos (Pa_kd T1 pa)]
  refine W_bdP tP_isRunning (fun _ _ => W_bdQ tC_checkState (fun _ _ => W_push h (fun _ A hA _ => W_g (kd1 hA) ?_)) (fun e he => WC_e (by subst he; simp) h))
  rw [co0 hA]
  exact W_bdN (tT_pruneBelow (CO_T hA T1) T1 pa (by omega)) (fun _ B hB => WC_i (CO_IT hA T1 hB))
theorem tC_relieve (h : CO g G) : WC (fun e => e = 2 ∨ e = 1) g (fC_relieve G 0 v) := by
  rw [fC_relieve]
  refine W_bdQ (tC_namedP h) (fun c hc => ?_) (fun e he => WC_e (by subst he; simp) h)
  have pa := Pn_a (CO_T h T1) hc
  rw [if_pos (Pa_kd T1 pa)]
  refine W_bdP tP_isMortal (fun _ _ => W_bdQ tC_checkState (fun _ _ => W_push h (fun _ A hA _ => W_g (kd1 hA) ?_)) (fun e he => WC_e (by subst he; simp) h))
  rw [co0 hA]
  exact W_bdN (tT_loseSurplus (CO_T hA T1) T1 pa) (fun _ B hB => WC_i (CO_IT hA T1 hB))
theorem tC_restoreState (h : CO g G) : WC (fun e => e = 1) g (fC_restoreState G 0) := by
  rw [fC_restoreState]
  refine W_bdQ tC_checkState (fun _ _ => W_g (kd1 h) ?_) (fun e he => WC_e he h)
  rw [co0 h, co2 h]
  refine W_bdN (tT_take (CO_T h T1).1 T1 T89 (CO_T h T89) (by omega)) (fun _ A hA => ?_)
  have wA := CO_IT h T1 hA
  rw [co3 wA, if_pos kd_133, bnd_s]
  have wB := CO_w (a := 133) (b := 1) (v := 0) wA (by omega)
  generalize pU A 133 1 0 = B at *
  rw [if_pos (kd1 wB), co0 wB]
  exact W_bdP (tT_countInState (CO_T wB T1) T1) (fun _ _ => WC_i wB)
theorem tC_undo (h : CO g G) : WN (fun _ H => CO g H) (fC_undo G 0) := by
  rw [fC_undo, co3 h, if_pos kd_133, co0 h]
  refine W_bdN (tH_pop h) (fun _ A hA => W_ite (fun _ => WN_i hA) (fun _ => ?_))
  rw [co3 hA, if_pos kd_133]
  exact WN_i hA
theorem kd89 (h : CO g G) : kd (G 0 2) = 5 := by rw [co2 h]; exact kdT T89
theorem tC_saveState (h : CO g G) : WN (fun _ H => CO g H) (fC_saveState G 0) := by
  rw [fC_saveState, if_pos (kd89 h), co0 h, co2 h]
  refine W_bdN (tT_take (CO_T h T89).1 T89 T1 (CO_T h T1) (by omega)) (fun _ A hA => ?_)
  have wA := CO_IT h T89 hA
  rw [bnd_s]
  have wB := CO_w (a := 0) (b := 6) (v := 1) wA (by omega)
  generalize pU A 0 6 1 = B at *
  rw [if_pos (kd1 wB), co0 wB]
  exact W_bdP (tT_countInState (CO_T wB T1) T1) (fun _ _ => WN_i wB)
theorem tC_exitOfCopy (h : CO g G) (hw : 0 ≤ w ∧ w ≤ 255) : WN (fun _ H => CO g H ∧ ∀ x, ¬ (45 ≤ x ∧ x < 89) → H x = G x) (fC_exitOfCopy G 0 v w) := by
  rw [fC_exitOfCopy, if_pos (kd45 h), co0 h, co1 h]
  refine W_bdN (tT_take (CO_T h T45).1 T45 T1 (CO_T h T1) (by omega)) (fun _ A hA => ?_)
  have wA := CO_IT h T45 hA
  rw [if_pos (kd45 wA), co1 wA]
  refine W_bdP (tT_at hA.1 T45) (fun y hy => W_ite (fun _ => WN_i ⟨wA, fun x hx => hA.2 x (by omega)⟩) (fun hn => ?_))
  have py : Pa 45 y := by
    rcases hy with e | e
    · exact absurd (by omega) hn
    · exact Pn_a hA.1 e
  exact W_bdN (tT_letExit hA.1 T45 py (by omega)) (fun _ B hB => WN_i ⟨CO_IT wA T45 hB, fun x hx => (hB.2 x (by omega)).trans (hA.2 x (by omega))⟩)
theorem tC_wouldFall (h : CO g G) : WC (fun e => e = 2 ∨ e = 0 ∨ e = 1) g (fC_wouldFall G 0 v w) := by
  rw [fC_wouldFall]
  exact W_bdQ (tC_namedForExit h) (fun c hc => W_bdN (tC_exitOfCopy h hc.2) (fun _ A hA => WC_i hA.1)) (fun e he => WC_e he h)
theorem tC_wouldStand (h : CO g G) : WC (fun e => e = 2 ∨ e = 0 ∨ e = 1) g (fC_wouldStand G 0 v w) := by
  rw [fC_wouldStand]
  refine W_bdQ (tC_namedForExit h) (fun c hc => W_bdN (tC_exitOfCopy h hc.2) (fun _ A hA => W_g (kd45 hA.1) ?_)) (fun e he => WC_e he h)
  rw [co1 hA.1]
  exact W_bdP (tT_greatestDepth (CO_T hA.1 T45) T45) (fun _ _ => WC_i hA.1)
theorem tC_wouldHave (h : CO g G) : WC (fun e => e = 2 ∨ e = 0 ∨ e = 1) g (fC_wouldHave G 0 a v w) := by
  rw [fC_wouldHave]
  refine W_bdQ (tC_namedP h) (fun _ _ => W_bdQ (tC_namedForExit h) (fun c hc => W_bdN (tC_exitOfCopy h hc.2) (fun _ A hA => W_g (kd45 hA.1) ?_)) (fun e he => WC_e he h)) (fun e he => WC_e (by subst he; simp) h)
  rw [co1 hA.1]
  have ht := CO_T hA.1 T45
  refine W_bdP (tT_at ht T45) (fun y hy => W_ite (fun _ => WC_i hA.1) (fun hn => ?_))
  have py : Pa 45 y := by
    rcases hy with e | e
    · exact absurd (by omega) hn
    · exact Pn_a ht e
  rw [if_pos (Pa_kd T45 py)]
  exact W_bdP (tC_numberOf T45 (sup_a ht py)) (fun _ _ => WC_i hA.1)
theorem tC_wouldHold (h : CO g G) : WC (fun e => e = 2 ∨ e = 0 ∨ e = 1) g (fC_wouldHold G 0 a v w) := by
  rw [fC_wouldHold]
  refine W_bdQ (tC_namedP h) (fun _ _ => W_bdQ tC_checkRange (fun _ _ => W_bdQ (tC_namedForExit h) (fun c hc => W_bdN (tC_exitOfCopy h hc.2) (fun _ A hA => W_g (kd45 hA.1) ?_)) (fun e he => WC_e he h)) (fun e he => WC_e (by subst he; simp) h)) (fun e he => WC_e (by subst he; simp) h)
  rw [co1 hA.1]
  exact W_bdP (tT_holderOf (CO_T hA.1 T45) T45) (fun y hy => W_g (Pa_kd T45 hy) (WC_i hA.1))
theorem tC_betterCode (h : CO g G) : WC (fun e => e = 2 ∨ e = 1) g (fC_betterCode G 0 v) := by
  rw [fC_betterCode]
  refine W_bdQ (tC_namedP h) (fun c hc => W_g (Pa_kd T1 (Pn_a (CO_T h T1) hc)) (W_bdP tP_isMortal (fun _ _ => W_bdQ tC_checkState (fun _ _ => ?_) (fun e he => WC_e (by subst he; simp) h)))) (fun e he => WC_e (by subst he; simp) h)
  exact W_bdN (tC_exitOfCopy h (by omega)) (fun _ A hA => W_bdN (tC_exitOfCopy hA.1 (by omega)) (fun _ B hB => W_ite (fun _ => WC_i hB.1) (fun _ => WC_i hB.1)))
theorem tC_wouldFallBy (h : CO g G) : WC (fun e => e = 0) g (fC_wouldFallBy G 0 v w) := by
  rw [fC_wouldFallBy]
  refine W_bdQ tC_checkKill (fun _ hw => W_g (kd45 h) ?_) (fun e he => WC_e he h)
  rw [co0 h, co1 h]
  refine W_bdN (tT_take (CO_T h T45).1 T45 T1 (CO_T h T1) (by omega)) (fun _ A hA => ?_)
  have wA := CO_IT h T45 hA
  rw [if_pos (kd45 wA), co1 wA]
  refine W_bdN (tT_killGroup hA.1 T45 (by omega)) (fun _ B hB => ?_)
  have wB := CO_IT wA T45 hB
  exact W_g (kd45 wB) (W_g (kd1 wB) (WC_i wB))
theorem tC_wouldRun (h : CO g G) : WC (fun e => e = 0) g (fC_wouldRun G 0 v w) := by
  rw [fC_wouldRun]
  refine W_bdQ tC_checkKill (fun _ hw => W_g (kd45 h) ?_) (fun e he => WC_e he h)
  rw [co0 h, co1 h]
  refine W_bdN (tT_take (CO_T h T45).1 T45 T1 (CO_T h T1) (by omega)) (fun _ A hA => ?_)
  have wA := CO_IT h T45 hA
  rw [if_pos (kd45 wA), co1 wA]
  refine W_bdN (tT_killGroup hA.1 T45 (by omega)) (fun _ B hB => ?_)
  have wB := CO_IT wA T45 hB
  refine W_g (kd45 wB) ?_
  rw [co1 wB]
  exact W_bdP (tT_countInState hB.1 T45) (fun _ _ => WC_i wB)
end CLS12
/-! ===== the class's acts: move, exchange, and what loops (own work) ===== -/
section CLS13
variable {g g' G H K : gH} {T S i j k a b c v w d o p q r s m x y z : Int}
theorem sp_x (e : ∀ x, x < 133 → H x = G x) (hk : 0 ≤ k ∧ k < 40) : sp H 1 k = sp G 1 k := by
  have := pc_b (T := 1) hk
  unfold sp
  rw [e _ (by omega)]
theorem OV_x (ht : TI G 1) (e : ∀ x, x < 133 → H x = G x) (hi : 0 ≤ i ∧ i < G 1 5) : OV (sp H 1) k i = OV (sp G 1) k i := by
  have hc := ht.2.1
  exact ov_ext (m := G 1 5) (fun j j0 j1 => (sp_rg ht (by omega) j1).1) (fun j j0 j1 => sp_x e (by omega)) 40 i hi.1 hi.2
/-- what a question about chains tells -/
theorem OV_q (ht : TI G T) (hT : isT T) (hi : 0 ≤ i) (hj : 0 ≤ j ∧ j < G T 5) (e : fP_isOver G (pc T i) (pc T j) = some y) (hy : y = 0) : OV (sp G T) i j = false := by
  have hc := ht.2.1
  rw [vP_isOver ht hT hi (by omega)] at e
  cases hh : OV (sp G T) i j with
  | false => rfl
  | true =>
    rw [if_pos ⟨hj.2, hh⟩] at e
    injection e with e
    omega
theorem tC_move (h : CO g G) : WC (fun e => e = 2 ∨ e = 1) g (fC_move G 0 v w) := by
  rw [fC_move]
  refine W_bdQ (tC_namedP h) (fun c hc => W_bdQ (tC_namedP h) (fun d hd => ?_) (fun e he => WC_e (by subst he; simp) h)) (fun e he => WC_e (by subst he; simp) h)
  have ht := CO_T h T1
  have hcm := ht.2.1
  have pa := Pn_a ht hc
  have pd := Pn_a ht hd
  have l59 : WC (fun e => e = 2 ∨ e = 1) g (jC_move_59 G 0 c d) := by
    rw [jC_move_59, jC_move_60]
    exact W_bdQ tC_checkState (fun _ hn => absurd rfl hn) (fun e he => WC_e (by subst he; simp) h)
  obtain ⟨i, hi, rfl⟩ := hc
  obtain ⟨j, hj, rfl⟩ := hd
  rw [if_pos (Pa_kd T1 pa), if_pos (Pa_kd T1 pd)]
  refine W_bdP tP_isMortal (fun y hy => W_ite (fun _ => l59) (fun hm => W_bdP tP_room (fun _ _ => W_ite (fun _ => W_ite (fun _ => l59) (fun hn => ?_)) (fun _ => l59))))
  obtain ⟨u, eu, -⟩ := tP_isOver ht T1 pa pd
  rw [eu, bdP_s]
  refine W_ite (fun hu => W_bdP tP_refuses (fun _ _ => W_ite (fun _ => ?_) (fun _ => l59))) (fun _ => l59)
  have i2 := hang_ ht ⟨hi.1, by omega⟩ (hy hm)
  have ho := OV_q ht T1 hi.1 hj eu hu
  rw [jC_move_60]
  refine W_bdQ tC_checkState (fun _ _ => W_push h (fun _ A hA eA => ?_)) (fun e he => WC_e (by subst he; simp) h)
  have e5 : A 1 5 = G 1 5 := by rw [eA 1 (by omega)]
  rw [if_pos (Pa_kd T1 pa)]
  refine W_bdP (tC_numberOf T1 (sup_a (CO_T hA T1) pa)) (fun _ _ => ?_)
  exact W_bdN (tP_putUnder (CO_T hA T1) T1 (by rw [e5]; exact i2) (by rw [e5]; exact hj) (fun e => hn (by rw [e])) (by rw [OV_x ht eA hj]; exact ho)) (fun _ B hB => WC_i (CO_IT hA T1 hB.1))
theorem lx_88 (h : CO g G) (hi : 0 < i ∧ i < G 1 5) (hj : 0 < j ∧ j < G 1 5) (hn : ¬ i = j) (h1 : OV (sp G 1) i j = false) (h2 : OV (sp G 1) j i = false) : WC (fun e => e = 2 ∨ e = 1) g (jC_exchange_88 G 0 (pc 1 i) (pc 1 j) s) := by
  have ht := CO_T h T1
  have hcm := ht.2.1
  have pi_ : Pa 1 (pc 1 i) := ⟨i, by omega, rfl⟩
  have pj : Pa 1 (pc 1 j) := ⟨j, by omega, rfl⟩
  have si := sp_rg ht (by omega) hi.2
  have sj := sp_rg ht (by omega) hj.2
  have ay := ht.2.2.2.2.2.1
  rw [jC_exchange_88, if_pos (kd1 h), co0 h]
  refine W_bdP (tT_countBelow ht T1 pi_) (fun _ _ => W_bdP (tT_countBelow ht T1 pj) (fun _ _ => ?_))
  rw [if_pos (Pa_kd T1 pi_), if_pos (Pa_kd T1 pj), si.2, sj.2]
  -- i goes under j's supervisor
  have q1 : ¬ sp G 1 j = i ∧ OV (sp G 1) i (sp G 1 j) = false := by
    rw [OV_s (ay j (by omega) hj.2) (by omega)] at h1
    by_cases e : sp G 1 j = i
    · rw [if_pos e] at h1; cases h1
    · rw [if_neg e] at h1; exact ⟨e, h1⟩
  have q2 : ¬ sp G 1 i = j ∧ OV (sp G 1) j (sp G 1 i) = false := by
    rw [OV_s (ay i (by omega) hi.2) (by omega)] at h2
    by_cases e : sp G 1 i = j
    · rw [if_pos e] at h2; cases h2
    · rw [if_neg e] at h2; exact ⟨e, h2⟩
  have di := DP_s (ay i (by omega) hi.2) (by omega)
  have q3 : ¬ sp G 1 i = i := fun e => by rw [e] at di; omega
  have q4 : OV (sp G 1) i (sp G 1 i) = false := by
    cases hh : OV (sp G 1) i (sp G 1 i) with
    | false => rfl
    | true =>
      have := OV_dp (ay _ si.1.1 si.1.2) hh
      omega
  refine W_bdN (tP_putUnder ht T1 hi sj.1 q1.1 q1.2) (fun _ A hA => ?_)
  obtain ⟨a1, a2, a3⟩ := hA
  have w := CO_IT h T1 a1
  have eA : ∀ k, 0 < k → k < G 1 5 → sp A 1 k = u1 (sp G 1) i (sp G 1 j) k := by
    intro k k0 k1
    show ix 1 (A (pc 1 k) 2) = _
    rw [a3 k (by omega) (by omega)]
    by_cases e : k = i
    · rw [if_pos e, ix_pc sj.1.1, e, u1_s]
    · rw [if_neg e, u1_n e]
      rfl
  have oA : OV (sp A 1) j (sp G 1 i) = false := by
    have e1 : OV (sp A 1) j (sp G 1 i) = OV (u1 (sp G 1) i (sp G 1 j)) j (sp G 1 i) := by
      refine ov_ext (m := G 1 5) (fun k k0 k1 => ?_) eA 40 _ si.1.1 si.1.2
      by_cases e : k = i
      · rw [e, u1_s]; exact sj.1
      · rw [u1_n e]; exact (sp_rg ht (by omega) k1).1
    rw [e1]
    show ov (u1 (sp G 1) i (sp G 1 j)) 40 j (sp G 1 i) = false
    rw [ov_keep (ay _ si.1.1 si.1.2) q3 q4]
    exact q2.2
  refine W_bdN (tP_putUnder a1.1 T1 (by rw [a2]; exact hj) (by rw [a2]; exact si.1) q2.1 oA) (fun _ B hB => ?_)
  have w2 := CO_IT w T1 hB.1
  exact W_ite (fun _ => WC_i w2) (fun _ => WC_i w2)
theorem tC_exchange (h : CO g G) : WC (fun e => e = 2 ∨ e = 1) g (fC_exchange G 0 v w) := by
  rw [fC_exchange]
  refine W_bdQ (tC_namedP h) (fun c hc => W_bdQ (tC_namedP h) (fun d hd => ?_) (fun e he => WC_e (by subst he; simp) h)) (fun e he => WC_e (by subst he; simp) h)
  have ht := CO_T h T1
  have hcm := ht.2.1
  have pa := Pn_a ht hc
  have pd := Pn_a ht hd
  have l56 : WC (fun e => e = 2 ∨ e = 1) g (jC_exchange_56 G 0 c d) := by
    rw [jC_exchange_56, jC_exchange_57]
    exact W_bdQ tC_checkState (fun _ hn => absurd rfl hn) (fun e he => WC_e (by subst he; simp) h)
  obtain ⟨i, hi, rfl⟩ := hc
  obtain ⟨j, hj, rfl⟩ := hd
  rw [if_pos (Pa_kd T1 pa), if_pos (Pa_kd T1 pd)]
  refine W_bdP tP_isMortal (fun y hy => W_ite (fun _ => l56) (fun hm => W_bdP tP_isMortal (fun y2 hy2 => W_ite (fun _ => l56) (fun hm2 => W_ite (fun _ => l56) (fun hn => ?_)))))
  obtain ⟨u, eu, -⟩ := tP_isOver ht T1 pa pd
  obtain ⟨u2, eu2, -⟩ := tP_isOver ht T1 pd pa
  rw [eu, bdP_s, eu2, bdP_s]
  refine W_ite (fun hu => W_ite (fun hu2 => ?_) (fun _ => l56)) (fun _ => l56)
  have i2 := hang_ ht ⟨hi.1, by omega⟩ (hy hm)
  have j2 := hang_ ht ⟨hj.1, by omega⟩ (hy2 hm2)
  have ho := OV_q ht T1 hi.1 hj eu hu
  have ho2 := OV_q ht T1 hj.1 hi eu2 hu2
  rw [jC_exchange_57]
  refine W_bdQ tC_checkState (fun _ _ => W_push h (fun _ A hA eA => ?_)) (fun e he => WC_e (by subst he; simp) h)
  have e5 : A 1 5 = G 1 5 := by rw [eA 1 (by omega)]
  have l88 : ∀ s, WC (fun e => e = 2 ∨ e = 1) g (jC_exchange_88 A 0 (pc 1 i) (pc 1 j) s) := fun s => lx_88 hA (by rw [e5]; exact i2) (by rw [e5]; exact j2) (fun e => hn (by rw [e])) (by rw [OV_x ht eA hj]; exact ho) (by rw [OV_x ht eA hi]; exact ho2)
  rw [if_pos (Pa_kd T1 pa)]
  exact W_bdP (tP_countAbove (CO_T hA T1) T1 pa) (fun _ _ => W_g (Pa_kd T1 pd) (W_bdP (tP_countAbove (CO_T hA T1) T1 pd) (fun _ _ => W_ite (fun _ => l88 1) (fun _ => l88 0))))
theorem tC_weakest (h : CO g G) : WC (fun e => e = 0) g (fC_weakest G 0 w) := by
  have hfu := fu_ge
  rw [fC_weakest]
  refine W_bdQ tC_checkRange (fun _ hw => ?_) (fun e he => WC_e he h)
  obtain ⟨T, hT, e0, ht⟩ : ∃ T, isT T ∧ G 0 0 = T ∧ T = 1 := ⟨1, T1, co0 h, rfl⟩
  rw [e0, if_pos (kdT hT), TS_1 (CO_T h hT).1, if_pos (kdT2 hT), szT2 hT]
  refine W_loop (W := WC (fun e => e = 0) g) (fun n (a : Int × Int × Int × gH) => lC_weakest_28 0 w (T + 2) 40 n a.1 a.2.1 a.2.2.1 a.2.2.2) (fun a => (40 - a.2.2.1).toNat) (fun a => (0 ≤ a.2.2.1 ∧ a.2.2.1 ≤ 40) ∧ CO g a.2.2.2) ?_ fu (-1, -1, 0, G) ⟨by dsimp only; omega, h⟩ (by dsimp only; omega)
  clear h e0
  rintro n ⟨x, y, i, G⟩ hI ih
  have i0 : 0 ≤ i := hI.1.1
  have h : CO g G := hI.2
  have hg := CO_T h hT
  show WC _ g (bC_weakest_28 0 w (T + 2) 40 (lC_weakest_28 0 w (T + 2) 40 n) x y i G)
  rw [bC_weakest_28]
  refine W_ite (fun hi => ?_) (fun _ => WC_i h)
  have hi : 0 ≤ i ∧ i < 40 := ⟨i0, hi⟩
  have nx : ∀ x' y' G', CO g G' → WC (fun e => e = 0) g (lC_weakest_28 0 w (T + 2) 40 n x' y' (w32 (i + 1)) G') := fun x' y' G' h' => by rw [w32_r (by omega)]; exact ih (x', y', i + 1, G') ⟨by dsimp only; omega, h'⟩ (by dsimp only; omega)
  have l64 : ∀ s G', CO g G' → WC (fun e => e = 0) g (jC_weakest_64 (lC_weakest_28 0 w (T + 2) 40 n) G' 0 w x y (T + 2) 40 i (pc T i) s) := by
    intro s G' h'
    rw [jC_weakest_64]
    exact W_ite (fun _ => W_g (kdp hT hi) (nx _ _ _ h')) (fun _ => nx _ _ _ h')
  simp only [TS_p hg.1 hi, kdp hT hi, kdT2 hT, szT2 hT, hi.1, hi.2, if_true, true_and, and_self]
  exact W_bdP tP_isMortal (fun _ _ => W_ite (fun _ => l64 _ _ h) (fun _ => W_bdN (tC_exitOfCopy h hw) (fun _ A hA => l64 _ _ hA.1)))
theorem tC_dutyLife (h : CO g G) : WC (fun e => e = 0) g (fC_dutyLife G 0 v) := by
  have hfu := fu_ge
  rw [fC_dutyLife]
  refine W_bdQ tC_checkRange (fun _ hw => W_g (kd45 h) ?_) (fun e he => WC_e he h)
  rw [co0 h, co1 h]
  refine W_bdN (tT_take (CO_T h T45).1 T45 T1 (CO_T h T1) (by omega)) (fun _ A hA => ?_)
  have wA := CO_IT h T45 hA
  refine W_loop (W := WC (fun e => e = 0) g) (fun n (a : Int × gH) => lC_dutyLife_19 0 v n a.1 a.2) (fun a => (40 - a.1).toNat) (fun a => (0 ≤ a.1 ∧ a.1 ≤ 40) ∧ CO g a.2) ?_ fu (0, A) ⟨by dsimp only; omega, wA⟩ (by dsimp only; omega)
  clear h hA wA
  rintro n ⟨i, G⟩ hI ih
  have i0 : 0 ≤ i := hI.1.1
  have h : CO g G := hI.2
  have hg := CO_T h T45
  show WC _ g (bC_dutyLife_19 0 v (lC_dutyLife_19 0 v n) i G)
  rw [bC_dutyLife_19]
  refine W_ite (fun hi => W_g (kd45 h) ?_) (fun _ => WC_i h)
  rw [co1 h]
  refine W_bdP (tT_holderOf hg T45) (fun _ _ => W_ite (fun _ => WC_i h) (fun _ => W_bdP (tT_holderOf hg T45) (fun y hy => W_bdN (tT_letExit hg T45 hy (by omega)) (fun _ B hB => ?_))))
  rw [w32_r (by omega)]
  exact ih (i + 1, B) ⟨by dsimp only; omega, CO_IT h T45 hB⟩ (by dsimp only; omega)
theorem tC_print (h : CO g G) : WC (fun e => e = 2 ∨ e = 0 ∨ e = 1) g (fC_print G 0 v w) := by
  rw [fC_print]
  refine W_bdQ (tC_namedP h) (fun c hc => W_bdQ tC_checkRange (fun _ _ => ?_) (fun e he => WC_e (by subst he; simp) h)) (fun e he => WC_e (by subst he; simp) h)
  have ht := CO_T h T1
  have pa := Pn_a ht hc
  have l137 : ∀ A, CO g A → WC (fun e => e = 2 ∨ e = 0 ∨ e = 1) g (jC_print_137 A 0) := by
    intro A hA
    rw [jC_print_137, co5 hA, if_pos kd_622]
    refine W_ite (fun _ => W_bdN (tO_putSign (g := A) ⟨fun _ _ => rfl, hA.1.1.2.2.2.2.2.2⟩) (fun _ B hB => ?_)) (fun _ => WC_i hA)
    have wB := CO_OO hA hB
    rw [co5 wB, if_pos kd_622]
    exact WC_i wB
  have l24 : ∀ s, WC (fun e => e = 2 ∨ e = 0 ∨ e = 1) g (jC_print_24 G 0 w c s) := by
    intro s
    rw [jC_print_24]
    refine W_bdQ tC_checkState (fun _ _ => ?_) (fun e he => WC_e (by subst he; simp) h)
    rw [co5 h, if_pos kd_622, bnd_s]
    have wA := CO_w (a := 622) (b := 1) (v := 0) h (by omega)
    have oA : OO G (pU G 622 1 0) := OO_w ⟨fun _ _ => rfl, h.1.1.2.2.2.2.2.2⟩ (by omega)
    generalize pU G 622 1 0 = A at *
    have go : ∀ B, OO G B → WC (fun e => e = 2 ∨ e = 0 ∨ e = 1) g (jC_print_137 B 0) := fun B hB => l137 B (CO_OO h hB)
    rw [co5 wA, if_pos kd_622, co0 wA, if_pos kd_622, if_pos kd_622, if_pos kd_622]
    exact W_ite (fun _ => W_bdN (tO_putPath ht T1 oA pa) (fun _ B hB => go B hB)) (fun _ => W_ite (fun _ => W_bdN (tO_putChildren ht T1 oA) (fun _ B hB => go B hB)) (fun _ => W_ite (fun _ => W_bdN (tC_putBranch ht T1 fr 0 c A oA pa (by omega) (by show (41 - (0 : Int)).toNat < 60; omega)) (fun _ B hB => go B hB)) (fun _ => W_ite (fun _ => W_bdN (tO_putDuties ht T1 oA pa) (fun _ B hB => go B hB)) (fun _ => W_bdN (tO_putZombies ht T1 oA) (fun _ B hB => go B hB)))))
  rw [if_pos (Pa_kd T1 pa)]
  exact W_ite (fun _ => l24 0) (fun _ => l24 1)
end CLS13
