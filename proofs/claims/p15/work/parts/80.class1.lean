/-! ===== the class's trees (own work) ===== -/
/-- the cell of a process -/
def pc (T i : Int) : Int := if i = 0 then T + 1 else T + 4 + i
def ix (T c : Int) : Int := if c = T + 1 then 0 else c - T - 4
def Ts : List Int := [1, 45, 89, 578, 135, 179, 223, 267, 311, 355, 399, 443, 487, 531]
def isT (T : Int) : Prop := T ∈ Ts
theorem kd_Ts : ∀ T, T ∈ Ts → (kd T = 5 ∧ kd (T + 2) = 24 ∧ sz (T + 2) = 40 ∧ kd (T + 3) = 20 ∧ sz (T + 3) = 8 ∧ kd (T + 4) = 20 ∧ sz (T + 4) = 5 ∧ 1 ≤ T ∧ T ≤ 578 ∧ (T < 133 ∨ 133 < T)) ∧ ∀ i : Nat, i < 40 → kd (pc T i) = 3 := by decide +kernel
theorem dis_Ts : ∀ T, T ∈ Ts → ∀ S, S ∈ Ts → T = S ∨ (T + 44 ≤ S ∨ S + 44 ≤ T) := by decide +kernel
theorem out_Ts : ∀ T, T ∈ Ts → (T + 44 ≤ 133 ∨ 134 < T) ∧ (T + 44 ≤ 575 ∨ 577 < T) ∧ T + 44 ≤ 622 := by decide +kernel
theorem T1 : isT 1 := by unfold isT; decide +kernel
theorem T45 : isT 45 := by unfold isT; decide +kernel
theorem T89 : isT 89 := by unfold isT; decide +kernel
theorem T578 : isT 578 := by unfold isT; decide +kernel
theorem Tk {k : Int} (h : 0 ≤ k ∧ k < 10) : isT (135 + 44 * k) := by
  have : k = 0 ∨ k = 1 ∨ k = 2 ∨ k = 3 ∨ k = 4 ∨ k = 5 ∨ k = 6 ∨ k = 7 ∨ k = 8 ∨ k = 9 := by omega
  rcases this with rfl | rfl | rfl | rfl | rfl | rfl | rfl | rfl | rfl | rfl <;> (unfold isT; decide +kernel)
section CLS1
variable {g g' G H K : gH} {T S i j k a b c v w d p q s n m x y : Int}
theorem kdT (h : isT T) : kd T = 5 := (kd_Ts T h).1.1
theorem kdT2 (h : isT T) : kd (T + 2) = 24 := (kd_Ts T h).1.2.1
theorem szT2 (h : isT T) : sz (T + 2) = 40 := (kd_Ts T h).1.2.2.1
theorem kdT3 (h : isT T) : kd (T + 3) = 20 := (kd_Ts T h).1.2.2.2.1
theorem szT3 (h : isT T) : sz (T + 3) = 8 := (kd_Ts T h).1.2.2.2.2.1
theorem kdT4 (h : isT T) : kd (T + 4) = 20 := (kd_Ts T h).1.2.2.2.2.2.1
theorem szT4 (h : isT T) : sz (T + 4) = 5 := (kd_Ts T h).1.2.2.2.2.2.2.1
theorem isT_b (h : isT T) : 1 ≤ T ∧ T ≤ 578 := ⟨(kd_Ts T h).1.2.2.2.2.2.2.2.1, (kd_Ts T h).1.2.2.2.2.2.2.2.2.1⟩
theorem kdp (h : isT T) (hi : 0 ≤ i ∧ i < 40) : kd (pc T i) = 3 := by
  obtain ⟨n, rfl⟩ := Int.eq_ofNat_of_zero_le hi.1
  exact (kd_Ts T h).2 n (by omega)
theorem pc_0 : pc T 0 = T + 1 := if_pos rfl
theorem pc_b (hi : 0 ≤ i ∧ i < 40) : T < pc T i ∧ pc T i < T + 44 ∧ ¬ pc T i = T + 2 ∧ ¬ pc T i = T + 3 ∧ ¬ pc T i = T + 4 := by
  unfold pc
  split <;> omega
theorem ix_pc (hi : 0 ≤ i) : ix T (pc T i) = i := by
  unfold ix pc
  split <;> split <;> omega
theorem pc_inj (hi : 0 ≤ i) (hj : 0 ≤ j) (h : pc T i = pc T j) : i = j := by
  have := congrArg (ix T) h
  rw [ix_pc hi, ix_pc hj] at this
  exact this
theorem pc_ne (hi : 0 ≤ i) (hj : 0 ≤ j) (h : ¬ i = j) : ¬ pc T i = pc T j := fun e => h (pc_inj hi hj e)
/-- what never changes in a tree -/
def TS (g : gH) (T : Int) : Prop := (g T 0 = T + 1 ∧ g T 1 = T + 2 ∧ g T 2 = T + 3 ∧ g T 3 = T + 4) ∧ ∀ i, 0 ≤ i → i < 40 → g (T + 2) i = pc T i ∧ g (pc T i) 0 = i
/-- the supervisor's number -/
def sp (g : gH) (T : Int) : Int → Int := fun i => ix T (g (pc T i) 2)
/-- whose exit is told has a code -/
def ZI (g : gH) (T : Int) : Prop := ∀ i, 0 ≤ i → i < 40 → g (pc T i) 1 = 1 → 0 ≤ g (pc T i) 9 ∧ g (pc T i) 9 < 2147483648
/-- a tree as it stands between two calls -/
def TI (g : gH) (T : Int) : Prop := TS g T ∧ (1 ≤ g T 5 ∧ g T 5 ≤ 40) ∧ g (pc T 0) 2 = -1 ∧ (∀ i, g T 5 ≤ i → i < 40 → g (pc T i) 2 = -1) ∧ (∀ i, 1 ≤ i → i < g T 5 → ∃ j, 0 ≤ j ∧ j < g T 5 ∧ g (pc T i) 2 = pc T j) ∧ Acy (sp g T) (g T 5) ∧ ZI g T
/-- only this tree is touched -/
def TF (T : Int) (g g' : gH) : Prop := ∀ x, ¬ (T ≤ x ∧ x < T + 44) → g' x = g x
theorem TF_r : TF T g g := fun _ _ => rfl
theorem TF_t (h1 : TF T g G) (h2 : TF T G H) : TF T g H := fun x hx => (h2 x hx).trans (h1 x hx)
theorem TF_pU (h : TF T g G) (ha : T ≤ a ∧ a < T + 44) : TF T g (pU G a b v) := fun x hx => (pU_n (fun e => hx (by rw [e]; exact ha))).trans (h x hx)
theorem TS_eq (h : TS g T) (e1 : ∀ k, 0 ≤ k → k ≤ 3 → g' T k = g T k) (e2 : g' (T + 2) = g (T + 2)) (e3 : ∀ i, 0 ≤ i → i < 40 → g' (pc T i) 0 = g (pc T i) 0) : TS g' T := by
  obtain ⟨⟨a0, a1, a2, a3⟩, b⟩ := h
  refine ⟨⟨?_, ?_, ?_, ?_⟩, fun i i0 i1 => ?_⟩
  · rw [e1 0 (by omega) (by omega)]; exact a0
  · rw [e1 1 (by omega) (by omega)]; exact a1
  · rw [e1 2 (by omega) (by omega)]; exact a2
  · rw [e1 3 (by omega) (by omega)]; exact a3
  · rw [e2, e3 i i0 i1]; exact b i i0 i1
theorem sp_rg (h : TI g T) (h1 : 1 ≤ i) (h2 : i < g T 5) : (0 ≤ sp g T i ∧ sp g T i < g T 5) ∧ g (pc T i) 2 = pc T (sp g T i) := by
  obtain ⟨j, j0, j1, e⟩ := h.2.2.2.2.1 i h1 h2
  have : sp g T i = j := by unfold sp; rw [e, ix_pc j0]
  rw [this]
  exact ⟨⟨j0, j1⟩, e⟩
theorem TI_eq (h : TI g T) (e1 : ∀ k, 0 ≤ k → k ≤ 3 → g' T k = g T k) (e5 : g' T 5 = g T 5) (e2 : g' (T + 2) = g (T + 2)) (e3 : ∀ i, 0 ≤ i → i < 40 → g' (pc T i) 0 = g (pc T i) 0 ∧ g' (pc T i) 2 = g (pc T i) 2) (hz : ZI g' T) : TI g' T := by
  have hh := h
  obtain ⟨hs, hc, h0, hu, hb, ha, -⟩ := h
  refine ⟨TS_eq hs e1 e2 (fun i i0 i1 => (e3 i i0 i1).1), by rw [e5]; exact hc, by rw [(e3 0 (by omega) (by omega)).2]; exact h0, fun i i0 i1 => ?_, fun i i0 i1 => ?_, ?_, hz⟩
  · rw [e5] at i0
    rw [(e3 i (by omega) i1).2]; exact hu i i0 i1
  · rw [e5] at i1 ⊢
    rw [(e3 i (by omega) (by omega)).2]; exact hb i i0 i1
  · rw [e5]
    refine acy_ext ha (fun i i0 i1 => ?_) (fun i i0 i1 => ?_)
    · exact (sp_rg hh (by omega) i1).1
    · unfold sp
      rw [(e3 i (by omega) (by omega)).2]
theorem TI_F (h : TI g T) (hf : ∀ x, T ≤ x → x < T + 44 → g' x = g x) : TI g' T := by
  refine TI_eq h (fun k _ _ => by rw [hf T (by omega) (by omega)]) (by rw [hf T (by omega) (by omega)]) (hf _ (by omega) (by omega)) (fun i i0 i1 => ?_) (fun i i0 i1 => ?_)
  · have := pc_b (T := T) ⟨i0, i1⟩
    rw [hf _ (by omega) (by omega)]
    exact ⟨rfl, rfl⟩
  · have := pc_b (T := T) ⟨i0, i1⟩
    rw [hf _ (by omega) (by omega)]
    exact h.2.2.2.2.2.2 i i0 i1
/-- a place that the invariant doesn't speak of -/
theorem TI_w (h : TI g T) (hab : ¬ (T ≤ a ∧ a < T + 44) ∨ a = T + 3 ∨ a = T + 4 ∨ (a = T ∧ (b = 4 ∨ 5 < b)) ∨ (T < a ∧ ¬ a = T + 2 ∧ ¬ b = 0 ∧ ¬ b = 2 ∧ ¬ b = 1 ∧ ¬ b = 9)) : TI (pU g a b v) T := by
  have key : ∀ x y, (x = T ∧ ((0 ≤ y ∧ y ≤ 3) ∨ y = 5)) ∨ x = T + 2 ∨ (T < x ∧ x < T + 44 ∧ ¬ x = T + 3 ∧ ¬ x = T + 4 ∧ (y = 0 ∨ y = 2 ∨ y = 1 ∨ y = 9)) → pU g a b v x y = g x y := by
    intro x y hxy
    unfold pU
    rw [if_neg (by omega)]
  refine TI_eq h (fun k k0 k1 => key _ _ (by omega)) (key _ _ (by omega)) (by funext y; exact key _ _ (by omega)) (fun i i0 i1 => ?_) (fun i i0 i1 => ?_)
  · have := pc_b (T := T) ⟨i0, i1⟩
    exact ⟨key _ _ (by omega), key _ _ (by omega)⟩
  · have := pc_b (T := T) ⟨i0, i1⟩
    rw [key _ 1 (by omega), key _ 9 (by omega)]
    exact h.2.2.2.2.2.2 i i0 i1
/-! weakest ends -/
def WP (Q : Int → Prop) (X : Option Int) : Prop := ∃ v, X = some v ∧ Q v
def WN (Q : Int → gH → Prop) (X : Option (Int × gH)) : Prop := ∃ v g', X = some (v, g') ∧ Q v g'
def WQ (Q : Int → Prop) (E : Nat → Prop) (X : Option (Nat × Int)) : Prop := ∃ e v, X = some (e, v) ∧ ((e = 0 ∧ Q v) ∨ ∃ k, e = k + 1 ∧ E k)
def WT (Q : Int → gH → Prop) (E : Nat → gH → Prop) (X : Option (Nat × (Int × gH))) : Prop := ∃ e v g', X = some (e, (v, g')) ∧ ((e = 0 ∧ Q v g') ∨ ∃ k, e = k + 1 ∧ E k g')
theorem W_bdP {β : Type} {W : Option β → Prop} {Q : Int → Prop} {X : Option Int} {k : Int → Option β} (h : WP Q X) (hk : ∀ v, Q v → W (k v)) : W (bdP X k) := by
  obtain ⟨v, rfl, hv⟩ := h
  exact hk v hv
theorem W_bdN {β : Type} {W : Option β → Prop} {Q : Int → gH → Prop} {X : Option (Int × gH)} {k : Int → gH → Option β} (h : WN Q X) (hk : ∀ v g', Q v g' → W (k v g')) : W (bdN X k) := by
  obtain ⟨v, g', rfl, hv⟩ := h
  exact hk v g' hv
theorem W_bdQ {β : Type} {W : Option β → Prop} {Q : Int → Prop} {E : Nat → Prop} {X : Option (Nat × Int)} {k : Int → Option β} {l : Nat → Option β} (h : WQ Q E X) (hk : ∀ v, Q v → W (k v)) (hl : ∀ e, E e → W (l e)) : W (bdQ X k l) := by
  obtain ⟨e, v, rfl, ⟨rfl, hv⟩ | ⟨n, rfl, hn⟩⟩ := h
  · exact hk v hv
  · exact hl n hn
theorem W_bdT {β : Type} {W : Option β → Prop} {Q : Int → gH → Prop} {E : Nat → gH → Prop} {X : Option (Nat × (Int × gH))} {k : Int → gH → Option β} {l : Nat → gH → Option β} (h : WT Q E X) (hk : ∀ v g', Q v g' → W (k v g')) (hl : ∀ e g', E e g' → W (l e g')) : W (bdT X k l) := by
  obtain ⟨e, v, g', rfl, ⟨rfl, hv⟩ | ⟨n, rfl, hn⟩⟩ := h
  · exact hk v g' hv
  · exact hl n g' hn
theorem W_ite {β : Type} {W : Option β → Prop} {c : Prop} [Decidable c] {A B : Option β} (h1 : c → W A) (h2 : ¬ c → W B) : W (if c then A else B) := by
  split
  · next h => exact h1 h
  · next h => exact h2 h
theorem W_g {β : Type} {W : Option β → Prop} {c : Prop} [Decidable c] {A B : Option β} (h : c) (h1 : W A) : W (if c then A else B) := by
  rw [if_pos h]; exact h1
theorem W_n {β : Type} {W : Option β → Prop} {c : Prop} [Decidable c] {A B : Option β} (h : ¬ c) (h1 : W B) : W (if c then A else B) := by
  rw [if_neg h]; exact h1
theorem WP_i {Q : Int → Prop} (h : Q v) : WP Q (some v) := ⟨v, rfl, h⟩
theorem WN_i {Q : Int → gH → Prop} (h : Q v g) : WN Q (some (v, g)) := ⟨v, g, rfl, h⟩
theorem WQ_i {Q : Int → Prop} {E : Nat → Prop} (h : Q v) : WQ Q E (some (0, v)) := ⟨0, v, rfl, Or.inl ⟨rfl, h⟩⟩
theorem WQ_e {Q : Int → Prop} {E : Nat → Prop} {e : Nat} (h : E e) : WQ Q E (some (e + 1, v)) := ⟨e + 1, v, rfl, Or.inr ⟨e, rfl, h⟩⟩
theorem WT_i {Q : Int → gH → Prop} {E : Nat → gH → Prop} (h : Q v g) : WT Q E (some (0, (v, g))) := ⟨0, v, g, rfl, Or.inl ⟨rfl, h⟩⟩
theorem WT_e {Q : Int → gH → Prop} {E : Nat → gH → Prop} {e : Nat} (h : E e g) : WT Q E (some (e + 1, (v, g))) := ⟨e + 1, v, g, rfl, Or.inr ⟨e, rfl, h⟩⟩
theorem WP_m {Q R : Int → Prop} {X : Option Int} (h : WP Q X) (hm : ∀ v, Q v → R v) : WP R X := by
  obtain ⟨v, e, hv⟩ := h
  exact ⟨v, e, hm v hv⟩
theorem WN_m {Q R : Int → gH → Prop} {X : Option (Int × gH)} (h : WN Q X) (hm : ∀ v g', Q v g' → R v g') : WN R X := by
  obtain ⟨v, g', e, hv⟩ := h
  exact ⟨v, g', e, hm v g' hv⟩
/-- a loop -/
theorem W_loop {A β : Type} {W : Option β → Prop} (L : Nat → A → Option β) (mu : A → Nat) (I : A → Prop) (st : ∀ n a, I a → (∀ a', I a' → mu a' < mu a → W (L n a')) → W (L (n + 1) a)) : ∀ (n : Nat) (a : A), I a → mu a < n → W (L n a) := by
  intro n
  induction n with
  | zero => intro a _ h; exact absurd h (Nat.not_lt_zero _)
  | succ n ih => intro a ha h; exact st n a ha (fun a' ha' h' => ih a' ha' (by omega))
end CLS1
