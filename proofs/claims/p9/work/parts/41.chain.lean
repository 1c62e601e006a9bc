/-! ===== chains of supervisors (own work) ===== -/
/-- from i the root is reached in at most n steps -/
def en (f : Int → Int) : Nat → Int → Bool
  | 0, i => decide (i = 0)
  | n + 1, i => decide (i = 0) || (decide (0 < i) && (decide (i < 40) && en f n (f i)))
/-- p is above i -/
def ov (f : Int → Int) : Nat → Int → Int → Bool
  | 0, _, _ => false
  | n + 1, p, i => if i = 0 then false else if f i = p then true else ov f n p (f i)
def dp (f : Int → Int) : Nat → Int → Int
  | 0, _ => 0
  | n + 1, i => if i = 0 then 0 else 1 + dp f n (f i)
theorem en_0 {f : Int → Int} {n : Nat} : en f n 0 = true := by cases n <;> simp [en]
theorem en_s {f : Int → Int} {n : Nat} {i : Int} : en f (n + 1) i = true ↔ i = 0 ∨ (0 < i ∧ i < 40 ∧ en f n (f i) = true) := by
  simp [en]
theorem en_rg {f : Int → Int} {n : Nat} {i : Int} (h : en f n i = true) : 0 ≤ i ∧ i < 40 := by
  cases n with
  | zero => simp [en] at h; omega
  | succ n => rcases en_s.mp h with h | ⟨h1, h2, -⟩ <;> omega
theorem en_up {f : Int → Int} : ∀ {n : Nat} {i : Int}, en f n i = true → en f (n + 1) i = true := by
  intro n
  induction n with
  | zero => intro i h; simp [en] at h; exact en_s.mpr (Or.inl h)
  | succ n ih =>
    intro i h
    rcases en_s.mp h with h | ⟨h1, h2, h3⟩
    · exact en_s.mpr (Or.inl h)
    · exact en_s.mpr (Or.inr ⟨h1, h2, ih h3⟩)
theorem en_le {f : Int → Int} {n m : Nat} {i : Int} (h : en f n i = true) (hm : n ≤ m) : en f m i = true := by
  obtain ⟨k, rfl⟩ : ∃ k, m = n + k := ⟨m - n, by omega⟩
  clear hm
  induction k with
  | zero => exact h
  | succ k ih => exact en_up ih
theorem cn_le {P Q : Int → Bool} (h : ∀ j, P j = true → Q j = true) : ∀ (m : Nat) (k : Int), cn P m k ≤ cn Q m k := by
  intro m
  induction m with
  | zero => intro k; exact Int.le_refl _
  | succ m ih =>
    intro k
    rw [cn_s, cn_s]
    have := ih (k + 1)
    cases hp : P k with
    | false =>
      rw [if_neg (by simp)]
      split <;> omega
    | true =>
      rw [h k hp]
      rw [if_pos rfl]
      omega
theorem cn_lt {P Q : Int → Bool} (h : ∀ j, P j = true → Q j = true) {p : Int} (hp : P p = false) (hq : Q p = true) : ∀ (m : Nat) (k : Int), k ≤ p → p < k + m → cn P m k + 1 ≤ cn Q m k := by
  intro m
  induction m with
  | zero => intro k h1 h2; exact absurd h1 (by omega)
  | succ m ih =>
    intro k h1 h2
    rw [cn_s, cn_s]
    by_cases e : k = p
    · subst e
      rw [hp, hq, if_neg (by simp), if_pos rfl]
      have := cn_le h m (k + 1)
      omega
    · have := ih (k + 1) (by omega) (by omega)
      cases hpk : P k with
      | false =>
        rw [if_neg (by simp)]
        split <;> omega
      | true =>
        rw [h k hpk]
        rw [if_pos rfl]
        omega
theorem en_st {f : Int → Int} {n : Nat} (h : ∀ i, en f (n + 1) i = en f n i) : ∀ m i, en f (n + m) i = en f n i := by
  intro m
  induction m with
  | zero => intro i; rfl
  | succ m ih =>
    intro i
    rw [← h i]
    show (decide (i = 0) || (decide (0 < i) && (decide (i < 40) && en f (n + m) (f i)))) = (decide (i = 0) || (decide (0 < i) && (decide (i < 40) && en f n (f i))))
    rw [ih]
theorem en_gr {f : Int → Int} : ∀ n : Nat, (∃ k, k ≤ n ∧ ∀ i, en f (k + 1) i = en f k i) ∨ (n : Int) + 1 ≤ cn (en f n) 40 0 := by
  intro n
  induction n with
  | zero =>
    right
    have := cn_lt (P := fun _ => false) (Q := en f 0) (fun j z => by cases z) (p := 0) rfl en_0 40 0 (by omega) (by omega)
    have h0 := (cn_bd (fun _ => false) 40 0).1
    omega
  | succ n ih =>
    rcases ih with ⟨k, h1, h2⟩ | h
    · exact Or.inl ⟨k, by omega, h2⟩
    · by_cases hs : ∀ i, en f (n + 1) i = en f n i
      · exact Or.inl ⟨n, by omega, hs⟩
      · right
        obtain ⟨i, hi⟩ := Classical.not_forall.mp hs
        have h1 : en f n i = false := by
          cases hh : en f n i with
          | false => rfl
          | true => exact absurd (by rw [en_up hh, hh]) hi
        have h2 : en f (n + 1) i = true := by
          cases hh : en f (n + 1) i with
          | true => rfl
          | false => exact absurd (by rw [hh, h1]) hi
        have h3 := en_rg h2
        have := cn_lt (P := en f n) (Q := en f (n + 1)) (fun j => en_up) h1 h2 40 0 (by omega) (by omega)
        omega
theorem en_40 {f : Int → Int} {n : Nat} {i : Int} (h : en f n i = true) : en f 40 i = true := by
  rcases en_gr (f := f) 40 with ⟨k, h1, h2⟩ | h9
  · have h3 := en_le h (Nat.le_add_left n k)
    rw [en_st h2] at h3
    exact en_le h3 h1
  · have := (cn_bd (en f 40) 40 0).2
    omega
/-- it is reached in 39 steps already, for the root itself takes a place -/
theorem ov_le {f : Int → Int} {p : Int} : ∀ {n : Nat} {i : Int} {m : Nat}, en f n i = true → n ≤ m → ov f m p i = ov f n p i := by
  intro n
  induction n with
  | zero =>
    intro i m h hm
    simp [en] at h
    subst h
    cases m <;> simp [ov]
  | succ n ih =>
    intro i m h hm
    obtain ⟨m, rfl⟩ : ∃ k, m = k + 1 := ⟨m - 1, by omega⟩
    unfold ov
    by_cases hi : i = 0
    · rw [if_pos hi, if_pos hi]
    · rw [if_neg hi, if_neg hi]
      rcases en_s.mp h with h | ⟨-, -, h3⟩
      · exact absurd h hi
      · rw [ih h3 (by omega)]
theorem dp_le {f : Int → Int} : ∀ {n : Nat} {i : Int} {m : Nat}, en f n i = true → n ≤ m → dp f m i = dp f n i := by
  intro n
  induction n with
  | zero =>
    intro i m h hm
    simp [en] at h
    subst h
    cases m <;> simp [dp]
  | succ n ih =>
    intro i m h hm
    obtain ⟨m, rfl⟩ : ∃ k, m = k + 1 := ⟨m - 1, by omega⟩
    unfold dp
    by_cases hi : i = 0
    · rw [if_pos hi, if_pos hi]
    · rw [if_neg hi, if_neg hi]
      rcases en_s.mp h with h | ⟨-, -, h3⟩
      · exact absurd h hi
      · rw [ih h3 (by omega)]
theorem dp_bd (f : Int → Int) : ∀ (n : Nat) (i : Int), 0 ≤ dp f n i ∧ dp f n i ≤ n := by
  intro n
  induction n with
  | zero => intro i; exact ⟨Int.le_refl _, Int.le_refl _⟩
  | succ n ih =>
    intro i
    have := ih (f i)
    unfold dp
    split <;> omega
abbrev OV (f : Int → Int) (p i : Int) : Bool := ov f 40 p i
abbrev DP (f : Int → Int) (i : Int) : Int := dp f 40 i
/-- every one of the first m has its way to the root -/
def Acy (f : Int → Int) (m : Int) : Prop := ∀ i, 0 ≤ i → i < m → en f 40 i = true
theorem OV_0 {f : Int → Int} {p : Int} : OV f p 0 = false := rfl
theorem DP_0 {f : Int → Int} : DP f 0 = 0 := rfl
theorem OV_s {f : Int → Int} {p i : Int} (h : en f 40 i = true) (hi : i ≠ 0) : OV f p i = if f i = p then true else OV f p (f i) := by
  rcases en_s.mp h with h0 | ⟨-, -, h3⟩
  · exact absurd h0 hi
  · show (if i = 0 then false else if f i = p then true else ov f 39 p (f i)) = _
    rw [if_neg hi, ← ov_le (m := 40) h3 (by omega)]
theorem DP_s {f : Int → Int} {i : Int} (h : en f 40 i = true) (hi : i ≠ 0) : DP f i = 1 + DP f (f i) := by
  rcases en_s.mp h with h0 | ⟨-, -, h3⟩
  · exact absurd h0 hi
  · show (if i = 0 then 0 else 1 + dp f 39 (f i)) = _
    rw [if_neg hi, ← dp_le (m := 40) h3 (by omega)]
theorem en_f {f : Int → Int} {i : Int} (h : en f 40 i = true) (hi : i ≠ 0) : en f 40 (f i) = true := by
  rcases en_s.mp h with h0 | ⟨-, -, h3⟩
  · exact absurd h0 hi
  · exact en_up h3
/-- a way that does not come to c is the same when c gets another supervisor -/
theorem en_keep {f : Int → Int} {c s : Int} : ∀ {n : Nat} {i : Int}, en f n i = true → i ≠ c → ov f n c i = false → en (u1 f c s) n i = true := by
  intro n
  induction n with
  | zero => intro i h _ _; exact h
  | succ n ih =>
    intro i h hc ho
    rcases en_s.mp h with h0 | ⟨h1, h2, h3⟩
    · exact en_s.mpr (Or.inl h0)
    · refine en_s.mpr (Or.inr ⟨h1, h2, ?_⟩)
      rw [u1_n hc]
      have ho : (if i = 0 then false else if f i = c then true else ov f n c (f i)) = false := ho
      rw [if_neg (by omega)] at ho
      by_cases hf : f i = c
      · rw [if_pos hf] at ho; cases ho
      · rw [if_neg hf] at ho
        exact ih h3 hf ho
theorem acy_u1 {f : Int → Int} {c s m : Int} (h : Acy f m) (hm : m ≤ 40) (hc : 0 < c ∧ c < m) (hs : 0 ≤ s ∧ s < m) (hsc : s ≠ c) (ho : OV f c s = false) : Acy (u1 f c s) m := by
  have h1 : en (u1 f c s) 40 s = true := en_keep (h s hs.1 hs.2) hsc ho
  have h2 : en (u1 f c s) 41 c = true := en_s.mpr (Or.inr ⟨hc.1, by omega, by rw [u1_s]; exact h1⟩)
  have key : ∀ (n : Nat) (i : Int), en f n i = true → ∃ k, en (u1 f c s) k i = true := by
    intro n
    induction n with
    | zero => intro i hi; exact ⟨0, hi⟩
    | succ n ih =>
      intro i hi
      by_cases e : i = c
      · subst e; exact ⟨41, h2⟩
      · rcases en_s.mp hi with h0 | ⟨h3, h4, h5⟩
        · exact ⟨0, by rw [h0]; exact en_0⟩
        · obtain ⟨k, hk⟩ := ih _ h5
          exact ⟨k + 1, en_s.mpr (Or.inr ⟨h3, h4, by rw [u1_n e]; exact hk⟩)⟩
  intro i hi hi2
  obtain ⟨k, hk⟩ := key 40 i (h i hi hi2)
  exact en_40 hk
theorem acy_ext {f f' : Int → Int} {m : Int} (h : Acy f m) (hcl : ∀ i, 0 < i → i < m → 0 ≤ f i ∧ f i < m) (he : ∀ i, 0 < i → i < m → f' i = f i) : Acy f' m := by
  have key : ∀ (n : Nat) (i : Int), 0 ≤ i → i < m → en f n i = true → en f' n i = true := by
    intro n
    induction n with
    | zero => intro i _ _ hi; exact hi
    | succ n ih =>
      intro i h0 h1 hi
      rcases en_s.mp hi with h2 | ⟨h3, h4, h5⟩
      · exact en_s.mpr (Or.inl h2)
      · refine en_s.mpr (Or.inr ⟨h3, h4, ?_⟩)
        rw [he i h3 h1]
        have := hcl i h3 h1
        exact ih _ this.1 this.2 h5
  exact fun i h0 h1 => key 40 i h0 h1 (h i h0 h1)
theorem ov_ext {f f' : Int → Int} {m p : Int} (hcl : ∀ i, 0 < i → i < m → 0 ≤ f i ∧ f i < m) (he : ∀ i, 0 < i → i < m → f' i = f i) : ∀ (n : Nat) (i : Int), 0 ≤ i → i < m → ov f' n p i = ov f n p i := by
  intro n
  induction n with
  | zero => intro i _ _; rfl
  | succ n ih =>
    intro i h0 h1
    unfold ov
    by_cases hi : i = 0
    · rw [if_pos hi, if_pos hi]
    · have := hcl i (by omega) h1
      rw [if_neg hi, if_neg hi, he i (by omega) h1, ih _ this.1 this.2]
/-- a fresh one under s -/
theorem acy_new {f : Int → Int} {c s : Int} (h : Acy f c) (hc : 0 < c ∧ c < 40) (hs : 0 ≤ s ∧ s < c) (hcl : ∀ i, 0 < i → i < c → 0 ≤ f i ∧ f i < c) : Acy (u1 f c s) (c + 1) := by
  have h1 : Acy (u1 f c s) c := acy_ext h hcl (fun i _ h2 => u1_n (by omega))
  intro i h2 h3
  by_cases e : i = c
  · subst e
    exact en_40 (n := 41) (en_s.mpr (Or.inr ⟨hc.1, hc.2, by rw [u1_s]; exact h1 s hs.1 hs.2⟩))
  · exact h1 i h2 (by omega)
/-- who is above is nearer to the root; nobody is above himself -/
theorem ov_dp {f : Int → Int} {p : Int} : ∀ {n : Nat} {i : Int}, en f n i = true → ov f n p i = true → DP f p < DP f i := by
  intro n
  induction n with
  | zero => intro i _ h; cases h
  | succ n ih =>
    intro i h ho
    have ho : (if i = 0 then false else if f i = p then true else ov f n p (f i)) = true := ho
    rcases en_s.mp h with h0 | ⟨h1, h2, h3⟩
    · rw [if_pos h0] at ho; cases ho
    · rw [if_neg (by omega)] at ho
      rw [DP_s (en_40 h) (by omega)]
      by_cases hf : f i = p
      · rw [hf]; omega
      · rw [if_neg hf] at ho
        have := ih h3 ho
        omega
theorem OV_dp {f : Int → Int} {p i : Int} (h : en f 40 i = true) (ho : OV f p i = true) : DP f p < DP f i := ov_dp h ho
theorem OV_ir {f : Int → Int} {i : Int} (h : en f 40 i = true) : OV f i i = false := by
  cases ho : OV f i i with
  | false => rfl
  | true =>
    have := OV_dp h ho
    omega
theorem OV_tr {f : Int → Int} {p q : Int} : ∀ {n : Nat} {i : Int}, en f n i = true → en f 40 q = true → ov f n q i = true → OV f p q = true → OV f p i = true := by
  intro n
  induction n with
  | zero => intro i _ _ h _; cases h
  | succ n ih =>
    intro i h hq ho hp
    have ho : (if i = 0 then false else if f i = q then true else ov f n q (f i)) = true := ho
    rcases en_s.mp h with h0 | ⟨h1, h2, h3⟩
    · rw [if_pos h0] at ho; cases ho
    · rw [if_neg (by omega)] at ho
      rw [OV_s (en_40 h) (by omega)]
      by_cases hf : f i = q
      · rw [hf, hp]
        split <;> rfl
      · rw [if_neg hf] at ho
        rw [ih h3 hq ho hp]
        split <;> rfl
