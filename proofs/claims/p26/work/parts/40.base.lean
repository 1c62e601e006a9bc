/-! ===== what the functions tell: beginnings (own work) ===== -/
theorem w32_r {x : Int} (h : -2147483648 ≤ x ∧ x < 2147483648) : w32 x = x := w32_id h
theorem bdP_s {β : Type} {v : Int} {k : Int → Option β} : bdP (some v) k = k v := rfl
theorem bdN_s {β : Type} {v : Int} {g : gH} {k : Int → gH → Option β} : bdN (some (v, g)) k = k v g := rfl
theorem bdQ_0 {β : Type} {v : Int} {k : Int → Option β} {h : Nat → Option β} : bdQ (some (0, v)) k h = k v := rfl
theorem bdQ_e {β : Type} {e : Nat} {v : Int} {k : Int → Option β} {h : Nat → Option β} : bdQ (some (e + 1, v)) k h = h e := rfl
theorem bdT_0 {β : Type} {v : Int} {g : gH} {k : Int → gH → Option β} {h : Nat → gH → Option β} : bdT (some (0, (v, g))) k h = k v g := rfl
theorem bdT_e {β : Type} {e : Nat} {v : Int} {g : gH} {k : Int → gH → Option β} {h : Nat → gH → Option β} : bdT (some (e + 1, (v, g))) k h = h e g := rfl
theorem bnd_s {α β : Type} {x : α} {k : α → β} : bnd x k = k x := rfl
def u1 (r : Int → Int) (k v : Int) : Int → Int := fun y => if y = k then v else r y
theorem u1_s {r : Int → Int} {k v : Int} : u1 r k v k = v := if_pos rfl
theorem u1_n {r : Int → Int} {k v y : Int} (h : ¬ y = k) : u1 r k v y = r y := if_neg h
theorem pU_s {g : gH} {a b v : Int} : pU g a b v a = u1 (g a) b v := by
  funext y
  unfold pU u1
  by_cases h : y = b
  · rw [if_pos ⟨rfl, h⟩, if_pos h]
  · rw [if_neg (fun z => h z.2), if_neg h]
theorem pU_n {g : gH} {a b v x : Int} (h : ¬ x = a) : pU g a b v x = g x := by
  funext y
  unfold pU
  rw [if_neg (fun z => h z.1)]
/-- the model's row set -/
def sw (g : gH) (r : Int → Int) : gH := fun x => if x = 625 then r else g x
theorem sw_s {g : gH} {r : Int → Int} : sw g r 625 = r := if_pos rfl
theorem sw_n {g : gH} {r : Int → Int} {x : Int} (h : ¬ x = 625) : sw g r x = g x := if_neg h
theorem sw_sw {g : gH} {r r' : Int → Int} : sw (sw g r) r' = sw g r' := by
  funext x
  unfold sw
  split <;> rfl
theorem sw_id {g : gH} : sw g (g 625) = g := by
  funext x
  unfold sw
  split
  · next h => rw [h]
  · rfl
theorem pU_sw {g : gH} {r : Int → Int} {k v : Int} : pU (sw g r) 625 k v = sw g (u1 r k v) := by
  funext x
  by_cases h : x = 625
  · subst h
    rw [pU_s, sw_s, sw_s]
  · rw [pU_n h, sw_n h, sw_n h]
theorem pU_625 {g : gH} {k v : Int} : pU g 625 k v = sw g (u1 (g 625) k v) := by
  rw [← pU_sw, sw_id]
theorem pU_sw' {g : gH} {r : Int → Int} {a k v : Int} (h : ¬ a = 625) : pU (sw g r) a k v = sw (pU g a k v) r := by
  funext x
  by_cases h2 : x = 625
  · subst h2
    rw [pU_n (fun z => h z.symm), sw_s, sw_s]
  · by_cases h3 : x = a
    · subst h3
      rw [pU_s, sw_n h2, sw_n h2, pU_s]
    · rw [pU_n h3, sw_n h2, sw_n h2, pU_n h3]
theorem kd_625 : kd 625 = 20 := by decide +kernel
theorem kd_627 : kd 627 = 20 := by decide +kernel
theorem kd_628 : kd 628 = 20 := by decide +kernel
theorem kd_629 : kd 629 = 20 := by decide +kernel
theorem kd_630 : kd 630 = 22 := by decide +kernel
theorem kd_631 : kd 631 = 20 := by decide +kernel
theorem kd_632 : kd 632 = 20 := by decide +kernel
theorem kd_633 : kd 633 = 20 := by decide +kernel
theorem kd_634 : kd 634 = 20 := by decide +kernel
theorem sz_625 : sz 625 = 780 := by decide +kernel
theorem sz_627 : sz 627 = 780 := by decide +kernel
theorem sz_628 : sz 628 = 780 := by decide +kernel
theorem sz_629 : sz 629 = 7800 := by decide +kernel
theorem sz_630 : sz 630 = 40 := by decide +kernel
theorem sz_631 : sz 631 = 500 := by decide +kernel
theorem sz_632 : sz 632 = 4 := by decide +kernel
theorem sz_633 : sz 633 = 40 := by decide +kernel
theorem sz_634 : sz 634 = 400 := by decide +kernel
theorem fu_ge : 9000 < fu := by unfold fu; omega
/-- the model's own cells -/
def MS (g : gH) : Prop := g 624 0 = 625 ∧ g 624 2 = 627 ∧ g 624 3 = 628 ∧ g 624 4 = 629 ∧ g 624 5 = 630 ∧ g 624 9 = 631 ∧ g 624 20 = 632 ∧ g 624 21 = 633 ∧ g 624 22 = 634 ∧ g 624 1 = 626
/-! loops: m rounds of f from k on -/
def fd {S : Type} (f : Int → S → S) : Nat → Int → S → S
  | 0, _, s => s
  | m + 1, k, s => fd f m (k + 1) (f k s)
theorem for_loop {S R : Type} {L : Nat → Int → S → R} {E : S → R} (f : Int → S → S) (hi : Int) (I : Int → S → Prop)
    (hstep : ∀ n k s, k < hi → I k s → L (n + 1) k s = L n (k + 1) (f k s) ∧ I (k + 1) (f k s)) (hend : ∀ n k s, ¬ k < hi → I k s → L (n + 1) k s = E s) :
    ∀ (m : Nat) (k : Int) (s : S) (n : Nat), (hi - k).toNat = m → m < n → I k s → L n k s = E (fd f m k s) ∧ I (max k hi) (fd f m k s) := by
  intro m
  induction m with
  | zero =>
    intro k s n hm hn hI
    cases n with
    | zero => exact absurd hn (by omega)
    | succ n => exact ⟨hend n k s (by omega) hI, by rw [Int.max_eq_left (by omega)]; exact hI⟩
  | succ m ih =>
    intro k s n hm hn hI
    cases n with
    | zero => exact absurd hn (by omega)
    | succ n =>
      obtain ⟨h1, h2⟩ := hstep n k s (by omega) hI
      obtain ⟨h3, h4⟩ := ih (k + 1) (f k s) n (by omega) (by omega) h2
      refine ⟨h1.trans h3, ?_⟩
      rw [show max k hi = max (k + 1) hi by omega]
      exact h4
/-- the same, where only an end is wanted -/
theorem for_some {S R : Type} {L : Nat → Int → S → Option R} {E : S → Option R} (hi : Int) (I : Int → S → Prop)
    (hstep : ∀ n k s, k < hi → I k s → ∃ s', L (n + 1) k s = L n (k + 1) s' ∧ I (k + 1) s') (hend : ∀ n k s, ¬ k < hi → I k s → L (n + 1) k s = E s) :
    ∀ (m : Nat) (k : Int) (s : S) (n : Nat), (hi - k).toNat = m → m < n → I k s → ∃ s', L n k s = E s' ∧ I (max k hi) s' := by
  intro m
  induction m with
  | zero =>
    intro k s n hm hn hI
    cases n with
    | zero => exact absurd hn (by omega)
    | succ n => exact ⟨s, hend n k s (by omega) hI, by rw [Int.max_eq_left (by omega)]; exact hI⟩
  | succ m ih =>
    intro k s n hm hn hI
    cases n with
    | zero => exact absurd hn (by omega)
    | succ n =>
      obtain ⟨s1, h1, h2⟩ := hstep n k s (by omega) hI
      obtain ⟨s', h3, h4⟩ := ih (k + 1) s1 n (by omega) (by omega) h2
      exact ⟨s', h1.trans h3, by rw [show max k hi = max (k + 1) hi by omega]; exact h4⟩
/-- the first from k on, -1 without one -/
def ff (P : Int → Bool) : Nat → Int → Int
  | 0, _ => -1
  | m + 1, k => if P k then k else ff P m (k + 1)
theorem ff_spec (P : Int → Bool) : ∀ (m : Nat) (k : Int), (ff P m k = -1 ∧ ∀ j, k ≤ j → j < k + m → P j = false) ∨ (k ≤ ff P m k ∧ ff P m k < k + m ∧ P (ff P m k) = true ∧ ∀ j, k ≤ j → j < ff P m k → P j = false) := by
  intro m
  induction m with
  | zero => intro k; exact Or.inl ⟨rfl, fun j h1 h2 => absurd h1 (by omega)⟩
  | succ m ih =>
    intro k
    unfold ff
    cases hk : P k with
    | true => exact Or.inr ⟨by rw [if_pos rfl]; omega, by rw [if_pos rfl]; omega, by rw [if_pos rfl]; exact hk, fun j h1 h2 => by rw [if_pos rfl] at h2; omega⟩
    | false =>
      rw [if_neg (by simp)]
      rcases ih (k + 1) with ⟨h1, h2⟩ | ⟨h1, h2, h3, h4⟩
      · refine Or.inl ⟨h1, fun j j1 j2 => ?_⟩
        by_cases e : j = k
        · rw [e]; exact hk
        · exact h2 j (by omega) (by omega)
      · refine Or.inr ⟨by omega, by omega, h3, fun j j1 j2 => ?_⟩
        by_cases e : j = k
        · rw [e]; exact hk
        · exact h4 j (by omega) j2
theorem find_loop {R : Type} {L : Nat → Int → R} {E : Int → R} (P : Int → Bool) (hi : Int) (lo : Int)
    (hstep : ∀ n k, lo ≤ k → k < hi → L (n + 1) k = if P k then E k else L n (k + 1)) (hend : ∀ n k, lo ≤ k → ¬ k < hi → L (n + 1) k = E (-1)) :
    ∀ (m : Nat) (k : Int) (n : Nat), lo ≤ k → (hi - k).toNat = m → m < n → L n k = E (ff P m k) := by
  intro m
  induction m with
  | zero =>
    intro k n h0 hm hn
    cases n with
    | zero => exact absurd hn (by omega)
    | succ n => exact hend n k h0 (by omega)
  | succ m ih =>
    intro k n h0 hm hn
    cases n with
    | zero => exact absurd hn (by omega)
    | succ n =>
      rw [hstep n k h0 (by omega)]
      unfold ff
      split
      · rfl
      · exact ih (k + 1) n (by omega) (by omega) (by omega)
/-- how many from k on -/
def cn (P : Int → Bool) : Nat → Int → Int
  | 0, _ => 0
  | m + 1, k => (if P k then 1 else 0) + cn P m (k + 1)
theorem cn_bd (P : Int → Bool) : ∀ (m : Nat) (k : Int), 0 ≤ cn P m k ∧ cn P m k ≤ m := by
  intro m
  induction m with
  | zero => intro k; exact ⟨Int.le_refl _, Int.le_refl _⟩
  | succ m ih =>
    intro k
    have := ih (k + 1)
    unfold cn
    split <;> omega
theorem cn_congr {P Q : Int → Bool} : ∀ (m : Nat) (k : Int), (∀ j, k ≤ j → j < k + m → P j = Q j) → cn P m k = cn Q m k := by
  intro m
  induction m with
  | zero => intro k _; rfl
  | succ m ih =>
    intro k h
    unfold cn
    rw [h k (by omega) (by omega), ih (k + 1) (fun j h1 h2 => h j (by omega) (by omega))]
theorem cn_s (P : Int → Bool) (m : Nat) (k : Int) : cn P (m + 1) k = (if P k = true then 1 else 0) + cn P m (k + 1) := rfl
/-- one place changed from false to true -/
theorem cn_up {P Q : Int → Bool} {p : Int} (hP : P p = false) (hQ : Q p = true) (h : ∀ j, j ≠ p → P j = Q j) : ∀ (m : Nat) (k : Int), cn Q m k = cn P m k + if k ≤ p ∧ p < k + m then 1 else 0 := by
  intro m
  induction m with
  | zero => intro k; unfold cn; rw [if_neg (by omega)]; omega
  | succ m ih =>
    intro k
    rw [cn_s, cn_s, ih (k + 1)]
    by_cases e : k = p
    · subst e
      have e1 : ¬ (k + 1 ≤ k ∧ k < k + 1 + (m : Int)) := by omega
      have e2 : k ≤ k ∧ k < k + ((m + 1 : Nat) : Int) := by omega
      rw [hP, hQ, if_neg e1, if_pos e2]
      simp
      omega
    · rw [h k e]
      by_cases h2 : k + 1 ≤ p ∧ p < k + 1 + m
      · have e2 : k ≤ p ∧ p < k + ((m + 1 : Nat) : Int) := by omega
        rw [if_pos h2, if_pos e2]
        omega
      · have e2 : ¬ (k ≤ p ∧ p < k + ((m + 1 : Nat) : Int)) := by omega
        rw [if_neg h2, if_neg e2]
        omega
theorem cn_one (P : Int → Bool) : ∀ (m : Nat) (k : Int), cn P (m + 1) k = cn P m k + if P (k + m) then 1 else 0 := by
  intro m
  induction m with
  | zero => intro k; unfold cn; unfold cn; rw [show k + ((0 : Nat) : Int) = k by omega]; omega
  | succ m ih =>
    intro k
    rw [show cn P (m + 1 + 1) k = (if P k then 1 else 0) + cn P (m + 1) (k + 1) from rfl, ih (k + 1), show cn P (m + 1) k = (if P k then 1 else 0) + cn P m (k + 1) from rfl, show k + 1 + (m : Int) = k + ((m + 1 : Nat) : Int) by omega]
    omega
/-- a loop that counts -/
theorem cnt_loop {R : Type} {L : Nat → Int → Int → R} {E : Int → R} (P : Int → Bool) (hi lo : Int) (hb : lo ≤ hi ∧ hi ≤ 1000)
    (hstep : ∀ n k a, lo ≤ k → k < hi → 0 ≤ a → a ≤ k - lo → L (n + 1) k a = L n (k + 1) (a + if P k then 1 else 0)) (hend : ∀ n k a, lo ≤ k → ¬ k < hi → L (n + 1) k a = E a) :
    ∀ (m : Nat) (k a : Int) (n : Nat), lo ≤ k → (hi - k).toNat = m → m < n → 0 ≤ a → a ≤ k - lo → L n k a = E (a + cn P m k) := by
  intro m
  induction m with
  | zero =>
    intro k a n h0 hm hn _ _
    cases n with
    | zero => exact absurd hn (by omega)
    | succ n => rw [hend n k a h0 (by omega)]; unfold cn; rw [show a + 0 = a by omega]
  | succ m ih =>
    intro k a n h0 hm hn ha hk
    cases n with
    | zero => exact absurd hn (by omega)
    | succ n =>
      rw [hstep n k a h0 (by omega) ha hk, ih (k + 1) _ n (by omega) (by omega) (by omega) (by split <;> omega) (by split <;> omega)]
      rw [cn_s, show (a + if P k = true then 1 else 0) + cn P m (k + 1) = a + ((if P k = true then 1 else 0) + cn P m (k + 1)) by omega]
/-! ===== chains of supervisors (own work) ===== -/
/-- from i the root is reached in at most n steps -/
def en (f : Int → Int) : Nat → Int → Bool
  | 0, i => decide (i = 0)
  | n + 1, i => decide (i = 0) || (decide (0 < i) && (decide (i < 40) && en f n (f i)))
/-- p is above i -/
def ov (f : Int → Int) : Nat → Int → Int → Bool
  | 0, _, _ => false
  | n + 1, p, i => if i = 0 then false else if f i = p then true else ov f n p (f i)
def dp (f : Int → Int) : Nat → Int → Int
  | 0, _ => 0
  | n + 1, i => if i = 0 then 0 else 1 + dp f n (f i)
theorem en_0 {f : Int → Int} {n : Nat} : en f n 0 = true := by cases n <;> simp [en]
theorem en_s {f : Int → Int} {n : Nat} {i : Int} : en f (n + 1) i = true ↔ i = 0 ∨ (0 < i ∧ i < 40 ∧ en f n (f i) = true) := by
  simp [en]
theorem en_rg {f : Int → Int} {n : Nat} {i : Int} (h : en f n i = true) : 0 ≤ i ∧ i < 40 := by
  cases n with
  | zero => simp [en] at h; omega
  | succ n => rcases en_s.mp h with h | ⟨h1, h2, -⟩ <;> omega
theorem en_up {f : Int → Int} : ∀ {n : Nat} {i : Int}, en f n i = true → en f (n + 1) i = true := by
  intro n
  induction n with
  | zero => intro i h; simp [en] at h; exact en_s.mpr (Or.inl h)
  | succ n ih =>
    intro i h
    rcases en_s.mp h with h | ⟨h1, h2, h3⟩
    · exact en_s.mpr (Or.inl h)
    · exact en_s.mpr (Or.inr ⟨h1, h2, ih h3⟩)
theorem en_le {f : Int → Int} {n m : Nat} {i : Int} (h : en f n i = true) (hm : n ≤ m) : en f m i = true := by
  obtain ⟨k, rfl⟩ : ∃ k, m = n + k := ⟨m - n, by omega⟩
  clear hm
  induction k with
  | zero => exact h
  | succ k ih => exact en_up ih
theorem cn_le {P Q : Int → Bool} (h : ∀ j, P j = true → Q j = true) : ∀ (m : Nat) (k : Int), cn P m k ≤ cn Q m k := by
  intro m
  induction m with
  | zero => intro k; exact Int.le_refl _
  | succ m ih =>
    intro k
    rw [cn_s, cn_s]
    have := ih (k + 1)
    cases hp : P k with
    | false =>
      rw [if_neg (by simp)]
      split <;> omega
    | true =>
      rw [h k hp]
      rw [if_pos rfl]
      omega
theorem cn_lt {P Q : Int → Bool} (h : ∀ j, P j = true → Q j = true) {p : Int} (hp : P p = false) (hq : Q p = true) : ∀ (m : Nat) (k : Int), k ≤ p → p < k + m → cn P m k + 1 ≤ cn Q m k := by
  intro m
  induction m with
  | zero => intro k h1 h2; exact absurd h1 (by omega)
  | succ m ih =>
    intro k h1 h2
    rw [cn_s, cn_s]
    by_cases e : k = p
    · subst e
      rw [hp, hq, if_neg (by simp), if_pos rfl]
      have := cn_le h m (k + 1)
      omega
    · have := ih (k + 1) (by omega) (by omega)
      cases hpk : P k with
      | false =>
        rw [if_neg (by simp)]
        split <;> omega
      | true =>
        rw [h k hpk]
        rw [if_pos rfl]
        omega
theorem en_st {f : Int → Int} {n : Nat} (h : ∀ i, en f (n + 1) i = en f n i) : ∀ m i, en f (n + m) i = en f n i := by
  intro m
  induction m with
  | zero => intro i; rfl
  | succ m ih =>
    intro i
    rw [← h i]
    show (decide (i = 0) || (decide (0 < i) && (decide (i < 40) && en f (n + m) (f i)))) = (decide (i = 0) || (decide (0 < i) && (decide (i < 40) && en f n (f i))))
    rw [ih]
theorem en_gr {f : Int → Int} : ∀ n : Nat, (∃ k, k ≤ n ∧ ∀ i, en f (k + 1) i = en f k i) ∨ (n : Int) + 1 ≤ cn (en f n) 40 0 := by
  intro n
  induction n with
  | zero =>
    right
    have := cn_lt (P := fun _ => false) (Q := en f 0) (fun j z => by cases z) (p := 0) rfl en_0 40 0 (by omega) (by omega)
    have h0 := (cn_bd (fun _ => false) 40 0).1
    omega
  | succ n ih =>
    rcases ih with ⟨k, h1, h2⟩ | h
    · exact Or.inl ⟨k, by omega, h2⟩
    · by_cases hs : ∀ i, en f (n + 1) i = en f n i
      · exact Or.inl ⟨n, by omega, hs⟩
      · right
        obtain ⟨i, hi⟩ := Classical.not_forall.mp hs
        have h1 : en f n i = false := by
          cases hh : en f n i with
          | false => rfl
          | true => exact absurd (by rw [en_up hh, hh]) hi
        have h2 : en f (n + 1) i = true := by
          cases hh : en f (n + 1) i with
          | true => rfl
          | false => exact absurd (by rw [hh, h1]) hi
        have h3 := en_rg h2
        have := cn_lt (P := en f n) (Q := en f (n + 1)) (fun j => en_up) h1 h2 40 0 (by omega) (by omega)
        omega
theorem en_40 {f : Int → Int} {n : Nat} {i : Int} (h : en f n i = true) : en f 40 i = true := by
  rcases en_gr (f := f) 40 with ⟨k, h1, h2⟩ | h9
  · have h3 := en_le h (Nat.le_add_left n k)
    rw [en_st h2] at h3
    exact en_le h3 h1
  · have := (cn_bd (en f 40) 40 0).2
    omega
/-- it is reached in 39 steps already, for the root itself takes a place -/
theorem ov_le {f : Int → Int} {p : Int} : ∀ {n : Nat} {i : Int} {m : Nat}, en f n i = true → n ≤ m → ov f m p i = ov f n p i := by
  intro n
  induction n with
  | zero =>
    intro i m h hm
    simp [en] at h
    subst h
    cases m <;> simp [ov]
  | succ n ih =>
    intro i m h hm
    obtain ⟨m, rfl⟩ : ∃ k, m = k + 1 := ⟨m - 1, by omega⟩
    unfold ov
    by_cases hi : i = 0
    · rw [if_pos hi, if_pos hi]
    · rw [if_neg hi, if_neg hi]
      rcases en_s.mp h with h | ⟨-, -, h3⟩
      · exact absurd h hi
      · rw [ih h3 (by omega)]
theorem dp_le {f : Int → Int} : ∀ {n : Nat} {i : Int} {m : Nat}, en f n i = true → n ≤ m → dp f m i = dp f n i := by
  intro n
  induction n with
  | zero =>
    intro i m h hm
    simp [en] at h
    subst h
    cases m <;> simp [dp]
  | succ n ih =>
    intro i m h hm
    obtain ⟨m, rfl⟩ : ∃ k, m = k + 1 := ⟨m - 1, by omega⟩
    unfold dp
    by_cases hi : i = 0
    · rw [if_pos hi, if_pos hi]
    · rw [if_neg hi, if_neg hi]
      rcases en_s.mp h with h | ⟨-, -, h3⟩
      · exact absurd h hi
      · rw [ih h3 (by omega)]
theorem dp_bd (f : Int → Int) : ∀ (n : Nat) (i : Int), 0 ≤ dp f n i ∧ dp f n i ≤ n := by
  intro n
  induction n with
  | zero => intro i; exact ⟨Int.le_refl _, Int.le_refl _⟩
  | succ n ih =>
    intro i
    have := ih (f i)
    unfold dp
    split <;> omega
abbrev OV (f : Int → Int) (p i : Int) : Bool := ov f 40 p i
abbrev DP (f : Int → Int) (i : Int) : Int := dp f 40 i
/-- every one of the first m has its way to the root -/
def Acy (f : Int → Int) (m : Int) : Prop := ∀ i, 0 ≤ i → i < m → en f 40 i = true
theorem OV_0 {f : Int → Int} {p : Int} : OV f p 0 = false := rfl
theorem DP_0 {f : Int → Int} : DP f 0 = 0 := rfl
theorem OV_s {f : Int → Int} {p i : Int} (h : en f 40 i = true) (hi : i ≠ 0) : OV f p i = if f i = p then true else OV f p (f i) := by
  rcases en_s.mp h with h0 | ⟨-, -, h3⟩
  · exact absurd h0 hi
  · show (if i = 0 then false else if f i = p then true else ov f 39 p (f i)) = _
    rw [if_neg hi, ← ov_le (m := 40) h3 (by omega)]
theorem DP_s {f : Int → Int} {i : Int} (h : en f 40 i = true) (hi : i ≠ 0) : DP f i = 1 + DP f (f i) := by
  rcases en_s.mp h with h0 | ⟨-, -, h3⟩
  · exact absurd h0 hi
  · show (if i = 0 then 0 else 1 + dp f 39 (f i)) = _
    rw [if_neg hi, ← dp_le (m := 40) h3 (by omega)]
theorem en_f {f : Int → Int} {i : Int} (h : en f 40 i = true) (hi : i ≠ 0) : en f 40 (f i) = true := by
  rcases en_s.mp h with h0 | ⟨-, -, h3⟩
  · exact absurd h0 hi
  · exact en_up h3
/-- a way that does not come to c is the same when c gets another supervisor -/
theorem en_keep {f : Int → Int} {c s : Int} : ∀ {n : Nat} {i : Int}, en f n i = true → i ≠ c → ov f n c i = false → en (u1 f c s) n i = true := by
  intro n
  induction n with
  | zero => intro i h _ _; exact h
  | succ n ih =>
    intro i h hc ho
    rcases en_s.mp h with h0 | ⟨h1, h2, h3⟩
    · exact en_s.mpr (Or.inl h0)
    · refine en_s.mpr (Or.inr ⟨h1, h2, ?_⟩)
      rw [u1_n hc]
      have ho : (if i = 0 then false else if f i = c then true else ov f n c (f i)) = false := ho
      rw [if_neg (by omega)] at ho
      by_cases hf : f i = c
      · rw [if_pos hf] at ho; cases ho
      · rw [if_neg hf] at ho
        exact ih h3 hf ho
theorem acy_u1 {f : Int → Int} {c s m : Int} (h : Acy f m) (hm : m ≤ 40) (hc : 0 < c ∧ c < m) (hs : 0 ≤ s ∧ s < m) (hsc : s ≠ c) (ho : OV f c s = false) : Acy (u1 f c s) m := by
  have h1 : en (u1 f c s) 40 s = true := en_keep (h s hs.1 hs.2) hsc ho
  have h2 : en (u1 f c s) 41 c = true := en_s.mpr (Or.inr ⟨hc.1, by omega, by rw [u1_s]; exact h1⟩)
  have key : ∀ (n : Nat) (i : Int), en f n i = true → ∃ k, en (u1 f c s) k i = true := by
    intro n
    induction n with
    | zero => intro i hi; exact ⟨0, hi⟩
    | succ n ih =>
      intro i hi
      by_cases e : i = c
      · subst e; exact ⟨41, h2⟩
      · rcases en_s.mp hi with h0 | ⟨h3, h4, h5⟩
        · exact ⟨0, by rw [h0]; exact en_0⟩
        · obtain ⟨k, hk⟩ := ih _ h5
          exact ⟨k + 1, en_s.mpr (Or.inr ⟨h3, h4, by rw [u1_n e]; exact hk⟩)⟩
  intro i hi hi2
  obtain ⟨k, hk⟩ := key 40 i (h i hi hi2)
  exact en_40 hk
theorem acy_ext {f f' : Int → Int} {m : Int} (h : Acy f m) (hcl : ∀ i, 0 < i → i < m → 0 ≤ f i ∧ f i < m) (he : ∀ i, 0 < i → i < m → f' i = f i) : Acy f' m := by
  have key : ∀ (n : Nat) (i : Int), 0 ≤ i → i < m → en f n i = true → en f' n i = true := by
    intro n
    induction n with
    | zero => intro i _ _ hi; exact hi
    | succ n ih =>
      intro i h0 h1 hi
      rcases en_s.mp hi with h2 | ⟨h3, h4, h5⟩
      · exact en_s.mpr (Or.inl h2)
      · refine en_s.mpr (Or.inr ⟨h3, h4, ?_⟩)
        rw [he i h3 h1]
        have := hcl i h3 h1
        exact ih _ this.1 this.2 h5
  exact fun i h0 h1 => key 40 i h0 h1 (h i h0 h1)
theorem ov_ext {f f' : Int → Int} {m p : Int} (hcl : ∀ i, 0 < i → i < m → 0 ≤ f i ∧ f i < m) (he : ∀ i, 0 < i → i < m → f' i = f i) : ∀ (n : Nat) (i : Int), 0 ≤ i → i < m → ov f' n p i = ov f n p i := by
  intro n
  induction n with
  | zero => intro i _ _; rfl
  | succ n ih =>
    intro i h0 h1
    unfold ov
    by_cases hi : i = 0
    · rw [if_pos hi, if_pos hi]
    · have := hcl i (by omega) h1
      rw [if_neg hi, if_neg hi, he i (by omega) h1, ih _ this.1 this.2]
/-- a fresh one under s -/
theorem acy_new {f : Int → Int} {c s : Int} (h : Acy f c) (hc : 0 < c ∧ c < 40) (hs : 0 ≤ s ∧ s < c) (hcl : ∀ i, 0 < i → i < c → 0 ≤ f i ∧ f i < c) : Acy (u1 f c s) (c + 1) := by
  have h1 : Acy (u1 f c s) c := acy_ext h hcl (fun i _ h2 => u1_n (by omega))
  intro i h2 h3
  by_cases e : i = c
  · subst e
    exact en_40 (n := 41) (en_s.mpr (Or.inr ⟨hc.1, hc.2, by rw [u1_s]; exact h1 s hs.1 hs.2⟩))
  · exact h1 i h2 (by omega)
/-- who is above is nearer to the root; nobody is above himself -/
theorem ov_dp {f : Int → Int} {p : Int} : ∀ {n : Nat} {i : Int}, en f n i = true → ov f n p i = true → DP f p < DP f i := by
  intro n
  induction n with
  | zero => intro i _ h; cases h
  | succ n ih =>
    intro i h ho
    have ho : (if i = 0 then false else if f i = p then true else ov f n p (f i)) = true := ho
    rcases en_s.mp h with h0 | ⟨h1, h2, h3⟩
    · rw [if_pos h0] at ho; cases ho
    · rw [if_neg (by omega)] at ho
      rw [DP_s (en_40 h) (by omega)]
      by_cases hf : f i = p
      · rw [hf]; omega
      · rw [if_neg hf] at ho
        have := ih h3 ho
        omega
theorem OV_dp {f : Int → Int} {p i : Int} (h : en f 40 i = true) (ho : OV f p i = true) : DP f p < DP f i := ov_dp h ho
theorem OV_ir {f : Int → Int} {i : Int} (h : en f 40 i = true) : OV f i i = false := by
  cases ho : OV f i i with
  | false => rfl
  | true =>
    have := OV_dp h ho
    omega
theorem OV_tr {f : Int → Int} {p q : Int} : ∀ {n : Nat} {i : Int}, en f n i = true → en f 40 q = true → ov f n q i = true → OV f p q = true → OV f p i = true := by
  intro n
  induction n with
  | zero => intro i _ _ h _; cases h
  | succ n ih =>
    intro i h hq ho hp
    have ho : (if i = 0 then false else if f i = q then true else ov f n q (f i)) = true := ho
    rcases en_s.mp h with h0 | ⟨h1, h2, h3⟩
    · rw [if_pos h0] at ho; cases ho
    · rw [if_neg (by omega)] at ho
      rw [OV_s (en_40 h) (by omega)]
      by_cases hf : f i = q
      · rw [hf, hp]
        split <;> rfl
      · rw [if_neg hf] at ho
        rw [ih h3 hq ho hp]
        split <;> rfl
/-! ===== the reference's questions of its row (own work) ===== -/
def up (r : Int → Int) : Int → Int := fun i => r (60 + i)
def ic (r : Int → Int) (c a st : Int) : Bool := decide (r (140 + c) = st ∧ r (60 + c) = a ∧ c ≠ 0)
def kids (r : Int → Int) (a st : Int) : Int := cn (fun c => ic r c a st) (r 0).toNat 0
def room (r : Int → Int) (p : Int) : Int := if r (140 + p) = 0 then gmax 0 (r (100 + p) - kids r p 0) else 0
def rfs (r : Int → Int) (p gp : Int) : Bool := decide (opI 1 (opI 5 (r (340 + p)) gp) 1 = 1)
def canA (r dm : Int → Int) (p o : Int) : Bool := decide (r (140 + p) = 0) && (!decide (p = o) && (!OV (up r) o p && (decide (dm p = 0) && (decide (0 < room r p) && (decide (DP (up r) p < r 59) && !rfs r p (r (180 + o)))))))
/-- ranges that the questions need -/
def WB (r : Int → Int) : Prop := (1 ≤ r 0 ∧ r 0 ≤ 40) ∧ (∀ i, 0 < i → i < r 0 → 0 ≤ r (60 + i) ∧ r (60 + i) < r 0) ∧ Acy (up r) (r 0) ∧ (0 ≤ r 5 ∧ r 5 ≤ 5) ∧ (∀ i, 0 ≤ i → i < r 0 → -1 ≤ r (260 + i) ∧ r (260 + i) < r 0) ∧ (∀ i d, 0 ≤ i → i < r 0 → 0 ≤ d → d < 8 → -1 ≤ r (460 + 8 * i + d) ∧ r (460 + 8 * i + d) < r 0) ∧ (∀ i, 0 ≤ i → i < r 0 → 0 ≤ r (100 + i) ∧ r (100 + i) ≤ 9)
section MODEL
variable {g : gH} {p a st o k x : Int}
theorem vM_runs (hs : MS g) (hp : 0 ≤ p ∧ p < 40) : fM_runs g 624 p = some (if g 625 (140 + p) = 0 then 1 else 0) := by
  have h0 := hs.1
  simp (disch := omega) only [fM_runs, h0, kd_625, sz_625, w32_r, true_and, if_pos]
  split <;> rfl
theorem vM_isChild (hs : MS g) (hp : 0 ≤ p ∧ p < 40) : fM_isChild g 624 p a st = some (if ic (g 625) p a st = true then 1 else 0) := by
  have h0 := hs.1
  simp (disch := omega) only [fM_isChild, h0, kd_625, sz_625, w32_r, true_and, if_pos, ic, decide_eq_true_eq]
  by_cases h1 : g 625 (140 + p) = st
  · by_cases h2 : g 625 (60 + p) = a
    · by_cases h3 : p = 0
      · simp [h1, h2, h3]
      · simp [h1, h2, h3]
    · simp [h1, h2]
  · simp [h1]
theorem vM_childrenOf (hs : MS g) (hM : 1 ≤ g 625 0 ∧ g 625 0 ≤ 40) : fM_childrenOf g 624 a st = some (kids (g 625) a st) := by
  have h0 := hs.1
  have h := cnt_loop (L := fun n k x => lM_childrenOf_5 g 624 a st n x k) (E := some) (fun c => ic (g 625) c a st) (g 625 0) 0 (by omega) (fun n k x h1 h2 h3 h4 => by
    show bM_childrenOf_5 g 624 a st (lM_childrenOf_5 g 624 a st n) x k = lM_childrenOf_5 g 624 a st n (x + if ic (g 625) k a st = true then 1 else 0) (k + 1)
    rw [bM_childrenOf_5, vM_isChild hs (by omega)]
    simp (disch := omega) only [h0, kd_625, sz_625, true_and, if_pos, bdP_s, w32_r]
    cases ic (g 625) k a st <;> simp (disch := omega) only [w32_r, if_pos, if_neg, ite_true, ite_false, reduceCtorEq, Bool.false_eq_true]) (fun n k x h1 h2 => by
    show bM_childrenOf_5 g 624 a st (lM_childrenOf_5 g 624 a st n) x k = some x
    rw [bM_childrenOf_5]
    simp (disch := omega) only [h0, kd_625, sz_625, true_and, if_pos, if_neg]) (g 625 0).toNat 0 0 fu (by omega) (by omega) (by have := fu_ge; omega) (by omega) (by omega)
  have h : lM_childrenOf_5 g 624 a st fu 0 0 = some (0 + kids (g 625) a st) := h
  rw [fM_childrenOf, h]
  simp
theorem vM_roomOf (hs : MS g) (hb : WB (g 625)) (hp : 0 ≤ p ∧ p < g 625 0) : fM_roomOf g 624 p = some (room (g 625) p) := by
  have h0 := hs.1
  obtain ⟨hM, -, -, -, -, -, hc⟩ := hb
  have hk := cn_bd (fun c => ic (g 625) c p 0) (g 625 0).toNat 0
  have hcp := hc p hp.1 hp.2
  rw [fM_roomOf, vM_runs hs (by omega), room]
  by_cases h1 : g 625 (140 + p) = 0
  · have hk' : 0 ≤ kids (g 625) p 0 ∧ kids (g 625) p 0 ≤ 40 := by unfold kids; omega
    simp (disch := omega) only [h1, if_true, bdP_s, vM_childrenOf hs hM, h0, kd_625, sz_625, w32_r, true_and, if_pos, if_neg]
  · simp only [h1, if_false, bdP_s, if_true]
theorem room_bd {r : Int → Int} (hb : WB r) (hp : 0 ≤ p ∧ p < r 0) : 0 ≤ room r p ∧ room r p ≤ 9 := by
  obtain ⟨hM, -, -, -, -, -, hc⟩ := hb
  have hcp := hc p hp.1 hp.2
  have hk := cn_bd (fun c => ic r c p 0) (r 0).toNat 0
  unfold room gmax kids
  split
  · split <;> omega
  · omega
theorem vM_refuses (hs : MS g) (hp : 0 ≤ p ∧ p < 40) : fM_refusesGroup g 624 p a = some (if rfs (g 625) p a = true then 1 else 0) := by
  have h0 := hs.1
  simp (disch := omega) only [fM_refusesGroup, h0, kd_625, sz_625, w32_r, true_and, if_pos, rfs, decide_eq_true_eq]
  split <;> rfl
theorem vM_over_l (hs : MS g) : ∀ (m n : Nat) (i : Int), en (up (g 625)) m i = true → m < n → lM_isOver_2 g 624 p n i = some (if ov (up (g 625)) m p i = true then 1 else 0) := by
  have h0 := hs.1
  intro m
  induction m with
  | zero =>
    intro n i hi hn
    obtain ⟨n, rfl⟩ : ∃ k, n = k + 1 := ⟨n - 1, by omega⟩
    have hi : i = 0 := by simpa [en] using hi
    show bM_isOver_2 g 624 p (lM_isOver_2 g 624 p n) i = _
    simp only [bM_isOver_2, jM_isOver_32, hi, if_true, ov, Bool.false_eq_true, if_false]
  | succ m ih =>
    intro n i hi hn
    obtain ⟨n, rfl⟩ : ∃ k, n = k + 1 := ⟨n - 1, by omega⟩
    show bM_isOver_2 g 624 p (lM_isOver_2 g 624 p n) i = _
    by_cases hz : i = 0
    · simp only [bM_isOver_2, jM_isOver_32, hz, if_true, ov, Bool.false_eq_true, if_false]
    · rcases en_s.mp hi with h | ⟨h1, h2, h3⟩
      · exact absurd h hz
      · have hr := en_rg h3
        simp (disch := omega) only [bM_isOver_2, jM_isOver_32, hz, if_false, h0, kd_625, sz_625, w32_r, true_and, if_pos, ov]
        show (if up (g 625) i = p then _ else lM_isOver_2 g 624 p n (up (g 625) i)) = _
        by_cases hf : up (g 625) i = p
        · rw [if_pos hf, if_pos hf]
          rfl
        · rw [if_neg hf, if_neg hf]
          exact ih n _ h3 (by omega)
theorem vM_isOver (hs : MS g) (hi : en (up (g 625)) 40 x = true) : fM_isOver g 624 p x = some (if OV (up (g 625)) p x = true then 1 else 0) := by
  rw [fM_isOver]
  exact vM_over_l hs 40 fu x hi (by have := fu_ge; omega)
theorem vM_deep_l (hs : MS g) : ∀ (m n : Nat) (a i : Int), en (up (g 625)) m i = true → m < n → 0 ≤ a → a + m ≤ 1000 → lM_deep_4 g 624 n a i = some (a + dp (up (g 625)) m i) := by
  have h0 := hs.1
  intro m
  induction m with
  | zero =>
    intro n a i hi hn ha ham
    obtain ⟨n, rfl⟩ : ∃ k, n = k + 1 := ⟨n - 1, by omega⟩
    have hi : i = 0 := by simpa [en] using hi
    show bM_deep_4 g 624 (lM_deep_4 g 624 n) a i = _
    simp only [bM_deep_4, hi, if_true, dp, Int.add_zero]
  | succ m ih =>
    intro n a i hi hn ha ham
    obtain ⟨n, rfl⟩ : ∃ k, n = k + 1 := ⟨n - 1, by omega⟩
    show bM_deep_4 g 624 (lM_deep_4 g 624 n) a i = _
    by_cases hz : i = 0
    · simp only [bM_deep_4, hz, if_true, dp, Int.add_zero]
    · rcases en_s.mp hi with h | ⟨h1, h2, h3⟩
      · exact absurd h hz
      · simp (disch := omega) only [bM_deep_4, hz, if_false, h0, kd_625, sz_625, w32_r, true_and, if_pos, dp]
        have := ih n (a + 1) _ h3 (by omega) (by omega) (by omega)
        rw [show g 625 (60 + i) = up (g 625) i from rfl, this]
        congr 1
        omega
theorem vM_deep (hs : MS g) (hi : en (up (g 625)) 40 x = true) : fM_deep g 624 x = some (DP (up (g 625)) x) := by
  rw [fM_deep, vM_deep_l hs 40 fu 0 x hi (by have := fu_ge; omega) (by omega) (by omega)]
  simp
theorem vM_runningMany (hs : MS g) (hM : 1 ≤ g 625 0 ∧ g 625 0 ≤ 40) : fM_runningMany g 624 = some (cn (fun c => decide (g 625 (140 + c) = 0)) (g 625 0).toNat 0) := by
  have h0 := hs.1
  have h := cnt_loop (L := fun n k x => lM_runningMany_4 g 624 n x k) (E := some) (fun c => decide (g 625 (140 + c) = 0)) (g 625 0) 0 (by omega) (fun n k x h1 h2 h3 h4 => by
    show bM_runningMany_4 g 624 (lM_runningMany_4 g 624 n) x k = lM_runningMany_4 g 624 n (x + if decide (g 625 (140 + k) = 0) = true then 1 else 0) (k + 1)
    rw [bM_runningMany_4, vM_runs hs (by omega)]
    simp (disch := omega) only [h0, kd_625, sz_625, true_and, if_pos, bdP_s, w32_r, decide_eq_true_eq]
    by_cases h9 : g 625 (140 + k) = 0
    · simp (disch := omega) only [h9, w32_r, if_pos, if_neg, if_true]
    · simp (disch := omega) only [h9, w32_r, if_pos, if_neg, if_false, if_true]) (fun n k x h1 h2 => by
    show bM_runningMany_4 g 624 (lM_runningMany_4 g 624 n) x k = some x
    rw [bM_runningMany_4]
    simp (disch := omega) only [h0, kd_625, sz_625, true_and, if_pos, if_neg]) (g 625 0).toNat 0 0 fu (by omega) (by omega) (by have := fu_ge; omega) (by omega) (by omega)
  have h : lM_runningMany_4 g 624 fu 0 0 = some (0 + cn (fun c => decide (g 625 (140 + c) = 0)) (g 625 0).toNat 0) := h
  rw [fM_runningMany, h]
  simp
theorem vM_canAdopt (hs : MS g) (hb : WB (g 625)) (hp : 0 ≤ p ∧ p < g 625 0) (ho : 0 ≤ o ∧ o < g 625 0) : fM_canAdopt g 624 p o = some (if canA (g 625) (g 630) p o = true then 1 else 0) := by
  have h0 := hs.1
  have h5 := hs.2.2.2.2.1
  have hM := hb.1
  have hA := hb.2.2.1
  rw [fM_canAdopt, vM_runs hs (by omega), canA]
  by_cases h1 : g 625 (140 + p) = 0
  · by_cases h2 : p = o
    · simp [h1, h2, bdP_s]
    · cases h3 : OV (up (g 625)) o p with
      | true => simp [h1, h2, bdP_s, vM_isOver hs (hA p hp.1 hp.2), h3]
      | false =>
        by_cases h4 : g 630 p = 0
        · by_cases h6 : 0 < room (g 625) p
          · by_cases h7 : DP (up (g 625)) p < g 625 59
            · simp (disch := omega) only [h1, h2, bdP_s, vM_isOver hs (hA p hp.1 hp.2), h3, h5, kd_630, sz_630, true_and, if_pos, h4, vM_roomOf hs hb hp, h6, vM_deep hs (hA p hp.1 hp.2), h0, kd_625, sz_625, w32_r, h7, vM_refuses hs (p := p) (by omega), if_true, if_false, decide_true, decide_false, Bool.true_and, Bool.not_false, Bool.false_eq_true, if_neg]
              cases rfs (g 625) p (g 625 (180 + o)) <;> rfl
            · simp (disch := omega) only [h1, h2, bdP_s, vM_isOver hs (hA p hp.1 hp.2), h3, h5, kd_630, sz_630, true_and, if_pos, h4, vM_roomOf hs hb hp, h6, vM_deep hs (hA p hp.1 hp.2), h0, kd_625, sz_625, w32_r, h7, if_true, if_false, decide_true, decide_false, Bool.true_and, Bool.false_and, Bool.not_false, Bool.false_eq_true, if_neg]
          · simp (disch := omega) only [h1, h2, bdP_s, vM_isOver hs (hA p hp.1 hp.2), h3, h5, kd_630, sz_630, true_and, if_pos, h4, vM_roomOf hs hb hp, h6, if_true, if_false, decide_true, decide_false, Bool.true_and, Bool.false_and, Bool.not_false, Bool.false_eq_true, if_neg]
        · simp (disch := omega) only [h1, h2, bdP_s, vM_isOver hs (hA p hp.1 hp.2), h3, h5, kd_630, sz_630, true_and, if_pos, h4, if_true, if_false, decide_true, decide_false, Bool.true_and, Bool.false_and, Bool.not_false, Bool.false_eq_true, if_neg]
  · simp [h1, bdP_s]
end MODEL
/-! ===== the reference's questions: who adopts, who inherits (own work) ===== -/
def nrs (r dm : Int → Int) (o wo : Int) : Nat → Int → Int
  | 0, _ => -1
  | n + 1, i => if i = 0 then -1 else if i = wo then nrs r dm o wo n (up r i) else if canA r dm i o = true then i else nrs r dm o wo n (up r i)
def rmS (r dm : Int → Int) (o wo : Int) (og : Bool) (k b : Int) : Int :=
  if k = wo then b else if og = true ∧ ¬ r (180 + k) = r (180 + o) then b else if canA r dm k o = true then (if b = -1 then k else if room r b < room r k then k else b) else b
def RM (r dm : Int → Int) (o wo : Int) (og : Bool) : Int := fd (rmS r dm o wo og) (r 0 - 1).toNat 1 (-1)
def knP (r dm : Int → Int) (o wo : Int) (k : Int) : Bool := !decide (k = wo) && (ic r k (up r wo) 0 && canA r dm k o)
def olP (r dm : Int → Int) (o wo : Int) (k : Int) : Bool := !decide (k = wo) && canA r dm k o
def KN (r dm : Int → Int) (o wo : Int) : Int := if wo = 0 then -1 else ff (knP r dm o wo) (r 0 - 1).toNat 1
def OL (r dm : Int → Int) (o wo : Int) : Int := ff (olP r dm o wo) (r 0 - 1).toNat 1
def FB (r dm : Int → Int) (rule o wo : Int) : Int :=
  if rule = 0 then nrs r dm o wo 40 wo else if rule = 1 then RM r dm o wo true else if rule = 2 then RM r dm o wo false else if rule = 3 then KN r dm o wo else OL r dm o wo
def ads (r dm : Int → Int) (o wo : Int) : Nat → Int → Int
  | 0, _ => 0
  | n + 1, k => if FB r dm (r (6 + k)) o wo = -1 then ads r dm o wo n (k + 1) else FB r dm (r (6 + k)) o wo
def AD (r dm : Int → Int) (o wo : Int) : Int := ads r dm o wo (r 5).toNat 0
def ihP (r dm : Int → Int) (p k : Int) : Bool := ic r k p 0 && decide (dm k = 0)
def IH (r dm : Int → Int) (p : Int) : Int :=
  if ¬ r (260 + p) = -1 ∧ r (140 + r (260 + p)) = 0 ∧ dm (r (260 + p)) = 0 then r (260 + p) else if ff (ihP r dm p) (r 0).toNat 0 = -1 then up r p else ff (ihP r dm p) (r 0).toNat 0
def HO (r dm : Int → Int) (p d : Int) : Int :=
  if ¬ r (460 + 8 * p + d) = -1 ∧ r (140 + r (460 + 8 * p + d)) = 0 ∧ dm (r (460 + 8 * p + d)) = 0 then r (460 + 8 * p + d) else IH r dm p
/-- whom a rule can find -/
def Fnd (r dm : Int → Int) (o wo x : Int) : Prop := x = -1 ∨ (0 < x ∧ x < r 0 ∧ x ≠ wo ∧ canA r dm x o = true)
theorem opI_mul {x y : Int} : opI 0 x y = w32 (x * y) := by
  show (toI x * toI y).toInt = _
  rw [Int32.toInt_mul, toI_toInt, toI_toInt]
  unfold w32
  simp only [Int.bmod_def]
  have : ((x + 2147483648) % 4294967296 - 2147483648) * ((y + 2147483648) % 4294967296 - 2147483648) % 4294967296 = x * y % 4294967296 := by
    rw [Int.mul_emod, show ((x + 2147483648) % 4294967296 - 2147483648) % 4294967296 = x % 4294967296 by omega, show ((y + 2147483648) % 4294967296 - 2147483648) % 4294967296 = y % 4294967296 by omega, ← Int.mul_emod]
  generalize ((x + 2147483648) % 4294967296 - 2147483648) * ((y + 2147483648) % 4294967296 - 2147483648) = z at this ⊢
  generalize x * y = q at this ⊢
  omega
section MODEL2
variable {g : gH} {p a st o wo k x d : Int}
theorem nrs_f {r dm : Int → Int} (hcl : ∀ i, 0 < i → i < r 0 → 0 ≤ up r i ∧ up r i < r 0) : ∀ (n : Nat) (i : Int), 0 ≤ i → i < r 0 → Fnd r dm o wo (nrs r dm o wo n i) := by
  intro n
  induction n with
  | zero => intro i _ _; exact Or.inl rfl
  | succ n ih =>
    intro i h0 h1
    unfold nrs
    by_cases hi : i = 0
    · rw [if_pos hi]; exact Or.inl rfl
    · have := hcl i (by omega) h1
      rw [if_neg hi]
      split
      · exact ih _ this.1 this.2
      · split
        · next h2 h3 => exact Or.inr ⟨by omega, h1, h2, h3⟩
        · exact ih _ this.1 this.2
theorem vM_nearest_l (hs : MS g) (hb : WB (g 625)) (ho : 0 ≤ o ∧ o < g 625 0) : ∀ (m n : Nat) (i : Int), en (up (g 625)) m i = true → i < g 625 0 → m < n → lM_nearest_2 g 624 o wo n i = some (nrs (g 625) (g 630) o wo m i) := by
  have h0 := hs.1
  have hM := hb.1
  have hcl := hb.2.1
  intro m
  induction m with
  | zero =>
    intro n i hi _ hn
    obtain ⟨n, rfl⟩ : ∃ k, n = k + 1 := ⟨n - 1, by omega⟩
    have hi : i = 0 := by simpa [en] using hi
    show bM_nearest_2 g 624 o wo (lM_nearest_2 g 624 o wo n) i = _
    simp only [bM_nearest_2, hi, if_true, nrs]
  | succ m ih =>
    intro n i hi hiM hn
    obtain ⟨n, rfl⟩ : ∃ k, n = k + 1 := ⟨n - 1, by omega⟩
    show bM_nearest_2 g 624 o wo (lM_nearest_2 g 624 o wo n) i = _
    by_cases hz : i = 0
    · simp only [bM_nearest_2, hz, if_true, nrs]
    · rcases en_s.mp hi with h | ⟨h1, h2, h3⟩
      · exact absurd h hz
      · have hr := hcl i h1 hiM
        have hih := ih n (up (g 625) i) h3 hr.2 (by omega)
        have hih : lM_nearest_2 g 624 o wo n (g 625 (60 + i)) = some (nrs (g 625) (g 630) o wo m (up (g 625) i)) := hih
        have hca := vM_canAdopt hs hb (p := i) (o := o) (by omega) ho
        rw [bM_nearest_2, hca]
        simp (disch := omega) only [hz, if_false, h0, kd_625, sz_625, w32_r, true_and, if_pos, nrs, hih, bdP_s]
        split
        · rfl
        · cases canA (g 625) (g 630) i o <;> simp
theorem vM_nearest (hs : MS g) (hb : WB (g 625)) (ho : 0 ≤ o ∧ o < g 625 0) (hw : 0 ≤ wo ∧ wo < g 625 0) : fM_nearest g 624 o wo = some (nrs (g 625) (g 630) o wo 40 wo) := by
  rw [fM_nearest]
  exact vM_nearest_l hs hb ho 40 fu wo (hb.2.2.1 wo hw.1 hw.2) hw.2 (by have := fu_ge; omega)
theorem rmS_f {r dm : Int → Int} {og : Bool} {b : Int} (hk : 0 < k ∧ k < r 0) (hb : Fnd r dm o wo b) : Fnd r dm o wo (rmS r dm o wo og k b) := by
  unfold rmS
  split
  · exact hb
  · next h1 =>
    split
    · exact hb
    · split
      · next h3 =>
        have : Fnd r dm o wo k := Or.inr ⟨hk.1, hk.2, h1, h3⟩
        split
        · exact this
        · split
          · exact this
          · exact hb
      · exact hb
theorem vM_roomiest (hs : MS g) (hb : WB (g 625)) (ho : 0 ≤ o ∧ o < g 625 0) (og : Bool) : fM_roomiestFor g 624 o wo (if og then 1 else 0) = some (RM (g 625) (g 630) o wo og) ∧ Fnd (g 625) (g 630) o wo (RM (g 625) (g 630) o wo og) := by
  have h0 := hs.1
  have hM := hb.1
  have h := for_loop (L := fun n k b => lM_roomiestFor_6 g 624 o wo (if og then 1 else 0) n b k) (E := some) (rmS (g 625) (g 630) o wo og) (g 625 0) (fun k b => 1 ≤ k ∧ Fnd (g 625) (g 630) o wo b) (fun n k b hk hI => by
    obtain ⟨hk1, hF⟩ := hI
    refine ⟨?_, by omega, rmS_f ⟨by omega, hk⟩ hF⟩
    show bM_roomiestFor_6 g 624 o wo (if og then 1 else 0) (lM_roomiestFor_6 g 624 o wo (if og then 1 else 0) n) b k = lM_roomiestFor_6 g 624 o wo (if og then 1 else 0) n (rmS (g 625) (g 630) o wo og k b) (k + 1)
    have hca := vM_canAdopt hs hb (p := k) (o := o) (by omega) ho
    have hrk := vM_roomOf hs hb (p := k) (by omega)
    have hrb : b = -1 ∨ fM_roomOf g 624 b = some (room (g 625) b) := by
      rcases hF with h | ⟨h1, h2, -⟩
      · exact Or.inl h
      · exact Or.inr (vM_roomOf hs hb (p := b) (by omega))
    have hj : jM_roomiestFor_51 (lM_roomiestFor_6 g 624 o wo (if og then 1 else 0) n) g 624 o wo (if og then 1 else 0) b k = lM_roomiestFor_6 g 624 o wo (if og then 1 else 0) n (if canA (g 625) (g 630) k o = true then (if b = -1 then k else if room (g 625) b < room (g 625) k then k else b) else b) (k + 1) := by
      rw [jM_roomiestFor_51, hca]
      cases canA (g 625) (g 630) k o with
      | false => simp (disch := omega) only [Bool.false_eq_true, if_false, bdP_s, if_true, w32_r]
      | true =>
        simp (disch := omega) only [if_true, bdP_s, if_neg, w32_r]
        by_cases hb1 : b = -1
        · simp only [hb1, if_true]
        · rcases hrb with h | h
          · exact absurd h hb1
          · simp only [hb1, if_false, hrk, h, bdP_s]
            split <;> rfl
    rw [bM_roomiestFor_6, rmS]
    by_cases h1 : k = wo
    · simp (disch := omega) only [h0, kd_625, sz_625, true_and, if_pos, h1, if_true, w32_r]
    · cases og with
      | false =>
        simp only [Bool.false_eq_true, if_false] at hj
        simp (disch := omega) only [h0, kd_625, sz_625, true_and, if_pos, h1, if_false, if_true, w32_r, Bool.false_eq_true, false_and, hj, hk]
      | true =>
        simp only [if_true] at hj
        by_cases h2 : g 625 (180 + k) = g 625 (180 + o)
        · simp (disch := omega) only [h0, kd_625, sz_625, true_and, if_pos, h1, if_false, w32_r, if_true, h2, not_true, and_false, hj, hk, if_neg]
        · simp (disch := omega) only [h0, kd_625, sz_625, true_and, if_pos, h1, if_false, w32_r, if_true, h2, not_false_eq_true, and_true, hk, if_neg]) (fun n k b hk hI => by
    show bM_roomiestFor_6 g 624 o wo (if og then 1 else 0) (lM_roomiestFor_6 g 624 o wo (if og then 1 else 0) n) b k = some b
    rw [bM_roomiestFor_6]
    simp (disch := omega) only [h0, kd_625, sz_625, true_and, if_pos, if_neg]) (g 625 0 - 1).toNat 1 (-1) fu (by omega) (by have := fu_ge; omega) ⟨by omega, Or.inl rfl⟩
  exact ⟨h.1, h.2.2⟩
theorem vM_kinOf (hs : MS g) (hb : WB (g 625)) (ho : 0 ≤ o ∧ o < g 625 0) (hw : 0 ≤ wo ∧ wo < g 625 0) : fM_kinOf g 624 o wo = some (KN (g 625) (g 630) o wo) := by
  have h0 := hs.1
  have hM := hb.1
  rw [fM_kinOf, KN]
  by_cases hz : wo = 0
  · rw [if_pos hz, if_pos hz]
  · rw [if_neg hz, if_neg hz]
    exact find_loop (L := fun n k => lM_kinOf_8 g 624 o wo n k) (E := some) (knP (g 625) (g 630) o wo) (g 625 0) 1 (fun n k h1 h2 => by
      show bM_kinOf_8 g 624 o wo (lM_kinOf_8 g 624 o wo n) k = _
      have hca := vM_canAdopt hs hb (p := k) (o := o) (by omega) ho
      have hic := vM_isChild hs (p := k) (a := up (g 625) wo) (st := 0) (by omega)
      have hic : fM_isChild g 624 k (g 625 (60 + wo)) 0 = some (if ic (g 625) k (up (g 625) wo) 0 = true then 1 else 0) := hic
      rw [bM_kinOf_8, knP]
      simp (disch := omega) only [h0, kd_625, sz_625, true_and, if_pos, w32_r, hic, hca, bdP_s]
      by_cases h3 : k = wo
      · simp [h3]
      · cases ic (g 625) k (up (g 625) wo) 0 with
        | false => simp [h3]
        | true => cases canA (g 625) (g 630) k o <;> simp [h3]) (fun n k h1 h2 => by
      show bM_kinOf_8 g 624 o wo (lM_kinOf_8 g 624 o wo n) k = some (-1)
      rw [bM_kinOf_8]
      simp (disch := omega) only [h0, kd_625, sz_625, true_and, if_pos, if_neg]) (g 625 0 - 1).toNat 1 fu (by omega) (by omega) (by have := fu_ge; omega)
theorem vM_oldest (hs : MS g) (hb : WB (g 625)) (ho : 0 ≤ o ∧ o < g 625 0) : fM_oldest g 624 o wo = some (OL (g 625) (g 630) o wo) := by
  have h0 := hs.1
  have hM := hb.1
  rw [fM_oldest]
  exact find_loop (L := fun n k => lM_oldest_2 g 624 o wo n k) (E := some) (olP (g 625) (g 630) o wo) (g 625 0) 1 (fun n k h1 h2 => by
    show bM_oldest_2 g 624 o wo (lM_oldest_2 g 624 o wo n) k = _
    have hca := vM_canAdopt hs hb (p := k) (o := o) (by omega) ho
    rw [bM_oldest_2, olP]
    simp (disch := omega) only [h0, kd_625, sz_625, true_and, if_pos, w32_r, hca, bdP_s]
    by_cases h3 : k = wo
    · simp [h3]
    · cases canA (g 625) (g 630) k o <;> simp [h3]) (fun n k h1 h2 => by
    show bM_oldest_2 g 624 o wo (lM_oldest_2 g 624 o wo n) k = some (-1)
    rw [bM_oldest_2]
    simp (disch := omega) only [h0, kd_625, sz_625, true_and, if_pos, if_neg]) (g 625 0 - 1).toNat 1 fu (by omega) (by omega) (by have := fu_ge; omega)
theorem ff_f {r dm : Int → Int} {P : Int → Bool} (h : ∀ k, P k = true → k ≠ wo ∧ canA r dm k o = true) (hM : 1 ≤ r 0) : Fnd r dm o wo (ff P (r 0 - 1).toNat 1) := by
  rcases ff_spec P (r 0 - 1).toNat 1 with ⟨h1, -⟩ | ⟨h1, h2, h3, -⟩
  · exact Or.inl h1
  · exact Or.inr ⟨by omega, by omega, h _ h3⟩
theorem vM_findsBy (hs : MS g) (hb : WB (g 625)) (ho : 0 ≤ o ∧ o < g 625 0) (hw : 0 ≤ wo ∧ wo < g 625 0) : fM_findsBy g 624 x o wo = some (FB (g 625) (g 630) x o wo) ∧ Fnd (g 625) (g 630) o wo (FB (g 625) (g 630) x o wo) := by
  have hM := hb.1
  have r1 := vM_roomiest hs hb ho (wo := wo) true
  have r2 := vM_roomiest hs hb ho (wo := wo) false
  have e1 : fM_roomiestFor g 624 o wo 1 = some (RM (g 625) (g 630) o wo true) := r1.1
  have e2 : fM_roomiestFor g 624 o wo 0 = some (RM (g 625) (g 630) o wo false) := r2.1
  rw [fM_findsBy, FB, vM_nearest hs hb ho hw, e1, e2, vM_kinOf hs hb ho hw, vM_oldest hs hb ho]
  simp only [bdP_s]
  by_cases c0 : x = 0
  · simp only [c0, if_true]
    exact ⟨trivial, nrs_f (hb.2.1) 40 wo hw.1 hw.2⟩
  · by_cases c1 : x = 1
    · simp only [c0, c1, if_true, if_false]
      exact ⟨rfl, r1.2⟩
    · by_cases c2 : x = 2
      · simp only [c0, c1, c2, if_true, if_false]
        exact ⟨rfl, r2.2⟩
      · by_cases c3 : x = 3
        · subst c3
          simp only [show ¬ (3 : Int) = 0 by omega, show ¬ (3 : Int) = 1 by omega, show ¬ (3 : Int) = 2 by omega, if_true, if_false]
          refine ⟨trivial, ?_⟩
          unfold KN
          split
          · exact Or.inl rfl
          · refine ff_f (fun k hk => ?_) hM.1
            unfold knP at hk
            simp only [Bool.and_eq_true, Bool.not_eq_true', decide_eq_false_iff_not] at hk
            exact ⟨hk.1, hk.2.2⟩
        · simp only [c0, c1, c2, c3, if_false]
          refine ⟨trivial, ff_f (fun k hk => ?_) hM.1⟩
          unfold olP at hk
          simp only [Bool.and_eq_true, Bool.not_eq_true', decide_eq_false_iff_not] at hk
          exact hk
theorem vM_adopterOf (hs : MS g) (hb : WB (g 625)) (ho : 0 ≤ o ∧ o < g 625 0) (hw : 0 ≤ wo ∧ wo < g 625 0) : fM_adopterOf g 624 o wo = some (AD (g 625) (g 630) o wo) ∧ (AD (g 625) (g 630) o wo = 0 ∨ (0 < AD (g 625) (g 630) o wo ∧ AD (g 625) (g 630) o wo < g 625 0 ∧ AD (g 625) (g 630) o wo ≠ wo ∧ canA (g 625) (g 630) (AD (g 625) (g 630) o wo) o = true)) := by
  have h0 := hs.1
  have hR := hb.2.2.2.1
  have key : ∀ (m n : Nat) (k : Int), 0 ≤ k → (g 625 5 - k).toNat = m → m < n → lM_adopterOf_2 g 624 o wo n k = some (ads (g 625) (g 630) o wo m k) ∧ (ads (g 625) (g 630) o wo m k = 0 ∨ (0 < ads (g 625) (g 630) o wo m k ∧ ads (g 625) (g 630) o wo m k < g 625 0 ∧ ads (g 625) (g 630) o wo m k ≠ wo ∧ canA (g 625) (g 630) (ads (g 625) (g 630) o wo m k) o = true)) := by
    intro m
    induction m with
    | zero =>
      intro n k hk hm hn
      obtain ⟨n, rfl⟩ : ∃ q, n = q + 1 := ⟨n - 1, by omega⟩
      refine ⟨?_, Or.inl rfl⟩
      show bM_adopterOf_2 g 624 o wo (lM_adopterOf_2 g 624 o wo n) k = some 0
      rw [bM_adopterOf_2]
      simp (disch := omega) only [h0, kd_625, sz_625, true_and, if_pos, if_neg]
    | succ m ih =>
      intro n k hk hm hn
      obtain ⟨n, rfl⟩ : ∃ q, n = q + 1 := ⟨n - 1, by omega⟩
      obtain ⟨f1, f2⟩ := vM_findsBy hs hb ho hw (x := g 625 (6 + k))
      obtain ⟨i1, i2⟩ := ih n (k + 1) (by omega) (by omega) (by omega)
      have e1 : lM_adopterOf_2 g 624 o wo (n + 1) k = (if FB (g 625) (g 630) (g 625 (6 + k)) o wo = -1 then lM_adopterOf_2 g 624 o wo n (k + 1) else some (FB (g 625) (g 630) (g 625 (6 + k)) o wo)) := by
        show bM_adopterOf_2 g 624 o wo (lM_adopterOf_2 g 624 o wo n) k = _
        rw [bM_adopterOf_2]
        simp (disch := omega) only [h0, kd_625, sz_625, true_and, if_pos, w32_r, f1, bdP_s]
      rw [e1]
      unfold ads
      by_cases hf : FB (g 625) (g 630) (g 625 (6 + k)) o wo = -1
      · simp only [hf, if_true]
        exact ⟨i1, i2⟩
      · simp only [hf, if_false]
        refine ⟨trivial, ?_⟩
        rcases f2 with h | h
        · exact absurd h hf
        · exact Or.inr h
  rw [fM_adopterOf]
  exact key (g 625 5).toNat fu 0 (by omega) (by omega) (by have := fu_ge; omega)
theorem vM_inheritor (hs : MS g) (hb : WB (g 625)) (hp : 0 ≤ p ∧ p < g 625 0) : fM_inheritor g 624 p = some (IH (g 625) (g 630) p) := by
  have h0 := hs.1
  have h5 := hs.2.2.2.2.1
  have hM := hb.1
  have hh := hb.2.2.2.2.1 p hp.1 hp.2
  have hl : lM_inheritor_37 g 624 p fu 0 = some (if ff (ihP (g 625) (g 630) p) (g 625 0).toNat 0 = -1 then up (g 625) p else ff (ihP (g 625) (g 630) p) (g 625 0).toNat 0) :=
    find_loop (L := fun n k => lM_inheritor_37 g 624 p n k) (E := fun c => some (if c = -1 then up (g 625) p else c)) (ihP (g 625) (g 630) p) (g 625 0) 0 (fun n k h1 h2 => by
      show bM_inheritor_37 g 624 p (lM_inheritor_37 g 624 p n) k = _
      rw [bM_inheritor_37, vM_isChild hs (by omega), ihP]
      simp (disch := omega) only [h0, h5, kd_625, sz_625, kd_630, sz_630, true_and, if_pos, w32_r, bdP_s]
      cases ic (g 625) k p 0 with
      | false => simp
      | true =>
        by_cases h3 : g 630 k = 0
        · simp [h3]
          omega
        · simp [h3]) (fun n k h1 h2 => by
      show bM_inheritor_37 g 624 p (lM_inheritor_37 g 624 p n) k = _
      rw [bM_inheritor_37]
      simp (disch := omega) only [h0, kd_625, sz_625, true_and, if_pos, if_neg, w32_r, if_true]
      rfl) (g 625 0).toNat 0 fu (by omega) (by omega) (by have := fu_ge; omega)
  rw [fM_inheritor, IH, hl]
  by_cases c1 : g 625 (260 + p) = -1
  · simp (disch := omega) only [h0, kd_625, sz_625, true_and, if_pos, w32_r, c1, not_true, false_and, if_false, if_true]
  · have hr := vM_runs hs (p := g 625 (260 + p)) (by omega)
    by_cases c2 : g 625 (140 + g 625 (260 + p)) = 0
    · by_cases c3 : g 630 (g 625 (260 + p)) = 0
      · simp (disch := omega) only [h0, h5, kd_625, sz_625, kd_630, sz_630, true_and, if_pos, w32_r, c1, c2, c3, not_false_eq_true, and_self, if_true, if_false, hr, bdP_s, if_neg]
      · simp (disch := omega) only [h0, h5, kd_625, sz_625, kd_630, sz_630, true_and, if_pos, w32_r, c1, c2, c3, not_false_eq_true, and_self, and_false, if_true, if_false, hr, bdP_s, if_neg]
    · simp (disch := omega) only [h0, h5, kd_625, sz_625, kd_630, sz_630, true_and, if_pos, w32_r, c1, c2, not_false_eq_true, and_self, and_false, false_and, if_true, if_false, hr, bdP_s, if_neg]
theorem vM_heirOf (hs : MS g) (hb : WB (g 625)) (hp : 0 ≤ p ∧ p < g 625 0) (hd : 0 ≤ d ∧ d < 8) : fM_heirOf g 624 p d = some (HO (g 625) (g 630) p d) := by
  have h0 := hs.1
  have h5 := hs.2.2.2.2.1
  have hM := hb.1
  have hh := hb.2.2.2.2.2.1 p d hp.1 hp.2 hd.1 hd.2
  rw [fM_heirOf, HO, vM_inheritor hs hb hp]
  simp (disch := omega) only [opI_mul, h0, kd_625, sz_625, w32_r, true_and, if_pos]
  by_cases c1 : g 625 (460 + 8 * p + d) = -1
  · simp (disch := omega) only [c1, not_true, false_and, if_false, if_true, bdP_s]
  · have hr := vM_runs hs (p := g 625 (460 + 8 * p + d)) (by omega)
    by_cases c2 : g 625 (140 + g 625 (460 + 8 * p + d)) = 0
    · by_cases c3 : g 630 (g 625 (460 + 8 * p + d)) = 0
      · simp (disch := omega) only [h0, h5, kd_630, sz_630, true_and, if_pos, c1, c2, c3, not_false_eq_true, and_self, if_true, if_false, hr, bdP_s, if_neg]
      · simp (disch := omega) only [h0, h5, kd_630, sz_630, true_and, if_pos, c1, c2, c3, not_false_eq_true, and_self, and_false, if_true, if_false, hr, bdP_s, if_neg]
    · simp (disch := omega) only [h0, h5, kd_630, sz_630, true_and, if_pos, c1, c2, not_false_eq_true, and_self, and_false, false_and, if_true, if_false, hr, bdP_s, if_neg]
/-- who inherits is running, or the supervisor -/
theorem IH_f {r dm : Int → Int} (hb : WB r) (hp : 0 ≤ p ∧ p < r 0) : IH r dm p = up r p ∨ (0 ≤ IH r dm p ∧ IH r dm p < r 0 ∧ r (140 + IH r dm p) = 0) := by
  have hh := hb.2.2.2.2.1 p hp.1 hp.2
  have hM := hb.1
  unfold IH
  split
  · next h => exact Or.inr ⟨by omega, by omega, h.2.1⟩
  · split
    · exact Or.inl rfl
    · next h1 h2 =>
      rcases ff_spec (ihP r dm p) (r 0).toNat 0 with ⟨h3, -⟩ | ⟨h3, h4, h5, -⟩
      · exact absurd h3 h2
      · refine Or.inr ⟨h3, by omega, ?_⟩
        unfold ihP ic at h5
        simp only [Bool.and_eq_true, decide_eq_true_eq] at h5
        exact h5.1.1
theorem HO_f {r dm : Int → Int} (hb : WB r) (hp : 0 ≤ p ∧ p < r 0) (hd : 0 ≤ d ∧ d < 8) : HO r dm p d = up r p ∨ (0 ≤ HO r dm p d ∧ HO r dm p d < r 0 ∧ r (140 + HO r dm p d) = 0) := by
  have hh := hb.2.2.2.2.2.1 p d hp.1 hp.2 hd.1 hd.2
  unfold HO
  split
  · next h => exact Or.inr ⟨by omega, by omega, h.2.1⟩
  · exact IH_f hb hp
/-- the exits so far -/
def EX (r : Int → Int) : Prop := (0 ≤ r 1 ∧ r 1 ≤ 40) ∧ ∀ k, 0 ≤ k → k < r 1 → 0 ≤ r (19 + k) ∧ r (19 + k) < r 0
def FZ (r : Int → Int) (p : Int) : Int := if ff (fun k => ic r (r (19 + k)) p 1) (r 1).toNat 0 = -1 then -1 else r (19 + ff (fun k => ic r (r (19 + k)) p 1) (r 1).toNat 0)
theorem vM_firstZombie (hs : MS g) (hM : g 625 0 ≤ 40) (he : EX (g 625)) : fM_firstZombie g 624 p = some (FZ (g 625) p) := by
  have h0 := hs.1
  obtain ⟨h1, h2⟩ := he
  rw [fM_firstZombie]
  exact find_loop (L := fun n k => lM_firstZombie_2 g 624 p n k) (E := fun k => some (if k = -1 then -1 else g 625 (19 + k))) (fun k => ic (g 625) (g 625 (19 + k)) p 1) (g 625 1) 0 (fun n k k1 k2 => by
    show bM_firstZombie_2 g 624 p (lM_firstZombie_2 g 624 p n) k = _
    have := h2 k k1 k2
    rw [bM_firstZombie_2]
    simp (disch := omega) only [h0, kd_625, sz_625, true_and, if_pos, w32_r, vM_isChild hs (p := g 625 (19 + k)) (a := p) (st := 1), bdP_s]
    cases ic (g 625) (g 625 (19 + k)) p 1 with
    | false => simp
    | true =>
      simp (disch := omega) only [if_true, if_neg]) (fun n k k1 k2 => by
    show bM_firstZombie_2 g 624 p (lM_firstZombie_2 g 624 p n) k = _
    rw [bM_firstZombie_2]
    simp (disch := omega) only [h0, kd_625, sz_625, true_and, if_pos, if_neg, if_true]) (g 625 1).toNat 0 fu (by omega) (by omega) (by have := fu_ge; omega)
/-- what it finds -/
theorem FZ_f {r : Int → Int} (he : EX r) : FZ r p = -1 ∨ (0 ≤ FZ r p ∧ FZ r p < r 0 ∧ ic r (FZ r p) p 1 = true) := by
  unfold FZ
  split
  · exact Or.inl rfl
  · next h =>
    rcases ff_spec (fun k => ic r (r (19 + k)) p 1) (r 1).toNat 0 with ⟨h3, -⟩ | ⟨h3, h4, h5, -⟩
    · exact absurd h3 h
    · have := he.2 _ h3 (by omega)
      exact Or.inr ⟨this.1, this.2, h5⟩
end MODEL2
/-! ===== the reference's changes of its row (own work) ===== -/
theorem le_t {a b : Int} (h : a ≤ b) : (a ≤ b) = True := eq_true h
theorem lt_t {a b : Int} (h : a < b) : (a < b) = True := eq_true h
theorem lt_f {a b : Int} (h : ¬ a < b) : (a < b) = False := eq_false h
theorem le_f {a b : Int} (h : ¬ a ≤ b) : (a ≤ b) = False := eq_false h
theorem eq_t {a b : Int} (h : a = b) : (a = b) = True := eq_true h
theorem eq_f {a b : Int} (h : ¬ a = b) : (a = b) = False := eq_false h
def adR (r : Int → Int) (p o : Int) : Int → Int := u1 (u1 (u1 (u1 r (60 + o) p) (380 + o) (w32 (r (380 + o) + 1))) 2 (w32 (r 2 + 1))) 3 (w32 (r 3 + if p = 0 then 1 else 0))
theorem adR_n {r : Int → Int} {p o k : Int} (h : ¬ k = 3 ∧ ¬ k = 2 ∧ ¬ k = 380 + o ∧ ¬ k = 60 + o) : adR r p o k = r k := by
  unfold adR
  rw [u1_n h.1, u1_n h.2.1, u1_n h.2.2.1, u1_n h.2.2.2]
theorem adR_s {r : Int → Int} {p o : Int} (h : 0 ≤ o ∧ o < 40) : adR r p o (60 + o) = p := by
  unfold adR
  rw [u1_n (by omega), u1_n (by omega), u1_n (by omega), u1_s]
/-- a new one's row -/
def cmR (r : Int → Int) (a c gp b : Int) : Int → Int := fun k =>
  if k = 0 then r 0 + 1 else if 460 + 8 * r 0 ≤ k ∧ k < 468 + 8 * r 0 then -1 else if k = 420 + r 0 then -1 else if k = 380 + r 0 then 0 else if k = 340 + r 0 then 0 else if k = 300 + r 0 then -1 else if k = 260 + r 0 then -1 else if k = 220 + r 0 then b else if k = 180 + r 0 then gp else if k = 140 + r 0 then 0 else if k = 100 + r 0 then c else if k = 60 + r 0 then a else r k
section MODEL3
variable {g : gH} {p a st o wo k x d c gp b : Int}
theorem vM_adopts (hs : MS g) (ho : 0 ≤ o ∧ o < 40) : fM_adopts g 624 p o = some (0, sw g (adR (g 625) p o)) := by
  have h0 := hs.1
  simp (disch := omega) only [fM_adopts, h0, kd_625, sz_625, w32_r, true_and, le_t, lt_t, and_true, ↓bnd_s, pU_625, pU_sw, sw_sw, sw_s, sw_n, u1_n, u1_s, adR, if_true, ↓reduceIte]
  by_cases hp : p = 0
  · simp (disch := omega) only [hp, if_true, if_pos]
  · simp (disch := omega) only [hp, if_false, if_pos]
theorem MS_sw {r : Int → Int} (hs : MS g) : MS (sw g r) := by
  unfold MS at hs ⊢
  rw [sw_n (by omega)]
  exact hs
theorem MS_pU {v : Int} (hs : MS g) (ha : ¬ (624 : Int) = a) : MS (pU g a k v) := by
  unfold MS at hs ⊢
  rw [pU_n ha]
  exact hs
theorem vM_comes (hs : MS g) (hM : 0 ≤ g 625 0 ∧ g 625 0 < 40) : fM_comes g 624 a c gp b = some (g 625 0, sw g (cmR (g 625) a c gp b)) := by
  have h0 := hs.1
  simp (disch := omega) only [fM_comes, h0, kd_625, sz_625, w32_r, true_and, le_t, lt_t, and_true, ↓bnd_s, pU_625, pU_sw, sw_sw, sw_s, sw_n, u1_n, u1_s, ↓reduceIte]
  generalize hr : u1 (u1 (u1 (u1 (u1 (u1 (u1 (u1 (u1 (u1 (g 625) (60 + g 625 0) a) (100 + g 625 0) c) (140 + g 625 0) 0) (180 + g 625 0) gp) (220 + g 625 0) b) (260 + g 625 0) (-1)) (300 + g 625 0) (-1)) (340 + g 625 0) 0) (380 + g 625 0) 0) (420 + g 625 0) (-1) = r1
  have hr0 : r1 0 = g 625 0 := by
    rw [← hr]
    simp (disch := omega) only [u1_n]
  obtain ⟨s', e1, e2⟩ := for_some (L := fun n k r => lM_comes_130 624 (g 625 0) n k (sw g r)) (E := fun r => jM_comes_161 (sw g r) 624 (g 625 0)) 8 (fun k r => (0 ≤ k ∧ k ≤ 8) ∧ r = fun j => if 460 + 8 * g 625 0 ≤ j ∧ j < 460 + 8 * g 625 0 + k then -1 else r1 j) (fun n k r hk hI => by
    obtain ⟨hI, hI2⟩ := hI
    refine ⟨u1 r (460 + 8 * g 625 0 + k) (-1), ?_, by omega, ?_⟩
    · show bM_comes_130 624 (g 625 0) (lM_comes_130 624 (g 625 0) n) k (sw g r) = _
      rw [bM_comes_130]
      simp (disch := omega) only [opI_mul, sw_n, h0, kd_625, sz_625, w32_r, true_and, le_t, lt_t, and_true, ↓reduceIte, ↓bnd_s, pU_sw]
    · rw [hI2]
      funext j
      show (if j = 460 + 8 * g 625 0 + k then -1 else if 460 + 8 * g 625 0 ≤ j ∧ j < 460 + 8 * g 625 0 + k then -1 else r1 j) = _
      split
      · next h => rw [if_pos (by omega)]
      · next h =>
        by_cases h2 : 460 + 8 * g 625 0 ≤ j ∧ j < 460 + 8 * g 625 0 + k
        · rw [if_pos h2, if_pos (by omega)]
        · rw [if_neg h2, if_neg (by omega)]) (fun n k r hk hI => by
    show bM_comes_130 624 (g 625 0) (lM_comes_130 624 (g 625 0) n) k (sw g r) = _
    rw [bM_comes_130]
    simp (disch := omega) only [if_neg]) 8 0 r1 fu (by omega) (by have := fu_ge; omega) ⟨by omega, by
      funext j
      rw [if_neg (by omega)]⟩
  obtain ⟨e2, e3⟩ := e2
  have e4 : s' 0 = g 625 0 := by
    rw [e3]
    show (if 460 + 8 * g 625 0 ≤ 0 ∧ (0 : Int) < 460 + 8 * g 625 0 + max 0 8 then -1 else r1 0) = _
    rw [if_neg (by omega), hr0]
  rw [e1, jM_comes_161]
  simp (disch := omega) only [sw_n, h0, kd_625, sz_625, w32_r, true_and, le_t, lt_t, and_true, ↓reduceIte, ↓bnd_s, pU_sw, sw_s, e4]
  congr 3
  funext j
  rw [e3, ← hr]
  unfold cmR u1
  by_cases j0 : j = 0
  · rw [if_pos j0, if_pos j0]
  · rw [if_neg j0, if_neg j0]
    show (if 460 + 8 * g 625 0 ≤ j ∧ j < 460 + 8 * g 625 0 + max 0 8 then -1 else _) = _
    by_cases j1 : 460 + 8 * g 625 0 ≤ j ∧ j < 468 + 8 * g 625 0
    · rw [if_pos j1, if_pos (by omega)]
    · rw [if_neg j1, if_neg (by omega)]
/-- whether there is a replacement, and the row behind it -/
abbrev RPc (r dm : Int → Int) (p code : Int) : Prop := ¬ code = 0 ∧ dm (r (60 + p)) = 0 ∧ ¬ r (220 + r (60 + p)) = 0 ∧ ¬ r 0 = 40
def rpA (r : Int → Int) (p : Int) : Int → Int := u1 (u1 r (220 + r (60 + p)) (w32 (r (220 + r (60 + p)) - 1))) 4 (w32 (r 4 + 1))
def rpR (r : Int → Int) (p : Int) : Int → Int := u1 (cmR (rpA r p) (r (60 + p)) (rpA r p (100 + p)) (rpA r p (180 + p)) (rpA r p (220 + p))) (420 + p) (r 0)
theorem vM_replaces (hs : MS g) (hM : 1 ≤ g 625 0 ∧ g 625 0 ≤ 40) (hp : 0 ≤ p ∧ p < g 625 0) (hu : 0 ≤ g 625 (60 + p) ∧ g 625 (60 + p) < g 625 0) :
    (RPc (g 625) (g 630) p c → fM_replaces g 624 p c = some (g 625 0, sw (pU g 630 (g 625 0) 0) (rpR (g 625) p))) ∧ (¬ RPc (g 625) (g 630) p c → fM_replaces g 624 p c = some (-1, g)) := by
  have h0 := hs.1
  have h5 := hs.2.2.2.2.1
  rw [fM_replaces]
  unfold RPc
  by_cases c1 : c = 0
  · refine ⟨fun h => absurd c1 h.1, fun _ => ?_⟩
    simp (disch := omega) only [c1, h0, kd_625, sz_625, w32_r, true_and, le_t, lt_t, and_true, ↓reduceIte]
  · by_cases c2 : g 630 (g 625 (60 + p)) = 0
    · by_cases c3 : g 625 (220 + g 625 (60 + p)) = 0
      · refine ⟨fun h => absurd c3 h.2.2.1, fun _ => ?_⟩
        simp (disch := omega) only [c1, c2, c3, h0, h5, kd_625, sz_625, kd_630, sz_630, w32_r, true_and, le_t, lt_t, and_true, ↓reduceIte]
      · by_cases c4 : g 625 0 = 40
        · refine ⟨fun h => absurd c4 h.2.2.2, fun _ => ?_⟩
          simp (disch := omega) only [c1, c2, c3, h0, h5, kd_625, sz_625, kd_630, sz_630, w32_r, true_and, le_t, lt_t, and_true, ↓reduceIte]
          rw [if_pos c4]
        · refine ⟨fun _ => ?_, fun h => absurd ⟨c1, c2, c3, c4⟩ h⟩
          have hc := vM_comes (g := sw g (rpA (g 625) p)) (a := g 625 (60 + p)) (c := rpA (g 625) p (100 + p)) (gp := rpA (g 625) p (180 + p)) (b := rpA (g 625) p (220 + p)) (MS_sw hs) (by rw [sw_s, rpA, u1_n (by omega), u1_n (by omega)]; omega)
          rw [sw_s] at hc
          have e0 : rpA (g 625) p 0 = g 625 0 := by
            unfold rpA
            rw [u1_n (by omega), u1_n (by omega)]
          rw [e0, sw_sw] at hc
          simp (disch := omega) only [c1, c2, c3, c4, h0, h5, kd_625, sz_625, kd_630, sz_630, w32_r, true_and, le_t, lt_t, and_true, ↓reduceIte, ↓bnd_s, pU_625, pU_sw, sw_sw, sw_s, sw_n, u1_n]
          simp (disch := omega) only [rpA, u1_n] at hc
          rw [hc]
          simp (disch := omega) only [bdN_s, sw_n, h0, h5, kd_625, sz_625, kd_630, sz_630, w32_r, true_and, le_t, lt_t, and_true, ↓reduceIte, ↓bnd_s, pU_sw', pU_n, pU_sw, rpR, rpA, u1_n]
    · refine ⟨fun h => absurd h.2.1 c2, fun _ => ?_⟩
      simp (disch := omega) only [c1, c2, h0, h5, kd_625, sz_625, kd_630, sz_630, w32_r, true_and, le_t, lt_t, and_true, ↓reduceIte]
end MODEL3
/-! ===== the reference reads testaments (own work) ===== -/
def sm (P : Int → Bool) (v : Int → Int) : Nat → Int → Int
  | 0, _ => 0
  | m + 1, k => (if P k = true then v k else 0) + sm P v m (k + 1)
theorem sm_z {P : Int → Bool} {v : Int → Int} : ∀ (m : Nat) (k : Int), (∀ j, k ≤ j → j < k + m → P j = false) → sm P v m k = 0 := by
  intro m
  induction m with
  | zero => intro k _; rfl
  | succ m ih =>
    intro k h
    show (if P k = true then v k else 0) + sm P v m (k + 1) = 0
    rw [h k (by omega) (by omega), ih (k + 1) (fun j h1 h2 => h j (by omega) (by omega))]
    simp
theorem sm_bd {P : Int → Bool} {v : Int → Int} {B : Int} : ∀ (m : Nat) (k : Int), (∀ j, k ≤ j → j < k + m → P j = true → 0 ≤ v j ∧ v j ≤ B) → 0 ≤ B → 0 ≤ sm P v m k ∧ sm P v m k ≤ m * B := by
  intro m
  induction m with
  | zero => intro k _ hB; exact ⟨Int.le_refl _, by simp [sm]⟩
  | succ m ih =>
    intro k h hB
    have h1 := ih (k + 1) (fun j h1 h2 => h j (by omega) (by omega)) hB
    have h2 := h k (by omega) (by omega)
    have e : ((m + 1 : Nat) : Int) * B = m * B + B := by rw [Int.natCast_add, Int.add_mul]; simp
    show 0 ≤ (if P k = true then v k else 0) + sm P v m (k + 1) ∧ (if P k = true then v k else 0) + sm P v m (k + 1) ≤ ((m + 1 : Nat) : Int) * B
    rw [e]
    split
    · next hp => have := h2 hp; omega
    · omega
theorem sm_dn {P Q : Int → Bool} {v w : Int → Int} {p : Int} (hP : P p = true) (hQ : Q p = false) (h : ∀ j, j ≠ p → P j = Q j) (hv : ∀ j, v j = w j) : ∀ (m : Nat) (k : Int), sm P v m k = sm Q w m k + if k ≤ p ∧ p < k + m then v p else 0 := by
  intro m
  induction m with
  | zero => intro k; rw [if_neg (by omega)]; rfl
  | succ m ih =>
    intro k
    show (if P k = true then v k else 0) + sm P v m (k + 1) = (if Q k = true then w k else 0) + sm Q w m (k + 1) + _
    rw [ih (k + 1)]
    by_cases e : k = p
    · subst e
      have e1 : ¬ (k + 1 ≤ k ∧ k < k + 1 + (m : Int)) := by omega
      have e2 : k ≤ k ∧ k < k + ((m + 1 : Nat) : Int) := by omega
      rw [hP, hQ, if_neg e1, if_pos e2]
      simp
      omega
    · rw [h k e, hv k]
      by_cases h2 : k + 1 ≤ p ∧ p < k + 1 + m
      · have e2 : k ≤ p ∧ p < k + ((m + 1 : Nat) : Int) := by omega
        rw [if_pos h2, if_pos e2]
        omega
      · have e2 : ¬ (k ≤ p ∧ p < k + ((m + 1 : Nat) : Int)) := by omega
        rw [if_neg h2, if_neg e2]
        omega
/-- every one that has exited is in the list of exits -/
def EXL (r : Int → Int) : Prop := ∀ i, 0 ≤ i → i < r 0 → ¬ r (140 + i) = 0 → ∃ k, 0 ≤ k ∧ k < r 1 ∧ r (19 + k) = i
def SZ (r : Int → Int) (p : Int) : Int := sm (fun c => ic r c p 1) (fun c => r (300 + c)) (r 0).toNat 0
def rdR (r : Int → Int) (p : Int) : Int → Int := fun k => if 140 ≤ k ∧ k < 140 + r 0 ∧ ic r (k - 140) p 1 = true then 2 else r k
/-- codes of zombies -/
def CD (r : Int → Int) : Prop := ∀ i, 0 ≤ i → i < r 0 → r (140 + i) = 1 → 0 ≤ r (300 + i) ∧ r (300 + i) ≤ 255
theorem ic_u {r : Int → Int} {z c p : Int} (hc : 0 ≤ c ∧ c < 40) (hz : 0 ≤ z ∧ z < 40) : ic (u1 r (140 + z) 2) c p 1 = if c = z then false else ic r c p 1 := by
  unfold ic
  by_cases h : c = z
  · subst h
    rw [if_pos rfl, u1_s]
    simp
  · rw [if_neg h, u1_n (by omega), u1_n (by omega)]
section MODEL4
variable {g : gH} {p : Int}
theorem vM_reads_l (hs : MS g) : ∀ (m n : Nat) (r : Int → Int) (acc : Int), (1 ≤ r 0 ∧ r 0 ≤ 40) → EX r → EXL r → CD r → cn (fun c => ic r c p 1) (r 0).toNat 0 = m → m < n → 0 ≤ acc → acc + SZ r p ≤ 1000000 →
    lM_readsAll_8 624 p n acc (FZ r p) (sw g r) = some (acc + SZ r p, sw g (rdR r p)) := by
  have h0 := hs.1
  intro m
  induction m with
  | zero =>
    intro n r acc hM he hel hcd hm hn ha hab
    obtain ⟨n, rfl⟩ : ∃ k, n = k + 1 := ⟨n - 1, by omega⟩
    have hno : ∀ c, 0 ≤ c → c < r 0 → ic r c p 1 = false := by
      intro c c0 c1
      cases hc : ic r c p 1 with
      | false => rfl
      | true =>
        have := cn_lt (P := fun _ => false) (Q := fun c => ic r c p 1) (fun j z => by cases z) (p := c) rfl hc (r 0).toNat 0 (by omega) (by omega)
        have hb := (cn_bd (fun _ => false) (r 0).toNat 0).1
        omega
    have hz : FZ r p = -1 := by
      rcases FZ_f (p := p) he with h | ⟨h1, h2, h3⟩
      · exact h
      · rw [hno _ h1 h2] at h3; cases h3
    have hsz : SZ r p = 0 := sm_z _ _ (fun j h1 h2 => hno j h1 (by omega))
    have hrd : rdR r p = r := by
      funext k
      unfold rdR
      split
      · next h => rw [hno _ (by omega) (by omega)] at h; exact absurd h.2.2 (by simp)
      · rfl
    show bM_readsAll_8 624 p (lM_readsAll_8 624 p n) acc (FZ r p) (sw g r) = _
    rw [bM_readsAll_8, hz, hsz, hrd, if_pos rfl, Int.add_zero]
  | succ m ih =>
    intro n r acc hM he hel hcd hm hn ha hab
    obtain ⟨n, rfl⟩ : ∃ k, n = k + 1 := ⟨n - 1, by omega⟩
    rcases FZ_f (p := p) he with hz | ⟨z0, z1, z2⟩
    · exfalso
      have hno : ∀ c, 0 ≤ c → c < r 0 → ic r c p 1 = false := by
        intro c c0 c1
        cases hc : ic r c p 1 with
        | false => rfl
        | true =>
          exfalso
          have hst : ¬ r (140 + c) = 0 := by
            unfold ic at hc
            simp only [decide_eq_true_eq] at hc
            omega
          obtain ⟨k, k0, k1, k2⟩ := hel c c0 c1 hst
          unfold FZ at hz
          rcases ff_spec (fun k => ic r (r (19 + k)) p 1) (r 1).toNat 0 with ⟨f1, f2⟩ | ⟨f1, f2, f3, -⟩
          · have := f2 k k0 (by omega)
            simp only [k2] at this
            rw [hc] at this
            cases this
          · rw [if_neg (by omega)] at hz
            have := he.2 _ f1 (by omega)
            omega
      have h9 : cn (fun c => ic r c p 1) (r 0).toNat 0 = cn (fun _ => false) (r 0).toNat 0 := cn_congr _ _ (fun j j0 j1 => hno j j0 (by omega))
      have h8 : ∀ (q : Nat) (k : Int), cn (fun _ => false) q k = 0 := by
        intro q
        induction q with
        | zero => intro k; rfl
        | succ q ihq => intro k; rw [cn_s, ihq]; simp
      rw [h8] at h9
      omega
    · generalize FZ r p = z at z0 z1 z2 ⊢
      have hst : r (140 + z) = 1 := by
        unfold ic at z2
        simp only [decide_eq_true_eq] at z2
        exact z2.1
      have hcz := hcd z z0 z1 hst
      have hr0 : u1 r (140 + z) 2 0 = r 0 := u1_n (by omega)
      have hr1 : u1 r (140 + z) 2 1 = r 1 := u1_n (by omega)
      have hsm : SZ r p = SZ (u1 r (140 + z) 2) p + r (300 + z) := by
        unfold SZ
        rw [hr0]
        have := sm_dn (P := fun c => ic r c p 1) (Q := fun c => if c = z then false else ic r c p 1) (v := fun c => r (300 + c)) (w := fun c => r (300 + c)) (p := z) z2 (if_pos rfl) (fun j hj => (if_neg hj).symm) (fun j => rfl) (r 0).toNat 0
        rw [if_pos (by omega)] at this
        rw [this]
        congr 1
        have hg : ∀ (q : Nat) (k : Int), 0 ≤ k → k + q ≤ 40 → sm (fun c => if c = z then false else ic r c p 1) (fun c => r (300 + c)) q k = sm (fun c => ic (u1 r (140 + z) 2) c p 1) (fun c => u1 r (140 + z) 2 (300 + c)) q k := by
          intro q
          induction q with
          | zero => intro k _ _; rfl
          | succ q ihq =>
            intro k k0 k1
            show (if (if k = z then false else ic r k p 1) = true then r (300 + k) else 0) + _ = (if ic (u1 r (140 + z) 2) k p 1 = true then u1 r (140 + z) 2 (300 + k) else 0) + _
            rw [ihq (k + 1) (by omega) (by omega), ic_u (by omega) (by omega), u1_n (by omega)]
        exact hg _ _ (by omega) (by omega)
      have hcn : cn (fun c => ic (u1 r (140 + z) 2) c p 1) (r 0).toNat 0 = m := by
        have h1 : cn (fun c => ic (u1 r (140 + z) 2) c p 1) (r 0).toNat 0 = cn (fun c => if c = z then false else ic r c p 1) (r 0).toNat 0 := cn_congr _ _ (fun j j0 j1 => ic_u (by omega) (by omega))
        have h2 := cn_up (P := fun c => if c = z then false else ic r c p 1) (Q := fun c => ic r c p 1) (p := z) (if_pos rfl) z2 (fun j hj => if_neg hj) (r 0).toNat 0
        rw [if_pos (by omega)] at h2
        omega
      have hex : EX (u1 r (140 + z) 2) := by
        refine ⟨by rw [hr1]; exact he.1, fun k k0 k1 => ?_⟩
        rw [hr1] at k1
        rw [u1_n (by have := he.1; omega), hr0]
        exact he.2 k k0 k1
      have hel' : EXL (u1 r (140 + z) 2) := by
        intro i i0 i1 i2
        rw [hr0] at i1
        have : ¬ r (140 + i) = 0 := by
          by_cases e : i = z
          · rw [e, hst]; omega
          · rw [u1_n (by omega)] at i2; exact i2
        obtain ⟨k, k0, k1, k2⟩ := hel i i0 i1 this
        exact ⟨k, k0, by rw [hr1]; exact k1, by rw [u1_n (by have := he.1; omega)]; exact k2⟩
      have hcd' : CD (u1 r (140 + z) 2) := by
        intro i i0 i1 i2
        rw [hr0] at i1
        by_cases e : i = z
        · subst e
          rw [u1_s] at i2
          omega
        · rw [u1_n (by omega)] at i2
          rw [u1_n (by omega)]
          exact hcd i i0 i1 i2
      have hfz := vM_firstZombie (g := sw g (u1 r (140 + z) 2)) (p := p) (MS_sw hs) (by rw [sw_s, hr0]; omega) (by rw [sw_s]; exact hex)
      rw [sw_s] at hfz
      have hsz0 := sm_bd (P := fun c => ic (u1 r (140 + z) 2) c p 1) (v := fun c => u1 r (140 + z) 2 (300 + c)) (B := 255) (r 0).toNat 0 (fun j j0 j1 j2 => by
        have j3 : (ic (u1 r (140 + z) 2) j p 1) = true := j2
        unfold ic at j3
        simp only [decide_eq_true_eq] at j3
        exact hcd' j j0 (by omega) j3.1) (by omega)
      have hsz0 : 0 ≤ SZ (u1 r (140 + z) 2) p := by
        unfold SZ
        rw [hr0]
        exact hsz0.1
      have ih' := ih n (u1 r (140 + z) 2) (acc + r (300 + z)) (by rw [hr0]; exact hM) hex hel' hcd' (by rw [hr0]; exact hcn) (by omega) (by omega) (by omega)
      show bM_readsAll_8 624 p (lM_readsAll_8 624 p n) acc z (sw g r) = _
      rw [bM_readsAll_8]
      simp (disch := omega) only [eq_f, ↓reduceIte, sw_n, h0, kd_625, sz_625, w32_r, true_and, le_t, lt_t, and_true, ↓bnd_s, pU_sw, hfz, bdP_s, sw_s, u1_n]
      rw [ih']
      congr 2
      · omega
      · congr 1
        funext k
        unfold rdR
        rw [hr0]
        by_cases hk : 140 ≤ k ∧ k < 140 + r 0
        · rw [ic_u (c := k - 140) (by omega) (by omega)]
          by_cases e : k = 140 + z
          · subst e
            have e2 : 140 + z - 140 = z := by omega
            rw [e2, u1_s, z2]
            simp
            intro h9
            have := h9 (by omega)
            omega
          · rw [u1_n e, if_neg (show ¬ k - 140 = z by omega)]
        · rw [if_neg (fun h => hk ⟨h.1, h.2.1⟩), if_neg (fun h => hk ⟨h.1, h.2.1⟩), u1_n (by omega)]
theorem vM_readsAll {r : Int → Int} (hs : MS g) (hM : 1 ≤ r 0 ∧ r 0 ≤ 40) (he : EX r) (hel : EXL r) (hcd : CD r) : fM_readsAll (sw g r) 624 p = some (SZ r p, sw g (rdR r p)) ∧ 0 ≤ SZ r p ∧ SZ r p ≤ 10200 := by
  have hsz0 := sm_bd (P := fun c => ic r c p 1) (v := fun c => r (300 + c)) (B := 255) (r 0).toNat 0 (fun j j0 j1 j2 => by
    have j3 : (ic r j p 1) = true := j2
    unfold ic at j3
    simp only [decide_eq_true_eq] at j3
    exact hcd j j0 (by omega) j3.1) (by omega)
  have hsz0 : 0 ≤ SZ r p ∧ SZ r p ≤ ((r 0).toNat : Int) * 255 := hsz0
  have hb : ((r 0).toNat : Int) * 255 ≤ 10200 := by omega
  refine ⟨?_, hsz0.1, by omega⟩
  have hfz := vM_firstZombie (g := sw g r) (p := p) (MS_sw hs) (by rw [sw_s]; omega) (by rw [sw_s]; exact he)
  rw [sw_s] at hfz
  have hc := cn_bd (fun c => ic r c p 1) (r 0).toNat 0
  have := vM_reads_l (p := p) hs (cn (fun c => ic r c p 1) (r 0).toNat 0).toNat fu r 0 hM he hel hcd (by omega) (by have := fu_ge; omega) (by omega) (by omega)
  rw [fM_readsAll, hfz, bdP_s, this, Int.zero_add]
end MODEL4
/-! ===== the reference lets a process exit (own work) ===== -/
def ex1 (r : Int → Int) (p code : Int) : Int → Int := u1 (u1 (u1 (u1 r (140 + p) 1) (300 + p) code) (19 + r 1) p) 1 (r 1 + 1)
def exq (r dm : Int → Int) (p code : Int) : Int := if RPc r dm p code then r 0 else -1
def ex2 (r dm : Int → Int) (p code : Int) : Int → Int := if RPc r dm p code then rpR r p else r
def exd (r dm : Int → Int) (p code : Int) : Int → Int := if RPc r dm p code then u1 dm (r 0) 0 else dm
def dutS (dm : Int → Int) (p q k : Int) (r : Int → Int) : Int → Int := if r (11 + k) = p then u1 r (11 + k) (if q = -1 then HO r dm p k else q) else r
def orpS (dm : Int → Int) (p q c : Int) (r : Int → Int) : Int → Int := if ic r c p 0 = true then adR r (if ¬ q = -1 ∧ 0 < room r q then q else AD r dm c p) c else r
def zomS (p s c : Int) (r : Int → Int) : Int → Int := if ic r c p 1 = true then u1 r (60 + c) s else r
/-- states, supervisors, exits, holders, codes, budgets -/
def SR (r : Int → Int) : Prop := ∀ i, 0 < i → i < r 0 → ¬ r (140 + i) = 2 → r (140 + r (60 + i)) = 0
def STT (r : Int → Int) : Prop := (∀ i, 0 ≤ i → i < r 0 → r (140 + i) = 0 ∨ r (140 + i) = 1 ∨ r (140 + i) = 2) ∧ r 140 = 0
def NX (r : Int → Int) : Prop := r 1 = cn (fun i => !decide (r (140 + i) = 0)) (r 0).toNat 0
def HD (r : Int → Int) : Prop := ∀ d, 0 ≤ d → d < 8 → 0 ≤ r (11 + d) ∧ r (11 + d) < r 0 ∧ r (140 + r (11 + d)) = 0
def BU (r : Int → Int) : Prop := ∀ i, 0 ≤ i → i < r 0 → 0 ≤ r (220 + i) ∧ r (220 + i) ≤ 9
def WF (r : Int → Int) : Prop := STT r ∧ SR r ∧ EX r ∧ EXL r ∧ NX r ∧ HD r ∧ CD r ∧ BU r
/-! WB is kept by a change of other places, by an adoption, by one that comes -/
theorem WB_eq {r r' : Int → Int} (h : WB r) (he : ∀ k, k = 0 ∨ k = 5 ∨ (60 ≤ k ∧ k < 140) ∨ (260 ≤ k ∧ k < 300) ∨ (460 ≤ k ∧ k < 780) → r' k = r k) : WB r' := by
  obtain ⟨h1, h2, h3, h4, h5, h6, h7⟩ := h
  have e0 : r' 0 = r 0 := he 0 (by omega)
  refine ⟨by rw [e0]; exact h1, ?_, ?_, by rw [he 5 (by omega)]; exact h4, ?_, ?_, ?_⟩
  · intro i i0 i1
    rw [e0] at i1 ⊢
    rw [he _ (by omega)]
    exact h2 i i0 i1
  · rw [e0]
    exact acy_ext h3 h2 (fun i i0 i1 => he _ (by omega))
  · intro i i0 i1
    rw [e0] at i1 ⊢
    rw [he _ (by omega)]
    exact h5 i i0 i1
  · intro i d i0 i1 d0 d1
    rw [e0] at i1 ⊢
    rw [he _ (by omega)]
    exact h6 i d i0 i1 d0 d1
  · intro i i0 i1
    rw [e0] at i1
    rw [he _ (by omega)]
    exact h7 i i0 i1
theorem WB_sup {r r' : Int → Int} {c s : Int} (h : WB r) (hc : 0 < c ∧ c < r 0) (hs : 0 ≤ s ∧ s < r 0) (hsc : s ≠ c) (ho : OV (up r) c s = false) (hk : r' (60 + c) = s) (he : ∀ k, k = 0 ∨ k = 5 ∨ (60 ≤ k ∧ k < 140 ∧ ¬ k = 60 + c) ∨ (260 ≤ k ∧ k < 300) ∨ (460 ≤ k ∧ k < 780) → r' k = r k) : WB r' := by
  obtain ⟨h1, h2, h3, h4, h5, h6, h7⟩ := h
  have e0 : r' 0 = r 0 := he 0 (by omega)
  have hu : ∀ i, 0 < i → i < r 0 → up r' i = u1 (up r) c s i := by
    intro i i0 i1
    by_cases e : i = c
    · subst e; rw [u1_s]; exact hk
    · rw [u1_n e]; exact he _ (by omega)
  have hcl : ∀ i, 0 < i → i < r 0 → 0 ≤ u1 (up r) c s i ∧ u1 (up r) c s i < r 0 := by
    intro i i0 i1
    by_cases e : i = c
    · subst e; rw [u1_s]; exact hs
    · rw [u1_n e]; exact h2 i i0 i1
  refine ⟨by rw [e0]; exact h1, ?_, ?_, by rw [he 5 (by omega)]; exact h4, ?_, ?_, ?_⟩
  · intro i i0 i1
    rw [e0] at i1 ⊢
    have := hu i i0 i1
    have e : up r' i = r' (60 + i) := rfl
    rw [← e, this]
    exact hcl i i0 i1
  · rw [e0]
    exact acy_ext (acy_u1 h3 (by omega) hc hs hsc ho) hcl hu
  · intro i i0 i1
    rw [e0] at i1 ⊢
    rw [he _ (by omega)]
    exact h5 i i0 i1
  · intro i d i0 i1 d0 d1
    rw [e0] at i1 ⊢
    rw [he _ (by omega)]
    exact h6 i d i0 i1 d0 d1
  · intro i i0 i1
    rw [e0] at i1
    rw [he _ (by omega)]
    exact h7 i i0 i1
theorem cmR_0 {r : Int → Int} {a c gp b : Int} : cmR r a c gp b 0 = r 0 + 1 := if_pos rfl
theorem cmR_o {r : Int → Int} {a c gp b k : Int} (hM : 1 ≤ r 0 ∧ r 0 < 40) (h : ¬ k = 0 ∧ ¬ (460 + 8 * r 0 ≤ k ∧ k < 468 + 8 * r 0) ∧ ¬ k = 420 + r 0 ∧ ¬ k = 380 + r 0 ∧ ¬ k = 340 + r 0 ∧ ¬ k = 300 + r 0 ∧ ¬ k = 260 + r 0 ∧ ¬ k = 220 + r 0 ∧ ¬ k = 180 + r 0 ∧ ¬ k = 140 + r 0 ∧ ¬ k = 100 + r 0 ∧ ¬ k = 60 + r 0) : cmR r a c gp b k = r k := by
  unfold cmR
  rw [if_neg h.1, if_neg h.2.1, if_neg h.2.2.1, if_neg h.2.2.2.1, if_neg h.2.2.2.2.1, if_neg h.2.2.2.2.2.1, if_neg h.2.2.2.2.2.2.1, if_neg h.2.2.2.2.2.2.2.1, if_neg h.2.2.2.2.2.2.2.2.1, if_neg h.2.2.2.2.2.2.2.2.2.1, if_neg h.2.2.2.2.2.2.2.2.2.2.1, if_neg h.2.2.2.2.2.2.2.2.2.2.2]
theorem cmR_n {r : Int → Int} {a c gp b : Int} (hM : 1 ≤ r 0 ∧ r 0 < 40) : cmR r a c gp b (60 + r 0) = a ∧ cmR r a c gp b (100 + r 0) = c ∧ cmR r a c gp b (140 + r 0) = 0 ∧ cmR r a c gp b (180 + r 0) = gp ∧ cmR r a c gp b (220 + r 0) = b ∧ cmR r a c gp b (260 + r 0) = -1 := by
  unfold cmR
  refine ⟨?_, ?_, ?_, ?_, ?_, ?_⟩
  · simp (disch := omega) only [eq_f, le_f, false_and, ↓reduceIte]
  · simp (disch := omega) only [eq_f, le_f, false_and, ↓reduceIte]
  · simp (disch := omega) only [eq_f, le_f, false_and, ↓reduceIte]
  · simp (disch := omega) only [eq_f, le_f, false_and, ↓reduceIte]
  · simp (disch := omega) only [eq_f, le_f, false_and, ↓reduceIte]
  · simp (disch := omega) only [eq_f, le_f, false_and, ↓reduceIte]
theorem WB_cm {r : Int → Int} {a c gp b : Int} (h : WB r) (hM : r 0 < 40) (ha : 0 ≤ a ∧ a < r 0) (hc : 0 ≤ c ∧ c ≤ 9) : WB (cmR r a c gp b) := by
  obtain ⟨h1, h2, h3, h4, h5, h6, h7⟩ := h
  have hM' : 1 ≤ r 0 ∧ r 0 < 40 := ⟨h1.1, hM⟩
  obtain ⟨n1, n2, n3, n4, n5, n6⟩ := cmR_n (a := a) (c := c) (gp := gp) (b := b) hM'
  have hu : ∀ i, 0 < i → i < r 0 + 1 → up (cmR r a c gp b) i = u1 (up r) (r 0) a i := by
    intro i i0 i1
    by_cases e : i = r 0
    · rw [e, u1_s]; exact n1
    · rw [u1_n e]; exact cmR_o hM' (by omega)
  have hcl : ∀ i, 0 < i → i < r 0 + 1 → 0 ≤ u1 (up r) (r 0) a i ∧ u1 (up r) (r 0) a i < r 0 + 1 := by
    intro i i0 i1
    by_cases e : i = r 0
    · rw [e, u1_s]; omega
    · rw [u1_n e]; have := h2 i i0 (by omega); exact ⟨this.1, by have := this.2; exact Int.lt_trans this (by omega)⟩
  refine ⟨by rw [cmR_0]; omega, ?_, ?_, by rw [cmR_o hM' (by omega)]; exact h4, ?_, ?_, ?_⟩
  · intro i i0 i1
    rw [cmR_0] at i1 ⊢
    have := hu i i0 i1
    have e : up (cmR r a c gp b) i = cmR r a c gp b (60 + i) := rfl
    rw [← e, this]
    exact hcl i i0 i1
  · rw [cmR_0]
    exact acy_ext (acy_new h3 (by omega) ha h2) hcl hu
  · intro i i0 i1
    rw [cmR_0] at i1 ⊢
    by_cases e : i = r 0
    · rw [e, n6]; omega
    · rw [cmR_o hM' (by omega)]; have := h5 i i0 (by omega); omega
  · intro i d i0 i1 d0 d1
    rw [cmR_0] at i1 ⊢
    by_cases e : i = r 0
    · rw [e, show cmR r a c gp b (460 + 8 * r 0 + d) = -1 by
        unfold cmR
        rw [if_neg (by omega), if_pos (by omega)]]
      omega
    · rw [cmR_o hM' (by omega)]; have := h6 i d i0 (by omega) d0 d1; omega
  · intro i i0 i1
    rw [cmR_0] at i1
    by_cases e : i = r 0
    · rw [e, n2]; exact hc
    · rw [cmR_o hM' (by omega)]; exact h7 i i0 (by omega)
