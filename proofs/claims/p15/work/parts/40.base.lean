/-! ===== what the functions tell: beginnings (own work) ===== -/
theorem w32_r {x : Int} (h : -2147483648 ≤ x ∧ x < 2147483648) : w32 x = x := w32_id h
theorem bdP_s {β : Type} {v : Int} {k : Int → Option β} : bdP (some v) k = k v := rfl
theorem bdN_s {β : Type} {v : Int} {g : gH} {k : Int → gH → Option β} : bdN (some (v, g)) k = k v g := rfl
theorem bdQ_0 {β : Type} {v : Int} {k : Int → Option β} {h : Nat → Option β} : bdQ (some (0, v)) k h = k v := rfl
theorem bdQ_e {β : Type} {e : Nat} {v : Int} {k : Int → Option β} {h : Nat → Option β} : bdQ (some (e + 1, v)) k h = h e := rfl
theorem bdT_0 {β : Type} {v : Int} {g : gH} {k : Int → gH → Option β} {h : Nat → gH → Option β} : bdT (some (0, (v, g))) k h = k v g := rfl
theorem bdT_e {β : Type} {e : Nat} {v : Int} {g : gH} {k : Int → gH → Option β} {h : Nat → gH → Option β} : bdT (some (e + 1, (v, g))) k h = h e g := rfl
theorem bnd_s {α β : Type} {x : α} {k : α → β} : bnd x k = k x := rfl
def u1 (r : Int → Int) (k v : Int) : Int → Int := fun y => if y = k then v else r y
theorem u1_s {r : Int → Int} {k v : Int} : u1 r k v k = v := if_pos rfl
theorem u1_n {r : Int → Int} {k v y : Int} (h : ¬ y = k) : u1 r k v y = r y := if_neg h
theorem pU_s {g : gH} {a b v : Int} : pU g a b v a = u1 (g a) b v := by
  funext y
  unfold pU u1
  by_cases h : y = b
  · rw [if_pos ⟨rfl, h⟩, if_pos h]
  · rw [if_neg (fun z => h z.2), if_neg h]
theorem pU_n {g : gH} {a b v x : Int} (h : ¬ x = a) : pU g a b v x = g x := by
  funext y
  unfold pU
  rw [if_neg (fun z => h z.1)]
/-- the model's row set -/
def sw (g : gH) (r : Int → Int) : gH := fun x => if x = 625 then r else g x
theorem sw_s {g : gH} {r : Int → Int} : sw g r 625 = r := if_pos rfl
theorem sw_n {g : gH} {r : Int → Int} {x : Int} (h : ¬ x = 625) : sw g r x = g x := if_neg h
theorem sw_sw {g : gH} {r r' : Int → Int} : sw (sw g r) r' = sw g r' := by
  funext x
  unfold sw
  split <;> rfl
theorem sw_id {g : gH} : sw g (g 625) = g := by
  funext x
  unfold sw
  split
  · next h => rw [h]
  · rfl
theorem pU_sw {g : gH} {r : Int → Int} {k v : Int} : pU (sw g r) 625 k v = sw g (u1 r k v) := by
  funext x
  by_cases h : x = 625
  · subst h
    rw [pU_s, sw_s, sw_s]
  · rw [pU_n h, sw_n h, sw_n h]
theorem pU_625 {g : gH} {k v : Int} : pU g 625 k v = sw g (u1 (g 625) k v) := by
  rw [← pU_sw, sw_id]
theorem pU_sw' {g : gH} {r : Int → Int} {a k v : Int} (h : ¬ a = 625) : pU (sw g r) a k v = sw (pU g a k v) r := by
  funext x
  by_cases h2 : x = 625
  · subst h2
    rw [pU_n (fun z => h z.symm), sw_s, sw_s]
  · by_cases h3 : x = a
    · subst h3
      rw [pU_s, sw_n h2, sw_n h2, pU_s]
    · rw [pU_n h3, sw_n h2, sw_n h2, pU_n h3]
theorem kd_625 : kd 625 = 20 := by decide +kernel
theorem kd_627 : kd 627 = 20 := by decide +kernel
theorem kd_628 : kd 628 = 20 := by decide +kernel
theorem kd_629 : kd 629 = 20 := by decide +kernel
theorem kd_630 : kd 630 = 22 := by decide +kernel
theorem kd_631 : kd 631 = 20 := by decide +kernel
theorem kd_632 : kd 632 = 20 := by decide +kernel
theorem kd_633 : kd 633 = 20 := by decide +kernel
theorem kd_634 : kd 634 = 20 := by decide +kernel
theorem sz_625 : sz 625 = 780 := by decide +kernel
theorem sz_627 : sz 627 = 780 := by decide +kernel
theorem sz_628 : sz 628 = 780 := by decide +kernel
theorem sz_629 : sz 629 = 7800 := by decide +kernel
theorem sz_630 : sz 630 = 40 := by decide +kernel
theorem sz_631 : sz 631 = 500 := by decide +kernel
theorem sz_632 : sz 632 = 4 := by decide +kernel
theorem sz_633 : sz 633 = 40 := by decide +kernel
theorem sz_634 : sz 634 = 400 := by decide +kernel
theorem fu_ge : 9000 < fu := by unfold fu; omega
/-- the model's own cells -/
def MS (g : gH) : Prop := g 624 0 = 625 ∧ g 624 2 = 627 ∧ g 624 3 = 628 ∧ g 624 4 = 629 ∧ g 624 5 = 630 ∧ g 624 9 = 631 ∧ g 624 20 = 632 ∧ g 624 21 = 633 ∧ g 624 22 = 634 ∧ g 624 1 = 626
/-! loops: m rounds of f from k on -/
def fd {S : Type} (f : Int → S → S) : Nat → Int → S → S
  | 0, _, s => s
  | m + 1, k, s => fd f m (k + 1) (f k s)
theorem for_loop {S R : Type} {L : Nat → Int → S → R} {E : S → R} (f : Int → S → S) (hi : Int) (I : Int → S → Prop)
    (hstep : ∀ n k s, k < hi → I k s → L (n + 1) k s = L n (k + 1) (f k s) ∧ I (k + 1) (f k s)) (hend : ∀ n k s, ¬ k < hi → I k s → L (n + 1) k s = E s) :
    ∀ (m : Nat) (k : Int) (s : S) (n : Nat), (hi - k).toNat = m → m < n → I k s → L n k s = E (fd f m k s) ∧ I (max k hi) (fd f m k s) := by
  intro m
  induction m with
  | zero =>
    intro k s n hm hn hI
    cases n with
    | zero => exact absurd hn (by omega)
    | succ n => exact ⟨hend n k s (by omega) hI, by rw [Int.max_eq_left (by omega)]; exact hI⟩
  | succ m ih =>
    intro k s n hm hn hI
    cases n with
    | zero => exact absurd hn (by omega)
    | succ n =>
      obtain ⟨h1, h2⟩ := hstep n k s (by omega) hI
      obtain ⟨h3, h4⟩ := ih (k + 1) (f k s) n (by omega) (by omega) h2
      refine ⟨h1.trans h3, ?_⟩
      rw [show max k hi = max (k + 1) hi by omega]
      exact h4
/-- the same, where only an end is wanted -/
theorem for_some {S R : Type} {L : Nat → Int → S → Option R} {E : S → Option R} (hi : Int) (I : Int → S → Prop)
    (hstep : ∀ n k s, k < hi → I k s → ∃ s', L (n + 1) k s = L n (k + 1) s' ∧ I (k + 1) s') (hend : ∀ n k s, ¬ k < hi → I k s → L (n + 1) k s = E s) :
    ∀ (m : Nat) (k : Int) (s : S) (n : Nat), (hi - k).toNat = m → m < n → I k s → ∃ s', L n k s = E s' ∧ I (max k hi) s' := by
  intro m
  induction m with
  | zero =>
    intro k s n hm hn hI
    cases n with
    | zero => exact absurd hn (by omega)
    | succ n => exact ⟨s, hend n k s (by omega) hI, by rw [Int.max_eq_left (by omega)]; exact hI⟩
  | succ m ih =>
    intro k s n hm hn hI
    cases n with
    | zero => exact absurd hn (by omega)
    | succ n =>
      obtain ⟨s1, h1, h2⟩ := hstep n k s (by omega) hI
      obtain ⟨s', h3, h4⟩ := ih (k + 1) s1 n (by omega) (by omega) h2
      exact ⟨s', h1.trans h3, by rw [show max k hi = max (k + 1) hi by omega]; exact h4⟩
/-- the first from k on, -1 without one -/
def ff (P : Int → Bool) : Nat → Int → Int
  | 0, _ => -1
  | m + 1, k => if P k then k else ff P m (k + 1)
theorem ff_spec (P : Int → Bool) : ∀ (m : Nat) (k : Int), (ff P m k = -1 ∧ ∀ j, k ≤ j → j < k + m → P j = false) ∨ (k ≤ ff P m k ∧ ff P m k < k + m ∧ P (ff P m k) = true ∧ ∀ j, k ≤ j → j < ff P m k → P j = false) := by
  intro m
  induction m with
  | zero => intro k; exact Or.inl ⟨rfl, fun j h1 h2 => absurd h1 (by omega)⟩
  | succ m ih =>
    intro k
    unfold ff
    cases hk : P k with
    | true => exact Or.inr ⟨by rw [if_pos rfl]; omega, by rw [if_pos rfl]; omega, by rw [if_pos rfl]; exact hk, fun j h1 h2 => by rw [if_pos rfl] at h2; omega⟩
    | false =>
      rw [if_neg (by simp)]
      rcases ih (k + 1) with ⟨h1, h2⟩ | ⟨h1, h2, h3, h4⟩
      · refine Or.inl ⟨h1, fun j j1 j2 => ?_⟩
        by_cases e : j = k
        · rw [e]; exact hk
        · exact h2 j (by omega) (by omega)
      · refine Or.inr ⟨by omega, by omega, h3, fun j j1 j2 => ?_⟩
        by_cases e : j = k
        · rw [e]; exact hk
        · exact h4 j (by omega) j2
theorem find_loop {R : Type} {L : Nat → Int → R} {E : Int → R} (P : Int → Bool) (hi : Int) (lo : Int)
    (hstep : ∀ n k, lo ≤ k → k < hi → L (n + 1) k = if P k then E k else L n (k + 1)) (hend : ∀ n k, lo ≤ k → ¬ k < hi → L (n + 1) k = E (-1)) :
    ∀ (m : Nat) (k : Int) (n : Nat), lo ≤ k → (hi - k).toNat = m → m < n → L n k = E (ff P m k) := by
  intro m
  induction m with
  | zero =>
    intro k n h0 hm hn
    cases n with
    | zero => exact absurd hn (by omega)
    | succ n => exact hend n k h0 (by omega)
  | succ m ih =>
    intro k n h0 hm hn
    cases n with
    | zero => exact absurd hn (by omega)
    | succ n =>
      rw [hstep n k h0 (by omega)]
      unfold ff
      split
      · rfl
      · exact ih (k + 1) n (by omega) (by omega) (by omega)
/-- how many from k on -/
def cn (P : Int → Bool) : Nat → Int → Int
  | 0, _ => 0
  | m + 1, k => (if P k then 1 else 0) + cn P m (k + 1)
theorem cn_bd (P : Int → Bool) : ∀ (m : Nat) (k : Int), 0 ≤ cn P m k ∧ cn P m k ≤ m := by
  intro m
  induction m with
  | zero => intro k; exact ⟨Int.le_refl _, Int.le_refl _⟩
  | succ m ih =>
    intro k
    have := ih (k + 1)
    unfold cn
    split <;> omega
theorem cn_congr {P Q : Int → Bool} : ∀ (m : Nat) (k : Int), (∀ j, k ≤ j → j < k + m → P j = Q j) → cn P m k = cn Q m k := by
  intro m
  induction m with
  | zero => intro k _; rfl
  | succ m ih =>
    intro k h
    unfold cn
    rw [h k (by omega) (by omega), ih (k + 1) (fun j h1 h2 => h j (by omega) (by omega))]
theorem cn_s (P : Int → Bool) (m : Nat) (k : Int) : cn P (m + 1) k = (if P k = true then 1 else 0) + cn P m (k + 1) := rfl
/-- one place changed from false to true -/
theorem cn_up {P Q : Int → Bool} {p : Int} (hP : P p = false) (hQ : Q p = true) (h : ∀ j, j ≠ p → P j = Q j) : ∀ (m : Nat) (k : Int), cn Q m k = cn P m k + if k ≤ p ∧ p < k + m then 1 else 0 := by
  intro m
  induction m with
  | zero => intro k; unfold cn; rw [if_neg (by omega)]; omega
  | succ m ih =>
    intro k
    rw [cn_s, cn_s, ih (k + 1)]
    by_cases e : k = p
    · subst e
      have e1 : ¬ (k + 1 ≤ k ∧ k < k + 1 + (m : Int)) := by omega
      have e2 : k ≤ k ∧ k < k + ((m + 1 : Nat) : Int) := by omega
      rw [hP, hQ, if_neg e1, if_pos e2]
      simp
      omega
    · rw [h k e]
      by_cases h2 : k + 1 ≤ p ∧ p < k + 1 + m
      · have e2 : k ≤ p ∧ p < k + ((m + 1 : Nat) : Int) := by omega
        rw [if_pos h2, if_pos e2]
        omega
      · have e2 : ¬ (k ≤ p ∧ p < k + ((m + 1 : Nat) : Int)) := by omega
        rw [if_neg h2, if_neg e2]
        omega
theorem cn_one (P : Int → Bool) : ∀ (m : Nat) (k : Int), cn P (m + 1) k = cn P m k + if P (k + m) then 1 else 0 := by
  intro m
  induction m with
  | zero => intro k; unfold cn; unfold cn; rw [show k + ((0 : Nat) : Int) = k by omega]; omega
  | succ m ih =>
    intro k
    rw [show cn P (m + 1 + 1) k = (if P k then 1 else 0) + cn P (m + 1) (k + 1) from rfl, ih (k + 1), show cn P (m + 1) k = (if P k then 1 else 0) + cn P m (k + 1) from rfl, show k + 1 + (m : Int) = k + ((m + 1 : Nat) : Int) by omega]
    omega
/-- a loop that counts -/
theorem cnt_loop {R : Type} {L : Nat → Int → Int → R} {E : Int → R} (P : Int → Bool) (hi lo : Int) (hb : lo ≤ hi ∧ hi ≤ 1000)
    (hstep : ∀ n k a, lo ≤ k → k < hi → 0 ≤ a → a ≤ k - lo → L (n + 1) k a = L n (k + 1) (a + if P k then 1 else 0)) (hend : ∀ n k a, lo ≤ k → ¬ k < hi → L (n + 1) k a = E a) :
    ∀ (m : Nat) (k a : Int) (n : Nat), lo ≤ k → (hi - k).toNat = m → m < n → 0 ≤ a → a ≤ k - lo → L n k a = E (a + cn P m k) := by
  intro m
  induction m with
  | zero =>
    intro k a n h0 hm hn _ _
    cases n with
    | zero => exact absurd hn (by omega)
    | succ n => rw [hend n k a h0 (by omega)]; unfold cn; rw [show a + 0 = a by omega]
  | succ m ih =>
    intro k a n h0 hm hn ha hk
    cases n with
    | zero => exact absurd hn (by omega)
    | succ n =>
      rw [hstep n k a h0 (by omega) ha hk, ih (k + 1) _ n (by omega) (by omega) (by omega) (by split <;> omega) (by split <;> omega)]
      rw [cn_s, show (a + if P k = true then 1 else 0) + cn P m (k + 1) = a + ((if P k = true then 1 else 0) + cn P m (k + 1)) by omega]
