/-! ===== the reference's questions: who adopts, who inherits (own work) ===== -/
def nrs (r dm : Int → Int) (o wo : Int) : Nat → Int → Int
  | 0, _ => -1
  | n + 1, i => if i = 0 then -1 else if i = wo then nrs r dm o wo n (up r i) else if canA r dm i o = true then i else nrs r dm o wo n (up r i)
def rmS (r dm : Int → Int) (o wo : Int) (og : Bool) (k b : Int) : Int :=
  if k = wo then b else if og = true ∧ ¬ r (180 + k) = r (180 + o) then b else if canA r dm k o = true then (if b = -1 then k else if room r b < room r k then k else b) else b
def RM (r dm : Int → Int) (o wo : Int) (og : Bool) : Int := fd (rmS r dm o wo og) (r 0 - 1).toNat 1 (-1)
def knP (r dm : Int → Int) (o wo : Int) (k : Int) : Bool := !decide (k = wo) && (ic r k (up r wo) 0 && canA r dm k o)
def olP (r dm : Int → Int) (o wo : Int) (k : Int) : Bool := !decide (k = wo) && canA r dm k o
def KN (r dm : Int → Int) (o wo : Int) : Int := if wo = 0 then -1 else ff (knP r dm o wo) (r 0 - 1).toNat 1
def OL (r dm : Int → Int) (o wo : Int) : Int := ff (olP r dm o wo) (r 0 - 1).toNat 1
def FB (r dm : Int → Int) (rule o wo : Int) : Int :=
  if rule = 0 then nrs r dm o wo 40 wo else if rule = 1 then RM r dm o wo true else if rule = 2 then RM r dm o wo false else if rule = 3 then KN r dm o wo else OL r dm o wo
def ads (r dm : Int → Int) (o wo : Int) : Nat → Int → Int
  | 0, _ => 0
  | n + 1, k => if FB r dm (r (6 + k)) o wo = -1 then ads r dm o wo n (k + 1) else FB r dm (r (6 + k)) o wo
def AD (r dm : Int → Int) (o wo : Int) : Int := ads r dm o wo (r 5).toNat 0
def ihP (r dm : Int → Int) (p k : Int) : Bool := ic r k p 0 && decide (dm k = 0)
def IH (r dm : Int → Int) (p : Int) : Int :=
  if ¬ r (260 + p) = -1 ∧ r (140 + r (260 + p)) = 0 ∧ dm (r (260 + p)) = 0 then r (260 + p) else if ff (ihP r dm p) (r 0).toNat 0 = -1 then up r p else ff (ihP r dm p) (r 0).toNat 0
def HO (r dm : Int → Int) (p d : Int) : Int :=
  if ¬ r (460 + 8 * p + d) = -1 ∧ r (140 + r (460 + 8 * p + d)) = 0 ∧ dm (r (460 + 8 * p + d)) = 0 then r (460 + 8 * p + d) else IH r dm p
/-- whom a rule can find -/
def Fnd (r dm : Int → Int) (o wo x : Int) : Prop := x = -1 ∨ (0 < x ∧ x < r 0 ∧ x ≠ wo ∧ canA r dm x o = true)
theorem opI_mul {x y : Int} : opI 0 x y = w32 (x * y) := by
  show (toI x * toI y).toInt = _
  rw [Int32.toInt_mul, toI_toInt, toI_toInt]
  unfold w32
  simp only [Int.bmod_def]
  have : ((x + 2147483648) % 4294967296 - 2147483648) * ((y + 2147483648) % 4294967296 - 2147483648) % 4294967296 = x * y % 4294967296 := by
    rw [Int.mul_emod, show ((x + 2147483648) % 4294967296 - 2147483648) % 4294967296 = x % 4294967296 by omega, show ((y + 2147483648) % 4294967296 - 2147483648) % 4294967296 = y % 4294967296 by omega, ← Int.mul_emod]
  generalize ((x + 2147483648) % 4294967296 - 2147483648) * ((y + 2147483648) % 4294967296 - 2147483648) = z at this ⊢
  generalize x * y = q at this ⊢
  omega
section MODEL2
variable {g : gH} {p a st o wo k x d : Int}
theorem nrs_f {r dm : Int → Int} (hcl : ∀ i, 0 < i → i < r 0 → 0 ≤ up r i ∧ up r i < r 0) : ∀ (n : Nat) (i : Int), 0 ≤ i → i < r 0 → Fnd r dm o wo (nrs r dm o wo n i) := by
  intro n
  induction n with
  | zero => intro i _ _; exact Or.inl rfl
  | succ n ih =>
    intro i h0 h1
    unfold nrs
    by_cases hi : i = 0
    · rw [if_pos hi]; exact Or.inl rfl
    · have := hcl i (by omega) h1
      rw [if_neg hi]
      split
      · exact ih _ this.1 this.2
      · split
        · next h2 h3 => exact Or.inr ⟨by omega, h1, h2, h3⟩
        · exact ih _ this.1 this.2
theorem vM_nearest_l (hs : MS g) (hb : WB (g 625)) (ho : 0 ≤ o ∧ o < g 625 0) : ∀ (m n : Nat) (i : Int), en (up (g 625)) m i = true → i < g 625 0 → m < n → lM_nearest_2 g 624 o wo n i = some (nrs (g 625) (g 630) o wo m i) := by
  have h0 := hs.1
  have hM := hb.1
  have hcl := hb.2.1
  intro m
  induction m with
  | zero =>
    intro n i hi _ hn
    obtain ⟨n, rfl⟩ : ∃ k, n = k + 1 := ⟨n - 1, by omega⟩
    have hi : i = 0 := by simpa [en] using hi
    show bM_nearest_2 g 624 o wo (lM_nearest_2 g 624 o wo n) i = _
    simp only [bM_nearest_2, hi, if_true, nrs]
  | succ m ih =>
    intro n i hi hiM hn
    obtain ⟨n, rfl⟩ : ∃ k, n = k + 1 := ⟨n - 1, by omega⟩
    show bM_nearest_2 g 624 o wo (lM_nearest_2 g 624 o wo n) i = _
    by_cases hz : i = 0
    · simp only [bM_nearest_2, hz, if_true, nrs]
    · rcases en_s.mp hi with h | ⟨h1, h2, h3⟩
      · exact absurd h hz
      · have hr := hcl i h1 hiM
        have hih := ih n (up (g 625) i) h3 hr.2 (by omega)
        have hih : lM_nearest_2 g 624 o wo n (g 625 (60 + i)) = some (nrs (g 625) (g 630) o wo m (up (g 625) i)) := hih
        have hca := vM_canAdopt hs hb (p := i) (o := o) (by omega) ho
        rw [bM_nearest_2, hca]
        simp (disch := omega) only [hz, if_false, h0, kd_625, sz_625, w32_r, true_and, if_pos, nrs, hih, bdP_s]
        split
        · rfl
        · cases canA (g 625) (g 630) i o <;> simp
theorem vM_nearest (hs : MS g) (hb : WB (g 625)) (ho : 0 ≤ o ∧ o < g 625 0) (hw : 0 ≤ wo ∧ wo < g 625 0) : fM_nearest g 624 o wo = some (nrs (g 625) (g 630) o wo 40 wo) := by
  rw [fM_nearest]
  exact vM_nearest_l hs hb ho 40 fu wo (hb.2.2.1 wo hw.1 hw.2) hw.2 (by have := fu_ge; omega)
theorem rmS_f {r dm : Int → Int} {og : Bool} {b : Int} (hk : 0 < k ∧ k < r 0) (hb : Fnd r dm o wo b) : Fnd r dm o wo (rmS r dm o wo og k b) := by
  unfold rmS
  split
  · exact hb
  · next h1 =>
    split
    · exact hb
    · split
      · next h3 =>
        have : Fnd r dm o wo k := Or.inr ⟨hk.1, hk.2, h1, h3⟩
        split
        · exact this
        · split
          · exact this
          · exact hb
      · exact hb
theorem vM_roomiest (hs : MS g) (hb : WB (g 625)) (ho : 0 ≤ o ∧ o < g 625 0) (og : Bool) : fM_roomiestFor g 624 o wo (if og then 1 else 0) = some (RM (g 625) (g 630) o wo og) ∧ Fnd (g 625) (g 630) o wo (RM (g 625) (g 630) o wo og) := by
  have h0 := hs.1
  have hM := hb.1
  have h := for_loop (L := fun n k b => lM_roomiestFor_6 g 624 o wo (if og then 1 else 0) n b k) (E := some) (rmS (g 625) (g 630) o wo og) (g 625 0) (fun k b => 1 ≤ k ∧ Fnd (g 625) (g 630) o wo b) (fun n k b hk hI => by
    obtain ⟨hk1, hF⟩ := hI
    refine ⟨?_, by omega, rmS_f ⟨by omega, hk⟩ hF⟩
    show bM_roomiestFor_6 g 624 o wo (if og then 1 else 0) (lM_roomiestFor_6 g 624 o wo (if og then 1 else 0) n) b k = lM_roomiestFor_6 g 624 o wo (if og then 1 else 0) n (rmS (g 625) (g 630) o wo og k b) (k + 1)
    have hca := vM_canAdopt hs hb (p := k) (o := o) (by omega) ho
    have hrk := vM_roomOf hs hb (p := k) (by omega)
    have hrb : b = -1 ∨ fM_roomOf g 624 b = some (room (g 625) b) := by
      rcases hF with h | ⟨h1, h2, -⟩
      · exact Or.inl h
      · exact Or.inr (vM_roomOf hs hb (p := b) (by omega))
    have hj : jM_roomiestFor_51 (lM_roomiestFor_6 g 624 o wo (if og then 1 else 0) n) g 624 o wo (if og then 1 else 0) b k = lM_roomiestFor_6 g 624 o wo (if og then 1 else 0) n (if canA (g 625) (g 630) k o = true then (if b = -1 then k else if room (g 625) b < room (g 625) k then k else b) else b) (k + 1) := by
      rw [jM_roomiestFor_51, hca]
      cases canA (g 625) (g 630) k o with
      | false => simp (disch := omega) only [Bool.false_eq_true, if_false, bdP_s, if_true, w32_r]
      | true =>
        simp (disch := omega) only [if_true, bdP_s, if_neg, w32_r]
        by_cases hb1 : b = -1
        · simp only [hb1, if_true]
        · rcases hrb with h | h
          · exact absurd h hb1
          · simp only [hb1, if_false, hrk, h, bdP_s]
            split <;> rfl
    rw [bM_roomiestFor_6, rmS]
    by_cases h1 : k = wo
    · simp (disch := omega) only [h0, kd_625, sz_625, true_and, if_pos, h1, if_true, w32_r]
    · cases og with
      | false =>
        simp only [Bool.false_eq_true, if_false] at hj
        simp (disch := omega) only [h0, kd_625, sz_625, true_and, if_pos, h1, if_false, if_true, w32_r, Bool.false_eq_true, false_and, hj, hk]
      | true =>
        simp only [if_true] at hj
        by_cases h2 : g 625 (180 + k) = g 625 (180 + o)
        · simp (disch := omega) only [h0, kd_625, sz_625, true_and, if_pos, h1, if_false, w32_r, if_true, h2, not_true, and_false, hj, hk, if_neg]
        · simp (disch := omega) only [h0, kd_625, sz_625, true_and, if_pos, h1, if_false, w32_r, if_true, h2, not_false_eq_true, and_true, hk, if_neg]) (fun n k b hk hI => by
    show bM_roomiestFor_6 g 624 o wo (if og then 1 else 0) (lM_roomiestFor_6 g 624 o wo (if og then 1 else 0) n) b k = some b
    rw [bM_roomiestFor_6]
    simp (disch := omega) only [h0, kd_625, sz_625, true_and, if_pos, if_neg]) (g 625 0 - 1).toNat 1 (-1) fu (by omega) (by have := fu_ge; omega) ⟨by omega, Or.inl rfl⟩
  exact ⟨h.1, h.2.2⟩
theorem vM_kinOf (hs : MS g) (hb : WB (g 625)) (ho : 0 ≤ o ∧ o < g 625 0) (hw : 0 ≤ wo ∧ wo < g 625 0) : fM_kinOf g 624 o wo = some (KN (g 625) (g 630) o wo) := by
  have h0 := hs.1
  have hM := hb.1
  rw [fM_kinOf, KN]
  by_cases hz : wo = 0
  · rw [if_pos hz, if_pos hz]
  · rw [if_neg hz, if_neg hz]
    exact find_loop (L := fun n k => lM_kinOf_8 g 624 o wo n k) (E := some) (knP (g 625) (g 630) o wo) (g 625 0) 1 (fun n k h1 h2 => by
      show bM_kinOf_8 g 624 o wo (lM_kinOf_8 g 624 o wo n) k = _
      have hca := vM_canAdopt hs hb (p := k) (o := o) (by omega) ho
      have hic := vM_isChild hs (p := k) (a := up (g 625) wo) (st := 0) (by omega)
      have hic : fM_isChild g 624 k (g 625 (60 + wo)) 0 = some (if ic (g 625) k (up (g 625) wo) 0 = true then 1 else 0) := hic
      rw [bM_kinOf_8, knP]
      simp (disch := omega) only [h0, kd_625, sz_625, true_and, if_pos, w32_r, hic, hca, bdP_s]
      by_cases h3 : k = wo
      · simp [h3]
      · cases ic (g 625) k (up (g 625) wo) 0 with
        | false => simp [h3]
        | true => cases canA (g 625) (g 630) k o <;> simp [h3]) (fun n k h1 h2 => by
      show bM_kinOf_8 g 624 o wo (lM_kinOf_8 g 624 o wo n) k = some (-1)
      rw [bM_kinOf_8]
      simp (disch := omega) only [h0, kd_625, sz_625, true_and, if_pos, if_neg]) (g 625 0 - 1).toNat 1 fu (by omega) (by omega) (by have := fu_ge; omega)
theorem vM_oldest (hs : MS g) (hb : WB (g 625)) (ho : 0 ≤ o ∧ o < g 625 0) : fM_oldest g 624 o wo = some (OL (g 625) (g 630) o wo) := by
  have h0 := hs.1
  have hM := hb.1
  rw [fM_oldest]
  exact find_loop (L := fun n k => lM_oldest_2 g 624 o wo n k) (E := some) (olP (g 625) (g 630) o wo) (g 625 0) 1 (fun n k h1 h2 => by
    show bM_oldest_2 g 624 o wo (lM_oldest_2 g 624 o wo n) k = _
    have hca := vM_canAdopt hs hb (p := k) (o := o) (by omega) ho
    rw [bM_oldest_2, olP]
    simp (disch := omega) only [h0, kd_625, sz_625, true_and, if_pos, w32_r, hca, bdP_s]
    by_cases h3 : k = wo
    · simp [h3]
    · cases canA (g 625) (g 630) k o <;> simp [h3]) (fun n k h1 h2 => by
    show bM_oldest_2 g 624 o wo (lM_oldest_2 g 624 o wo n) k = some (-1)
    rw [bM_oldest_2]
    simp (disch := omega) only [h0, kd_625, sz_625, true_and, if_pos, if_neg]) (g 625 0 - 1).toNat 1 fu (by omega) (by omega) (by have := fu_ge; omega)
theorem ff_f {r dm : Int → Int} {P : Int → Bool} (h : ∀ k, P k = true → k ≠ wo ∧ canA r dm k o = true) (hM : 1 ≤ r 0) : Fnd r dm o wo (ff P (r 0 - 1).toNat 1) := by
  rcases ff_spec P (r 0 - 1).toNat 1 with ⟨h1, -⟩ | ⟨h1, h2, h3, -⟩
  · exact Or.inl h1
  · exact Or.inr ⟨by omega, by omega, h _ h3⟩
theorem vM_findsBy (hs : MS g) (hb : WB (g 625)) (ho : 0 ≤ o ∧ o < g 625 0) (hw : 0 ≤ wo ∧ wo < g 625 0) : fM_findsBy g 624 x o wo = some (FB (g 625) (g 630) x o wo) ∧ Fnd (g 625) (g 630) o wo (FB (g 625) (g 630) x o wo) := by
  have hM := hb.1
  have r1 := vM_roomiest hs hb ho (wo := wo) true
  have r2 := vM_roomiest hs hb ho (wo := wo) false
  have e1 : fM_roomiestFor g 624 o wo 1 = some (RM (g 625) (g 630) o wo true) := r1.1
  have e2 : fM_roomiestFor g 624 o wo 0 = some (RM (g 625) (g 630) o wo false) := r2.1
  rw [fM_findsBy, FB, vM_nearest hs hb ho hw, e1, e2, vM_kinOf hs hb ho hw, vM_oldest hs hb ho]
  simp only [bdP_s]
  by_cases c0 : x = 0
  · simp only [c0, if_true]
    exact ⟨trivial, nrs_f (hb.2.1) 40 wo hw.1 hw.2⟩
  · by_cases c1 : x = 1
    · simp only [c0, c1, if_true, if_false]
      exact ⟨rfl, r1.2⟩
    · by_cases c2 : x = 2
      · simp only [c0, c1, c2, if_true, if_false]
        exact ⟨rfl, r2.2⟩
      · by_cases c3 : x = 3
        · subst c3
          simp only [show ¬ (3 : Int) = 0 by omega, show ¬ (3 : Int) = 1 by omega, show ¬ (3 : Int) = 2 by omega, if_true, if_false]
          refine ⟨trivial, ?_⟩
          unfold KN
          split
          · exact Or.inl rfl
          · refine ff_f (fun k hk => ?_) hM.1
            unfold knP at hk
            simp only [Bool.and_eq_true, Bool.not_eq_true', decide_eq_false_iff_not] at hk
            exact ⟨hk.1, hk.2.2⟩
        · simp only [c0, c1, c2, c3, if_false]
          refine ⟨trivial, ff_f (fun k hk => ?_) hM.1⟩
          unfold olP at hk
          simp only [Bool.and_eq_true, Bool.not_eq_true', decide_eq_false_iff_not] at hk
          exact hk
theorem vM_adopterOf (hs : MS g) (hb : WB (g 625)) (ho : 0 ≤ o ∧ o < g 625 0) (hw : 0 ≤ wo ∧ wo < g 625 0) : fM_adopterOf g 624 o wo = some (AD (g 625) (g 630) o wo) ∧ (AD (g 625) (g 630) o wo = 0 ∨ (0 < AD (g 625) (g 630) o wo ∧ AD (g 625) (g 630) o wo < g 625 0 ∧ AD (g 625) (g 630) o wo ≠ wo ∧ canA (g 625) (g 630) (AD (g 625) (g 630) o wo) o = true)) := by
  have h0 := hs.1
  have hR := hb.2.2.2.1
  have key : ∀ (m n : Nat) (k : Int), 0 ≤ k → (g 625 5 - k).toNat = m → m < n → lM_adopterOf_2 g 624 o wo n k = some (ads (g 625) (g 630) o wo m k) ∧ (ads (g 625) (g 630) o wo m k = 0 ∨ (0 < ads (g 625) (g 630) o wo m k ∧ ads (g 625) (g 630) o wo m k < g 625 0 ∧ ads (g 625) (g 630) o wo m k ≠ wo ∧ canA (g 625) (g 630) (ads (g 625) (g 630) o wo m k) o = true)) := by
    intro m
    induction m with
    | zero =>
      intro n k hk hm hn
      obtain ⟨n, rfl⟩ : ∃ q, n = q + 1 := ⟨n - 1, by omega⟩
      refine ⟨?_, Or.inl rfl⟩
      show bM_adopterOf_2 g 624 o wo (lM_adopterOf_2 g 624 o wo n) k = some 0
      rw [bM_adopterOf_2]
      simp (disch := omega) only [h0, kd_625, sz_625, true_and, if_pos, if_neg]
    | succ m ih =>
      intro n k hk hm hn
      obtain ⟨n, rfl⟩ : ∃ q, n = q + 1 := ⟨n - 1, by omega⟩
      obtain ⟨f1, f2⟩ := vM_findsBy hs hb ho hw (x := g 625 (6 + k))
      obtain ⟨i1, i2⟩ := ih n (k + 1) (by omega) (by omega) (by omega)
      have e1 : lM_adopterOf_2 g 624 o wo (n + 1) k = (if FB (g 625) (g 630) (g 625 (6 + k)) o wo = -1 then lM_adopterOf_2 g 624 o wo n (k + 1) else some (FB (g 625) (g 630) (g 625 (6 + k)) o wo)) := by
        show bM_adopterOf_2 g 624 o wo (lM_adopterOf_2 g 624 o wo n) k = _
        rw [bM_adopterOf_2]
        simp (disch := omega) only [h0, kd_625, sz_625, true_and, if_pos, w32_r, f1, bdP_s]
      rw [e1]
      unfold ads
      by_cases hf : FB (g 625) (g 630) (g 625 (6 + k)) o wo = -1
      · simp only [hf, if_true]
        exact ⟨i1, i2⟩
      · simp only [hf, if_false]
        refine ⟨trivial, ?_⟩
        rcases f2 with h | h
        · exact absurd h hf
        · exact Or.inr h
  rw [fM_adopterOf]
  exact key (g 625 5).toNat fu 0 (by omega) (by omega) (by have := fu_ge; omega)
theorem vM_inheritor (hs : MS g) (hb : WB (g 625)) (hp : 0 ≤ p ∧ p < g 625 0) : fM_inheritor g 624 p = some (IH (g 625) (g 630) p) := by
  have h0 := hs.1
  have h5 := hs.2.2.2.2.1
  have hM := hb.1
  have hh := hb.2.2.2.2.1 p hp.1 hp.2
  have hl : lM_inheritor_37 g 624 p fu 0 = some (if ff (ihP (g 625) (g 630) p) (g 625 0).toNat 0 = -1 then up (g 625) p else ff (ihP (g 625) (g 630) p) (g 625 0).toNat 0) :=
    find_loop (L := fun n k => lM_inheritor_37 g 624 p n k) (E := fun c => some (if c = -1 then up (g 625) p else c)) (ihP (g 625) (g 630) p) (g 625 0) 0 (fun n k h1 h2 => by
      show bM_inheritor_37 g 624 p (lM_inheritor_37 g 624 p n) k = _
      rw [bM_inheritor_37, vM_isChild hs (by omega), ihP]
      simp (disch := omega) only [h0, h5, kd_625, sz_625, kd_630, sz_630, true_and, if_pos, w32_r, bdP_s]
      cases ic (g 625) k p 0 with
      | false => simp
      | true =>
        by_cases h3 : g 630 k = 0
        · simp [h3]
          omega
        · simp [h3]) (fun n k h1 h2 => by
      show bM_inheritor_37 g 624 p (lM_inheritor_37 g 624 p n) k = _
      rw [bM_inheritor_37]
      simp (disch := omega) only [h0, kd_625, sz_625, true_and, if_pos, if_neg, w32_r, if_true]
      rfl) (g 625 0).toNat 0 fu (by omega) (by omega) (by have := fu_ge; omega)
  rw [fM_inheritor, IH, hl]
  by_cases c1 : g 625 (260 + p) = -1
  · simp (disch := omega) only [h0, kd_625, sz_625, true_and, if_pos, w32_r, c1, not_true, false_and, if_false, if_true]
  · have hr := vM_runs hs (p := g 625 (260 + p)) (by omega)
    by_cases c2 : g 625 (140 + g 625 (260 + p)) = 0
    · by_cases c3 : g 630 (g 625 (260 + p)) = 0
      · simp (disch := omega) only [h0, h5, kd_625, sz_625, kd_630, sz_630, true_and, if_pos, w32_r, c1, c2, c3, not_false_eq_true, and_self, if_true, if_false, hr, bdP_s, if_neg]
      · simp (disch := omega) only [h0, h5, kd_625, sz_625, kd_630, sz_630, true_and, if_pos, w32_r, c1, c2, c3, not_false_eq_true, and_self, and_false, if_true, if_false, hr, bdP_s, if_neg]
    · simp (disch := omega) only [h0, h5, kd_625, sz_625, kd_630, sz_630, true_and, if_pos, w32_r, c1, c2, not_false_eq_true, and_self, and_false, false_and, if_true, if_false, hr, bdP_s, if_neg]
theorem vM_heirOf (hs : MS g) (hb : WB (g 625)) (hp : 0 ≤ p ∧ p < g 625 0) (hd : 0 ≤ d ∧ d < 8) : fM_heirOf g 624 p d = some (HO (g 625) (g 630) p d) := by
  have h0 := hs.1
  have h5 := hs.2.2.2.2.1
  have hM := hb.1
  have hh := hb.2.2.2.2.2.1 p d hp.1 hp.2 hd.1 hd.2
  rw [fM_heirOf, HO, vM_inheritor hs hb hp]
  simp (disch := omega) only [opI_mul, h0, kd_625, sz_625, w32_r, true_and, if_pos]
  by_cases c1 : g 625 (460 + 8 * p + d) = -1
  · simp (disch := omega) only [c1, not_true, false_and, if_false, if_true, bdP_s]
  · have hr := vM_runs hs (p := g 625 (460 + 8 * p + d)) (by omega)
    by_cases c2 : g 625 (140 + g 625 (460 + 8 * p + d)) = 0
    · by_cases c3 : g 630 (g 625 (460 + 8 * p + d)) = 0
      · simp (disch := omega) only [h0, h5, kd_630, sz_630, true_and, if_pos, c1, c2, c3, not_false_eq_true, and_self, if_true, if_false, hr, bdP_s, if_neg]
      · simp (disch := omega) only [h0, h5, kd_630, sz_630, true_and, if_pos, c1, c2, c3, not_false_eq_true, and_self, and_false, if_true, if_false, hr, bdP_s, if_neg]
    · simp (disch := omega) only [h0, h5, kd_630, sz_630, true_and, if_pos, c1, c2, not_false_eq_true, and_self, and_false, false_and, if_true, if_false, hr, bdP_s, if_neg]
/-- who inherits is running, or the supervisor -/
theorem IH_f {r dm : Int → Int} (hb : WB r) (hp : 0 ≤ p ∧ p < r 0) : IH r dm p = up r p ∨ (0 ≤ IH r dm p ∧ IH r dm p < r 0 ∧ r (140 + IH r dm p) = 0) := by
  have hh := hb.2.2.2.2.1 p hp.1 hp.2
  have hM := hb.1
  unfold IH
  split
  · next h => exact Or.inr ⟨by omega, by omega, h.2.1⟩
  · split
    · exact Or.inl rfl
    · next h1 h2 =>
      rcases ff_spec (ihP r dm p) (r 0).toNat 0 with ⟨h3, -⟩ | ⟨h3, h4, h5, -⟩
      · exact absurd h3 h2
      · refine Or.inr ⟨h3, by omega, ?_⟩
        unfold ihP ic at h5
        simp only [Bool.and_eq_true, decide_eq_true_eq] at h5
        exact h5.1.1
theorem HO_f {r dm : Int → Int} (hb : WB r) (hp : 0 ≤ p ∧ p < r 0) (hd : 0 ≤ d ∧ d < 8) : HO r dm p d = up r p ∨ (0 ≤ HO r dm p d ∧ HO r dm p d < r 0 ∧ r (140 + HO r dm p d) = 0) := by
  have hh := hb.2.2.2.2.2.1 p d hp.1 hp.2 hd.1 hd.2
  unfold HO
  split
  · next h => exact Or.inr ⟨by omega, by omega, h.2.1⟩
  · exact IH_f hb hp
/-- the exits so far -/
def EX (r : Int → Int) : Prop := (0 ≤ r 1 ∧ r 1 ≤ 40) ∧ ∀ k, 0 ≤ k → k < r 1 → 0 ≤ r (19 + k) ∧ r (19 + k) < r 0
def FZ (r : Int → Int) (p : Int) : Int := if ff (fun k => ic r (r (19 + k)) p 1) (r 1).toNat 0 = -1 then -1 else r (19 + ff (fun k => ic r (r (19 + k)) p 1) (r 1).toNat 0)
theorem vM_firstZombie (hs : MS g) (hM : g 625 0 ≤ 40) (he : EX (g 625)) : fM_firstZombie g 624 p = some (FZ (g 625) p) := by
  have h0 := hs.1
  obtain ⟨h1, h2⟩ := he
  rw [fM_firstZombie]
  exact find_loop (L := fun n k => lM_firstZombie_2 g 624 p n k) (E := fun k => some (if k = -1 then -1 else g 625 (19 + k))) (fun k => ic (g 625) (g 625 (19 + k)) p 1) (g 625 1) 0 (fun n k k1 k2 => by
    show bM_firstZombie_2 g 624 p (lM_firstZombie_2 g 624 p n) k = _
    have := h2 k k1 k2
    rw [bM_firstZombie_2]
    simp (disch := omega) only [h0, kd_625, sz_625, true_and, if_pos, w32_r, vM_isChild hs (p := g 625 (19 + k)) (a := p) (st := 1), bdP_s]
    cases ic (g 625) (g 625 (19 + k)) p 1 with
    | false => simp
    | true =>
      simp (disch := omega) only [if_true, if_neg]) (fun n k k1 k2 => by
    show bM_firstZombie_2 g 624 p (lM_firstZombie_2 g 624 p n) k = _
    rw [bM_firstZombie_2]
    simp (disch := omega) only [h0, kd_625, sz_625, true_and, if_pos, if_neg, if_true]) (g 625 1).toNat 0 fu (by omega) (by omega) (by have := fu_ge; omega)
/-- what it finds -/
theorem FZ_f {r : Int → Int} (he : EX r) : FZ r p = -1 ∨ (0 ≤ FZ r p ∧ FZ r p < r 0 ∧ ic r (FZ r p) p 1 = true) := by
  unfold FZ
  split
  · exact Or.inl rfl
  · next h =>
    rcases ff_spec (fun k => ic r (r (19 + k)) p 1) (r 1).toNat 0 with ⟨h3, -⟩ | ⟨h3, h4, h5, -⟩
    · exact absurd h3 h
    · have := he.2 _ h3 (by omega)
      exact Or.inr ⟨this.1, this.2, h5⟩
end MODEL2
