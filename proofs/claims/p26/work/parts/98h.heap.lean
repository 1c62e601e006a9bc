/-! ===== the heap of whole numbers at the head of the law's loop (own work) ===== -/
/-- a value as a whole number -/
def uv (v : ev_V) : Int := match v with
  | .inl n => ((n : Int) + 2147483648) % 4294967296 - 2147483648
  | .inr (.inl none) => -1
  | .inr (.inl (some k)) => (k : Int)
  | .inr (.inr (.inr (_, n))) => (n : Int)
  | _ => 0
noncomputable def gW (w : ev_W) : gH := fun a b => if 0 ≤ a ∧ 0 ≤ b ∧ b < szF a then (match ev_get w.1 a.toNat with
  | some q => (match ev_get q.2.2 b.toNat with
    | some v => uv v
    | none => 0)
  | none => 0) else 0
/-- a value that its number gives back, of its type -/
def pq_D (t : Nat) (v : ev_V) : Bool := match t, v with
  | 2, .inr (.inl none) => true
  | 2, .inr (.inl (some k)) => Nat.ble (k + 1) 1000000
  | 3, .inr (.inr (.inr (0, n))) => Nat.ble (n + 1) 1
  | 1, .inl n => Nat.ble n 1
  | 0, .inl n => Nat.ble (n + 1) 4294967296
  | _, _ => false
theorem pq_D_ok {t : Nat} {v : ev_V} (h : pq_D t v = true) : dec t (uv v) = v ∧ VT t (uv v) := by
  unfold pq_D at h
  split at h
  · exact ⟨rfl, by show RfR (-1); unfold RfR; omega⟩
  · next k =>
    have h := Nat.le_of_ble_eq_true h
    refine ⟨?_, ?_⟩
    · show sR (k : Int) = _
      unfold sR
      rw [if_neg (by omega)]
      rfl
    · show RfR (k : Int)
      unfold RfR
      omega
  · next n =>
    have h := Nat.le_of_ble_eq_true h
    have e : n = 0 := by omega
    subst e
    exact ⟨rfl, by show L64 0; unfold L64; omega⟩
  · next n =>
    have h := Nat.le_of_ble_eq_true h
    have e : n = 0 ∨ n = 1 := by omega
    rcases e with rfl | rfl
    · exact ⟨rfl, Or.inl rfl⟩
    · exact ⟨rfl, Or.inr rfl⟩
  · next n =>
    have h := Nat.le_of_ble_eq_true h
    refine ⟨?_, ?_⟩
    · show sI (((n : Int) + 2147483648) % 4294967296 - 2147483648) = _
      unfold sI
      exact congrArg Sum.inl (by omega)
    · show InR (((n : Int) + 2147483648) % 4294967296 - 2147483648)
      unfold InR
      omega
  · cases h
/-- the j-th places from j on, n of them -/
noncomputable def pq_J (k : Nat) (d : List (List (List ev_V))) (n : Nat) : Nat → Bool :=
  Nat.rec (motive := fun _ => Nat → Bool) (fun _ => true) (fun _ ih j => (match ev_get d j with
    | some v => pq_D (typ k (j : Int)) v
    | none => false) && ih (j + 1)) n
theorem pq_J_ok {k : Nat} {d : List (List (List ev_V))} : ∀ (n j : Nat), pq_J k d n j = true → ∀ i, j ≤ i → i < j + n → ∃ v, ev_get d i = some v ∧ pq_D (typ k (i : Int)) v = true := by
  intro n
  induction n with
  | zero => intro j _ i h1 h2; exact absurd h1 (by omega)
  | succ n ih =>
    intro j h i h1 h2
    have h : ((match ev_get d j with
      | some v => pq_D (typ k (j : Int)) v
      | none => false) && pq_J k d n (j + 1)) = true := h
    rw [Bool.and_eq_true] at h
    by_cases e : i = j
    · subst e
      cases hv : ev_get d i with
      | none => rw [hv] at h; exact absurd h.1 (by simp)
      | some v => rw [hv] at h; exact ⟨v, rfl, h.1⟩
    · exact ih (j + 1) h.2 i (by omega) (by omega)
noncomputable def pq_I (w : ev_W) (n : Nat) : Nat → Bool :=
  Nat.rec (motive := fun _ => Nat → Bool) (fun _ => true) (fun _ ih i => (Nat.beq i 629 || (match ev_get w.1 i with
    | some q => Nat.beq q.1 (kdF i) && (Nat.beq q.2.1 (szF i).toNat && pq_J (kdF i) q.2.2 (szF i).toNat 0)
    | none => false)) && ih (i + 1)) n
theorem pq_I_ok {w : ev_W} : ∀ (n j : Nat), pq_I w n j = true → ∀ i, j ≤ i → i < j + n → ¬ i = 629 → ∃ q, ev_get w.1 i = some q ∧ q.1 = kd i ∧ q.2.1 = (sz i).toNat ∧ pq_J (kd i) q.2.2 (sz i).toNat 0 = true := by
  intro n
  induction n with
  | zero => intro j _ i h1 h2; exact absurd h1 (by omega)
  | succ n ih =>
    intro j h i h1 h2 hne
    have h : ((Nat.beq j 629 || (match ev_get w.1 j with
      | some q => Nat.beq q.1 (kdF j) && (Nat.beq q.2.1 (szF j).toNat && pq_J (kdF j) q.2.2 (szF j).toNat 0)
      | none => false)) && pq_I w n (j + 1)) = true := h
    rw [Bool.and_eq_true] at h
    by_cases e : i = j
    · subst e
      have h1 := h.1
      have hb : Nat.beq i 629 = false := by
        cases hq : Nat.beq i 629 with
        | false => rfl
        | true => exact absurd (Nat.eq_of_beq_eq_true hq) hne
      rw [hb, Bool.false_or] at h1
      cases hq : ev_get w.1 i with
      | none => rw [hq] at h1; exact absurd h1 (by simp)
      | some q =>
        rw [hq] at h1
        simp only [Bool.and_eq_true] at h1
        rw [kd_F, sz_F]
        exact ⟨q, rfl, Nat.eq_of_beq_eq_true h1.1, Nat.eq_of_beq_eq_true h1.2.1, h1.2.2⟩
    · exact ih (j + 1) h.2 i (by omega) (by omega) hne
/-- an array as it was made -/
theorem rowsg {n j : Nat} {v : ev_V} (h : j < n) : ev_get (ev_rows n v) j = some v := by
  rw [gb_get]
  unfold ev_rows
  rw [List.getElem?_replicate, if_pos (by omega)]
  show ((List.replicate 8 (List.replicate 8 v))[j / 8 % 8]?).bind (fun d => d[j % 8]?) = some v
  rw [List.getElem?_replicate, if_pos (by omega)]
  show (List.replicate 8 v)[j % 8]? = some v
  rw [List.getElem?_replicate, if_pos (by omega)]
def pq_B (w : ev_W) : Prop := ev_get w.1 629 = some (20, (7800, ev_rows 7800 (.inl 0)))
theorem pq_I_all {w : ev_W} (h : pq_I w 636 0 = true) (hb : pq_B w) (i : Nat) (hi : i < 636) : ∃ q, ev_get w.1 i = some q ∧ q.1 = kd i ∧ q.2.1 = (sz i).toNat ∧ ∀ j : Nat, j < (sz i).toNat → ∃ v, ev_get q.2.2 j = some v ∧ pq_D (typ (kd i) (j : Int)) v = true := by
  by_cases e : i = 629
  · subst e
    have e1 : kd ((629 : Nat) : Int) = 20 := by decide +kernel
    have e2 : (sz ((629 : Nat) : Int)).toNat = 7800 := by decide +kernel
    refine ⟨_, hb, e1.symm, e2.symm, fun j hj => ⟨.inl 0, rowsg (by rw [e2] at hj; exact hj), ?_⟩⟩
    rw [e1]
    rfl
  · obtain ⟨q, h1, h2, h3, h4⟩ := pq_I_ok 636 0 h i (by omega) (by omega) e
    exact ⟨q, h1, h2, h3, fun j hj => pq_J_ok _ _ h4 j (by omega) (by omega)⟩
theorem sz_pos (a : Int) : 0 ≤ sz a := by
  unfold sz
  split
  · exact Int.le_refl _
  · exact Int.natCast_nonneg _
theorem gW_at {w : ev_W} (h : pq_I w 636 0 = true) (hb : pq_B w) {i j : Nat} (hi : i < 636) (hj : (j : Int) < sz i) : ∃ q v, ev_get w.1 i = some q ∧ q.1 = kd i ∧ (q.2.1 : Int) = sz i ∧ ev_get q.2.2 j = some v ∧ dec (typ (kd i) j) (gW w i j) = v ∧ VT (typ (kd i) j) (gW w i j) := by
  obtain ⟨q, h1, h2, h3, h4⟩ := pq_I_all h hb i hi
  have hp := sz_pos i
  obtain ⟨v, h5, h6⟩ := h4 j (by omega)
  have e : gW w i j = uv v := by
    unfold gW
    rw [if_pos ⟨by omega, by omega, by rw [← sz_F]; exact hj⟩]
    simp only [Int.toNat_natCast, h1, h5]
  obtain ⟨g1, g2⟩ := pq_D_ok h6
  exact ⟨q, v, h1, h2, by rw [h3]; omega, h5, by rw [e]; exact g1, by rw [e]; exact g2⟩
theorem gW_W {w : ev_W} (h : pq_I w 636 0 = true) (hb : pq_B w) : Wg w (gW w) := by
  intro i hi
  obtain ⟨q, h1, h2, h3, h4⟩ := pq_I_all h hb i hi
  have hp := sz_pos i
  refine ⟨q, h1, h2, by rw [h3]; omega, fun j hj => ?_⟩
  obtain ⟨q', v, g1, -, -, g4, g5, -⟩ := gW_at h hb hi hj
  rw [h1] at g1
  have := Option.some.inj g1
  subst this
  rw [g4, g5]
theorem VT_0 (t : Nat) : VT t 0 := by
  unfold VT
  split
  · unfold InR; omega
  · exact Or.inl rfl
  · unfold RfR; omega
  · unfold L64; omega
  · unfold InR; omega
theorem gW_H {w : ev_W} (h : pq_I w 636 0 = true) (hb : pq_B w) : HR (gW w) := by
  intro a b
  by_cases hc : 0 ≤ a ∧ 0 ≤ b ∧ b < sz a
  · obtain ⟨i, rfl⟩ := Int.eq_ofNat_of_zero_le hc.1
    obtain ⟨j, rfl⟩ := Int.eq_ofNat_of_zero_le hc.2.1
    have hi : i < 636 := by
      rcases Nat.lt_or_ge i 636 with h1 | h1
      · exact h1
      · exfalso
        have hl : kd_T.length = 636 := by decide +kernel
        have hz : sz (i : Int) = 0 := by
          unfold sz
          rw [if_neg (by omega), Int.toNat_natCast, List.getD_eq_getElem?_getD, List.getElem?_eq_none (by omega)]
          rfl
        omega
    obtain ⟨-, -, -, -, -, -, -, g⟩ := gW_at h hb hi hc.2.2
    exact g
  · have e : gW w a b = 0 := by
      unfold gW
      rw [if_neg (by rw [← sz_F]; exact hc)]
    rw [e]
    exact VT_0 _
theorem g1_I : pq_I pr_W1 636 0 = true := by decide +kernel
theorem g1_B : pq_B pr_W1 := rfl
/-- the heap at the loop's head -/
noncomputable def g1 : gH := gW pr_W1
theorem g1_W : Wg pr_W1 g1 := gW_W g1_I g1_B
theorem g1_H : HR g1 := gW_H g1_I g1_B
theorem g1_S : (g1 0 0 = 1 ∧ g1 0 1 = 45 ∧ g1 0 2 = 89 ∧ g1 0 3 = 133 ∧ g1 0 4 = 575 ∧ g1 0 5 = 622) ∧ g1 133 0 = 134 ∧ (∀ k : Nat, k < 10 → g1 134 k = 135 + 44 * k) ∧ g1 575 0 = 576 ∧ g1 575 1 = 578 ∧ g1 576 0 = 577 ∧ g1 622 0 = 623 := by decide +kernel
theorem g1_T : ∀ T, T ∈ Ts → ((g1 T 0 = T + 1 ∧ g1 T 1 = T + 2 ∧ g1 T 2 = T + 3 ∧ g1 T 3 = T + 4) ∧ g1 T 5 = 1) ∧ ∀ i : Nat, i < 40 → (g1 (T + 2) i = pc T i ∧ g1 (pc T i) 0 = i) ∧ g1 (pc T i) 2 = -1 ∧ ¬ g1 (pc T i) 1 = 1 := by decide +kernel
theorem g1_M : (g1 624 0 = 625 ∧ g1 624 2 = 627 ∧ g1 624 3 = 628 ∧ g1 624 4 = 629 ∧ g1 624 5 = 630 ∧ g1 624 9 = 631 ∧ g1 624 20 = 632 ∧ g1 624 21 = 633 ∧ g1 624 22 = 634 ∧ g1 624 1 = 626) ∧ (∀ i : Nat, i < 40 → g1 630 i = 0) ∧ g1 624 6 = 0 ∧ g1 624 7 = 0 ∧ g1 624 10 = 0 ∧ g1 624 23 = 0 ∧ g1 576 1 = 0 := by decide +kernel
/-- the reference's first row: as clear leaves it -/
def r1 : Int → Int := u1 (u1 (u1 (u1 (u1 (fun _ => 0) 5 3) 6 0) 7 1) 8 2) 59 20
theorem g1_r : ∀ k : Nat, k < 780 → g1 625 k = cmR r1 (-1) 9 0 0 k := by decide +kernel
theorem g1_E : g1 575 2 = g1 624 11 ∧ g1 575 3 = g1 624 12 := by decide +kernel
theorem g1_F : ((g1 1 4 = 20 ∧ g1 1 5 = 1 ∧ g1 1 6 = 0 ∧ g1 1 7 = 0 ∧ g1 1 8 = 0 ∧ g1 1 9 = 0) ∧ (∀ i : Nat, i < 5 → g1 (1 + 4) i = if (i : Int) < 3 then (i : Int) else -1) ∧ (∀ d : Nat, d < 8 → g1 (1 + 3) d = 0)) ∧ ((g1 (pc 1 0) 1 = 0 ∧ g1 (pc 1 0) 3 = 0 ∧ g1 (pc 1 0) 4 = 9 ∧ g1 (pc 1 0) 5 = 0) ∧ (g1 (pc 1 0) 6 = 0 ∧ g1 (pc 1 0) 7 = -1 ∧ g1 (pc 1 0) 8 = 0 ∧ g1 (pc 1 0) 9 = -1) ∧ (g1 (pc 1 0) 11 = 0 ∧ g1 (pc 1 0) 12 = -1 ∧ g1 (pc 1 0) 14 = 0 ∧ g1 (pc 1 0) 13 = 0)) ∧ ∀ k : Nat, k < 40 → 1 ≤ k → g1 (pc 1 k) 1 = 3 ∧ g1 (pc 1 k) 13 = 0 := by decide +kernel
theorem g1_R : ((g1 625 0 = 1 ∧ g1 625 1 = 0 ∧ g1 625 2 = 0 ∧ g1 625 3 = 0 ∧ g1 625 4 = 0 ∧ g1 625 5 = 3 ∧ g1 625 59 = 20) ∧ (g1 625 6 = 0 ∧ g1 625 7 = 1 ∧ g1 625 8 = 2)) ∧ (∀ d : Nat, d < 8 → g1 625 (11 + d) = 0) ∧ (g1 625 100 = 9 ∧ g1 625 140 = 0 ∧ g1 625 180 = 0 ∧ g1 625 220 = 0 ∧ g1 625 260 = -1 ∧ g1 625 300 = -1 ∧ g1 625 340 = 0 ∧ g1 625 380 = 0 ∧ g1 625 420 = -1 ∧ g1 625 60 = -1) ∧ ∀ d : Nat, d < 8 → g1 625 (460 + d) = -1 := by decide +kernel
theorem g1_Z : g1 133 1 = 0 ∧ g1 133 2 = 0 ∧ g1 0 6 = 0 := by decide +kernel
theorem g1_CI : CInv g1 := by
  refine ⟨?_, fun T hT => ?_, ?_⟩
  · obtain ⟨h1, h2, h3, h4⟩ := g1_S
    refine ⟨h1, h2, fun k k0 k1 => ?_, h4⟩
    obtain ⟨n, rfl⟩ := Int.eq_ofNat_of_zero_le k0
    exact h3 n (by omega)
  · obtain ⟨⟨h1, h2⟩, h3⟩ := g1_T T hT
    have hi : ∀ i : Int, 0 ≤ i → i < 40 → (g1 (T + 2) i = pc T i ∧ g1 (pc T i) 0 = i) ∧ g1 (pc T i) 2 = -1 ∧ ¬ g1 (pc T i) 1 = 1 := fun i i0 i1 => by
      obtain ⟨n, rfl⟩ := Int.eq_ofNat_of_zero_le i0
      exact h3 n (by omega)
    refine ⟨⟨h1, fun i i0 i1 => (hi i i0 i1).1⟩, by rw [h2]; omega, (hi 0 (by omega) (by omega)).2.1, fun i i0 i1 => (hi i (by rw [h2] at i0; omega) i1).2.1, fun i i0 i1 => absurd i0 (by rw [h2] at i1; omega), fun i i0 i1 => ?_, fun i i0 i1 z => absurd z (hi i i0 i1).2.2⟩
    rw [h2] at i1
    rw [show i = 0 by omega]
    exact en_0
  · rw [g1_M.2.2.2.2.2.2]; omega
theorem g1_MI : MInv g1 := by
  obtain ⟨h1, h2, h3, h4, h5, h6, h7⟩ := g1_M
  refine ⟨h1, ?_, fun i i0 i1 => ?_, ⟨by rw [h3]; omega, fun j j0 j1 => absurd j0 (by rw [h3] at j1; omega)⟩, fun z => absurd h4 z, by rw [h5]; omega, by rw [h6]; omega⟩
  · refine WBF_ext (WBF_new (r := r1) rfl rfl (by decide) (fun k k0 k1 => ?_)) (fun k k0 k1 => ?_)
    · unfold r1
      simp (disch := omega) only [u1_n]
    · obtain ⟨n, rfl⟩ := Int.eq_ofNat_of_zero_le k0
      exact g1_r n (by omega)
  · obtain ⟨n, rfl⟩ := Int.eq_ofNat_of_zero_le i0
    exact h2 n (by omega)
theorem g1_IE : IE g1 g1 := by
  refine ⟨⟨by rw [g1_M.2.2.2.2.1, g1_M.2.2.2.2.2.2], fun k k0 k1 => ?_⟩, g1_E⟩
  rw [g1_M.2.2.2.2.2.2] at k1
  omega
theorem g1_CQ : CQ 1 g1 (g1 625) := by
  obtain ⟨⟨a1, a2, a3⟩, a4, a5⟩ := g1_F
  obtain ⟨⟨b1, b2⟩, b3, b4, b5⟩ := g1_R
  refine CQ_fresh ⟨a1, fun i i0 i1 => ?_, fun d d0 d1 => ?_, a4, fun k k0 k1 => ?_⟩ ⟨b1, b2, fun d d0 d1 => ?_, b4, fun d d0 d1 => ?_⟩
  · obtain ⟨n, rfl⟩ := Int.eq_ofNat_of_zero_le i0
    exact a2 n (by omega)
  · obtain ⟨n, rfl⟩ := Int.eq_ofNat_of_zero_le d0
    exact a3 n (by omega)
  · obtain ⟨n, rfl⟩ := Int.eq_ofNat_of_zero_le (show 0 ≤ k by omega)
    exact a5 n (by omega) (by omega)
  · obtain ⟨n, rfl⟩ := Int.eq_ofNat_of_zero_le d0
    exact b3 n (by omega)
  · obtain ⟨n, rfl⟩ := Int.eq_ofNat_of_zero_le d0
    exact b5 n (by omega)
theorem g1_JJ : JJ g1 := by
  have cq := g1_CQ
  have mi := g1_MI
  obtain ⟨z1, z2, z3⟩ := g1_Z
  obtain ⟨-, -, h3, h4, -⟩ := g1_M
  refine ⟨g1_H, g1_CI, mi, ⟨T1, g1_CI.2.1 1 T1, mi.2.1.1, CQ_P cq, CQ_d0 cq, ?_⟩, ⟨by rw [z1, h3], by rw [h3]; omega, by rw [z2]; omega, fun j j0 j1 => absurd j1 (by rw [h3]; omega)⟩, ⟨by rw [z3, h4], fun z => absurd h4 z⟩, g1_IE⟩
  exact ⟨⟨by rw [(CQ_r3 cq).1]; unfold InR; omega, (CQ_r3 cq).2.2⟩, (CQ_r3 cq).2.1⟩
