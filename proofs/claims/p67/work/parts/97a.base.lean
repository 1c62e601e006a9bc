/-! ===== what the evaluator's values, things and worlds say of the machine (own work) ===== -/
theorem ev_lg_eq {α : Type} (l : List α) : ∀ n, ev_lg l n = l[n]? := by
  induction l with
  | nil => intro n; rfl
  | cons a t ih =>
    intro n
    cases n with
    | zero => rfl
    | succ m => exact (ih m).trans (by simp)
theorem ev_ls_eq {α : Type} (l : List α) : ∀ n v, ev_ls l n v = l.set n v := by
  induction l with
  | nil => intro n v; rfl
  | cons a t ih =>
    intro n v
    cases n with
    | zero => rfl
    | succ m =>
      show a :: ev_ls t m v = _
      rw [ih]
      rfl
theorem ev_if_t {α : Type} {t e : α} : ev_if true t e = t := rfl
theorem ev_if_f {α : Type} {t e : α} : ev_if false t e = e := rfl
theorem ev_if_n {α : Type} {c : Bool} {t : Option α} {r : α} (h : ev_if c t none = some r) : c = true ∧ t = some r := by
  cases c
  · cases h
  · exact ⟨rfl, h⟩
theorem ev_g2_eq {α : Type} (c : List (List α)) (p q : Nat) : ev_g2 c p q = (c[p]?).bind (fun d => d[q]?) := by
  unfold ev_g2
  rw [ev_lg_eq]
  cases h : c[p]? with
  | none => rfl
  | some d => exact ev_lg_eq d _
theorem ev_get_eq {α : Type} (t : List (List (List α))) (i : Nat) : ev_get t i = (t[i / 64]?).bind (fun c => (c[i / 8 % 8]?).bind (fun d => d[i % 8]?)) := by
  unfold ev_get
  rw [ev_lg_eq]
  cases h : t[i / 64]? with
  | none => rfl
  | some c => exact ev_g2_eq c _ _
theorem ev_lso_eq {α : Type} (l : List α) : ∀ n v l', ev_lso l n v = some l' → n < l.length ∧ l' = l.set n v := by
  induction l with
  | nil => intro n v l' h; exact absurd h (fun z => by cases z)
  | cons a t ih =>
    intro n v l' h
    cases n with
    | zero =>
      have h : some (v :: t) = some l' := h
      cases h
      exact ⟨by simp, rfl⟩
    | succ m =>
      have h : (Option.rec none (fun z => some (a :: z)) (ev_lso t m v) : Option (List α)) = some l' := h
      cases hz : ev_lso t m v with
      | none => rw [hz] at h; exact absurd h (fun z => by cases z)
      | some z =>
        rw [hz] at h
        have h : some (a :: z) = some l' := h
        cases h
        obtain ⟨h1, h2⟩ := ih m v z hz
        exact ⟨by simpa using h1, by rw [h2]; rfl⟩
theorem ev_s2_ok {α : Type} {c c' : List (List α)} {p q : Nat} {v : α} (h : ev_s2 c p q v = some c') : (∃ u, ev_g2 c p q = some u) ∧ ∀ p' q', ev_g2 c' p' q' = if p' = p ∧ q' = q then some v else ev_g2 c p' q' := by
  unfold ev_s2 at h
  rw [ev_lg_eq] at h
  cases hc : c[p]? with
  | none => rw [hc] at h; exact absurd h (fun z => by cases z)
  | some d =>
    rw [hc] at h
    have h : (Option.rec none (fun d' => ev_lso c p d') (ev_lso d q v) : Option (List (List α))) = some c' := h
    cases hz : ev_lso d q v with
    | none => rw [hz] at h; exact absurd h (fun z => by cases z)
    | some d' =>
      rw [hz] at h
      obtain ⟨hl2, rfl⟩ := ev_lso_eq d _ _ _ hz
      obtain ⟨hl1, rfl⟩ := ev_lso_eq c _ _ _ h
      refine ⟨⟨d[q], ?_⟩, fun p' q' => ?_⟩
      · rw [ev_g2_eq, hc]
        exact List.getElem?_eq_getElem hl2
      · rw [ev_g2_eq, ev_g2_eq]
        by_cases h1 : p' = p
        · subst h1
          rw [List.getElem?_set_self hl1, hc]
          show (d.set q v)[q']? = _
          by_cases h2 : q' = q
          · subst h2
            rw [if_pos ⟨rfl, rfl⟩, List.getElem?_set_self hl2]
          · rw [if_neg (fun z => h2 z.2), List.getElem?_set_ne (fun q => h2 q.symm)]
            rfl
        · rw [if_neg (fun z => h1 z.1), List.getElem?_set_ne (fun q => h1 q.symm)]
theorem ev_sto_ok {α : Type} {t t' : List (List (List α))} {i : Nat} {v : α} (h : ev_sto t i v = some t') : (∃ u, ev_get t i = some u) ∧ ∀ j, ev_get t' j = if j = i then some v else ev_get t j := by
  unfold ev_sto at h
  rw [ev_lg_eq] at h
  cases hc : t[i / 64]? with
  | none => rw [hc] at h; exact absurd h (fun z => by cases z)
  | some c =>
    rw [hc] at h
    have h : (Option.rec none (fun c' => ev_lso t (i / 64) c') (ev_s2 c (i / 8 % 8) (i % 8) v) : Option (List (List (List α)))) = some t' := h
    cases hz : ev_s2 c (i / 8 % 8) (i % 8) v with
    | none => rw [hz] at h; exact absurd h (fun z => by cases z)
    | some c' =>
      rw [hz] at h
      obtain ⟨⟨u, hu⟩, hj⟩ := ev_s2_ok hz
      obtain ⟨hl1, rfl⟩ := ev_lso_eq t _ _ _ h
      have eg : ∀ (t : List (List (List α))) (j : Nat), ev_get t j = (t[j / 64]?).bind (fun c => ev_g2 c (j / 8 % 8) (j % 8)) := by
        intro t j
        unfold ev_get
        rw [ev_lg_eq]
        cases t[j / 64]? <;> rfl
      refine ⟨⟨u, ?_⟩, fun j => ?_⟩
      · rw [eg, hc]
        exact hu
      · rw [eg, eg]
        by_cases h1 : j / 64 = i / 64
        · rw [h1, List.getElem?_set_self hl1, hc]
          show ev_g2 c' (j / 8 % 8) (j % 8) = if j = i then some v else ev_g2 c (j / 8 % 8) (j % 8)
          rw [hj]
          by_cases h2 : j = i
          · rw [if_pos h2, if_pos ⟨by rw [h2], by rw [h2]⟩]
          · rw [if_neg h2, if_neg (fun z => h2 (by omega))]
        · have : ¬ j = i := fun q => h1 (by rw [q])
          rw [if_neg this, List.getElem?_set_ne (fun q => h1 q.symm)]
theorem ev_upd_ok {w : ev_W} {i b : Nat} {q : ev_C} {v : ev_V} {kt : ev_W → ev_R} {r : ev_S} (h : ev_upd w i q b v kt = some r) :
    ∃ (d : List (List (List ev_V))) (x : List (List (List ev_C))) (u : ev_V), ev_get q.2.2 b = some u ∧ (∀ j, ev_get d j = if j = b then some v else ev_get q.2.2 j) ∧ (∀ j, ev_get x j = if j = i then some (q.1, (q.2.1, d)) else ev_get w.1 j) ∧ kt (x, w.2) = some r := by
  unfold ev_upd at h
  split at h
  · next d hd =>
    split at h
    · next x hx =>
      obtain ⟨⟨u, hu⟩, h1⟩ := ev_sto_ok hd
      exact ⟨d, x, u, hu, h1, (ev_sto_ok hx).2, h⟩
    · cases h
  · cases h
/-! numbers -/
def ev_bb (x : Int32) : Nat := (x.toInt + 2147483648).toNat
theorem ev_bb_ge (x : Int32) : -2147483648 ≤ x.toInt ∧ x.toInt < 2147483648 := ⟨by have := x.le_toInt; simpa using this, by have := x.toInt_lt; simpa using this⟩
theorem ev_bb_lt (x y : Int32) : x < y ↔ ev_bb x < ev_bb y := by
  rw [Int32.lt_iff_toInt_lt]
  have h1 := ev_bb_ge x
  have h2 := ev_bb_ge y
  unfold ev_bb
  omega
theorem ev_bb_inj {x y : Int32} (h : ev_bb x = ev_bb y) : x = y := by
  have h1 := ev_bb_ge x
  have h2 := ev_bb_ge y
  unfold ev_bb at h
  exact Int32.toInt_inj.mp (by omega)
theorem ev_bb_max (x : Int32) : ev_bb x ≤ 4294967295 := by
  have h1 := ev_bb_ge x
  unfold ev_bb
  omega
theorem ev_nI_toInt (n : Nat) : (nI n).toInt = ((n : Int) + 2147483648) % 4294967296 - 2147483648 := by
  unfold nI
  rw [Int32.toInt_ofNat', Int.bmod_def]
  have e : (Int32.size : Int) = 4294967296 := by rfl
  rw [e]
  omega
theorem ev_bi_ok (n : Nat) : ev_bi n = ev_bb (nI n) := by
  unfold ev_bi ev_bb
  rw [ev_nI_toInt]
  omega
theorem ev_nI_eq {m n : Nat} (h : m % 4294967296 = n % 4294967296) : nI m = nI n := by
  apply ev_bb_inj
  rw [← ev_bi_ok, ← ev_bi_ok]
  unfold ev_bi
  omega
theorem ev_nI_mod (n : Nat) : nI (n % 4294967296) = nI n := ev_nI_eq (by omega)
theorem ev_nI_n (x : Int32) : nI (ev_n x) = x := by
  unfold ev_n nI
  exact Int32.toBitVec_inj.mp (by simp)
theorem ev_lN_n (x : Int64) : lN (ev_nl x) = x := by
  unfold ev_nl lN
  exact Int64.toBitVec_inj.mp (by simp)
theorem ev_nI_add (m n : Nat) : nI ((m + n) % 4294967296) = nI m + nI n := by rw [ev_nI_mod, nI_add]
theorem ev_nI_sub (m n : Nat) : nI ((m + (4294967296 - n % 4294967296)) % 4294967296) = nI m - nI n := by
  have h : nI ((m + (4294967296 - n % 4294967296)) % 4294967296) + nI n = nI m := by
    rw [nI_add]
    exact ev_nI_eq (by omega)
  rw [← h, Int32.add_sub_cancel]
theorem ev_nI_small {n : Nat} (h : n < 2147483648) : (nI n).toNatClampNeg = n ∧ ¬ nI n < 0 := ⟨nI_clamp (by omega), nI_pos (by omega)⟩
/-! values -/
/-- where the script and the texts stand -/
def ev_B : Type := Nat × ((Nat → Nat) × Nat)
/-- the cells that may be written -/
def ev_A (b : ev_B) (B0 : Nat) : Nat → Prop := fun q => B0 ≤ q ∧ q < B0 + b.2.2
def ev_ad (b : ev_B) (B0 k : Nat) : Nat := if k = 1000000 then b.1 else if 2000000 ≤ k then b.2.1 (k - 2000000) else B0 + k
noncomputable def ev_dn (b : ev_B) (B0 : Nat) (σ : Nat → Int32) : ev_V → Value
  | .inl n => .int (nI n)
  | .inr (.inl none) => .null
  | .inr (.inl (some k)) => .ref (ev_ad b B0 k)
  | .inr (.inr (.inl (some i, _))) => .int (ev_sv σ i)
  | .inr (.inr (.inl (none, f))) => .int (f σ)
  | .inr (.inr (.inr (0, n))) => .long (lN n)
  | .inr (.inr (.inr (1, n))) => .float (UInt32.ofNat n)
  | .inr (.inr (.inr (_, n))) => .double (UInt64.ofNat n)
section EVV
variable {b : ev_B} {B0 : Nat} {σ : Nat → Int32}
theorem ev_dn_i {v : ev_V} (h : ev_ii v = true) : ∃ x, ev_dn b B0 σ v = .int x := by
  rcases v with n | r | ⟨t, f⟩ | ⟨k, n⟩
  · exact ⟨_, rfl⟩
  · cases h
  · cases t
    · exact ⟨_, rfl⟩
    · exact ⟨_, rfl⟩
  · cases h
theorem ev_dn_r {v : ev_V} (h : ev_ir v = true) : ∃ r : Option Nat, v = .inr (.inl r) ∧ ev_dn b B0 σ v = va_rf (r.map (ev_ad b B0)) := by
  rcases v with n | r | ⟨t, f⟩ | ⟨k, n⟩
  · cases h
  · refine ⟨r, rfl, ?_⟩
    cases r <;> rfl
  · cases h
  · cases h
theorem ev_dn_k {v : ev_V} {k : Nat} (h : ev_ik k v = true) : ∃ n, v = .inr (.inr (.inr (k, n))) := by
  rcases v with n | r | ⟨t, f⟩ | ⟨j, n⟩
  · cases h
  · cases h
  · cases h
  · have : j = k := Nat.eq_of_beq_eq_true h
    subst this
    exact ⟨n, rfl⟩
theorem ev_dn_c {v : ev_V} (h : ev_wide v = false) : (ev_dn b B0 σ v).category = 1 := by
  rcases v with n | r | ⟨t, f⟩ | ⟨j, n⟩
  · rfl
  · cases r <;> rfl
  · cases t <;> rfl
  · cases h
theorem ev_cs_ok (st : List ev_V) : ((st.map (ev_dn b B0 σ)).map fun v => v.category).sum ≤ ev_cs st := by
  induction st with
  | nil => exact Nat.le_refl _
  | cons v r ih =>
    simp only [List.map_cons, List.sum_cons, ev_cs]
    cases h : ev_wide v with
    | false =>
      rw [ev_dn_c h, ev_if_f]
      omega
    | true =>
      rw [ev_if_t]
      have : (ev_dn b B0 σ v).category ≤ 2 := by rcases lv_cat (ev_dn b B0 σ v) with q | q <;> omega
      omega
/-- what is known of the script's cells is true -/
def ev_FO (Φ : ev_P) (σ : Nat → Int32) : Prop := ∀ i, (ev_fl Φ.2 i).1 ≤ ev_bb (ev_sv σ i) ∧ ev_bb (ev_sv σ i) ≤ (ev_fl Φ.2 i).2
theorem ev_itv_ok {Φ : ev_P} (hΦ : ev_FO Φ σ) {v : ev_V} {q : Nat × Nat} (h : ev_itv Φ v = some q) : ∃ x, ev_dn b B0 σ v = .int x ∧ q.1 ≤ ev_bb x ∧ ev_bb x ≤ q.2 := by
  rcases v with n | r | ⟨t, f⟩ | ⟨j, n⟩
  · have e : q = (ev_bi n, ev_bi n) := (Option.some.inj h).symm
    rw [e]
    exact ⟨nI n, rfl, by rw [← ev_bi_ok]; exact Nat.le_refl _, by rw [← ev_bi_ok]; exact Nat.le_refl _⟩
  · exact absurd h (fun z => by cases z)
  · cases t with
    | none =>
      have e : q = (0, 4294967295) := (Option.some.inj h).symm
      rw [e]
      exact ⟨f σ, rfl, Nat.zero_le _, ev_bb_max _⟩
    | some i =>
      have e : q = ev_fl Φ.2 i := (Option.some.inj h).symm
      rw [e]
      exact ⟨ev_sv σ i, rfl, hΦ i⟩
  · exact absurd h (fun z => by cases z)
theorem ev_lt_ok {Φ : ev_P} (hΦ : ev_FO Φ σ) {x y : ev_V} {r : Bool} (h : ev_lt Φ x y = some r) : ∃ a d, ev_dn b B0 σ x = .int a ∧ ev_dn b B0 σ y = .int d ∧ (a < d ↔ r = true) := by
  unfold ev_lt at h
  cases hx : ev_itv Φ x with
  | none => rw [hx] at h; cases h
  | some p1 =>
    cases hy : ev_itv Φ y with
    | none => rw [hx, hy] at h; cases h
    | some p2 =>
      rw [hx, hy] at h
      obtain ⟨a, ha, a1, a2⟩ := ev_itv_ok (b := b) (B0 := B0) hΦ hx
      obtain ⟨d, hd, d1, d2⟩ := ev_itv_ok (b := b) (B0 := B0) hΦ hy
      refine ⟨a, d, ha, hd, ?_⟩
      rw [ev_bb_lt]
      dsimp only at h
      cases c1 : Nat.ble (p1.2 + 1) p2.1 with
      | true =>
        rw [c1] at h
        cases h
        have := Nat.le_of_ble_eq_true c1
        exact ⟨fun _ => rfl, fun _ => by omega⟩
      | false =>
        rw [c1, ev_if_f] at h
        cases c2 : Nat.ble p2.2 p1.1 with
        | true =>
          rw [c2] at h
          cases h
          have := Nat.le_of_ble_eq_true c2
          exact ⟨fun q => by omega, fun q => by cases q⟩
        | false =>
          rw [c2] at h
          cases h
theorem ev_eq_ok {Φ : ev_P} (hΦ : ev_FO Φ σ) {x y : ev_V} {r : Bool} (h : ev_eq Φ x y = some r) : ∃ a d, ev_dn b B0 σ x = .int a ∧ ev_dn b B0 σ y = .int d ∧ (a = d ↔ r = true) := by
  unfold ev_eq at h
  cases hx : ev_itv Φ x with
  | none => rw [hx] at h; cases h
  | some p1 =>
    cases hy : ev_itv Φ y with
    | none => rw [hx, hy] at h; cases h
    | some p2 =>
      rw [hx, hy] at h
      obtain ⟨a, ha, a1, a2⟩ := ev_itv_ok (b := b) (B0 := B0) hΦ hx
      obtain ⟨d, hd, d1, d2⟩ := ev_itv_ok (b := b) (B0 := B0) hΦ hy
      refine ⟨a, d, ha, hd, ?_⟩
      dsimp only at h
      cases c1 : Nat.ble (p1.2 + 1) p2.1 with
      | true =>
        rw [c1] at h
        cases h
        have := Nat.le_of_ble_eq_true c1
        exact ⟨fun q => by rw [q] at a2; omega, fun q => by cases q⟩
      | false =>
        rw [c1, ev_if_f] at h
        cases c2 : Nat.ble (p2.2 + 1) p1.1 with
        | true =>
          rw [c2] at h
          cases h
          have := Nat.le_of_ble_eq_true c2
          exact ⟨fun q => by rw [q] at a1; omega, fun q => by cases q⟩
        | false =>
          rw [c2, ev_if_f] at h
          obtain ⟨c3, h⟩ := ev_if_n h
          cases h
          simp only [Bool.and_eq_true] at c3
          have e1 := Nat.eq_of_beq_eq_true c3.1
          have e2 := Nat.eq_of_beq_eq_true c3.2.1
          have e3 := Nat.eq_of_beq_eq_true c3.2.2
          exact ⟨fun _ => rfl, fun _ => ev_bb_inj (by omega)⟩
def ev_rel (j : Nat) (a d : Int32) : Prop := if j = 0 then a = d else if j = 1 then a < d else d < a
theorem ev_cmp_ok {Φ : ev_P} (hΦ : ev_FO Φ σ) {j : Nat} {x y : ev_V} {r : Bool} (h : ev_cmp Φ j x y = some r) : ∃ a d, ev_dn b B0 σ x = .int a ∧ ev_dn b B0 σ y = .int d ∧ (ev_rel j a d ↔ r = true) := by
  unfold ev_cmp at h
  cases c1 : Nat.beq j 0 with
  | true =>
    rw [c1, ev_if_t] at h
    obtain ⟨a, d, h1, h2, h3⟩ := ev_eq_ok (b := b) (B0 := B0) hΦ h
    refine ⟨a, d, h1, h2, ?_⟩
    unfold ev_rel
    rw [if_pos (Nat.eq_of_beq_eq_true c1)]
    exact h3
  | false =>
    rw [c1, ev_if_f] at h
    cases c2 : Nat.beq j 1 with
    | true =>
      rw [c2, ev_if_t] at h
      obtain ⟨a, d, h1, h2, h3⟩ := ev_lt_ok (b := b) (B0 := B0) hΦ h
      refine ⟨a, d, h1, h2, ?_⟩
      unfold ev_rel
      rw [if_neg (Nat.ne_of_beq_eq_false c1), if_pos (Nat.eq_of_beq_eq_true c2)]
      exact h3
    | false =>
      rw [c2, ev_if_f] at h
      obtain ⟨a, d, h1, h2, h3⟩ := ev_lt_ok (b := b) (B0 := B0) hΦ h
      refine ⟨d, a, h2, h1, ?_⟩
      unfold ev_rel
      rw [if_neg (Nat.ne_of_beq_eq_false c1), if_neg (Nat.ne_of_beq_eq_false c2)]
      exact h3
theorem ev_iv_ok {v : ev_V} {f : (Nat → Int32) → Int32} (h : ev_iv v = some f) : ev_dn b B0 σ v = .int (f σ) := by
  rcases v with n | r | ⟨t, g⟩ | ⟨j, n⟩
  · cases h; rfl
  · cases h
  · cases t
    · cases h; rfl
    · cases h; rfl
  · cases h
theorem ev_b2_ok {G : Nat → Nat → Nat} {F : Int32 → Int32 → Int32} (hG : ∀ m n, nI (G m n) = F (nI m) (nI n)) {x y z : ev_V} (h : ev_b2 G F x y = some z) : ∃ a d, ev_dn b B0 σ x = .int a ∧ ev_dn b B0 σ y = .int d ∧ ev_dn b B0 σ z = .int (F a d) := by
  have gen : ∀ x y : ev_V, (match ev_iv x, ev_iv y with
    | some f, some g => some (.inr (.inr (.inl (none, fun σ => F (f σ) (g σ)))))
    | _, _ => none) = some z → ∃ a d, ev_dn b B0 σ x = .int a ∧ ev_dn b B0 σ y = .int d ∧ ev_dn b B0 σ z = .int (F a d) := by
    intro x y h
    cases hx : ev_iv x with
    | none => rw [hx] at h; cases h
    | some f =>
      cases hy : ev_iv y with
      | none => rw [hx, hy] at h; cases h
      | some g =>
        rw [hx, hy] at h
        cases h
        exact ⟨f σ, g σ, ev_iv_ok hx, ev_iv_ok hy, rfl⟩
  unfold ev_b2 at h
  split at h
  · cases h
    rename_i m n
    exact ⟨nI m, nI n, rfl, rfl, by show Value.int _ = _; rw [hG]⟩
  · exact gen _ _ h
end EVV
