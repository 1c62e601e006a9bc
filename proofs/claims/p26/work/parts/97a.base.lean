/-! ===== what the evaluator's values, things and worlds say of the machine (own work) ===== -/
theorem ev_lg_eq {α : Type} (l : List α) : ∀ n, ev_lg l n = l[n]? := by
  induction l with
  | nil => intro n; rfl
  | cons a t ih =>
    intro n
    cases n with
    | zero => rfl
    | succ m => exact (ih m).trans (by simp)
theorem ev_ls_eq {α : Type} (l : List α) : ∀ n v, ev_ls l n v = l.set n v := by
  induction l with
  | nil => intro n v; rfl
  | cons a t ih =>
    intro n v
    cases n with
    | zero => rfl
    | succ m =>
      show a :: ev_ls t m v = _
      rw [ih]
      rfl
theorem ev_if_t {α : Type} {t e : α} : ev_if true t e = t := rfl
theorem ev_if_f {α : Type} {t e : α} : ev_if false t e = e := rfl
theorem ev_if_n {α : Type} {c : Bool} {t : Option α} {r : α} (h : ev_if c t none = some r) : c = true ∧ t = some r := by
  cases c
  · cases h
  · exact ⟨rfl, h⟩
theorem ev_g2_eq {α : Type} (c : List (List α)) (p q : Nat) : ev_g2 c p q = (c[p]?).bind (fun d => d[q]?) := by
  unfold ev_g2
  rw [ev_lg_eq]
  cases h : c[p]? with
  | none => rfl
  | some d => exact ev_lg_eq d _
theorem ev_get_eq {α : Type} (t : List (List (List α))) (i : Nat) : ev_get t i = (t[i / 64]?).bind (fun c => (c[i / 8 % 8]?).bind (fun d => d[i % 8]?)) := by
  unfold ev_get
  rw [ev_lg_eq]
  cases h : t[i / 64]? with
  | none => rfl
  | some c => exact ev_g2_eq c _ _
theorem ev_lso_eq {α : Type} (l : List α) : ∀ n v l', ev_lso l n v = some l' → n < l.length ∧ l' = l.set n v := by
  induction l with
  | nil => intro n v l' h; exact absurd h (fun z => by cases z)
  | cons a t ih =>
    intro n v l' h
    cases n with
    | zero =>
      have h : some (v :: t) = some l' := h
      cases h
      exact ⟨by simp, rfl⟩
    | succ m =>
      have h : (Option.rec none (fun z => some (a :: z)) (ev_lso t m v) : Option (List α)) = some l' := h
      cases hz : ev_lso t m v with
      | none => rw [hz] at h; exact absurd h (fun z => by cases z)
      | some z =>
        rw [hz] at h
        have h : some (a :: z) = some l' := h
        cases h
        obtain ⟨h1, h2⟩ := ih m v z hz
        exact ⟨by simpa using h1, by rw [h2]; rfl⟩
theorem ev_s2_ok {α : Type} {c c' : List (List α)} {p q : Nat} {v : α} (h : ev_s2 c p q v = some c') : (∃ u, ev_g2 c p q = some u) ∧ ∀ p' q', ev_g2 c' p' q' = if p' = p ∧ q' = q then some v else ev_g2 c p' q' := by
  unfold ev_s2 at h
  rw [ev_lg_eq] at h
  cases hc : c[p]? with
  | none => rw [hc] at h; exact absurd h (fun z => by cases z)
  | some d =>
    rw [hc] at h
    have h : (Option.rec none (fun d' => ev_lso c p d') (ev_lso d q v) : Option (List (List α))) = some c' := h
    cases hz : ev_lso d q v with
    | none => rw [hz] at h; exact absurd h (fun z => by cases z)
    | some d' =>
      rw [hz] at h
      obtain ⟨hl2, rfl⟩ := ev_lso_eq d _ _ _ hz
      obtain ⟨hl1, rfl⟩ := ev_lso_eq c _ _ _ h
      refine ⟨⟨d[q], ?_⟩, fun p' q' => ?_⟩
      · rw [ev_g2_eq, hc]
        exact List.getElem?_eq_getElem hl2
      · rw [ev_g2_eq, ev_g2_eq]
        by_cases h1 : p' = p
        · subst h1
          rw [List.getElem?_set_self hl1, hc]
          show (d.set q v)[q']? = _
          by_cases h2 : q' = q
          · subst h2
            rw [if_pos ⟨rfl, rfl⟩, List.getElem?_set_self hl2]
          · rw [if_neg (fun z => h2 z.2), List.getElem?_set_ne (fun q => h2 q.symm)]
            rfl
        · rw [if_neg (fun z => h1 z.1), List.getElem?_set_ne (fun q => h1 q.symm)]
theorem ev_sto_ok {α : Type} {t t' : List (List (List α))} {i : Nat} {v : α} (h : ev_sto t i v = some t') : (∃ u, ev_get t i = some u) ∧ ∀ j, ev_get t' j = if j = i then some v else ev_get t j := by
  unfold ev_sto at h
  rw [ev_lg_eq] at h
  cases hc : t[i / 64]? with
  | none => rw [hc] at h; exact absurd h (fun z => by cases z)
  | some c =>
    rw [hc] at h
    have h : (Option.rec none (fun c' => ev_lso t (i / 64) c') (ev_s2 c (i / 8 % 8) (i % 8) v) : Option (List (List (List α)))) = some t' := h
    cases hz : ev_s2 c (i / 8 % 8) (i % 8) v with
    | none => rw [hz] at h; exact absurd h (fun z => by cases z)
    | some c' =>
      rw [hz] at h
      obtain ⟨⟨u, hu⟩, hj⟩ := ev_s2_ok hz
      obtain ⟨hl1, rfl⟩ := ev_lso_eq t _ _ _ h
      have eg : ∀ (t : List (List (List α))) (j : Nat), ev_get t j = (t[j / 64]?).bind (fun c => ev_g2 c (j / 8 % 8) (j % 8)) := by
        intro t j
        unfold ev_get
        rw [ev_lg_eq]
        cases t[j / 64]? <;> rfl
      refine ⟨⟨u, ?_⟩, fun j => ?_⟩
      · rw [eg, hc]
        exact hu
      · rw [eg, eg]
        by_cases h1 : j / 64 = i / 64
        · rw [h1, List.getElem?_set_self hl1, hc]
          show ev_g2 c' (j / 8 % 8) (j % 8) = if j = i then some v else ev_g2 c (j / 8 % 8) (j % 8)
          rw [hj]
          by_cases h2 : j = i
          · rw [if_pos h2, if_pos ⟨by rw [h2], by rw [h2]⟩]
          · rw [if_neg h2, if_neg (fun z => h2 (by omega))]
        · have : ¬ j = i := fun q => h1 (by rw [q])
          rw [if_neg this, List.getElem?_set_ne (fun q => h1 q.symm)]
theorem ev_upd_ok {w : ev_W} {i b : Nat} {q : ev_C} {v : ev_V} {kt : ev_W → ev_R} {r : ev_S} (h : ev_upd w i q b v kt = some r) :
    ∃ (d : List (List (List ev_V))) (x : List (List (List ev_C))) (u : ev_V), ev_get q.2.2 b = some u ∧ (∀ j, ev_get d j = if j = b then some v else ev_get q.2.2 j) ∧ (∀ j, ev_get x j = if j = i then some (q.1, (q.2.1, d)) else ev_get w.1 j) ∧ kt (x, w.2) = some r := by
  unfold ev_upd at h
  split at h
  · next d hd =>
    split at h
    · next x hx =>
      obtain ⟨⟨u, hu⟩, h1⟩ := ev_sto_ok hd
      exact ⟨d, x, u, hu, h1, (ev_sto_ok hx).2, h⟩
    · cases h
  · cases h
/-! numbers -/
def ev_bb (x : Int32) : Nat := (x.toInt + 2147483648).toNat
theorem ev_bb_ge (x : Int32) : -2147483648 ≤ x.toInt ∧ x.toInt < 2147483648 := ⟨by have := x.le_toInt; simpa using this, by have := x.toInt_lt; simpa using this⟩
theorem ev_bb_lt (x y : Int32) : x < y ↔ ev_bb x < ev_bb y := by
  rw [Int32.lt_iff_toInt_lt]
  have h1 := ev_bb_ge x
  have h2 := ev_bb_ge y
  unfold ev_bb
  omega
theorem ev_bb_inj {x y : Int32} (h : ev_bb x = ev_bb y) : x = y := by
  have h1 := ev_bb_ge x
  have h2 := ev_bb_ge y
  unfold ev_bb at h
  exact Int32.toInt_inj.mp (by omega)
theorem ev_bb_max (x : Int32) : ev_bb x ≤ 4294967295 := by
  have h1 := ev_bb_ge x
  unfold ev_bb
  omega
theorem ev_nI_toInt (n : Nat) : (nI n).toInt = ((n : Int) + 2147483648) % 4294967296 - 2147483648 := by
  unfold nI
  rw [Int32.toInt_ofNat', Int.bmod_def]
  have e : (Int32.size : Int) = 4294967296 := by rfl
  rw [e]
  omega
theorem ev_bi_ok (n : Nat) : ev_bi n = ev_bb (nI n) := by
  unfold ev_bi ev_bb
  rw [ev_nI_toInt]
  omega
theorem ev_nI_eq {m n : Nat} (h : m % 4294967296 = n % 4294967296) : nI m = nI n := by
  apply ev_bb_inj
  rw [← ev_bi_ok, ← ev_bi_ok]
  unfold ev_bi
  omega
theorem ev_nI_mod (n : Nat) : nI (n % 4294967296) = nI n := ev_nI_eq (by omega)
theorem ev_nI_n (x : Int32) : nI (ev_n x) = x := by
  unfold ev_n nI
  exact Int32.toBitVec_inj.mp (by simp)
theorem ev_lN_n (x : Int64) : lN (ev_nl x) = x := by
  unfold ev_nl lN
  exact Int64.toBitVec_inj.mp (by simp)
theorem ev_nI_add (m n : Nat) : nI ((m + n) % 4294967296) = nI m + nI n := by rw [ev_nI_mod, nI_add]
theorem ev_nI_sub (m n : Nat) : nI ((m + (4294967296 - n % 4294967296)) % 4294967296) = nI m - nI n := by
  have h : nI ((m + (4294967296 - n % 4294967296)) % 4294967296) + nI n = nI m := by
    rw [nI_add]
    exact ev_nI_eq (by omega)
  rw [← h, Int32.add_sub_cancel]
theorem ev_nI_small {n : Nat} (h : n < 2147483648) : (nI n).toNatClampNeg = n ∧ ¬ nI n < 0 := ⟨nI_clamp (by omega), nI_pos (by omega)⟩
/-! values -/
/-- where the script and the texts stand -/
def ev_B : Type := Nat × (Nat → Nat)
def ev_ad (b : ev_B) (B0 k : Nat) : Nat := if k = 1000000 then b.1 else if 2000000 ≤ k then b.2 (k - 2000000) else B0 + k
noncomputable def ev_dn (b : ev_B) (B0 : Nat) (σ : Nat → Int32) : ev_V → Value
  | .inl n => .int (nI n)
  | .inr (.inl none) => .null
  | .inr (.inl (some k)) => .ref (ev_ad b B0 k)
  | .inr (.inr (.inl (some i, _))) => .int (ev_sv σ i)
  | .inr (.inr (.inl (none, f))) => .int (f σ)
  | .inr (.inr (.inr (0, n))) => .long (lN n)
  | .inr (.inr (.inr (1, n))) => .float (UInt32.ofNat n)
  | .inr (.inr (.inr (_, n))) => .double (UInt64.ofNat n)
section EVV
variable {b : ev_B} {B0 : Nat} {σ : Nat → Int32}
theorem ev_dn_i {v : ev_V} (h : ev_ii v = true) : ∃ x, ev_dn b B0 σ v = .int x := by
  rcases v with n | r | ⟨t, f⟩ | ⟨k, n⟩
  · exact ⟨_, rfl⟩
  · cases h
  · cases t
    · exact ⟨_, rfl⟩
    · exact ⟨_, rfl⟩
  · cases h
theorem ev_dn_r {v : ev_V} (h : ev_ir v = true) : ∃ r : Option Nat, v = .inr (.inl r) ∧ ev_dn b B0 σ v = va_rf (r.map (ev_ad b B0)) := by
  rcases v with n | r | ⟨t, f⟩ | ⟨k, n⟩
  · cases h
  · refine ⟨r, rfl, ?_⟩
    cases r <;> rfl
  · cases h
  · cases h
theorem ev_dn_k {v : ev_V} {k : Nat} (h : ev_ik k v = true) : ∃ n, v = .inr (.inr (.inr (k, n))) := by
  rcases v with n | r | ⟨t, f⟩ | ⟨j, n⟩
  · cases h
  · cases h
  · cases h
  · have : j = k := Nat.eq_of_beq_eq_true h
    subst this
    exact ⟨n, rfl⟩
theorem ev_dn_c {v : ev_V} (h : ev_wide v = false) : (ev_dn b B0 σ v).category = 1 := by
  rcases v with n | r | ⟨t, f⟩ | ⟨j, n⟩
  · rfl
  · cases r <;> rfl
  · cases t <;> rfl
  · cases h
theorem ev_cs_ok (st : List ev_V) : ((st.map (ev_dn b B0 σ)).map fun v => v.category).sum ≤ ev_cs st := by
  induction st with
  | nil => exact Nat.le_refl _
  | cons v r ih =>
    simp only [List.map_cons, List.sum_cons, ev_cs]
    cases h : ev_wide v with
    | false =>
      rw [ev_dn_c h, ev_if_f]
      omega
    | true =>
      rw [ev_if_t]
      have : (ev_dn b B0 σ v).category ≤ 2 := by rcases lv_cat (ev_dn b B0 σ v) with q | q <;> omega
      omega
/-- what is known of the script's cells is true -/
def ev_FO (Φ : ev_P) (σ : Nat → Int32) : Prop := ∀ i, (ev_fl Φ.2 i).1 ≤ ev_bb (ev_sv σ i) ∧ ev_bb (ev_sv σ i) ≤ (ev_fl Φ.2 i).2
theorem ev_itv_ok {Φ : ev_P} (hΦ : ev_FO Φ σ) {v : ev_V} {q : Nat × Nat} (h : ev_itv Φ v = some q) : ∃ x, ev_dn b B0 σ v = .int x ∧ q.1 ≤ ev_bb x ∧ ev_bb x ≤ q.2 := by
  rcases v with n | r | ⟨t, f⟩ | ⟨j, n⟩
  · have e : q = (ev_bi n, ev_bi n) := (Option.some.inj h).symm
    rw [e]
    exact ⟨nI n, rfl, by rw [← ev_bi_ok]; exact Nat.le_refl _, by rw [← ev_bi_ok]; exact Nat.le_refl _⟩
  · exact absurd h (fun z => by cases z)
  · cases t with
    | none =>
      have e : q = (0, 4294967295) := (Option.some.inj h).symm
      rw [e]
      exact ⟨f σ, rfl, Nat.zero_le _, ev_bb_max _⟩
    | some i =>
      have e : q = ev_fl Φ.2 i := (Option.some.inj h).symm
      rw [e]
      exact ⟨ev_sv σ i, rfl, hΦ i⟩
  · exact absurd h (fun z => by cases z)
theorem ev_lt_ok {Φ : ev_P} (hΦ : ev_FO Φ σ) {x y : ev_V} {r : Bool} (h : ev_lt Φ x y = some r) : ∃ a d, ev_dn b B0 σ x = .int a ∧ ev_dn b B0 σ y = .int d ∧ (a < d ↔ r = true) := by
  unfold ev_lt at h
  cases hx : ev_itv Φ x with
  | none => rw [hx] at h; cases h
  | some p1 =>
    cases hy : ev_itv Φ y with
    | none => rw [hx, hy] at h; cases h
    | some p2 =>
      rw [hx, hy] at h
      obtain ⟨a, ha, a1, a2⟩ := ev_itv_ok (b := b) (B0 := B0) hΦ hx
      obtain ⟨d, hd, d1, d2⟩ := ev_itv_ok (b := b) (B0 := B0) hΦ hy
      refine ⟨a, d, ha, hd, ?_⟩
      rw [ev_bb_lt]
      dsimp only at h
      cases c1 : Nat.ble (p1.2 + 1) p2.1 with
      | true =>
        rw [c1] at h
        cases h
        have := Nat.le_of_ble_eq_true c1
        exact ⟨fun _ => rfl, fun _ => by omega⟩
      | false =>
        rw [c1, ev_if_f] at h
        cases c2 : Nat.ble p2.2 p1.1 with
        | true =>
          rw [c2] at h
          cases h
          have := Nat.le_of_ble_eq_true c2
          exact ⟨fun q => by omega, fun q => by cases q⟩
        | false =>
          rw [c2] at h
          cases h
theorem ev_eq_ok {Φ : ev_P} (hΦ : ev_FO Φ σ) {x y : ev_V} {r : Bool} (h : ev_eq Φ x y = some r) : ∃ a d, ev_dn b B0 σ x = .int a ∧ ev_dn b B0 σ y = .int d ∧ (a = d ↔ r = true) := by
  unfold ev_eq at h
  cases hx : ev_itv Φ x with
  | none => rw [hx] at h; cases h
  | some p1 =>
    cases hy : ev_itv Φ y with
    | none => rw [hx, hy] at h; cases h
    | some p2 =>
      rw [hx, hy] at h
      obtain ⟨a, ha, a1, a2⟩ := ev_itv_ok (b := b) (B0 := B0) hΦ hx
      obtain ⟨d, hd, d1, d2⟩ := ev_itv_ok (b := b) (B0 := B0) hΦ hy
      refine ⟨a, d, ha, hd, ?_⟩
      dsimp only at h
      cases c1 : Nat.ble (p1.2 + 1) p2.1 with
      | true =>
        rw [c1] at h
        cases h
        have := Nat.le_of_ble_eq_true c1
        exact ⟨fun q => by rw [q] at a2; omega, fun q => by cases q⟩
      | false =>
        rw [c1, ev_if_f] at h
        cases c2 : Nat.ble (p2.2 + 1) p1.1 with
        | true =>
          rw [c2] at h
          cases h
          have := Nat.le_of_ble_eq_true c2
          exact ⟨fun q => by rw [q] at a1; omega, fun q => by cases q⟩
        | false =>
          rw [c2, ev_if_f] at h
          obtain ⟨c3, h⟩ := ev_if_n h
          cases h
          simp only [Bool.and_eq_true] at c3
          have e1 := Nat.eq_of_beq_eq_true c3.1
          have e2 := Nat.eq_of_beq_eq_true c3.2.1
          have e3 := Nat.eq_of_beq_eq_true c3.2.2
          exact ⟨fun _ => rfl, fun _ => ev_bb_inj (by omega)⟩
def ev_rel (j : Nat) (a d : Int32) : Prop := if j = 0 then a = d else if j = 1 then a < d else d < a
theorem ev_cmp_ok {Φ : ev_P} (hΦ : ev_FO Φ σ) {j : Nat} {x y : ev_V} {r : Bool} (h : ev_cmp Φ j x y = some r) : ∃ a d, ev_dn b B0 σ x = .int a ∧ ev_dn b B0 σ y = .int d ∧ (ev_rel j a d ↔ r = true) := by
  unfold ev_cmp at h
  cases c1 : Nat.beq j 0 with
  | true =>
    rw [c1, ev_if_t] at h
    obtain ⟨a, d, h1, h2, h3⟩ := ev_eq_ok (b := b) (B0 := B0) hΦ h
    refine ⟨a, d, h1, h2, ?_⟩
    unfold ev_rel
    rw [if_pos (Nat.eq_of_beq_eq_true c1)]
    exact h3
  | false =>
    rw [c1, ev_if_f] at h
    cases c2 : Nat.beq j 1 with
    | true =>
      rw [c2, ev_if_t] at h
      obtain ⟨a, d, h1, h2, h3⟩ := ev_lt_ok (b := b) (B0 := B0) hΦ h
      refine ⟨a, d, h1, h2, ?_⟩
      unfold ev_rel
      rw [if_neg (Nat.ne_of_beq_eq_false c1), if_pos (Nat.eq_of_beq_eq_true c2)]
      exact h3
    | false =>
      rw [c2, ev_if_f] at h
      obtain ⟨a, d, h1, h2, h3⟩ := ev_lt_ok (b := b) (B0 := B0) hΦ h
      refine ⟨d, a, h2, h1, ?_⟩
      unfold ev_rel
      rw [if_neg (Nat.ne_of_beq_eq_false c1), if_neg (Nat.ne_of_beq_eq_false c2)]
      exact h3
theorem ev_iv_ok {v : ev_V} {f : (Nat → Int32) → Int32} (h : ev_iv v = some f) : ev_dn b B0 σ v = .int (f σ) := by
  rcases v with n | r | ⟨t, g⟩ | ⟨j, n⟩
  · cases h; rfl
  · cases h
  · cases t
    · cases h; rfl
    · cases h; rfl
  · cases h
theorem ev_b2_ok {G : Nat → Nat → Nat} {F : Int32 → Int32 → Int32} (hG : ∀ m n, nI (G m n) = F (nI m) (nI n)) {x y z : ev_V} (h : ev_b2 G F x y = some z) : ∃ a d, ev_dn b B0 σ x = .int a ∧ ev_dn b B0 σ y = .int d ∧ ev_dn b B0 σ z = .int (F a d) := by
  have gen : ∀ x y : ev_V, (match ev_iv x, ev_iv y with
    | some f, some g => some (.inr (.inr (.inl (none, fun σ => F (f σ) (g σ)))))
    | _, _ => none) = some z → ∃ a d, ev_dn b B0 σ x = .int a ∧ ev_dn b B0 σ y = .int d ∧ ev_dn b B0 σ z = .int (F a d) := by
    intro x y h
    cases hx : ev_iv x with
    | none => rw [hx] at h; cases h
    | some f =>
      cases hy : ev_iv y with
      | none => rw [hx, hy] at h; cases h
      | some g =>
        rw [hx, hy] at h
        cases h
        exact ⟨f σ, g σ, ev_iv_ok hx, ev_iv_ok hy, rfl⟩
  unfold ev_b2 at h
  split at h
  · cases h
    rename_i m n
    exact ⟨nI m, nI n, rfl, rfl, by show Value.int _ = _; rw [hG]⟩
  · exact gen _ _ h
end EVV
/-! ===== a frame: what the evaluator's state says of the machine's; the instructions without the heap (own work) ===== -/
noncomputable def ev_fv (b : ev_B) (B0 : Nat) (σ : Nat → Int32) (d : List (List (List ev_V))) (k : Nat) : Value := match ev_get d k with
  | some v => ev_dn b B0 σ v
  | none => .null
def ev_ty (k : Nat) : FieldType := match k with
  | 20 => .int
  | 21 => .byte
  | 22 => .boolean
  | 23 => .long
  | 24 => .object RX3
  | _ => .object RX5
def ev_tys (aC : Nat → ClassId) : List (ClassId × FieldType) := [(aC 20, ev_ty 20), (aC 21, ev_ty 21), (aC 22, ev_ty 22), (aC 23, ev_ty 23), (aC 24, ev_ty 24), (aC 25, ev_ty 25)]
/-- a thing lies at a -/
def ev_at (D : va_G) (aC : Nat → ClassId) (b : ev_B) (B0 : Nat) (σ : Nat → Int32) (a : Nat) (q : ev_C) (H : Heap) : Prop :=
  q.1 = 99 ∨ (∃ r, vwCl[q.1]? = some r ∧ t_OB a (D.1 q.1) r.2.2 (D.2 q.1) H (ev_fv b B0 σ q.2.2)) ∨ (20 ≤ q.1 ∧ q.1 ≤ 25 ∧ H[a]? = some (arrV (aC q.1) q.2.1 (ev_fv b B0 σ q.2.2)))
/-- the world's things lie in the heap -/
def ev_J (D : va_G) (aC : Nat → ClassId) (b : ev_B) (B0 : Nat) (σ : Nat → Int32) (w : ev_W) (H : Heap) : Prop :=
  (∀ i q, ev_get w.1 i = some q → i < 1000000 ∧ ev_at D aC b B0 σ (B0 + i) q H) ∧ B0 + w.2.1 ≤ H.size ∧ (w.2.2.1 = true → H.size = B0 + w.2.1)
/-- the words that aren't good ones, but go along -/
def ev_bw : Cond → Bool
  | .castable _ _ => true
  | .fieldLinkNest _ _ _ _ _ _ => true
  | .methodLinkNest _ _ _ _ => true
  | .arrayOver (.object _) => true
  | .declares _ => true
  | _ => false
/-- the exceptions: class, and the classes above it but Throwable -/
def ev_ex (E : Nat) : String := match E with
  | 0 => "java/lang/IllegalArgumentException"
  | 1 => "java/lang/IllegalStateException"
  | 2 => "java/lang/IndexOutOfBoundsException"
  | _ => "java/util/NoSuchElementException"
/-- what a frame takes from the tables -/
def ev_VF (D : va_G) (aC : Nat → ClassId) (Sg : List (String × (Nat × String))) (U : State) : Prop :=
  va_K D vwCl (ev_tys aC) U ∧ (∀ w ∈ lw_tbl, ev_bw w = true → w.before #[] U = true) ∧ (∀ q ∈ Sg, ∃ sa, vk_R q.1 q.2.1 q.2.2 sa U) ∧ (∀ i j, i < 4 → j < 4 → i ≠ j → va_Nc (ev_ex i) (ev_ex j) U)
/-- .. and from the heap below the world -/
def ev_so : List (String × (Nat × String)) := [("OrphanTree$SetupReader", (60, "order")), ("OrphanTree$SetupReader", (70, "deep")), ("OrphanTree$SetupReader", (75, "root")), ("OrphanTree$SetupReader", (80, "process")), ("OrphanTree$SetupReader", (85, "heir")), ("OrphanTree$SetupReader", (90, "duty")), ("OrphanTree$SetupReader", (95, "refuse")), ("OrphanTree$SetupReader", (100, "will")), ("OrphanTree$SetupReader", (123, "near")), ("OrphanTree$SetupReader", (125, "group")), ("OrphanTree$SetupReader", (127, "room")), ("OrphanTree$SetupReader", (129, "kin")), ("OrphanTree$SetupReader", (131, "old")), ("OrphanTreeModel", (217, "order")), ("OrphanTreeModel", (223, "deep")), ("OrphanTreeModel", (227, "root")), ("OrphanTreeModel", (237, "process")), ("OrphanTreeModel", (242, "heir")), ("OrphanTreeModel", (247, "duty")), ("OrphanTreeModel", (252, "refuse")), ("OrphanTreeModel", (232, "will")), ("OrphanTreeModel", (194, "near")), ("OrphanTreeModel", (200, "group")), ("OrphanTreeModel", (202, "room")), ("OrphanTreeModel", (204, "kin")), ("OrphanTreeModel", (206, "old"))]
/-- the k-th text constant: whose, its place, the text -/
def ev_sk (k : Nat) : String × (Nat × String) := ev_so.getD k ("", (0, ""))
/-- its bytes -/
noncomputable def ev_bt (k : Nat) : List Nat := (ev_txt k).getD []
/-- the texts as they lie in the heap below the world -/
def ev_SZ (b : ev_B) (B0 : Nat) (U : State) (H : Heap) : Prop :=
  va_Z "java/lang/String" "COMPACT_STRINGS" "Z" (.int 1) (fun q => B0 ≤ q) U H ∧ (∃ fv : Value, (fv = .null ∨ ∃ z, fv = .ref z) ∧ va_Z "jdk/internal/util/Preconditions" "SIOOBE_FORMATTER" "Ljava/util/function/BiFunction;" fv (fun q => B0 ≤ q) U H) ∧ ∀ k, k < 26 → vk_R (ev_sk k).1 (ev_sk k).2.1 (ev_sk k).2.2 (b.2 k) U ∧ va_O "java/lang/String" (b.2 k) (fun q => B0 ≤ q) U H ∧ va_OF "java/lang/String" "coder" "B" (.int 0) (b.2 k) (fun q => B0 ≤ q) U H ∧ ∃ v, va_OF "java/lang/String" "value" "[B" (.ref v) (b.2 k) (fun q => B0 ≤ q) U H ∧ va_T .byte v (ev_bt k).length (fun j => .int (nI ((ev_bt k).getD j 0))) (fun q => B0 ≤ q) U H
def ev_ZF (b : ev_B) (B0 L : Nat) (σ : Nat → Int32) (U : State) (H : Heap) : Prop :=
  va_X b.1 L σ U H ∧ vx_Zq Bundle.tN "UNASSIGNED_STACK" Bundle.steD (fun q => B0 ≤ q) U H ∧ vx_Zq Bundle.tN "SUPPRESSED_SENTINEL" Bundle.listD (fun q => B0 ≤ q) U H ∧ ev_SZ b B0 U H
def ev_lh (b : ev_B) (B0 : Nat) (σ : Nat → Int32) (nL : Nat) (loc : ev_L) (ls : Array Slot) : Prop :=
  ls.size = nL ∧ lv_wf ls ∧ ∀ i v, ev_lg loc i = some (some v) → ls[i]? = some (.val (ev_dn b B0 σ v))
/-- the known locals as a list -/
noncomputable def ev_ll (b : ev_B) (B0 : Nat) (σ : Nat → Int32) (loc : ev_L) : List (Nat × Value) := (List.range loc.length).filterMap (fun i => match ev_lg loc i with
  | some (some v) => some (i, ev_dn b B0 σ v)
  | _ => none)
section EVF
variable {D : va_G} {aC : Nat → ClassId} {b : ev_B} {B0 L : Nat} {σ : Nat → Int32}
theorem ev_ll_in {loc : ev_L} {q : Nat × Value} : q ∈ ev_ll b B0 σ loc ↔ ∃ v, ev_lg loc q.1 = some (some v) ∧ q.2 = ev_dn b B0 σ v := by
  unfold ev_ll
  rw [List.mem_filterMap]
  constructor
  · rintro ⟨i, -, h⟩
    split at h
    · next v hv =>
      cases h
      exact ⟨v, hv, rfl⟩
    · cases h
  · rintro ⟨v, h1, h2⟩
    refine ⟨q.1, ?_, ?_⟩
    · rw [ev_lg_eq] at h1
      exact List.mem_range.mpr (List.getElem?_eq_some_iff.mp h1).1
    · rw [h1]
      show some (q.1, ev_dn b B0 σ v) = some q
      rw [← h2]
theorem ev_lh_has {nL : Nat} {loc : ev_L} {ls : Array Slot} (h : ev_lh b B0 σ nL loc ls) : lv_has ls nL (ev_ll b B0 σ loc) := by
  refine ⟨h.1, h.2.1, fun q hq => ?_⟩
  obtain ⟨v, h1, h2⟩ := ev_ll_in.mp hq
  rw [h2]
  exact h.2.2 _ _ h1
theorem ev_lh_st1 {nL a : Nat} {loc : ev_L} {ls' : Array Slot} {o : Option ev_V} {x : Value} (hw : ev_nw loc a = true) (hx : ∀ v, o = some v → ev_dn b B0 σ v = x)
    (h : lv_has ls' nL ((a, x) :: (ev_ll b B0 σ loc).filter (fun q => !(q.1 == a) && !(q.1 + 1 == a && q.2.category == 2)))) : ev_lh b B0 σ nL (ev_ls loc a o) ls' := by
  refine ⟨h.1, h.2.1, fun j v hj => ?_⟩
  rw [ev_lg_eq, ev_ls_eq, List.getElem?_set] at hj
  by_cases e : a = j
  · subst e
    rw [if_pos rfl] at hj
    split at hj
    · cases hj
      rw [hx v rfl]
      exact h.2.2 _ List.mem_cons_self
    · cases hj
  · rw [if_neg e, ← ev_lg_eq] at hj
    refine h.2.2 (j, ev_dn b B0 σ v) (List.mem_cons_of_mem _ (List.mem_filter.mpr ⟨ev_ll_in.mpr ⟨v, hj, rfl⟩, ?_⟩))
    have e1 : (j == a) = false := by simpa using fun q : j = a => e q.symm
    simp only [e1, Bool.not_false, Bool.true_and, Bool.not_eq_true']
    by_cases e2 : j + 1 = a
    · subst e2
      unfold ev_nw at hw
      simp only [hj] at hw
      have hv : ev_wide v = false := by simpa using hw
      rw [ev_dn_c hv]
      simp
    · simp [e2]
theorem ev_lh_st2 {nL a : Nat} {loc : ev_L} {ls' : Array Slot} {v : ev_V} {x : Value} (hw : ev_nw loc a = true) (hx : ev_dn b B0 σ v = x)
    (h : lv_has ls' nL ((a, x) :: (ev_ll b B0 σ loc).filter (fun q => !(q.1 == a) && (!(q.1 == a + 1) && !(q.1 + 1 == a && q.2.category == 2))))) : ev_lh b B0 σ nL (ev_ls (ev_ls loc a (some v)) (a + 1) none) ls' := by
  refine ⟨h.1, h.2.1, fun j v' hj => ?_⟩
  rw [ev_lg_eq, ev_ls_eq, List.getElem?_set] at hj
  by_cases e0 : a + 1 = j
  · rw [if_pos e0] at hj
    split at hj
    · cases hj
    · cases hj
  · rw [if_neg e0, ev_ls_eq, List.getElem?_set] at hj
    by_cases e : a = j
    · subst e
      rw [if_pos rfl] at hj
      split at hj
      · cases hj
        rw [hx]
        exact h.2.2 _ List.mem_cons_self
      · cases hj
    · rw [if_neg e, ← ev_lg_eq] at hj
      refine h.2.2 (j, ev_dn b B0 σ v') (List.mem_cons_of_mem _ (List.mem_filter.mpr ⟨ev_ll_in.mpr ⟨v', hj, rfl⟩, ?_⟩))
      have e1 : (j == a) = false := by simpa using fun q : j = a => e q.symm
      have e3 : (j == a + 1) = false := by simpa using fun q : j = a + 1 => e0 q.symm
      simp only [e1, e3, Bool.not_false, Bool.true_and, Bool.not_eq_true']
      by_cases e2 : j + 1 = a
      · subst e2
        unfold ev_nw at hw
        simp only [hj] at hw
        have hv : ev_wide v' = false := by simpa using hw
        rw [ev_dn_c hv]
        simp
      · simp [e2]
theorem ev_at.kept {a : Nat} {q : ev_C} {H H1 : Heap} (h : ev_at D aC b B0 σ a q H) (e : H1[a]? = H[a]?) : ev_at D aC b B0 σ a q H1 := by
  rcases h with h | ⟨r, h1, h2⟩ | ⟨h1, h2, h3⟩
  · exact Or.inl h
  · exact Or.inr (Or.inl ⟨r, h1, h2.kept e⟩)
  · exact Or.inr (Or.inr ⟨h1, h2, e.trans h3⟩)
theorem ev_J_set {w : ev_W} {H H1 : Heap} {i : Nat} {q q' : ev_C} {x : List (List (List ev_C))} (h : ev_J D aC b B0 σ w H) (hq : ev_get w.1 i = some q) (hx : ∀ j, ev_get x j = if j = i then some q' else ev_get w.1 j) (h1 : ev_at D aC b B0 σ (B0 + i) q' H1) (hz : H1.size = H.size) (ho : ∀ x, x ≠ B0 + i → H1[x]? = H[x]?) : ev_J D aC b B0 σ (x, w.2) H1 := by
  refine ⟨fun j u hj => ?_, by rw [hz]; exact h.2.1, by rw [hz]; exact h.2.2⟩
  have hj : ev_get x j = some u := hj
  rw [hx] at hj
  by_cases e : j = i
  · subst e
    rw [if_pos rfl] at hj
    cases hj
    exact ⟨(h.1 j q hq).1, h1⟩
  · rw [if_neg e] at hj
    exact ⟨(h.1 j u hj).1, (h.1 j u hj).2.kept (ho _ (by omega))⟩
variable {p : Program} {l : Launch} {e : Env} {R : Room} {s : State} {m : MethodId} {args : Array Value} {below : List Frame} {meth : Method} {c : Code} {Q : State → Prop}
variable {cc : ByteArray} {nL : Nat} {Ts : List Cond} {own : String} {Sg : List (String × (Nat × String))}
/-- the machine goes on well from here -/
def ev_Go (D : va_G) (aC : Nat → ClassId) (b : ev_B) (B0 : Nat) (σ : Nat → Int32) (p : Program) (l : Launch) (e : Env) (R : Room) (s : State) (m : MethodId) (args : Array Value) (below : List Frame) (meth : Method) (c : Code) (Q : State → Prop) (nL : Nat) (pc : Nat) (loc : ev_L) (st : List ev_V) (w : ev_W) : Prop :=
  ∀ (H : Heap) (locs : List Loc) (ls : Array Slot), ev_lh b B0 σ nL loc ls → ev_J D aC b B0 σ w H → va_S (fun q => B0 ≤ q) s.heap H locs →
    W p l e R s m args below meth c H locs w.2.2.2.1 w.2.2.2.2 Q (F0 m pc ls (st.map (ev_dn b B0 σ)))
/-- what holds in a frame -/
def ev_Fx (D : va_G) (aC : Nat → ClassId) (b : ev_B) (B0 L : Nat) (σ : Nat → Int32) (p : Program) (s : State) (m : MethodId) (args : Array Value) (meth : Method) (c : Code) (cc : ByteArray) (nL : Nat) (Ts : List Cond) (own : String) (Sg : List (String × (Nat × String))) : Prop :=
  p.tables.exec = Jvm.exec ∧ c.code = cc ∧ c.maxLocals = nL ∧ s.vm.findClass own = some m.cls ∧ (∀ w ∈ Ts, w.before args s = true) ∧ ev_VF D aC Sg s ∧ ev_ZF b B0 L σ s s.heap ∧ b.1 < B0 ∧ B0 ≤ s.heap.size ∧ meth.locks = false
variable {Φ : ev_P} {M : ev_M} {k : ev_N} {cl : ev_F} {nx a b' c' pc : Nat} {tg : List Nat} {loc : ev_L} {st : List ev_V} {w : ev_W} {r : ev_S}
/-- a pure step of the stack -/
theorem ev_pure {nx : Nat} {st st' : List ev_V} (hk : ∀ pc loc st w, k pc loc st w = some r → ev_Go D aC b B0 σ p l e R s m args below meth c Q nL pc loc st w) (h : k nx loc st' w = some r)
    (hr : ∀ (H : Heap) (locs : List Loc) (ls : Array Slot), ev_lh b B0 σ nL loc ls → W p l e R s m args below meth c H locs w.2.2.2.1 w.2.2.2.2 Q (F0 m nx ls (st'.map (ev_dn b B0 σ))) → W p l e R s m args below meth c H locs w.2.2.2.1 w.2.2.2.2 Q (F0 m pc ls (st.map (ev_dn b B0 σ)))) : ev_Go D aC b B0 σ p l e R s m args below meth c Q nL pc loc st w :=
  fun H locs ls hl hJ hS => hr H locs ls hl (hk _ _ _ _ h H locs ls hl hJ hS)
theorem ev_o_int (hF : ev_Fx D aC b B0 L σ p s m args meth c cc nL Ts own Sg) (hk : ∀ pc loc st w, k pc loc st w = some r → ev_Go D aC b B0 σ p l e R s m args below meth c Q nL pc loc st w) (h : ev_h_int Φ M k cl nx a b' c' tg pc loc st w = some r)
    (hi : (∃ n, decode cc pc = .ok (.iconst n, 1) ∧ Int32.ofInt n = nI a ∧ nx = pc + 1) ∨ (∃ n, decode cc pc = .ok (.bipush n, 2) ∧ (Int8.ofInt n).toInt32 = nI a ∧ nx = pc + 2) ∨ (∃ n, decode cc pc = .ok (.sipush n, 3) ∧ (Int16.ofInt n).toInt32 = nI a ∧ nx = pc + 3) ∨ (∃ (ix : Nat) (v : Int32), decode cc pc = .ok (.ldc ix, 2) ∧ v = nI a ∧ nx = pc + 2 ∧ Cond.constant own ix v ∈ Ts) ∨ (∃ (ix : Nat) (v : Int32), decode cc pc = .ok (.ldc_w ix, 3) ∧ v = nI a ∧ nx = pc + 3 ∧ Cond.constant own ix v ∈ Ts)) :
    ev_Go D aC b B0 σ p l e R s m args below meth c Q nL pc loc st w := by
  obtain ⟨hx, hb, -, ho, ht, -⟩ := hF
  refine ev_pure hk h fun H locs ls _ g => ?_
  rcases hi with ⟨n, d, v, rfl⟩ | ⟨n, d, v, rfl⟩ | ⟨n, d, v, rfl⟩ | ⟨ix, v, d, rfl, rfl, hw⟩ | ⟨ix, v, d, rfl, rfl, hw⟩
  · exact lv_iconst hx hb d v g
  · exact lv_bipush hx hb d v g
  · exact lv_sipush hx hb d v g
  · exact lv_ldc hx hb ho (ht _ hw) d g
  · exact lv_ldcw hx hb ho (ht _ hw) d g
theorem ev_o_null (hF : ev_Fx D aC b B0 L σ p s m args meth c cc nL Ts own Sg) (hk : ∀ pc loc st w, k pc loc st w = some r → ev_Go D aC b B0 σ p l e R s m args below meth c Q nL pc loc st w) (h : ev_h_null Φ M k cl nx a b' c' tg pc loc st w = some r)
    (hi : decode cc pc = .ok (.aconst_null, 1) ∧ nx = pc + 1) : ev_Go D aC b B0 σ p l e R s m args below meth c Q nL pc loc st w := by
  obtain ⟨hx, hb, -⟩ := hF
  obtain ⟨d, rfl⟩ := hi
  exact ev_pure hk h fun H locs ls _ g => lv_null hx hb d g
theorem ev_o_wide (hF : ev_Fx D aC b B0 L σ p s m args meth c cc nL Ts own Sg) (hk : ∀ pc loc st w, k pc loc st w = some r → ev_Go D aC b B0 σ p l e R s m args below meth c Q nL pc loc st w) (h : ev_h_wide Φ M k cl nx a b' c' tg pc loc st w = some r)
    (hi : ((∃ n : Fin 2, decode cc pc = .ok (.lconst n, 1) ∧ a = 0 ∧ Int64.ofNat (n : Nat) = lN b' ∧ nx = pc + 1) ∨ (decode cc pc = .ok (.dconst 0, 1) ∧ a = 2 ∧ FP.dconst0 = UInt64.ofNat b' ∧ nx = pc + 1)) ∨ ((decode cc pc = .ok (.fconst 0, 1) ∧ a = 1 ∧ FP.fconst0 = UInt32.ofNat b' ∧ nx = pc + 1) ∨ (∃ (ix : Nat) (v : Int64), decode cc pc = .ok (.ldc2_w ix, 3) ∧ a = 0 ∧ v = lN b' ∧ nx = pc + 3 ∧ Cond.constantLong own ix v ∈ Ts))) :
    ev_Go D aC b B0 σ p l e R s m args below meth c Q nL pc loc st w := by
  obtain ⟨hx, hb, -, ho, ht, -⟩ := hF
  refine ev_pure hk h fun H locs ls _ g => ?_
  rcases hi with (⟨n, d, rfl, v, rfl⟩ | ⟨d, rfl, v, rfl⟩) | (⟨d, rfl, v, rfl⟩ | ⟨ix, v, d, rfl, rfl, rfl, hw⟩)
  · exact lv_lconst hx hb d v g
  · refine lv_dconst0 hx hb d ?_
    rw [v]
    exact g
  · refine lv_fconst0 hx hb d ?_
    rw [v]
    exact g
  · exact lv_ldc2 hx hb ho (ht _ hw) d g
theorem ev_o_iload (hF : ev_Fx D aC b B0 L σ p s m args meth c cc nL Ts own Sg) (hk : ∀ pc loc st w, k pc loc st w = some r → ev_Go D aC b B0 σ p l e R s m args below meth c Q nL pc loc st w) (h : ev_h_iload Φ M k cl nx a b' c' tg pc loc st w = some r)
    (hi : (decode cc pc = .ok (.iload a, 2) ∧ nx = pc + 2) ∨ (∃ n : Fin 4, decode cc pc = .ok (.iload_n n, 1) ∧ (n : Nat) = a ∧ nx = pc + 1)) : ev_Go D aC b B0 σ p l e R s m args below meth c Q nL pc loc st w := by
  obtain ⟨hx, hb, -⟩ := hF
  unfold ev_h_iload at h
  split at h
  · next v hv =>
    obtain ⟨h1, h⟩ := ev_if_n h
    obtain ⟨x, ex⟩ := ev_dn_i (b := b) (B0 := B0) (σ := σ) h1
    refine ev_pure hk h fun H locs ls hl g => ?_
    have e := hl.2.2 _ _ hv
    rw [List.map_cons, ex] at g
    rw [ex] at e
    rcases hi with ⟨d, rfl⟩ | ⟨n, d, hn, rfl⟩
    · exact lv_iload hx hb d e g
    · exact lv_iload_n hx hb d hn e g
  · cases h
theorem ev_o_aload (hF : ev_Fx D aC b B0 L σ p s m args meth c cc nL Ts own Sg) (hk : ∀ pc loc st w, k pc loc st w = some r → ev_Go D aC b B0 σ p l e R s m args below meth c Q nL pc loc st w) (h : ev_h_aload Φ M k cl nx a b' c' tg pc loc st w = some r)
    (hi : (decode cc pc = .ok (.aload a, 2) ∧ nx = pc + 2) ∨ (∃ n : Fin 4, decode cc pc = .ok (.aload_n n, 1) ∧ (n : Nat) = a ∧ nx = pc + 1)) : ev_Go D aC b B0 σ p l e R s m args below meth c Q nL pc loc st w := by
  obtain ⟨hx, hb, -⟩ := hF
  unfold ev_h_aload at h
  split at h
  · next v hv =>
    obtain ⟨h1, h⟩ := ev_if_n h
    obtain ⟨x, -, ex⟩ := ev_dn_r (b := b) (B0 := B0) (σ := σ) h1
    refine ev_pure hk h fun H locs ls hl g => ?_
    have e := hl.2.2 _ _ hv
    rw [List.map_cons, ex] at g
    rw [ex] at e
    cases x with
    | none =>
      rcases hi with ⟨d, rfl⟩ | ⟨n, d, hn, rfl⟩
      · exact lv_aloadN hx hb d e g
      · exact lv_aload_nN hx hb d hn e g
    | some y =>
      rcases hi with ⟨d, rfl⟩ | ⟨n, d, hn, rfl⟩
      · exact lv_aload hx hb d e g
      · exact lv_aload_n hx hb d hn e g
  · cases h
theorem ev_o_dload (hF : ev_Fx D aC b B0 L σ p s m args meth c cc nL Ts own Sg) (hk : ∀ pc loc st w, k pc loc st w = some r → ev_Go D aC b B0 σ p l e R s m args below meth c Q nL pc loc st w) (h : ev_h_dload Φ M k cl nx a b' c' tg pc loc st w = some r)
    (hi : decode cc pc = .ok (.dload a, 2) ∧ nx = pc + 2) : ev_Go D aC b B0 σ p l e R s m args below meth c Q nL pc loc st w := by
  obtain ⟨hx, hb, -⟩ := hF
  obtain ⟨d, rfl⟩ := hi
  unfold ev_h_dload at h
  split at h
  · next v hv =>
    obtain ⟨h1, h⟩ := ev_if_n h
    obtain ⟨x, rfl⟩ := ev_dn_k h1
    exact ev_pure hk h fun H locs ls hl g => lv_dload hx hb d (hl.2.2 _ _ hv) g
  · cases h
theorem ev_o_istore (hF : ev_Fx D aC b B0 L σ p s m args meth c cc nL Ts own Sg) (hk : ∀ pc loc st w, k pc loc st w = some r → ev_Go D aC b B0 σ p l e R s m args below meth c Q nL pc loc st w) (h : ev_h_istore Φ M k cl nx a b' c' tg pc loc st w = some r)
    (hi : ((decode cc pc = .ok (.istore a, 2) ∧ nx = pc + 2) ∨ (∃ n : Fin 4, decode cc pc = .ok (.istore_n n, 1) ∧ (n : Nat) = a ∧ nx = pc + 1)) ∧ a < nL) : ev_Go D aC b B0 σ p l e R s m args below meth c Q nL pc loc st w := by
  obtain ⟨hx, hb, -⟩ := hF
  obtain ⟨hi, ha⟩ := hi
  unfold ev_h_istore at h
  split at h
  · next v rr =>
    obtain ⟨h1, h⟩ := ev_if_n h
    simp only [Bool.and_eq_true] at h1
    obtain ⟨x, ex⟩ := ev_dn_i (b := b) (B0 := B0) (σ := σ) h1.1
    intro H locs ls hl hJ hS
    rw [List.map_cons, ex]
    have go : ∀ ls' : Array Slot, lv_has ls' nL ((a, Value.int x) :: (ev_ll b B0 σ loc).filter (fun q => !(q.1 == a) && !(q.1 + 1 == a && q.2.category == 2))) → W p l e R s m args below meth c H locs w.2.2.2.1 w.2.2.2.2 Q (F0 m nx ls' (rr.map (ev_dn b B0 σ))) :=
      fun ls' h' => hk _ _ _ _ h H locs ls' (ev_lh_st1 h1.2 (fun v' e' => by cases e'; exact ex) h') hJ hS
    rcases hi with ⟨d, rfl⟩ | ⟨n, d, hn, rfl⟩
    · exact lv_istore hx hb d (ev_lh_has hl) ha rfl go
    · exact lv_istore_n hx hb d hn (ev_lh_has hl) ha rfl go
  · cases h
theorem ev_o_astore (hF : ev_Fx D aC b B0 L σ p s m args meth c cc nL Ts own Sg) (hk : ∀ pc loc st w, k pc loc st w = some r → ev_Go D aC b B0 σ p l e R s m args below meth c Q nL pc loc st w) (h : ev_h_astore Φ M k cl nx a b' c' tg pc loc st w = some r)
    (hi : ((decode cc pc = .ok (.astore a, 2) ∧ nx = pc + 2) ∨ (∃ n : Fin 4, decode cc pc = .ok (.astore_n n, 1) ∧ (n : Nat) = a ∧ nx = pc + 1)) ∧ a < nL) : ev_Go D aC b B0 σ p l e R s m args below meth c Q nL pc loc st w := by
  obtain ⟨hx, hb, -⟩ := hF
  obtain ⟨hi, ha⟩ := hi
  unfold ev_h_astore at h
  split at h
  · next v rr =>
    obtain ⟨h1, h⟩ := ev_if_n h
    simp only [Bool.and_eq_true] at h1
    obtain ⟨x, -, ex⟩ := ev_dn_r (b := b) (B0 := B0) (σ := σ) h1.1
    intro H locs ls hl hJ hS
    rw [List.map_cons, ex]
    have go : ∀ ls' : Array Slot, lv_has ls' nL ((a, va_rf (x.map (ev_ad b B0))) :: (ev_ll b B0 σ loc).filter (fun q => !(q.1 == a) && !(q.1 + 1 == a && q.2.category == 2))) → W p l e R s m args below meth c H locs w.2.2.2.1 w.2.2.2.2 Q (F0 m nx ls' (rr.map (ev_dn b B0 σ))) :=
      fun ls' h' => hk _ _ _ _ h H locs ls' (ev_lh_st1 h1.2 (fun v' e' => by cases e'; exact ex) h') hJ hS
    cases x with
    | none =>
      rcases hi with ⟨d, rfl⟩ | ⟨n, d, hn, rfl⟩
      · exact lv_astoreN hx hb d (ev_lh_has hl) ha rfl go
      · exact lv_astore_nN hx hb d hn (ev_lh_has hl) ha rfl go
    | some y =>
      rcases hi with ⟨d, rfl⟩ | ⟨n, d, hn, rfl⟩
      · exact lv_astore hx hb d (ev_lh_has hl) ha rfl go
      · exact lv_astore_n hx hb d hn (ev_lh_has hl) ha rfl go
  · cases h
theorem ev_o_dstore (hF : ev_Fx D aC b B0 L σ p s m args meth c cc nL Ts own Sg) (hk : ∀ pc loc st w, k pc loc st w = some r → ev_Go D aC b B0 σ p l e R s m args below meth c Q nL pc loc st w) (h : ev_h_dstore Φ M k cl nx a b' c' tg pc loc st w = some r)
    (hi : decode cc pc = .ok (.dstore a, 2) ∧ nx = pc + 2 ∧ a + 1 < nL) : ev_Go D aC b B0 σ p l e R s m args below meth c Q nL pc loc st w := by
  obtain ⟨hx, hb, -⟩ := hF
  obtain ⟨d, rfl, ha⟩ := hi
  unfold ev_h_dstore at h
  split at h
  · next v rr =>
    obtain ⟨h1, h⟩ := ev_if_n h
    simp only [Bool.and_eq_true] at h1
    obtain ⟨x, rfl⟩ := ev_dn_k h1.1
    intro H locs ls hl hJ hS
    exact lv_dstore hx hb d (ev_lh_has hl) ha rfl fun ls' h' => hk _ _ _ _ h H locs ls' (ev_lh_st2 h1.2 rfl h') hJ hS
  · cases h
theorem ev_o_iinc (hF : ev_Fx D aC b B0 L σ p s m args meth c cc nL Ts own Sg) (hk : ∀ pc loc st w, k pc loc st w = some r → ev_Go D aC b B0 σ p l e R s m args below meth c Q nL pc loc st w) (h : ev_h_iinc Φ M k cl nx a b' c' tg pc loc st w = some r)
    (hi : ∃ n : Int, decode cc pc = .ok (.iinc a n, 3) ∧ Int32.ofInt n = nI b' ∧ nx = pc + 3 ∧ a < nL) : ev_Go D aC b B0 σ p l e R s m args below meth c Q nL pc loc st w := by
  obtain ⟨hx, hb, -⟩ := hF
  obtain ⟨n, d, en, rfl, ha⟩ := hi
  unfold ev_h_iinc at h
  split at h
  · next v hv =>
    obtain ⟨h1, h⟩ := ev_if_n h
    intro H locs ls hl hJ hS
    obtain ⟨j, hj⟩ := List.getElem?_of_mem (ev_ll_in (b := b) (B0 := B0) (σ := σ) (q := (a, .int (nI v))).mpr ⟨_, hv, rfl⟩)
    refine lv_iinc (k := j) (x := nI v) (v := nI ((v + b') % 4294967296)) hx hb d (ev_lh_has hl) hj (by rw [en, ev_nI_add]) ha rfl fun ls' h' => ?_
    exact hk _ _ _ _ h H locs ls' (ev_lh_st1 h1 (fun v' e' => by cases e'; rfl) h') hJ hS
  · cases h
theorem ev_o_iadd (hF : ev_Fx D aC b B0 L σ p s m args meth c cc nL Ts own Sg) (hk : ∀ pc loc st w, k pc loc st w = some r → ev_Go D aC b B0 σ p l e R s m args below meth c Q nL pc loc st w) (h : ev_h_iadd Φ M k cl nx a b' c' tg pc loc st w = some r)
    (hi : decode cc pc = .ok (.iadd, 1) ∧ nx = pc + 1) : ev_Go D aC b B0 σ p l e R s m args below meth c Q nL pc loc st w := by
  obtain ⟨hx, hb, -⟩ := hF
  obtain ⟨d, rfl⟩ := hi
  unfold ev_h_iadd at h
  split at h
  · split at h
    · next y x rr z hz =>
      obtain ⟨u, v, e1, e2, e3⟩ := ev_b2_ok (b := b) (B0 := B0) (σ := σ) ev_nI_add hz
      refine ev_pure hk h fun H locs ls hl g => ?_
      simp only [List.map_cons, e1, e2, e3] at g ⊢
      exact lv_iadd hx hb d g
    · cases h
  · cases h
theorem ev_o_isub (hF : ev_Fx D aC b B0 L σ p s m args meth c cc nL Ts own Sg) (hk : ∀ pc loc st w, k pc loc st w = some r → ev_Go D aC b B0 σ p l e R s m args below meth c Q nL pc loc st w) (h : ev_h_isub Φ M k cl nx a b' c' tg pc loc st w = some r)
    (hi : decode cc pc = .ok (.isub, 1) ∧ nx = pc + 1) : ev_Go D aC b B0 σ p l e R s m args below meth c Q nL pc loc st w := by
  obtain ⟨hx, hb, -⟩ := hF
  obtain ⟨d, rfl⟩ := hi
  unfold ev_h_isub at h
  split at h
  · split at h
    · next y x rr z hz =>
      obtain ⟨u, v, e1, e2, e3⟩ := ev_b2_ok (b := b) (B0 := B0) (σ := σ) ev_nI_sub hz
      refine ev_pure hk h fun H locs ls hl g => ?_
      simp only [List.map_cons, e1, e2, e3] at g ⊢
      exact lv_isub hx hb d g
    · cases h
  · cases h
theorem ev_o_ibin (hF : ev_Fx D aC b B0 L σ p s m args meth c cc nL Ts own Sg) (hk : ∀ pc loc st w, k pc loc st w = some r → ev_Go D aC b B0 σ p l e R s m args below meth c Q nL pc loc st w) (h : ev_h_ibin Φ M k cl nx a b' c' tg pc loc st w = some r)
    (hi : ((a = 0 ∧ decode cc pc = .ok (.imul, 1)) ∨ (a = 1 ∧ decode cc pc = .ok (.iand, 1)) ∨ (a = 2 ∧ decode cc pc = .ok (.ior, 1)) ∨ (a = 3 ∧ decode cc pc = .ok (.ixor, 1)) ∨ (a = 4 ∧ decode cc pc = .ok (.ishl, 1)) ∨ (a = 5 ∧ decode cc pc = .ok (.ishr, 1)) ∨ (a = 6 ∧ decode cc pc = .ok (.iushr, 1))) ∧ nx = pc + 1) : ev_Go D aC b B0 σ p l e R s m args below meth c Q nL pc loc st w := by
  obtain ⟨hx, hb, -⟩ := hF
  obtain ⟨hi, rfl⟩ := hi
  unfold ev_h_ibin at h
  split at h
  · split at h
    · next y x rr z hz =>
      obtain ⟨u, v, e1, e2, e3⟩ := ev_b2_ok (b := b) (B0 := B0) (σ := σ) (fun m n => ev_nI_n _) hz
      refine ev_pure hk h fun H locs ls hl g => ?_
      simp only [List.map_cons, e1, e2, e3] at g ⊢
      rcases hi with ⟨rfl, d⟩ | ⟨rfl, d⟩ | ⟨rfl, d⟩ | ⟨rfl, d⟩ | ⟨rfl, d⟩ | ⟨rfl, d⟩ | ⟨rfl, d⟩
      · exact lv_imul hx hb d g
      · exact lv_iand hx hb d g
      · exact lv_ior hx hb d g
      · exact lv_ixor hx hb d g
      · exact lv_ishl hx hb d g
      · exact lv_ishr hx hb d g
      · exact lv_iushr hx hb d rfl g
    · cases h
  · cases h
theorem ev_o_iand63 (hF : ev_Fx D aC b B0 L σ p s m args meth c cc nL Ts own Sg) (hk : ∀ pc loc st w, k pc loc st w = some r → ev_Go D aC b B0 σ p l e R s m args below meth c Q nL pc loc st w) (h : ev_h_iand63 Φ M k cl nx a b' c' tg pc loc st w = some r)
    (hi : a = 1 ∧ decode cc pc = .ok (.iand, 1) ∧ nx = pc + 1) : ev_Go D aC b B0 σ p l e R s m args below meth c Q nL pc loc st w := by
  obtain ⟨hx, hb, -⟩ := id hF
  obtain ⟨rfl, d, rfl⟩ := hi
  unfold ev_h_iand63 at h
  split at h
  · next i f rr =>
    obtain ⟨h1, h⟩ := ev_if_n h
    have h1 := Nat.le_of_ble_eq_true h1
    refine ev_pure hk h fun H locs ls hl g => ?_
    have e1 : ev_sv σ (i + 5000) = ev_sv σ i &&& nI 63 := by
      unfold ev_sv
      rw [if_neg (by omega), if_pos (by omega), Nat.add_sub_cancel]
      rfl
    have g : W p l e R s m args below meth c H locs w.2.2.2.1 w.2.2.2.2 Q (F0 m (pc + 1) ls (.int (ev_sv σ (i + 5000)) :: rr.map (ev_dn b B0 σ))) := g
    rw [e1] at g
    exact lv_iand hx hb d g
  · exact ev_o_ibin hF hk h ⟨Or.inr (Or.inl ⟨rfl, d⟩), rfl⟩
theorem ev_o_idiv (hF : ev_Fx D aC b B0 L σ p s m args meth c cc nL Ts own Sg) (hk : ∀ pc loc st w, k pc loc st w = some r → ev_Go D aC b B0 σ p l e R s m args below meth c Q nL pc loc st w) (h : ev_h_idiv Φ M k cl nx a b' c' tg pc loc st w = some r)
    (hi : ((a = 0 ∧ decode cc pc = .ok (.idiv, 1)) ∨ (a = 1 ∧ decode cc pc = .ok (.irem, 1))) ∧ nx = pc + 1) : ev_Go D aC b B0 σ p l e R s m args below meth c Q nL pc loc st w := by
  obtain ⟨hx, hb, -⟩ := hF
  obtain ⟨hi, rfl⟩ := hi
  unfold ev_h_idiv at h
  split at h
  · next y x rr =>
    obtain ⟨h1, h⟩ := ev_if_n h
    simp only [Bool.and_eq_true] at h1
    have g1 := Nat.le_of_ble_eq_true h1.1
    have g2 := Nat.le_of_ble_eq_true h1.2.1
    have g3 := Nat.le_of_ble_eq_true h1.2.2
    refine ev_pure hk h fun H locs ls hl g => ?_
    rcases hi with ⟨rfl, d⟩ | ⟨rfl, d⟩
    · refine lv_idiv hx hb d (nI_ne0 (by omega) (by omega)) ?_
      rw [pk_div (by omega) (by omega) (by omega)]
      exact g
    · refine lv_irem hx hb d (nI_ne0 (by omega) (by omega)) ?_
      rw [pk_rem (by omega) (by omega) (by omega)]
      exact g
  · cases h
theorem ev_br_ok {o : Option Bool} {t f : ev_R} (h : ev_br o t f = some r) : ∃ z, o = some z ∧ (z = true → t = some r) ∧ (z = false → f = some r) := by
  unfold ev_br at h
  split at h
  · exact ⟨true, rfl, fun _ => h, (fun q => absurd q (by decide))⟩
  · exact ⟨false, rfl, (fun q => absurd q (by decide)), fun _ => h⟩
  · cases h
theorem ev_o_if0 (hF : ev_Fx D aC b B0 L σ p s m args meth c cc nL Ts own Sg) (hΦ : ev_FO Φ σ) (hk : ∀ pc loc st w, k pc loc st w = some r → ev_Go D aC b B0 σ p l e R s m args below meth c Q nL pc loc st w) (h : ev_h_if0 Φ M k cl nx a b' c' tg pc loc st w = some r)
    (hi : ∃ off : Int, ((a = 0 ∧ decode cc pc = .ok (.ifCond .eq off, 3) ∧ (pc : Int) + off = (b' : Int) ∧ c' = pc + 3) ∨ (a = 0 ∧ decode cc pc = .ok (.ifCond .ne off, 3) ∧ (pc : Int) + off = (c' : Int) ∧ b' = pc + 3)) ∨ ((a = 1 ∧ decode cc pc = .ok (.ifCond .lt off, 3) ∧ (pc : Int) + off = (b' : Int) ∧ c' = pc + 3) ∨ (a = 1 ∧ decode cc pc = .ok (.ifCond .ge off, 3) ∧ (pc : Int) + off = (c' : Int) ∧ b' = pc + 3)) ∨ ((a = 2 ∧ decode cc pc = .ok (.ifCond .gt off, 3) ∧ (pc : Int) + off = (b' : Int) ∧ c' = pc + 3) ∨ (a = 2 ∧ decode cc pc = .ok (.ifCond .le off, 3) ∧ (pc : Int) + off = (c' : Int) ∧ b' = pc + 3))) :
    ev_Go D aC b B0 σ p l e R s m args below meth c Q nL pc loc st w := by
  obtain ⟨hx, hb, -⟩ := hF
  unfold ev_h_if0 at h
  split at h
  · next x rr =>
    obtain ⟨z, hz, ht, hf⟩ := ev_br_ok h
    obtain ⟨u, v, e1, e2, e3⟩ := ev_cmp_ok (b := b) (B0 := B0) hΦ hz
    have e2 : v = 0 := by cases e2; rfl
    subst e2
    intro H locs ls hl hJ hS
    rw [List.map_cons, e1]
    have gt : ev_rel a u 0 → W p l e R s m args below meth c H locs w.2.2.2.1 w.2.2.2.2 Q (F0 m b' ls (rr.map (ev_dn b B0 σ))) := fun q => hk _ _ _ _ (ht (e3.mp q)) H locs ls hl hJ hS
    have gf : ¬ ev_rel a u 0 → W p l e R s m args below meth c H locs w.2.2.2.1 w.2.2.2.2 Q (F0 m c' ls (rr.map (ev_dn b B0 σ))) := fun q => hk _ _ _ _ (hf (Bool.eq_false_iff.mpr (fun y => q (e3.mpr y)))) H locs ls hl hJ hS
    obtain ⟨off, (⟨rfl, d, t, rfl⟩ | ⟨rfl, d, t, rfl⟩) | (⟨rfl, d, t, rfl⟩ | ⟨rfl, d, t, rfl⟩) | (⟨rfl, d, t, rfl⟩ | ⟨rfl, d, t, rfl⟩)⟩ := hi
    · exact lv_if_eq hx hb d t (fun q => gt q) (fun q => gf q)
    · exact lv_if_ne hx hb d t (fun q => gf q) (fun q => gt q)
    · exact lv_if_lt hx hb d t (fun q => gt q) (fun q => gf q)
    · exact lv_if_ge hx hb d t (fun q => gf (Int32.not_lt.mpr q)) (fun q => gt (Int32.not_le.mp q))
    · exact lv_if_gt hx hb d t (fun q => gt q) (fun q => gf q)
    · exact lv_if_le hx hb d t (fun q => gf (Int32.not_lt.mpr q)) (fun q => gt (Int32.not_le.mp q))
  · cases h
theorem ev_o_icmp (hF : ev_Fx D aC b B0 L σ p s m args meth c cc nL Ts own Sg) (hΦ : ev_FO Φ σ) (hk : ∀ pc loc st w, k pc loc st w = some r → ev_Go D aC b B0 σ p l e R s m args below meth c Q nL pc loc st w) (h : ev_h_icmp Φ M k cl nx a b' c' tg pc loc st w = some r)
    (hi : ∃ off : Int, ((a = 0 ∧ decode cc pc = .ok (.if_icmp .eq off, 3) ∧ (pc : Int) + off = (b' : Int) ∧ c' = pc + 3) ∨ (a = 0 ∧ decode cc pc = .ok (.if_icmp .ne off, 3) ∧ (pc : Int) + off = (c' : Int) ∧ b' = pc + 3)) ∨ ((a = 1 ∧ decode cc pc = .ok (.if_icmp .lt off, 3) ∧ (pc : Int) + off = (b' : Int) ∧ c' = pc + 3) ∨ (a = 1 ∧ decode cc pc = .ok (.if_icmp .ge off, 3) ∧ (pc : Int) + off = (c' : Int) ∧ b' = pc + 3)) ∨ ((a = 2 ∧ decode cc pc = .ok (.if_icmp .gt off, 3) ∧ (pc : Int) + off = (b' : Int) ∧ c' = pc + 3) ∨ (a = 2 ∧ decode cc pc = .ok (.if_icmp .le off, 3) ∧ (pc : Int) + off = (c' : Int) ∧ b' = pc + 3))) :
    ev_Go D aC b B0 σ p l e R s m args below meth c Q nL pc loc st w := by
  obtain ⟨hx, hb, -⟩ := hF
  unfold ev_h_icmp at h
  split at h
  · next y x rr =>
    obtain ⟨z, hz, ht, hf⟩ := ev_br_ok h
    obtain ⟨u, v, e1, e2, e3⟩ := ev_cmp_ok (b := b) (B0 := B0) hΦ hz
    intro H locs ls hl hJ hS
    rw [List.map_cons, List.map_cons, e1, e2]
    have gt : ev_rel a u v → W p l e R s m args below meth c H locs w.2.2.2.1 w.2.2.2.2 Q (F0 m b' ls (rr.map (ev_dn b B0 σ))) := fun q => hk _ _ _ _ (ht (e3.mp q)) H locs ls hl hJ hS
    have gf : ¬ ev_rel a u v → W p l e R s m args below meth c H locs w.2.2.2.1 w.2.2.2.2 Q (F0 m c' ls (rr.map (ev_dn b B0 σ))) := fun q => hk _ _ _ _ (hf (Bool.eq_false_iff.mpr (fun y => q (e3.mpr y)))) H locs ls hl hJ hS
    obtain ⟨off, (⟨rfl, d, t, rfl⟩ | ⟨rfl, d, t, rfl⟩) | (⟨rfl, d, t, rfl⟩ | ⟨rfl, d, t, rfl⟩) | (⟨rfl, d, t, rfl⟩ | ⟨rfl, d, t, rfl⟩)⟩ := hi
    · exact lv_icmp_eq hx hb d t (fun q => gt q) (fun q => gf q)
    · exact lv_icmp_ne hx hb d t (fun q => gf q) (fun q => gt q)
    · exact lv_icmp_lt hx hb d t (fun q => gt q) (fun q => gf q)
    · exact lv_icmp_ge hx hb d t (fun q => gf (Int32.not_lt.mpr q)) (fun q => gt (Int32.not_le.mp q))
    · exact lv_icmp_gt hx hb d t (fun q => gt q) (fun q => gf q)
    · exact lv_icmp_le hx hb d t (fun q => gf (Int32.not_lt.mpr q)) (fun q => gt (Int32.not_le.mp q))
  · cases h
theorem ev_oeq_ok {x y : Option Nat} (h : (ev_own x && ev_own y) = true) : x.map (ev_ad b B0) = y.map (ev_ad b B0) ↔ ev_oeq x y = true := by
  simp only [Bool.and_eq_true] at h
  cases x with
  | none => cases y with
    | none => exact ⟨fun _ => rfl, fun _ => rfl⟩
    | some n => exact ⟨fun q => (by cases q), fun q => (by cases q)⟩
  | some m => cases y with
    | none => exact ⟨fun q => (by cases q), fun q => (by cases q)⟩
    | some n =>
      have h1 := Nat.le_of_ble_eq_true h.1
      have h2 := Nat.le_of_ble_eq_true h.2
      constructor
      · intro q
        have q : ev_ad b B0 m = ev_ad b B0 n := Option.some.inj q
        unfold ev_ad at q
        rw [if_neg (show ¬ m = 1000000 by omega), if_neg (show ¬ 2000000 ≤ m by omega), if_neg (show ¬ n = 1000000 by omega), if_neg (show ¬ 2000000 ≤ n by omega)] at q
        have : m = n := by omega
        subst this
        exact Nat.beq_refl m
      · intro q
        have : m = n := Nat.eq_of_beq_eq_true q
        rw [this]
theorem ev_o_acmp (hF : ev_Fx D aC b B0 L σ p s m args meth c cc nL Ts own Sg) (hk : ∀ pc loc st w, k pc loc st w = some r → ev_Go D aC b B0 σ p l e R s m args below meth c Q nL pc loc st w) (h : ev_h_acmp Φ M k cl nx a b' c' tg pc loc st w = some r)
    (hi : ∃ off : Int, (decode cc pc = .ok (.if_acmp .eq off, 3) ∧ (pc : Int) + off = (b' : Int) ∧ c' = pc + 3) ∨ (decode cc pc = .ok (.if_acmp .ne off, 3) ∧ (pc : Int) + off = (c' : Int) ∧ b' = pc + 3)) : ev_Go D aC b B0 σ p l e R s m args below meth c Q nL pc loc st w := by
  obtain ⟨hx, hb, -⟩ := hF
  unfold ev_h_acmp at h
  split at h
  · next y x rr =>
    obtain ⟨h1, h⟩ := ev_if_n h
    have h2 := ev_oeq_ok (b := b) (B0 := B0) h1
    intro H locs ls hl hJ hS
    have dn : ∀ z : Option Nat, ev_dn b B0 σ (.inr (.inl z)) = va_rf (z.map (ev_ad b B0)) := fun z => by cases z <;> rfl
    rw [List.map_cons, List.map_cons, dn, dn]
    have gt : x.map (ev_ad b B0) = y.map (ev_ad b B0) → W p l e R s m args below meth c H locs w.2.2.2.1 w.2.2.2.2 Q (F0 m b' ls (rr.map (ev_dn b B0 σ))) := fun q => by
      rw [h2.mp q] at h
      exact hk _ _ _ _ h H locs ls hl hJ hS
    have gf : ¬ x.map (ev_ad b B0) = y.map (ev_ad b B0) → W p l e R s m args below meth c H locs w.2.2.2.1 w.2.2.2.2 Q (F0 m c' ls (rr.map (ev_dn b B0 σ))) := fun q => by
      rw [Bool.eq_false_iff.mpr (fun y => q (h2.mpr y))] at h
      exact hk _ _ _ _ h H locs ls hl hJ hS
    obtain ⟨off, ⟨d, t, rfl⟩ | ⟨d, t, rfl⟩⟩ := hi
    · exact lv_acmp_eq hx hb d t (fun q => gt q) (fun q => gf q)
    · exact lv_acmp_ne hx hb d t (fun q => gf q) (fun q => gt q)
  · cases h
theorem ev_o_isnull (hF : ev_Fx D aC b B0 L σ p s m args meth c cc nL Ts own Sg) (hk : ∀ pc loc st w, k pc loc st w = some r → ev_Go D aC b B0 σ p l e R s m args below meth c Q nL pc loc st w) (h : ev_h_isnull Φ M k cl nx a b' c' tg pc loc st w = some r)
    (hi : ∃ off : Int, (decode cc pc = .ok (.ifnull off, 3) ∧ (pc : Int) + off = (b' : Int) ∧ c' = pc + 3) ∨ (decode cc pc = .ok (.ifnonnull off, 3) ∧ (pc : Int) + off = (c' : Int) ∧ b' = pc + 3)) : ev_Go D aC b B0 σ p l e R s m args below meth c Q nL pc loc st w := by
  obtain ⟨hx, hb, -⟩ := hF
  unfold ev_h_isnull at h
  split at h
  · next rr =>
    refine ev_pure hk h fun H locs ls hl g => ?_
    obtain ⟨off, ⟨d, t, rfl⟩ | ⟨d, t, rfl⟩⟩ := hi
    · exact lv_ifnullN hx hb d t g
    · exact lv_ifnonnullN hx hb d g
  · next y rr =>
    refine ev_pure hk h fun H locs ls hl g => ?_
    obtain ⟨off, ⟨d, t, rfl⟩ | ⟨d, t, rfl⟩⟩ := hi
    · exact lv_ifnull hx hb d g
    · exact lv_ifnonnull hx hb d t g
  · cases h
theorem ev_o_goto (hF : ev_Fx D aC b B0 L σ p s m args meth c cc nL Ts own Sg) (hk : ∀ pc loc st w, k pc loc st w = some r → ev_Go D aC b B0 σ p l e R s m args below meth c Q nL pc loc st w) (h : ev_h_goto Φ M k cl nx a b' c' tg pc loc st w = some r)
    (hi : ∃ off : Int, decode cc pc = .ok (.goto off, 3) ∧ (pc : Int) + off = (nx : Int)) : ev_Go D aC b B0 σ p l e R s m args below meth c Q nL pc loc st w := by
  obtain ⟨hx, hb, -⟩ := hF
  obtain ⟨off, d, t⟩ := hi
  exact ev_pure hk h fun H locs ls hl g => lv_goto hx hb d t g
theorem ev_o_dup (hF : ev_Fx D aC b B0 L σ p s m args meth c cc nL Ts own Sg) (hk : ∀ pc loc st w, k pc loc st w = some r → ev_Go D aC b B0 σ p l e R s m args below meth c Q nL pc loc st w) (h : ev_h_dup Φ M k cl nx a b' c' tg pc loc st w = some r)
    (hi : decode cc pc = .ok (.dup, 1) ∧ nx = pc + 1) : ev_Go D aC b B0 σ p l e R s m args below meth c Q nL pc loc st w := by
  obtain ⟨hx, hb, -⟩ := hF
  obtain ⟨d, rfl⟩ := hi
  unfold ev_h_dup at h
  split at h
  · next x rr =>
    obtain ⟨h1, h⟩ := ev_if_n h
    exact ev_pure hk h fun H locs ls hl g => lv_dup hx hb d (ev_dn_c (by simpa using h1)) g
  · cases h
theorem ev_o_dup2 (hF : ev_Fx D aC b B0 L σ p s m args meth c cc nL Ts own Sg) (hk : ∀ pc loc st w, k pc loc st w = some r → ev_Go D aC b B0 σ p l e R s m args below meth c Q nL pc loc st w) (h : ev_h_dup2 Φ M k cl nx a b' c' tg pc loc st w = some r)
    (hi : decode cc pc = .ok (.dup2, 1) ∧ nx = pc + 1) : ev_Go D aC b B0 σ p l e R s m args below meth c Q nL pc loc st w := by
  obtain ⟨hx, hb, -⟩ := hF
  obtain ⟨d, rfl⟩ := hi
  unfold ev_h_dup2 at h
  split at h
  · next x y rr =>
    obtain ⟨h1, h⟩ := ev_if_n h
    simp only [Bool.and_eq_true, Bool.not_eq_true'] at h1
    exact ev_pure hk h fun H locs ls hl g => lv_dup2_11 hx hb d (ev_dn_c h1.1) (ev_dn_c h1.2) g
  · cases h
theorem ev_o_pop (hF : ev_Fx D aC b B0 L σ p s m args meth c cc nL Ts own Sg) (hk : ∀ pc loc st w, k pc loc st w = some r → ev_Go D aC b B0 σ p l e R s m args below meth c Q nL pc loc st w) (h : ev_h_pop Φ M k cl nx a b' c' tg pc loc st w = some r)
    (hi : decode cc pc = .ok (.pop, 1) ∧ nx = pc + 1) : ev_Go D aC b B0 σ p l e R s m args below meth c Q nL pc loc st w := by
  obtain ⟨hx, hb, -⟩ := hF
  obtain ⟨d, rfl⟩ := hi
  unfold ev_h_pop at h
  split at h
  · next x rr =>
    obtain ⟨h1, h⟩ := ev_if_n h
    exact ev_pure hk h fun H locs ls hl g => lv_pop hx hb d (ev_dn_c (by simpa using h1)) g
  · cases h
end EVF
/-! ===== the instructions that reach the heap (own work) ===== -/
section EVH
variable {D : va_G} {aC : Nat → ClassId} {b : ev_B} {B0 L : Nat} {σ : Nat → Int32}
variable {p : Program} {l : Launch} {e : Env} {R : Room} {s : State} {m : MethodId} {args : Array Value} {below : List Frame} {meth : Method} {c : Code} {Q : State → Prop}
variable {cc : ByteArray} {nL : Nat} {Ts : List Cond} {own : String} {Sg : List (String × (Nat × String))}
variable {Φ : ev_P} {M : ev_M} {k : ev_N} {cl : ev_F} {nx a b' c' pc : Nat} {tg : List Nat} {loc : ev_L} {st : List ev_V} {w : ev_W} {r : ev_S}
theorem ev_S_put {A : Nat → Prop} {H0 H H1 : Heap} {locs : List Loc} {x y : Nat} (hS : va_S A H0 H locs) (hz : H1.size = H.size) (ho : ∀ q, q ≠ x → H1[q]? = H[q]?) (hx : A x) : va_S A H0 H1 (locs ++ [⟨x, y⟩]) := by
  refine ⟨by rw [hz]; exact hS.1, fun q h1 h2 => ?_, fun q hq => ?_⟩
  · rw [ho q (fun z => h2 (by rw [z]; exact hx))]
    exact hS.2.1 q h1 h2
  · rcases List.mem_append.mp hq with h | h
    · exact hS.2.2 q h
    · rcases List.mem_singleton.mp h with rfl
      exact hx
theorem ev_fv_set {d d' : List (List (List ev_V))} {k : Nat} {v : ev_V} (h : ∀ j, ev_get d' j = if j = k then some v else ev_get d j) : ev_fv b B0 σ d' = updV (ev_fv b B0 σ d) k (ev_dn b B0 σ v) := by
  funext j
  unfold ev_fv updV
  rw [h]
  by_cases e : j = k
  · rw [if_pos e, if_pos e]
  · rw [if_neg e, if_neg e]
/-- an object among the world's things -/
theorem ev_J_obj {w : ev_W} {H : Heap} {i : Nat} {q : ev_C} (h : ev_J D aC b B0 σ w H) (hq : ev_get w.1 i = some q) {rr : vw_C} (hc : vwCl[q.1]? = some rr) : i < 1000000 ∧ t_OB (B0 + i) (D.1 q.1) rr.2.2 (D.2 q.1) H (ev_fv b B0 σ q.2.2) := by
  obtain ⟨h1, h2⟩ := h.1 i q hq
  refine ⟨h1, ?_⟩
  have hl : q.1 < 8 := (List.getElem?_eq_some_iff.mp hc).1
  rcases h2 with h | ⟨r, h2, h3⟩ | ⟨h2, -⟩
  · omega
  · cases hc.symm.trans h2
    exact h3
  · omega
theorem ev_J_arr {w : ev_W} {H : Heap} {i : Nat} {q : ev_C} (h : ev_J D aC b B0 σ w H) (hq : ev_get w.1 i = some q) (h20 : 20 ≤ q.1) (h25 : q.1 ≤ 25) : i < 1000000 ∧ H[B0 + i]? = some (arrV (aC q.1) q.2.1 (ev_fv b B0 σ q.2.2)) := by
  obtain ⟨h1, h2⟩ := h.1 i q hq
  refine ⟨h1, ?_⟩
  rcases h2 with h | ⟨r, h2, -⟩ | ⟨-, -, h3⟩
  · omega
  · have : q.1 < 8 := (List.getElem?_eq_some_iff.mp h2).1
    omega
  · exact h3
theorem ev_ad_w {i : Nat} (h : i < 1000000) : ev_ad b B0 i = B0 + i := by
  unfold ev_ad
  rw [if_neg (by omega), if_neg (by omega)]
theorem ev_tys_of (hV : ev_VF D aC Sg s) {k : Nat} (h20 : 20 ≤ k) (h25 : k ≤ 25) : ArrOfT s (aC k) (ev_ty k) ∧ va_RA s (aC k) (ev_ty k) := by
  have : k = 20 ∨ k = 21 ∨ k = 22 ∨ k = 23 ∨ k = 24 ∨ k = 25 := by omega
  rcases this with rfl | rfl | rfl | rfl | rfl | rfl
  · exact hV.1.2 0 _ rfl
  · exact hV.1.2 1 _ rfl
  · exact hV.1.2 2 _ rfl
  · exact hV.1.2 3 _ rfl
  · exact hV.1.2 4 _ rfl
  · exact hV.1.2 5 _ rfl
/-- a link to a field: of the class itself, or of a nest mate -/
def ev_fl_ok (own ref n d : String) (index : Nat) (Ts : List Cond) : Prop := Cond.fieldLink own index ref n d ∈ Ts ∨ ∃ host, Cond.fieldLinkNest own index ref n d host ∈ lw_tbl
theorem ev_o_getf (hF : ev_Fx D aC b B0 L σ p s m args meth c cc nL Ts own Sg) (hk : ∀ pc loc st w, k pc loc st w = some r → ev_Go D aC b B0 σ p l e R s m args below meth c Q nL pc loc st w) (h : ev_h_getf Φ M k cl nx a b' c' tg pc loc st w = some r)
    (hi : ∃ (index : Nat) (C : String) (T : u_T) (N : Nat), decode cc pc = .ok (.getfield index, 3) ∧ nx = pc + 3 ∧ vwCl[a]? = some (C, T, N) ∧ b' < N ∧ (∀ x ∈ u_ws C T N, x ∈ Ts) ∧ ev_fl_ok own (T b').1 (T b').2.1 (T b').2.2.1 index Ts) : ev_Go D aC b B0 σ p l e R s m args below meth c Q nL pc loc st w := by
  obtain ⟨hx, hb, -, ho, ht, hV, -⟩ := hF
  obtain ⟨index, C, T, N, d, rfl, hc, hN, hin, hlk⟩ := hi
  unfold ev_h_getf at h
  split at h
  · next i rr =>
    split at h
    · next q hq =>
      obtain ⟨h1, h⟩ := ev_if_n h
      have h1 := Nat.eq_of_beq_eq_true h1
      split at h
      · next v hv =>
        intro H locs ls hl hJ hS
        have hc' : vwCl[q.1]? = some (C, T, N) := by rw [h1]; exact hc
        obtain ⟨hi, cell, q1, q2, q3, q4⟩ := ev_J_obj hJ hq hc'
        obtain ⟨hS9, hfc, kC, hkC, hkind⟩ := hV.1.1 q.1 _ hc'
        obtain ⟨cf, kf, fi, f, hif, hsl⟩ := hS9 b' hN
        have hst := (u_facts hfc hkC (u_lays ht hin hN) hif).1
        have go := hk _ _ _ _ h H locs ls hl hJ hS
        rw [List.map_cons] at go ⊢
        have e1 : ev_dn b B0 σ (.inr (.inl (some i))) = .ref (B0 + i) := by
          show Value.ref _ = _
          rw [ev_ad_w hi]
        rw [e1]
        have e2 : cell.slots[f.slot]? = some (ev_dn b B0 σ v) := by
          rw [hsl, q4 b' hN]
          unfold ev_fv
          rw [hv]
        rcases hlk with hlk | ⟨host, hlk⟩
        · exact W.getf hx hb ho (ht _ hlk) hif hst q1 (by rw [q3]; exact fun h => by cases h) e2 rfl rfl d go
        · exact va_Wgetf hx hb ho (va_Nw.use rfl (hV.2.1 _ hlk rfl)) hif hst q1 (by rw [q3]; exact fun h => by cases h) e2 rfl rfl d go
      · cases h
    · cases h
  · cases h
theorem ev_fits_ok {c : Nat} {v : ev_V} (h : ev_fits c v = true) {ty : FieldType} (hty : (c = 0 ∧ ty = .int) ∨ (c = 1 ∧ ty = .boolean) ∨ (c = 2 ∧ ((∃ C, ty = .object C) ∨ ∃ t, ty = .array t)) ∨ (c = 3 ∧ ty = .long)) : narrow ty (ev_dn b B0 σ v) = ev_dn b B0 σ v ∧ fits ty (ev_dn b B0 σ v) = true := by
  rcases hty with ⟨rfl, rfl⟩ | ⟨rfl, rfl⟩ | ⟨rfl, hty⟩ | ⟨rfl, rfl⟩
  · obtain ⟨x, ex⟩ := ev_dn_i (b := b) (B0 := B0) (σ := σ) (show ev_ii v = true from h)
    rw [ex]
    exact ⟨rfl, rfl⟩
  · rcases v with n | z | ⟨t, f⟩ | ⟨j, n⟩
    · have h : Nat.ble n 1 = true := h
      have h := Nat.le_of_ble_eq_true h
      have : n = 0 ∨ n = 1 := by omega
      rcases this with rfl | rfl
      · exact (by decide +kernel : narrow FieldType.boolean (.int (nI 0)) = .int (nI 0) ∧ fits FieldType.boolean (.int (nI 0)) = true)
      · exact (by decide +kernel : narrow FieldType.boolean (.int (nI 1)) = .int (nI 1) ∧ fits FieldType.boolean (.int (nI 1)) = true)
    · cases h
    · cases h
    · cases h
  · obtain ⟨x, -, ex⟩ := ev_dn_r (b := b) (B0 := B0) (σ := σ) (show ev_ir v = true from h)
    rw [ex]
    rcases hty with ⟨C, rfl⟩ | ⟨t, rfl⟩ <;> cases x <;> exact ⟨rfl, rfl⟩
  · obtain ⟨n, rfl⟩ := ev_dn_k (show ev_ik 0 v = true from h)
    exact ⟨rfl, rfl⟩
theorem ev_o_putf (hF : ev_Fx D aC b B0 L σ p s m args meth c cc nL Ts own Sg) (hk : ∀ pc loc st w, k pc loc st w = some r → ev_Go D aC b B0 σ p l e R s m args below meth c Q nL pc loc st w) (h : ev_h_putf Φ M k cl nx a b' c' tg pc loc st w = some r)
    (hi : ∃ (index : Nat) (C : String) (T : u_T) (N : Nat) (ty0 : Nat → FieldType), decode cc pc = .ok (.putfield index, 3) ∧ nx = pc + 3 ∧ vwCl[a]? = some (C, T, N) ∧ b' < N ∧ (∀ x ∈ u_ws C T N, x ∈ Ts) ∧ (∀ k, k < N → parseFieldDescriptor (T k).2.2.1 = some (ty0 k)) ∧ (∀ x, x < N → ∀ y, y < N → x ≠ y → (T x).2.1 ≠ (T y).2.1) ∧
      ((c' = 0 ∧ ty0 b' = .int) ∨ (c' = 1 ∧ ty0 b' = .boolean) ∨ (c' = 2 ∧ ((∃ C, ty0 b' = .object C) ∨ ∃ t, ty0 b' = .array t)) ∨ (c' = 3 ∧ ty0 b' = .long)) ∧
      (((T b').2.2.2 = false ∧ ev_fl_ok own (T b').1 (T b').2.1 (T b').2.2.1 index Ts) ∨ ((T b').2.2.2 = true ∧ meth.name = "<init>" ∧ (T b').1 = own ∧ Cond.fieldLink own index (T b').1 (T b').2.1 (T b').2.2.1 ∈ Ts))) : ev_Go D aC b B0 σ p l e R s m args below meth c Q nL pc loc st w := by
  obtain ⟨hx, hb, -, ho, ht, hV, -⟩ := hF
  obtain ⟨index, C, T, N, ty0, d, rfl, hc, hN, hin, hty, hnm, hty9, hlk⟩ := hi
  unfold ev_h_putf at h
  split at h
  · next v i rr =>
    split at h
    · next q hq =>
      obtain ⟨h1, h⟩ := ev_if_n h
      simp only [Bool.and_eq_true] at h1
      obtain ⟨h1, h2⟩ := h1
      have h1 := Nat.eq_of_beq_eq_true h1
      obtain ⟨d9, x9, u9, hu9, hd9, hx9, h⟩ := ev_upd_ok h
      intro H locs ls hl hJ hS
      have hc' : vwCl[q.1]? = some (C, T, N) := by rw [h1]; exact hc
      obtain ⟨hi, cell, q1, q2, q3, q4⟩ := ev_J_obj hJ hq hc'
      have hap := va_apart (own := own) ht hin ty0 hty hnm hV.1 hc'
      obtain ⟨hS9, hfc, kC, hkC, hkind⟩ := hV.1.1 q.1 _ hc'
      obtain ⟨cf, kf, fi, f, hif, hsl⟩ := hS9 b' hN
      have hst := (u_facts hfc hkC (u_lays ht hin hN) hif).1
      obtain ⟨hn, hfit⟩ := ev_fits_ok (b := b) (B0 := B0) (σ := σ) h2 hty9
      have hd := hty b' hN
      have hlay := ht _ (hin _ (u_in_lay hN))
      unfold u_lay at hlay
      have e1 : ev_dn b B0 σ (.inr (.inl (some i))) = .ref (B0 + i) := by
        show Value.ref _ = _
        rw [ev_ad_w hi]
      rw [List.map_cons, List.map_cons, e1]
      have hslot : f.slot < cell.slots.size := by rw [hsl]; exact k2_hasslot (q4 b' hN)
      have go : ∀ H' : Heap, H'[B0 + i]? = some (cell.setSlot f.slot (ev_dn b B0 σ v)) → H'.size = H.size → (∀ q, q ≠ B0 + i → H'[q]? = H[q]?) →
          W p l e R s m args below meth c H' (locs ++ [⟨B0 + i, f.slot⟩]) w.2.2.2.1 w.2.2.2.2 Q (F0 m (pc + 3) ls (rr.map (ev_dn b B0 σ))) := by
        intro H' g1 g2 g3
        rw [hsl] at g1
        refine hk _ _ _ _ h H' _ ls hl (ev_J_set hJ hq hx9 (Or.inr (Or.inl ⟨_, hc', ?_⟩)) g2 g3) (ev_S_put hS g2 g3 (Nat.le_add_right _ _))
        rw [ev_fv_set hd9]
        exact ⟨_, g1, q2, q3, t_set q4 hap hN _⟩
      rcases hlk with ⟨hfin, hlk⟩ | ⟨hfin, hini, hown2, hlk⟩
      · rw [if_neg (by rw [hfin]; decide)] at hlay
        have h6 := u_store hfc hkC hkind hlay hif hd hn hfit
        rcases hlk with hlk | ⟨host, hlk⟩
        · exact W.putK hx hb (f := f) ⟨ho, ht _ hlk, ⟨_, _, _, hif⟩, hst⟩ (by rw [q2]; exact h6) q1 q3 hslot rfl rfl d go
        · exact va_WputK hx hb (f := f) ho (va_Nw.use rfl (hV.2.1 _ hlk rfl)) hif hst (by rw [q2]; exact h6) q1 q3 hslot rfl rfl d go
      · rw [if_pos hfin] at hlay
        have hcf : m.cls = cf := by
          obtain ⟨_, _, c', _, _, _, -, -, hf', -, -, -, hown3, -⟩ := Cond.laysFinal_spec hlay
          have e1 : c' = cf := by have := hif.symm.trans hf'; simp at this; exact this.1.symm
          rw [hown2] at hown3
          rw [← e1]; exact Option.some.inj (ho.symm.trans hown3)
        have h6 := u_fits hfc hkC hkind (Or.inr hlay) hif hd hn hfit
        exact W.putFinK hx hb ho (ht _ hlk) hif hst hcf hini (by rw [q2]; exact h6) q1 q3 hslot rfl rfl d go
    · cases h
  · cases h
/-- what a frame has of the script -/
theorem ev_scr (hF : ev_Fx D aC b B0 L σ p s m args meth c cc nL Ts own Sg) {H : Heap} {locs : List Loc} (hS : va_S (fun q => B0 ≤ q) s.heap H locs) : va_X b.1 L σ s H := by
  obtain ⟨-, -, -, -, -, -, ⟨hX, -⟩, hbB, -⟩ := hF
  obtain ⟨scr, h1, h2⟩ := hX
  exact ⟨scr, by rw [hS.2.1 b.1 (Array.getElem?_eq_some_iff.mp h1).1 (by omega)]; exact h1, h2⟩
theorem ev_o_alen (hF : ev_Fx D aC b B0 L σ p s m args meth c cc nL Ts own Sg) (hL : Φ.1 ≤ 5000 → Φ.1 = L) (hk : ∀ pc loc st w, k pc loc st w = some r → ev_Go D aC b B0 σ p l e R s m args below meth c Q nL pc loc st w) (h : ev_h_alen Φ M k cl nx a b' c' tg pc loc st w = some r)
    (hi : decode cc pc = .ok (.arraylength, 1) ∧ nx = pc + 1) : ev_Go D aC b B0 σ p l e R s m args below meth c Q nL pc loc st w := by
  obtain ⟨hx, hb, -, ho, ht, hV, -⟩ := id hF
  obtain ⟨d, rfl⟩ := hi
  unfold ev_h_alen at h
  split at h
  · next i rr =>
    intro H locs ls hl hJ hS
    cases c1 : Nat.beq i 1000000 with
    | true =>
      rw [c1, ev_if_t] at h
      have c1 := Nat.eq_of_beq_eq_true c1
      subst c1
      obtain ⟨scr, g1, g2, g3, g4, -⟩ := ev_scr hF hS
      obtain ⟨h9, h⟩ := ev_if_n h
      have hL := hL (Nat.le_of_ble_eq_true h9)
      have go := hk _ _ _ _ h H locs ls hl hJ hS
      exact W.alen (n := nI Φ.1) hx hb (a := b.1) g1 g2 (by rw [g4, hL]; rfl) rfl rfl d go
    | false =>
      rw [c1, ev_if_f] at h
      split at h
      · next q hq =>
        obtain ⟨h1, h⟩ := ev_if_n h
        simp only [Bool.and_eq_true] at h1
        have k1 := Nat.le_of_ble_eq_true h1.1
        have k2 := Nat.le_of_ble_eq_true h1.2
        obtain ⟨hi, g1⟩ := ev_J_arr hJ hq k1 k2
        have go := hk _ _ _ _ h H locs ls hl hJ hS
        rw [List.map_cons] at go ⊢
        have e1 : ev_dn b B0 σ (.inr (.inl (some i))) = .ref (B0 + i) := by
          show Value.ref _ = _
          rw [ev_ad_w hi]
        rw [e1]
        exact W.alen (n := nI q.2.1) hx hb g1 ((ev_tys_of hV k1 k2).1 _ _) (by rw [arrV_size]; rfl) rfl rfl d go
      · cases h
  · cases h
theorem ev_ix {j N : Nat} (h : (Nat.ble (j + 1) N && Nat.ble N 65536) = true) : j < N ∧ (nI j).toNatClampNeg = j ∧ ¬ (nI j < 0 ∨ N ≤ (nI j).toNatClampNeg) := by
  simp only [Bool.and_eq_true] at h
  have h1 := Nat.le_of_ble_eq_true h.1
  have h2 := Nat.le_of_ble_eq_true h.2
  have e : (nI j).toNatClampNeg = j := nI_clamp (by omega)
  refine ⟨by omega, e, ?_⟩
  rw [e]
  rintro (q | q)
  · exact nI_pos (by omega) q
  · omega
theorem ev_o_ald (hF : ev_Fx D aC b B0 L σ p s m args meth c cc nL Ts own Sg) (hk : ∀ pc loc st w, k pc loc st w = some r → ev_Go D aC b B0 σ p l e R s m args below meth c Q nL pc loc st w) (h : ev_h_ald Φ M k cl nx a b' c' tg pc loc st w = some r)
    (hi : ((a = 20 ∧ b' = 20 ∧ decode cc pc = .ok (.iaload, 1)) ∨ (a = 21 ∧ b' = 22 ∧ decode cc pc = .ok (.baload, 1)) ∨ (a = 23 ∧ b' = 23 ∧ decode cc pc = .ok (.laload, 1)) ∨ (a = 24 ∧ b' = 25 ∧ decode cc pc = .ok (.aaload, 1))) ∧ nx = pc + 1) : ev_Go D aC b B0 σ p l e R s m args below meth c Q nL pc loc st w := by
  obtain ⟨hx, hb, -, ho, ht, hV, -⟩ := id hF
  obtain ⟨hi, rfl⟩ := hi
  unfold ev_h_ald at h
  split at h
  · next j i rr =>
    split at h
    · next q hq =>
      obtain ⟨h1, h⟩ := ev_if_n h
      simp only [Bool.and_eq_true] at h1
      have k1 := Nat.le_of_ble_eq_true h1.1
      have k2 := Nat.le_of_ble_eq_true h1.2.1
      obtain ⟨g4, g5, g6⟩ := ev_ix (j := j) (N := q.2.1) (by rw [Bool.and_eq_true]; exact h1.2.2)
      split at h
      · next v hv =>
        intro H locs ls hl hJ hS
        have hab : 20 ≤ a ∧ b' ≤ 25 := by rcases hi with ⟨rfl, rfl, -⟩ | ⟨rfl, rfl, -⟩ | ⟨rfl, rfl, -⟩ | ⟨rfl, rfl, -⟩ <;> omega
        obtain ⟨hi9, g1⟩ := ev_J_arr hJ hq (by omega) (by omega)
        have hA := (ev_tys_of hV (k := q.1) (by omega) (by omega)).1 q.2.1 (ev_fv b B0 σ q.2.2)
        have go := hk _ _ _ _ h H locs ls hl hJ hS
        rw [List.map_cons] at go
        rw [List.map_cons, List.map_cons]
        have e1 : ev_dn b B0 σ (.inr (.inl (some i))) = .ref (B0 + i) := by
          show Value.ref _ = _
          rw [ev_ad_w hi9]
        rw [e1]
        have hin : ¬ (nI j < 0 ∨ (arrV (aC q.1) q.2.1 (ev_fv b B0 σ q.2.2)).slots.size ≤ (nI j).toNatClampNeg) := by rw [arrV_size]; exact g6
        have hv9 : (arrV (aC q.1) q.2.1 (ev_fv b B0 σ q.2.2)).slots[(nI j).toNatClampNeg]? = some (ev_dn b B0 σ v) := by
          rw [g5, arrV_read _ _ g4]
          unfold ev_fv
          rw [hv]
        have hkn : (arrV (aC q.1) q.2.1 (ev_fv b B0 σ q.2.2)).vm ≠ .unknown := fun z => by cases z
        rcases hi with ⟨rfl, rfl, d⟩ | ⟨rfl, rfl, d⟩ | ⟨rfl, rfl, d⟩ | ⟨rfl, rfl, d⟩
        · have e9 : q.1 = 20 := by omega
          rw [e9] at g1 hA hin hv9 hkn
          exact W.iald hx hb g1 hA hkn hin hv9 rfl rfl d go
        · have e9 : q.1 = 21 ∨ q.1 = 22 := by omega
          rcases e9 with e9 | e9
          · rw [e9] at g1 hA hin hv9 hkn
            exact W.bald hx hb g1 hA hkn hin hv9 rfl rfl d go
          · rw [e9] at g1 hA hin hv9 hkn
            exact W.zald hx hb g1 hA hkn hin hv9 rfl rfl d go
        · have e9 : q.1 = 23 := by omega
          rw [e9] at g1 hA hin hv9 hkn
          exact W.lald hx hb g1 hA hkn hin hv9 rfl rfl d go
        · have e9 : q.1 = 24 ∨ q.1 = 25 := by omega
          rcases e9 with e9 | e9
          · rw [e9] at g1 hA hin hv9 hkn
            exact W.aald (ty := .object RX3) hx hb g1 hA rfl hkn hin hv9 rfl rfl d go
          · rw [e9] at g1 hA hin hv9 hkn
            exact W.aald (ty := .object RX5) hx hb g1 hA rfl hkn hin hv9 rfl rfl d go
      · cases h
    · cases h
  · cases h
theorem ev_o_iald (hF : ev_Fx D aC b B0 L σ p s m args meth c cc nL Ts own Sg) (hL : Φ.1 ≤ 5000 → Φ.1 = L) (hΦ : ev_FO Φ σ) (hk : ∀ pc loc st w, k pc loc st w = some r → ev_Go D aC b B0 σ p l e R s m args below meth c Q nL pc loc st w) (h : ev_h_iald Φ M k cl nx a b' c' tg pc loc st w = some r)
    (hi : a = 20 ∧ b' = 20 ∧ decode cc pc = .ok (.iaload, 1) ∧ nx = pc + 1) : ev_Go D aC b B0 σ p l e R s m args below meth c Q nL pc loc st w := by
  obtain ⟨hx, hb, -, ho, ht, hV, -⟩ := id hF
  unfold ev_h_iald at h
  split at h
  · next j i rr =>
    cases c1 : Nat.beq i 1000000 with
    | true =>
      rw [c1, ev_if_t] at h
      have c1 := Nat.eq_of_beq_eq_true c1
      subst c1
      obtain ⟨h1, h⟩ := ev_if_n h
      simp only [Bool.and_eq_true] at h1
      have k1 := Nat.le_of_ble_eq_true h1.1
      have k2 := Nat.le_of_ble_eq_true h1.2
      have hL := hL k2
      obtain ⟨rfl, rfl, d, rfl⟩ := hi
      intro H locs ls hl hJ hS
      obtain ⟨scr, g1, g2, g3, g4, g5⟩ := ev_scr hF hS
      have e5 : (nI j).toNatClampNeg = j := nI_clamp (by omega)
      have es : ev_sv σ j = σ j := by
        unfold ev_sv
        rw [if_pos (by omega)]
      have hf := hΦ j
      rw [es] at hf
      generalize ev_fl Φ.2 j = f at h hf
      obtain ⟨lo, hi⟩ := f
      have h : ev_if (Nat.beq lo hi) (k (pc + 1) loc (.inl ((lo + 2147483648) % 4294967296) :: rr) w) (k (pc + 1) loc (.inr (.inr (.inl (some j, fun _ => 0))) :: rr) w) = some r := h
      have fin : ∀ z : ev_V, ev_dn b B0 σ z = .int (σ j) → k (pc + 1) loc (z :: rr) w = some r → W p l e R s m args below meth c H locs w.2.2.2.1 w.2.2.2.2 Q (F0 m pc ls (List.map (ev_dn b B0 σ) (.inl j :: .inr (.inl (some 1000000)) :: rr))) := by
        intro z e9 h
        have go := hk _ _ _ _ h H locs ls hl hJ hS
        rw [List.map_cons, e9] at go
        exact W.iald hx hb (a := b.1) g1 g2 g3 (by rw [g4, e5]; rintro (q | q); exact nI_pos (by omega) q; omega) (by rw [e5]; exact g5 j (by omega)) rfl rfl d go
      cases c2 : Nat.beq lo hi with
      | false =>
        rw [c2, ev_if_f] at h
        refine fin _ ?_ h
        show Value.int (ev_sv σ j) = Value.int (σ j)
        rw [es]
      | true =>
        rw [c2, ev_if_t] at h
        have c2 := Nat.eq_of_beq_eq_true c2
        refine fin _ ?_ h
        show Value.int (nI ((lo + 2147483648) % 4294967296)) = Value.int (σ j)
        have h9 := ev_bb_max (σ j)
        have hlo : lo = ev_bb (σ j) := by
          have q1 : lo ≤ ev_bb (σ j) := hf.1
          have q2 : ev_bb (σ j) ≤ hi := hf.2
          omega
        have e7 : nI ((lo + 2147483648) % 4294967296) = σ j := by
          apply ev_bb_inj
          rw [← ev_bi_ok]
          unfold ev_bi
          omega
        rw [e7]
    | false =>
      rw [c1, ev_if_f] at h
      exact ev_o_ald hF hk h ⟨Or.inl ⟨hi.1, hi.2.1, hi.2.2.1⟩, hi.2.2.2⟩
  · cases h
/-- an element of an array was written -/
theorem ev_J_ast {w : ev_W} {H H1 : Heap} {i j : Nat} {q : ev_C} {x : List (List (List ev_C))} {d : List (List (List ev_V))} {v : ev_V} (h : ev_J D aC b B0 σ w H) (hq : ev_get w.1 i = some q) (hd : ∀ n, ev_get d n = if n = j then some v else ev_get q.2.2 n) (hx : ∀ n, ev_get x n = if n = i then some (q.1, (q.2.1, d)) else ev_get w.1 n)
    (h20 : 20 ≤ q.1) (h25 : q.1 ≤ 25) (h1 : H1[B0 + i]? = some ((arrV (aC q.1) q.2.1 (ev_fv b B0 σ q.2.2)).setSlot j (ev_dn b B0 σ v))) (hz : H1.size = H.size) (ho : ∀ x, x ≠ B0 + i → H1[x]? = H[x]?) : ev_J D aC b B0 σ (x, w.2) H1 := by
  refine ev_J_set h hq hx (Or.inr (Or.inr ⟨h20, h25, ?_⟩)) hz ho
  rw [h1, arrV_store, ev_fv_set hd]
theorem ev_o_iast (hF : ev_Fx D aC b B0 L σ p s m args meth c cc nL Ts own Sg) (hk : ∀ pc loc st w, k pc loc st w = some r → ev_Go D aC b B0 σ p l e R s m args below meth c Q nL pc loc st w) (h : ev_h_iast Φ M k cl nx a b' c' tg pc loc st w = some r)
    (hi : decode cc pc = .ok (.iastore, 1) ∧ nx = pc + 1) : ev_Go D aC b B0 σ p l e R s m args below meth c Q nL pc loc st w := by
  obtain ⟨hx, hb, -, ho, ht, hV, -⟩ := id hF
  obtain ⟨d, rfl⟩ := hi
  unfold ev_h_iast at h
  split at h
  · next v j i rr =>
    split at h
    · next q hq =>
      obtain ⟨h1, h⟩ := ev_if_n h
      rw [Bool.and_eq_true, Bool.and_eq_true] at h1
      have k1 := Nat.eq_of_beq_eq_true h1.1
      obtain ⟨g4, g5, g6⟩ := ev_ix h1.2.2
      obtain ⟨xv, ex⟩ := ev_dn_i (b := b) (B0 := B0) (σ := σ) h1.2.1
      obtain ⟨d9, x9, u9, hu9, hd9, hx9, h⟩ := ev_upd_ok h
      intro H locs ls hl hJ hS
      obtain ⟨hi9, g1⟩ := ev_J_arr hJ hq (by omega) (by omega)
      have hA := (ev_tys_of hV (k := q.1) (by omega) (by omega)).1 q.2.1 (ev_fv b B0 σ q.2.2)
      have e1 : ev_dn b B0 σ (.inr (.inl (some i))) = .ref (B0 + i) := by
        show Value.ref _ = _
        rw [ev_ad_w hi9]
      rw [List.map_cons, List.map_cons, List.map_cons, e1, ex]
      refine W.iast hx hb g1 (by rw [k1] at hA ⊢; exact hA) (fun z => by cases z) (by rw [arrV_size]; exact g6) rfl rfl d fun H1 z1 z2 z3 => ?_
      rw [g5, ← ex] at z1
      exact hk _ _ _ _ h H1 _ ls hl (ev_J_ast hJ hq hd9 hx9 (by omega) (by omega) z1 z2 z3) (ev_S_put hS z2 z3 (Nat.le_add_right _ _))
    · cases h
  · cases h
theorem ev_nb_ok {v z : ev_V} (h : ev_nb v = some z) : ∃ x : Int32, ev_dn b B0 σ v = .int x ∧ ev_dn b B0 σ z = .int x.toInt8.toInt32 := by
  rcases v with n | q | ⟨t, f⟩ | ⟨j, n⟩
  · have h : some (.inl (ev_n (nI n).toInt8.toInt32)) = some z := h
    cases h
    exact ⟨nI n, rfl, by show Value.int _ = _; rw [ev_nI_n]⟩
  · cases h
  · cases t with
    | none => cases h; exact ⟨f σ, rfl, rfl⟩
    | some i => cases h
  · cases h
theorem ev_o_bast (hF : ev_Fx D aC b B0 L σ p s m args meth c cc nL Ts own Sg) (hk : ∀ pc loc st w, k pc loc st w = some r → ev_Go D aC b B0 σ p l e R s m args below meth c Q nL pc loc st w) (h : ev_h_bast Φ M k cl nx a b' c' tg pc loc st w = some r)
    (hi : decode cc pc = .ok (.bastore, 1) ∧ nx = pc + 1) : ev_Go D aC b B0 σ p l e R s m args below meth c Q nL pc loc st w := by
  obtain ⟨hx, hb, -, ho, ht, hV, -⟩ := id hF
  obtain ⟨d, rfl⟩ := hi
  unfold ev_h_bast at h
  split at h
  · next v j i rr =>
    split at h
    · next q hq =>
      obtain ⟨h1, h⟩ := ev_if_n h
      obtain ⟨g4, g5, g6⟩ := ev_ix h1
      cases c1 : Nat.beq q.1 21 with
      | true =>
        rw [c1, ev_if_t] at h
        have k1 := Nat.eq_of_beq_eq_true c1
        split at h
        · next z hz =>
          obtain ⟨xv, ex, ez⟩ := ev_nb_ok (b := b) (B0 := B0) (σ := σ) hz
          obtain ⟨d9, x9, u9, hu9, hd9, hx9, h⟩ := ev_upd_ok h
          intro H locs ls hl hJ hS
          obtain ⟨hi9, g1⟩ := ev_J_arr hJ hq (by omega) (by omega)
          have hA := (ev_tys_of hV (k := q.1) (by omega) (by omega)).1 q.2.1 (ev_fv b B0 σ q.2.2)
          have e1 : ev_dn b B0 σ (.inr (.inl (some i))) = .ref (B0 + i) := by
            show Value.ref _ = _
            rw [ev_ad_w hi9]
          rw [List.map_cons, List.map_cons, List.map_cons, e1, ex]
          refine W.bast hx hb g1 (by rw [k1] at hA ⊢; exact hA) (fun z => by cases z) (by rw [arrV_size]; exact g6) rfl rfl d fun H1 z1 z2 z3 => ?_
          rw [g5, narrow_byte, ← ez] at z1
          exact hk _ _ _ _ h H1 _ ls hl (ev_J_ast hJ hq hd9 hx9 (by omega) (by omega) z1 z2 z3) (ev_S_put hS z2 z3 (Nat.le_add_right _ _))
        · cases h
      | false =>
        rw [c1, ev_if_f] at h
        obtain ⟨h2, h⟩ := ev_if_n h
        rw [Bool.and_eq_true] at h2
        have k1 := Nat.eq_of_beq_eq_true h2.1
        obtain ⟨hn, -⟩ := ev_fits_ok (b := b) (B0 := B0) (σ := σ) h2.2 (ty := .boolean) (Or.inr (Or.inl ⟨rfl, rfl⟩))
        have hii : ev_ii v = true := by
          rcases v with n | q | ⟨t, f⟩ | ⟨j, n⟩
          · rfl
          · exact absurd h2.2 (fun z => by cases z)
          · rfl
          · exact absurd h2.2 (fun z => by cases z)
        obtain ⟨xv, ex⟩ := ev_dn_i (b := b) (B0 := B0) (σ := σ) hii
        obtain ⟨d9, x9, u9, hu9, hd9, hx9, h⟩ := ev_upd_ok h
        intro H locs ls hl hJ hS
        obtain ⟨hi9, g1⟩ := ev_J_arr hJ hq (by omega) (by omega)
        have hA := (ev_tys_of hV (k := q.1) (by omega) (by omega)).1 q.2.1 (ev_fv b B0 σ q.2.2)
        have e1 : ev_dn b B0 σ (.inr (.inl (some i))) = .ref (B0 + i) := by
          show Value.ref _ = _
          rw [ev_ad_w hi9]
        rw [List.map_cons, List.map_cons, List.map_cons, e1, ex]
        refine W.zast hx hb g1 (by rw [k1] at hA ⊢; exact hA) (fun z => by cases z) (by rw [arrV_size]; exact g6) rfl rfl d fun H1 z1 z2 z3 => ?_
        rw [g5, ← ex, hn] at z1
        exact hk _ _ _ _ h H1 _ ls hl (ev_J_ast hJ hq hd9 hx9 (by omega) (by omega) z1 z2 z3) (ev_S_put hS z2 z3 (Nat.le_add_right _ _))
    · cases h
  · cases h
theorem ev_o_last (hF : ev_Fx D aC b B0 L σ p s m args meth c cc nL Ts own Sg) (hk : ∀ pc loc st w, k pc loc st w = some r → ev_Go D aC b B0 σ p l e R s m args below meth c Q nL pc loc st w) (h : ev_h_last Φ M k cl nx a b' c' tg pc loc st w = some r)
    (hi : decode cc pc = .ok (.lastore, 1) ∧ nx = pc + 1) : ev_Go D aC b B0 σ p l e R s m args below meth c Q nL pc loc st w := by
  obtain ⟨hx, hb, -, ho, ht, hV, -⟩ := id hF
  obtain ⟨d, rfl⟩ := hi
  unfold ev_h_last at h
  split at h
  · next v j i rr =>
    split at h
    · next q hq =>
      obtain ⟨h1, h⟩ := ev_if_n h
      rw [Bool.and_eq_true, Bool.and_eq_true] at h1
      have k1 := Nat.eq_of_beq_eq_true h1.1
      obtain ⟨g4, g5, g6⟩ := ev_ix h1.2.2
      obtain ⟨nv, rfl⟩ := ev_dn_k h1.2.1
      obtain ⟨d9, x9, u9, hu9, hd9, hx9, h⟩ := ev_upd_ok h
      intro H locs ls hl hJ hS
      obtain ⟨hi9, g1⟩ := ev_J_arr hJ hq (by omega) (by omega)
      have hA := (ev_tys_of hV (k := q.1) (by omega) (by omega)).1 q.2.1 (ev_fv b B0 σ q.2.2)
      have e1 : ev_dn b B0 σ (.inr (.inl (some i))) = .ref (B0 + i) := by
        show Value.ref _ = _
        rw [ev_ad_w hi9]
      rw [List.map_cons, List.map_cons, List.map_cons, e1]
      refine W.last (x := lN nv) hx hb g1 (by rw [k1] at hA ⊢; exact hA) (fun z => by cases z) (by rw [arrV_size]; exact g6) rfl rfl d fun H1 z1 z2 z3 => ?_
      rw [g5] at z1
      exact hk _ _ _ _ h H1 _ ls hl (ev_J_ast hJ hq hd9 hx9 (by omega) (by omega) z1 z2 z3) (ev_S_put hS z2 z3 (Nat.le_add_right _ _))
    · cases h
  · cases h
theorem ev_o_aast (hF : ev_Fx D aC b B0 L σ p s m args meth c cc nL Ts own Sg) (hk : ∀ pc loc st w, k pc loc st w = some r → ev_Go D aC b B0 σ p l e R s m args below meth c Q nL pc loc st w) (h : ev_h_aast 3 5 Φ M k cl nx a b' c' tg pc loc st w = some r)
    (hi : decode cc pc = .ok (.aastore, 1) ∧ nx = pc + 1) : ev_Go D aC b B0 σ p l e R s m args below meth c Q nL pc loc st w := by
  obtain ⟨hx, hb, -, ho, ht, hV, -⟩ := id hF
  obtain ⟨d, rfl⟩ := hi
  unfold ev_h_aast at h
  split at h
  · next x j i rr =>
    split at h
    · next q u hq hu =>
      obtain ⟨h1, h⟩ := ev_if_n h
      rw [Bool.and_eq_true] at h1
      obtain ⟨g4, g5, g6⟩ := ev_ix h1.2
      obtain ⟨d9, x9, u9, hu9, hd9, hx9, h⟩ := ev_upd_ok h
      have kk : (q.1 = 24 ∧ u.1 = 3) ∨ (q.1 = 25 ∧ u.1 = 5) := by
        have h1 := h1.1
        cases c1 : Nat.beq q.1 24 with
        | true =>
          rw [c1, ev_if_t] at h1
          exact Or.inl ⟨Nat.eq_of_beq_eq_true c1, Nat.eq_of_beq_eq_true h1⟩
        | false =>
          rw [c1, ev_if_f, Bool.and_eq_true] at h1
          exact Or.inr ⟨Nat.eq_of_beq_eq_true h1.1, Nat.eq_of_beq_eq_true h1.2⟩
      intro H locs ls hl hJ hS
      obtain ⟨hi9, g1⟩ := ev_J_arr hJ hq (by omega) (by omega)
      obtain ⟨-, hRA⟩ := ev_tys_of hV (k := q.1) (by omega) (by omega)
      have e1 : ∀ {n : Nat}, n < 1000000 → ev_dn b B0 σ (.inr (.inl (some n))) = .ref (B0 + n) := fun hn => by
        show Value.ref _ = _
        rw [ev_ad_w hn]
      have main : ∀ (ci : Nat) (rr9 : vw_C), u.1 = ci → vwCl[ci]? = some rr9 → va_RA s (aC q.1) (.object rr9.1) → W p l e R s m args below meth c H locs w.2.2.2.1 w.2.2.2.2 Q (F0 m pc ls ((.inr (.inl (some x)) :: .inl j :: .inr (.inl (some i)) :: rr).map (ev_dn b B0 σ))) := by
        intro ci rr9 eu hci hra
        obtain ⟨hx9', cellV, f1, f2, f3, -⟩ := ev_J_obj hJ hu (rr := rr9) (by rw [eu]; exact hci)
        have hcls := (hV.1.1 ci rr9 hci).2
        obtain ⟨kA, comp, k1, k2, k3, -⟩ := hra
        have hcomp : comp = D.1 ci := Option.some.inj (k3.symm.trans hcls.1)
        subst hcomp
        obtain ⟨kC, hkC, -⟩ := hcls.2
        rw [List.map_cons, List.map_cons, List.map_cons, e1 hi9, e1 hx9']
        refine W.aast hx hb g1 (fun q h => by cases h) (fun h => by cases h) k1 k2 rfl hkC ⟨fun z => g6 (Or.inl z), by rw [arrV_size, g5]; exact g4⟩ f1 (fun q h => by rw [f3] at h; cases h) (by rw [f2, eu]; exact hkC) (by rw [f2, eu]; exact va_assign hcls) rfl rfl d fun H1 z1 z2 z3 => ?_
        rw [g5, ← e1 hx9'] at z1
        exact hk _ _ _ _ h H1 _ ls hl (ev_J_ast hJ hq hd9 hx9 (by omega) (by omega) z1 z2 z3) (ev_S_put hS z2 z3 (Nat.le_add_right _ _))
      rcases kk with ⟨k1, k2⟩ | ⟨k1, k2⟩
      · rw [k1] at hRA
        exact main 3 (RX3, TX3, 15) k2 rfl (by rw [k1]; exact hRA)
      · rw [k1] at hRA
        exact main 5 (RX5, TX5, 10) k2 rfl (by rw [k1]; exact hRA)
    · cases h
  · cases h
end EVH
/-! ===== new things, conversions, switches, the JDK's own (own work) ===== -/
section EVM
variable {D : va_G} {aC : Nat → ClassId} {b : ev_B} {B0 L : Nat} {σ : Nat → Int32}
variable {p : Program} {l : Launch} {e : Env} {R : Room} {s : State} {m : MethodId} {args : Array Value} {below : List Frame} {meth : Method} {c : Code} {Q : State → Prop}
variable {cc : ByteArray} {nL : Nat} {Ts : List Cond} {own : String} {Sg : List (String × (Nat × String))}
variable {Φ : ev_P} {M : ev_M} {k : ev_N} {cl : ev_F} {nx a b' c' pc : Nat} {tg : List Nat} {loc : ev_L} {st : List ev_V} {w : ev_W} {r : ev_S}
theorem ev_mk_ok {q : ev_C} {n : Nat} {kt : ev_W → ev_R} (h : ev_mk w q n kt = some r) :
    ∃ (x : List (List (List ev_C))) (u : ev_C), w.2.2.1 = true ∧ ev_get w.1 w.2.1 = some u ∧ (∀ j, ev_get x j = if j = w.2.1 then some q else ev_get w.1 j) ∧ kt (x, (w.2.1 + 1, (true, (w.2.2.2.1 + 1, w.2.2.2.2 + n)))) = some r := by
  unfold ev_mk at h
  obtain ⟨h1, h⟩ := ev_if_n h
  split at h
  · next x hx =>
    obtain ⟨⟨u, hu⟩, h2⟩ := ev_sto_ok hx
    exact ⟨x, u, h1, hu, h2, h⟩
  · cases h
theorem ev_J_new {H H1 : Heap} {q u : ev_C} {x : List (List (List ev_C))} {y : Nat × Nat} (h : ev_J D aC b B0 σ w H) (he : w.2.2.1 = true) (hu : ev_get w.1 w.2.1 = some u) (hx : ∀ j, ev_get x j = if j = w.2.1 then some q else ev_get w.1 j)
    (h1 : ev_at D aC b B0 σ H.size q H1) (hz : H1.size = H.size + 1) (ho : ∀ x, x < H.size → H1[x]? = H[x]?) : ev_J D aC b B0 σ (x, (w.2.1 + 1, (true, y))) H1 := by
  have e := h.2.2 he
  refine ⟨fun j v hj => ?_, ?_, fun _ => ?_⟩
  · have hj : ev_get x j = some v := hj
    rw [hx] at hj
    by_cases ej : j = w.2.1
    · rw [if_pos ej] at hj
      cases hj
      rw [ej, ← e]
      exact ⟨(h.1 _ _ hu).1, h1⟩
    · rw [if_neg ej] at hj
      obtain ⟨g1, g2⟩ := h.1 j v hj
      refine ⟨g1, ?_⟩
      rcases g2 with g | ⟨rr, g2, g3⟩ | ⟨g2, g3, g4⟩
      · exact Or.inl g
      · obtain ⟨cell, k1, k2⟩ := id g3
        exact Or.inr (Or.inl ⟨rr, g2, g3.kept (ho _ (Array.getElem?_eq_some_iff.mp k1).1)⟩)
      · exact Or.inr (Or.inr ⟨g2, g3, (ho _ (Array.getElem?_eq_some_iff.mp g4).1).trans g4⟩)
  · show B0 + (w.2.1 + 1) ≤ H1.size
    omega
  · show H1.size = B0 + (w.2.1 + 1)
    omega
theorem ev_S_new {A : Nat → Prop} {H0 H H1 : Heap} {locs : List Loc} (hS : va_S A H0 H locs) (hz : H1.size = H.size + 1) (ho : ∀ q, q < H.size → H1[q]? = H[q]?) : va_S A H0 H1 locs :=
  ⟨Nat.le_trans hS.1 (by omega), fun q h1 h2 => (ho q (Nat.lt_of_lt_of_le h1 hS.1)).trans (hS.2.1 q h1 h2), hS.2.2⟩
theorem ev_may_ok {x y : Nat} (h : ev_may M w x y = true) (hR : M.2.1 ≤ R.cells ∧ M.2.2.1 ≤ R.slots) : w.2.2.2.1 + x ≤ R.cells ∧ w.2.2.2.2 + y ≤ R.slots := by
  unfold ev_may at h
  rw [Bool.and_eq_true] at h
  have h1 := Nat.le_of_ble_eq_true h.1
  have h2 := Nat.le_of_ble_eq_true h.2
  omega
def ev_dc (t : FieldType) : Nat := match t with
  | .object _ => 1
  | .array _ => 1
  | .long => 2
  | .float => 3
  | .double => 3
  | _ => 0
theorem ev_dv_ok {t : FieldType} (h : ev_dc t < 3) : ev_dn b B0 σ (ev_dv (ev_dc t)) = defaultValue t := by
  cases t <;> first | rfl | (exact absurd h (by decide))
theorem ev_ch8_get {l : List ev_V} {k : Nat} (hk : k < 32) : ev_get [ev_ch8 l] k = l[k]? := by
  rw [ev_get_eq]
  have e1 : k / 64 = 0 := by omega
  rw [e1]
  show ((ev_ch8 l)[k / 8 % 8]?).bind (fun d => d[k % 8]?) = _
  have h4 : k / 8 % 8 = 0 ∨ k / 8 % 8 = 1 ∨ k / 8 % 8 = 2 ∨ k / 8 % 8 = 3 := by omega
  rcases h4 with h | h | h | h
  · rw [h]
    show (l.take 8)[k % 8]? = _
    rw [List.getElem?_take, if_pos (by omega), show k % 8 = k by omega]
  · rw [h]
    show ((l.drop 8).take 8)[k % 8]? = _
    rw [List.getElem?_take, if_pos (by omega), List.getElem?_drop, show 8 + k % 8 = k by omega]
  · rw [h]
    show ((l.drop 16).take 8)[k % 8]? = _
    rw [List.getElem?_take, if_pos (by omega), List.getElem?_drop, show 16 + k % 8 = k by omega]
  · rw [h]
    show (l.drop 24)[k % 8]? = _
    rw [List.getElem?_drop, show 24 + k % 8 = k by omega]
theorem ev_fv_new {N : Nat} {ty : Nat → FieldType} (hN : N ≤ 32) (ht : ∀ k, k < N → ev_dc (ty k) < 3) {k : Nat} (hk : k < N) : defaultValue (ty k) = ev_fv b B0 σ [ev_ch8 (((List.range N).map (fun k => ev_dc (ty k))).map ev_dv)] k := by
  unfold ev_fv
  rw [ev_ch8_get (by omega), List.getElem?_map, List.getElem?_map, List.getElem?_range hk]
  exact (ev_dv_ok (ht k hk)).symm
theorem ev_o_new (hF : ev_Fx D aC b B0 L σ p s m args meth c cc nL Ts own Sg) (hR : M.2.1 ≤ R.cells ∧ M.2.2.1 ≤ R.slots) (hk : ∀ pc loc st w, k pc loc st w = some r → ev_Go D aC b B0 σ p l e R s m args below meth c Q nL pc loc st w) (h : ev_h_new Φ M k cl nx a b' c' tg pc loc st w = some r)
    (hi : ∃ (index : Nat) (C : String) (T : u_T) (N : Nat) (ty0 : Nat → FieldType), decode cc pc = .ok (.new index, 3) ∧ nx = pc + 3 ∧ vwCl[a]? = some (C, T, N) ∧ b' = N ∧ N ≤ 32 ∧ (∀ x ∈ u_ws C T N, x ∈ Ts) ∧ (∀ k, k < N → parseFieldDescriptor (T k).2.2.1 = some (ty0 k)) ∧ (∀ k, k < N → ev_dc (ty0 k) < 3) ∧ tg = (List.range N).map (fun k => ev_dc (ty0 k)) ∧
      Cond.classLink own index C ∈ Ts ∧ Cond.instantiable C N ∈ Ts ∧ Cond.initialized C ∈ Ts) : ev_Go D aC b B0 σ p l e R s m args below meth c Q nL pc loc st w := by
  obtain ⟨hx, hb, -, ho, ht, hV, -⟩ := id hF
  obtain ⟨index, C, T, N, ty0, d, rfl, hc, rfl, hN, hin, hty, hdc, rfl, w1, w2, w3⟩ := hi
  unfold ev_h_new at h
  obtain ⟨h1, h⟩ := ev_if_n h
  obtain ⟨x, u, he, hu, hx9, h⟩ := ev_mk_ok h
  intro H locs ls hl hJ hS
  have hKn := hV.1.1 a _ hc
  obtain ⟨r1, r2⟩ := ev_may_ok h1 hR
  refine W.newcK hx hb ho (ht _ w1) (ht _ w2) (ht _ w3) rfl d r1 r2 hKn.2.1 rfl fun H1 kC hkC e1 z1 o1 => ?_
  have e9 := hJ.2.2 he
  have go := hk _ _ _ _ h H1 locs ls hl (ev_J_new hJ he hu hx9 (Or.inr (Or.inl ⟨_, hc, (u_born ty0 ht hin hKn hkC e1 hty).to (fun k hk9 => ev_fv_new hN hdc hk9)⟩)) z1 o1) (ev_S_new hS z1 o1)
  have e2 : ev_dn b B0 σ (.inr (.inl (some w.2.1))) = .ref H.size := by
    show Value.ref _ = _
    rw [ev_ad_w (hJ.1 _ _ hu).1, e9]
  rw [List.map_cons, e2] at go
  exact go
theorem ev_rows_get {n j : Nat} {v : ev_V} (h : j < n) : ev_get (ev_rows n v) j = some v := by
  rw [ev_get_eq]
  unfold ev_rows
  rw [List.getElem?_replicate, if_pos (by omega)]
  show ((List.replicate 8 (List.replicate 8 v))[j / 8 % 8]?).bind (fun d => d[j % 8]?) = _
  rw [List.getElem?_replicate, if_pos (by omega)]
  show (List.replicate 8 v)[j % 8]? = _
  rw [List.getElem?_replicate, if_pos (by omega)]
theorem ev_arr_to {cA : ClassId} {N : Nat} {f g : Nat → Value} (h : ∀ j, j < N → f j = g j) : arrV cA N f = arrV cA N g := by
  unfold arrV
  congr 1
  apply Array.ext
  · simp
  · intro j h1 h2
    simp only [Array.getElem_ofFn]
    exact h j (by simpa using h1)
theorem ev_o_newa (hF : ev_Fx D aC b B0 L σ p s m args meth c cc nL Ts own Sg) (hR : M.2.1 ≤ R.cells ∧ M.2.2.1 ≤ R.slots) (hk : ∀ pc loc st w, k pc loc st w = some r → ev_Go D aC b B0 σ p l e R s m args below meth c Q nL pc loc st w) (h : ev_h_newa Φ M k cl nx a b' c' tg pc loc st w = some r)
    (hi : (∃ at9 : ArrayType, decode cc pc = .ok (.newarray at9, 2) ∧ nx = pc + 2 ∧ newarray.typeOf at9 = ev_ty a ∧ 20 ≤ a ∧ a ≤ 23 ∧ b' = ev_dc (ev_ty a) ∧ Cond.arrayClass (newarray.typeOf at9) ∈ Ts) ∨
      (∃ (ix : Nat) (C : String), decode cc pc = .ok (.anewarray ix, 3) ∧ nx = pc + 3 ∧ 24 ≤ a ∧ a ≤ 25 ∧ ev_ty a = .object C ∧ b' = 1 ∧ Cond.classLink own ix C ∈ Ts ∧ Cond.arrayOver (.object C) ∈ lw_tbl)) : ev_Go D aC b B0 σ p l e R s m args below meth c Q nL pc loc st w := by
  obtain ⟨hx, hb, -, ho, ht, hV, -⟩ := id hF
  unfold ev_h_newa at h
  split at h
  · next n rr =>
    obtain ⟨h1, h⟩ := ev_if_n h
    rw [Bool.and_eq_true] at h1
    have hn := Nat.le_of_ble_eq_true h1.2
    obtain ⟨r1, r2⟩ := ev_may_ok h1.1 hR
    obtain ⟨x, u, he, hu, hx9, h9⟩ := ev_mk_ok h
    intro H locs ls hl hJ hS
    have e9 := hJ.2.2 he
    have e2 : ev_dn b B0 σ (.inr (.inl (some w.2.1))) = .ref H.size := by
      show Value.ref _ = _
      rw [ev_ad_w (hJ.1 _ _ hu).1, e9]
    have e5 : (nI n).toNatClampNeg = n := nI_clamp (by omega)
    have e6 : ¬ nI n < 0 := nI_pos (by omega)
    rw [List.map_cons]
    rcases hi with ⟨at9, d, rfl, hty, ha, ha2, rfl, hw⟩ | ⟨ix, C, d, rfl, ha, ha2, hty, rfl, hw, hw2⟩
    · have hz : componentBytes (newarray.typeOf at9) ≤ 8 := by cases at9 <;> decide
      refine va_newaK (N := n) hx hb (ht _ hw) rfl d rfl e6 e5 (Nat.le_trans (Nat.mul_le_mul hn hz) (by decide)) r1 r2 rfl fun H1 cA e1 z1 o1 hAr hNm => ?_
      obtain ⟨-, hRA⟩ := ev_tys_of hV (k := a) (by omega) (by omega)
      have hcA : cA = aC a := by
        have ha9 : a = 20 ∨ a = 21 ∨ a = 22 ∨ a = 23 := by omega
        rw [hty] at hNm
        rcases ha9 with rfl | rfl | rfl | rfl <;> exact Option.some.inj (hNm.symm.trans hRA)
      have hdc : ev_dc (ev_ty a) < 3 := by
        have ha9 : a = 20 ∨ a = 21 ∨ a = 22 ∨ a = 23 := by omega
        rcases ha9 with rfl | rfl | rfl | rfl <;> decide
      have go := hk _ _ _ _ h9 H1 locs ls hl (ev_J_new hJ he hu hx9 (Or.inr (Or.inr ⟨by show 20 ≤ a; omega, by show a ≤ 25; omega, by
        rw [e1, hcA, hty]
        refine congrArg some (ev_arr_to fun j hj => ?_)
        unfold ev_fv
        rw [ev_rows_get hj]
        exact (ev_dv_ok hdc).symm⟩)) z1 o1) (ev_S_new hS z1 o1)
      rw [List.map_cons, e2] at go
      exact go
    · refine W.anew hx hb ho (ht _ hw) (show (Cond.arrayOver (.object C)).before args s = true from va_AO.use (C := C) (hV.2.1 _ hw2 rfl)) rfl d rfl e6 (by rw [e5]; omega) r1 (by rw [e5]; exact r2) fun cA kA comp f1 f2 f3 f4 => ?_
      obtain ⟨-, hRA⟩ := ev_tys_of hV (k := a) (by omega) (by omega)
      rw [hty] at hRA
      obtain ⟨kA', comp', g1, g2, g3, g4⟩ := hRA
      have hcA : cA = aC a := Option.some.inj (f1.symm.trans g4)
      rw [arrV_new, e5]
      have z1 : (H.push (arrV cA n (fun _ => Value.null))).size = H.size + 1 := by simp
      have o1 : ∀ q, q < H.size → (H.push (arrV cA n (fun _ => Value.null)))[q]? = H[q]? := fun q hq => by rw [Array.getElem?_push, if_neg (Nat.ne_of_lt hq)]
      have e1 : (H.push (arrV cA n (fun _ => Value.null)))[H.size]? = some (arrV cA n (fun _ => Value.null)) := by simp
      have go := hk _ _ _ _ h9 _ locs ls hl (ev_J_new hJ he hu hx9 (Or.inr (Or.inr ⟨by show 20 ≤ a; omega, by show a ≤ 25; omega, by
        rw [e1, hcA]
        refine congrArg some (ev_arr_to fun j hj => ?_)
        unfold ev_fv
        rw [ev_rows_get hj]
        rfl⟩)) z1 o1) (ev_S_new hS z1 o1)
      rw [List.map_cons, e2] at go
      exact go
  · cases h
theorem ev_o_objinit (hF : ev_Fx D aC b B0 L σ p s m args meth c cc nL Ts own Sg) (hR : 1 ≤ R.frames ∧ 100 ≤ R.locals) (hk : ∀ pc loc st w, k pc loc st w = some r → ev_Go D aC b B0 σ p l e R s m args below meth c Q nL pc loc st w) (h : ev_h_objinit Φ M k cl nx a b' c' tg pc loc st w = some r)
    (hi : ∃ ix : Nat, decode cc pc = .ok (.invokespecial ix, 3) ∧ nx = pc + 3 ∧ Cond.methodLink own ix Lib.objectInit ∈ Ts ∧ Cond.instanceMethod Lib.objectInit ∈ Ts ∧ Cond.code Lib.objectInit ⟨#[0xb1]⟩ 1 none ∈ Ts) : ev_Go D aC b B0 σ p l e R s m args below meth c Q nL pc loc st w := by
  obtain ⟨hx, hb, hml, ho, ht, hV, -⟩ := id hF
  obtain ⟨ix, d, rfl, w1, w2, w3⟩ := hi
  unfold ev_h_objinit at h
  split at h
  · next i rr =>
    obtain ⟨h1, h⟩ := ev_if_n h
    have h1 := Nat.le_of_ble_eq_true h1
    have h2 := ev_cs_ok (b := b) (B0 := B0) (σ := σ) rr
    exact ev_pure hk h fun H locs ls hl g => W.objInit hx hb ho (ht _ w1) (ht _ w2) (ht _ w3) rfl (by rw [hml]; exact hl.1) rfl d hR.1 (by show 2 * 0 + _ + 12 ≤ _; omega) g
  · cases h
theorem ev_bb_z {x : Int32} {z : Int} (hz : -2147483648 ≤ z) : (ev_bb x < (z + 2147483648).toNat ↔ x.toInt < z) ∧ ((z + 2147483648).toNat < ev_bb x ↔ z < x.toInt) ∧ (ev_bb x - (z + 2147483648).toNat = (x.toInt - z).toNat) := by
  have h1 := ev_bb_ge x
  unfold ev_bb
  refine ⟨?_, ?_, ?_⟩ <;> omega
theorem ev_o_switch (hF : ev_Fx D aC b B0 L σ p s m args meth c cc nL Ts own Sg) (hΦ : ev_FO Φ σ) (hk : ∀ pc loc st w, k pc loc st w = some r → ev_Go D aC b B0 σ p l e R s m args below meth c Q nL pc loc st w) (h : ev_h_switch Φ M k cl nx a b' c' tg pc loc st w = some r)
    (hi : ∃ (df lo hi9 : Int) (offs : Array Int) (len : Nat), decode cc pc = .ok (.tableswitch df lo hi9 offs, len) ∧ -2147483648 ≤ lo ∧ -2147483648 ≤ hi9 ∧ a = (lo + 2147483648).toNat ∧ b' = (hi9 + 2147483648).toNat ∧ (pc : Int) + df = (c' : Int) ∧ (∀ (j t : Nat), tg[j]? = some t → ∃ off, offs[j]? = some off ∧ (pc : Int) + off = (t : Int))) :
    ev_Go D aC b B0 σ p l e R s m args below meth c Q nL pc loc st w := by
  obtain ⟨hx, hb, -⟩ := id hF
  obtain ⟨df, lo, hi9, offs, len, d, hlo, hhi, rfl, rfl, hdf, htg⟩ := hi
  unfold ev_h_switch at h
  split at h
  · next x rr =>
    split at h
    · next q hq =>
      obtain ⟨u, eu, u1, u2⟩ := ev_itv_ok (b := b) (B0 := B0) hΦ hq
      obtain ⟨l1, l2, l3⟩ := ev_bb_z (x := u) hlo
      obtain ⟨m1, m2, -⟩ := ev_bb_z (x := u) hhi
      cases c1 : (Nat.ble (q.2 + 1) (lo + 2147483648).toNat || Nat.ble ((hi9 + 2147483648).toNat + 1) q.1) with
      | true =>
        rw [c1, ev_if_t] at h
        refine ev_pure hk h fun H locs ls hl g => ?_
        rw [List.map_cons, eu]
        rw [Bool.or_eq_true] at c1
        refine lv_tableOut hx hb d ?_ hdf g
        rcases c1 with c1 | c1
        · have := Nat.le_of_ble_eq_true c1
          exact Or.inl (l1.mp (by omega))
        · have := Nat.le_of_ble_eq_true c1
          exact Or.inr (m2.mp (by omega))
      | false =>
        rw [c1, ev_if_f] at h
        obtain ⟨h1, h⟩ := ev_if_n h
        rw [Bool.and_eq_true, Bool.and_eq_true] at h1
        have k1 := Nat.eq_of_beq_eq_true h1.1
        have k2 := Nat.le_of_ble_eq_true h1.2.1
        have k3 := Nat.le_of_ble_eq_true h1.2.2
        split at h
        · next t ht =>
          rw [ev_lg_eq] at ht
          obtain ⟨off, o1, o2⟩ := htg _ _ ht
          refine ev_pure hk h fun H locs ls hl g => ?_
          rw [List.map_cons, eu]
          have eb : ev_bb u = q.1 := by omega
          refine lv_tableIn hx hb d (fun z => ?_) (fun z => ?_) (off := off) ?_ o2 g
          · have := l1.mpr z
            omega
          · have := m2.mpr z
            omega
          · rw [← l3, eb]
            exact o1
        · cases h
    · cases h
  · cases h
theorem ev_u32 (x : UInt32) : UInt32.ofNat x.toNat = x := by simp
theorem ev_u64 (x : UInt64) : UInt64.ofNat x.toNat = x := by simp
theorem ev_o_cv (hF : ev_Fx D aC b B0 L σ p s m args meth c cc nL Ts own Sg) (hk : ∀ pc loc st w, k pc loc st w = some r → ev_Go D aC b B0 σ p l e R s m args below meth c Q nL pc loc st w) (h : ev_h_cv Φ M k cl nx a b' c' tg pc loc st w = some r)
    (hi : ((a = 0 ∧ decode cc pc = .ok (.i2l, 1)) ∨ (a = 1 ∧ decode cc pc = .ok (.l2i, 1)) ∨ (a = 2 ∧ decode cc pc = .ok (.i2d, 1)) ∨ (a = 3 ∧ decode cc pc = .ok (.i2f, 1)) ∨ (a = 4 ∧ decode cc pc = .ok (.f2d, 1)) ∨ (a = 5 ∧ decode cc pc = .ok (.i2b, 1)) ∨ (a = 6 ∧ decode cc pc = .ok (.i2c, 1))) ∧ nx = pc + 1) : ev_Go D aC b B0 σ p l e R s m args below meth c Q nL pc loc st w := by
  obtain ⟨hx, hb, -⟩ := id hF
  obtain ⟨hi, rfl⟩ := hi
  unfold ev_h_cv at h
  split at h
  · next x rr =>
    split at h
    · next z hz =>
      refine ev_pure hk h fun H locs ls hl g => ?_
      rw [List.map_cons] at g ⊢
      rcases hi with ⟨rfl, d⟩ | ⟨rfl, d⟩ | ⟨rfl, d⟩ | ⟨rfl, d⟩ | ⟨rfl, d⟩ | ⟨rfl, d⟩ | ⟨rfl, d⟩
      · rcases x with n | q | ⟨t, f⟩ | ⟨j, n⟩
        · have e := (Option.some.inj hz).symm
          subst e
          refine lv_i2l hx hb d rfl ?_
          have e : ev_dn b B0 σ (.inr (.inr (.inr (0, ev_nl (nI n).toInt64)))) = .long (nI n).toInt64 := by
            show Value.long _ = _
            rw [ev_lN_n]
          rw [e] at g
          exact g
        · exact absurd hz (fun z => by cases z)
        · exact absurd hz (fun z => by cases z)
        · exact absurd hz (fun z => by cases z)
      · rcases x with n | q | ⟨t, f⟩ | ⟨j, n⟩
        · exact absurd hz (fun z => by cases z)
        · exact absurd hz (fun z => by cases z)
        · exact absurd hz (fun z => by cases z)
        · match j, hz, g with
          | 0, hz, g =>
            have e := (Option.some.inj hz).symm
            subst e
            refine lv_l2i hx hb d rfl ?_
            have e : ev_dn b B0 σ (.inl (ev_n (lN n).toInt32)) = .int (lN n).toInt32 := by
              show Value.int _ = _
              rw [ev_nI_n]
            rw [e] at g
            exact g
          | j + 1, hz, g => exact absurd hz (fun z => by cases z)
      · rcases x with n | q | ⟨t, f⟩ | ⟨j, n⟩
        · have e := (Option.some.inj hz).symm
          subst e
          refine lv_i2d hx hb d ?_
          have e : ev_dn b B0 σ (.inr (.inr (.inr (2, (FP.i2d (nI n)).toNat)))) = .double (FP.i2d (nI n)) := by
            show Value.double _ = _
            rw [ev_u64]
          rw [e] at g
          exact g
        · exact absurd hz (fun z => by cases z)
        · exact absurd hz (fun z => by cases z)
        · exact absurd hz (fun z => by cases z)
      · rcases x with n | q | ⟨t, f⟩ | ⟨j, n⟩
        · have e := (Option.some.inj hz).symm
          subst e
          refine lv_i2f hx hb d ?_
          have e : ev_dn b B0 σ (.inr (.inr (.inr (1, (FP.i2f (nI n)).toNat)))) = .float (FP.i2f (nI n)) := by
            show Value.float _ = _
            rw [ev_u32]
          rw [e] at g
          exact g
        · exact absurd hz (fun z => by cases z)
        · exact absurd hz (fun z => by cases z)
        · exact absurd hz (fun z => by cases z)
      · rcases x with n | q | ⟨t, f⟩ | ⟨j, n⟩
        · exact absurd hz (fun z => by cases z)
        · exact absurd hz (fun z => by cases z)
        · exact absurd hz (fun z => by cases z)
        · match j, hz, g with
          | 0, hz, g => exact absurd hz (fun z => by cases z)
          | 1, hz, g =>
            have hz : ev_if (ev_n64 (FP.f2d (UInt32.ofNat n))) (some (.inr (.inr (.inr (2, (FP.f2d (UInt32.ofNat n)).toNat))))) none = some z := hz
            obtain ⟨h1, hz⟩ := ev_if_n hz
            have e := (Option.some.inj hz).symm
            subst e
            refine lv_f2d hx hb d (by unfold vf_n64; exact of_decide_eq_true h1) ?_
            have e : ev_dn b B0 σ (.inr (.inr (.inr (2, (FP.f2d (UInt32.ofNat n)).toNat)))) = .double (FP.f2d (UInt32.ofNat n)) := by
              show Value.double _ = _
              rw [ev_u64]
            rw [e] at g
            exact g
          | j + 2, hz, g => exact absurd hz (fun z => by cases z)
      · rcases x with n | q | ⟨t, f⟩ | ⟨j, n⟩
        · have e := (Option.some.inj hz).symm
          subst e
          refine lv_i2b hx hb d rfl ?_
          have e : ev_dn b B0 σ (.inl (ev_n (nI n).toInt8.toInt32)) = .int (nI n).toInt8.toInt32 := by
            show Value.int _ = _
            rw [ev_nI_n]
          rw [e] at g
          exact g
        · exact absurd hz (fun z => by cases z)
        · cases t with
          | none =>
            have e := (Option.some.inj hz).symm
            subst e
            exact lv_i2b hx hb d rfl g
          | some i => exact absurd hz (fun z => by cases z)
        · exact absurd hz (fun z => by cases z)
      · rcases x with n | q | ⟨t, f⟩ | ⟨j, n⟩
        · have e := (Option.some.inj hz).symm
          subst e
          refine lv_i2c hx hb d rfl ?_
          have e : ev_dn b B0 σ (.inl (n % 65536)) = .int ((nI n).toUInt32 % 65536).toInt32 := by
            show Value.int _ = _
            rw [pk_char]
            refine congrArg Value.int (ev_nI_eq ?_)
            have e2 : (nI n).toBitVec.toNat = n % 4294967296 := by
              rw [← ev_nI_mod, pk_tn (by omega)]
            rw [e2]
            omega
          rw [e] at g
          exact g
        · exact absurd hz (fun z => by cases z)
        · exact absurd hz (fun z => by cases z)
        · exact absurd hz (fun z => by cases z)
    · cases h
  · cases h
theorem ev_o_w2 (hF : ev_Fx D aC b B0 L σ p s m args meth c cc nL Ts own Sg) (hR : 1 ≤ R.frames ∧ 100 ≤ R.locals) (hMR0 : M.2.1 ≤ R.cells ∧ M.2.2.1 ≤ R.slots) (hk : ∀ pc loc st w, k pc loc st w = some r → ev_Go D aC b B0 σ p l e R s m args below meth c Q nL pc loc st w) (h : ev_h_w2 Φ M k cl nx a b' c' tg pc loc st w = some r)
    (hi : (((a = 0 ∧ decode cc pc = .ok (.ddiv, 1)) ∨ (a = 1 ∧ decode cc pc = .ok (.fdiv, 1)) ∨ (a = 2 ∧ decode cc pc = .ok (.dcmp .l, 1)) ∨ (a = 3 ∧ decode cc pc = .ok (.dcmp .g, 1)) ∨ (a = 4 ∧ decode cc pc = .ok (.lcmp, 1)) ∨ (a = 5 ∧ decode cc pc = .ok (.lshr, 1)) ∨ (a = 6 ∧ decode cc pc = .ok (.lshl, 1)) ∨ (a = 7 ∧ decode cc pc = .ok (.land, 1)) ∨ (a = 8 ∧ decode cc pc = .ok (.lor, 1))) ∧ nx = pc + 1) ∨
      (∃ ix : Nat, a = 9 ∧ decode cc pc = .ok (.invokestatic ix, 3) ∧ nx = pc + 3 ∧ Cond.methodLink own ix Lib.Math.max.name ∈ Ts ∧ Cond.static Lib.Math.max.name ∈ Ts ∧ Cond.initialized "java/lang/Math" ∈ Ts ∧ Cond.code Lib.Math.max.name Lib.Math.max.code 2 (some .int) ∈ Ts)) : ev_Go D aC b B0 σ p l e R s m args below meth c Q nL pc loc st w := by
  obtain ⟨hx, hb, hml, ho, ht, -⟩ := id hF
  unfold ev_h_w2 at h
  split at h
  · next y x rr =>
    split at h
    · next z hz =>
      obtain ⟨h1, h⟩ := ev_if_n h
      rw [Bool.and_eq_true] at h1
      have hMR := ev_may_ok h1.2 hMR0
      have h1 := Nat.le_of_ble_eq_true h1.1
      have h2 := ev_cs_ok (b := b) (B0 := B0) (σ := σ) rr
      refine ev_pure hk h fun H locs ls hl g => ?_
      rw [List.map_cons] at g
      rw [List.map_cons, List.map_cons]
      unfold ev_w2 at hz
      split at hz
      · obtain ⟨h9, hz⟩ := ev_if_n hz
        have e := (Option.some.inj hz).symm
        subst e
        rcases hi with ⟨hi, rfl⟩ | ⟨ix, h0, -⟩
        · have d : decode cc pc = .ok (.ddiv, 1) := by
            rcases hi with ⟨-, d⟩ | ⟨h0, -⟩ | ⟨h0, -⟩ | ⟨h0, -⟩ | ⟨h0, -⟩ | ⟨h0, -⟩ | ⟨h0, -⟩ | ⟨h0, -⟩ | ⟨h0, -⟩
            · exact d
            all_goals exact absurd h0 (by decide)
          refine lv_ddiv hx hb d (by unfold vf_n64; exact of_decide_eq_true h9) ?_
          simp only [ev_dn, ev_u64] at g
          exact g
        · exact absurd h0 (by decide)
      · obtain ⟨h9, hz⟩ := ev_if_n hz
        have e := (Option.some.inj hz).symm
        subst e
        rcases hi with ⟨hi, rfl⟩ | ⟨ix, h0, -⟩
        · have d : decode cc pc = .ok (.fdiv, 1) := by
            rcases hi with ⟨h0, -⟩ | ⟨-, d⟩ | ⟨h0, -⟩ | ⟨h0, -⟩ | ⟨h0, -⟩ | ⟨h0, -⟩ | ⟨h0, -⟩ | ⟨h0, -⟩ | ⟨h0, -⟩
            · exact absurd h0 (by decide)
            · exact d
            all_goals exact absurd h0 (by decide)
          refine lv_fdiv hx hb d (by unfold vf_n32; exact of_decide_eq_true h9) ?_
          simp only [ev_dn, ev_u32] at g
          exact g
        · exact absurd h0 (by decide)
      · have e := (Option.some.inj hz).symm
        subst e
        rcases hi with ⟨hi, rfl⟩ | ⟨ix, h0, -⟩
        · have d : decode cc pc = .ok (.dcmp .l, 1) := by
            rcases hi with ⟨h0, -⟩ | ⟨h0, -⟩ | ⟨-, d⟩ | ⟨h0, -⟩ | ⟨h0, -⟩ | ⟨h0, -⟩ | ⟨h0, -⟩ | ⟨h0, -⟩ | ⟨h0, -⟩
            · exact absurd h0 (by decide)
            · exact absurd h0 (by decide)
            · exact d
            all_goals exact absurd h0 (by decide)
          refine lv_dcmp hx hb d ?_
          simp only [ev_dn, ev_nI_n] at g
          exact g
        · exact absurd h0 (by decide)
      · have e := (Option.some.inj hz).symm
        subst e
        rcases hi with ⟨hi, rfl⟩ | ⟨ix, h0, -⟩
        · have d : decode cc pc = .ok (.dcmp .g, 1) := by
            rcases hi with ⟨h0, -⟩ | ⟨h0, -⟩ | ⟨h0, -⟩ | ⟨-, d⟩ | ⟨h0, -⟩ | ⟨h0, -⟩ | ⟨h0, -⟩ | ⟨h0, -⟩ | ⟨h0, -⟩
            · exact absurd h0 (by decide)
            · exact absurd h0 (by decide)
            · exact absurd h0 (by decide)
            · exact d
            all_goals exact absurd h0 (by decide)
          refine lv_dcmp hx hb d ?_
          simp only [ev_dn, ev_nI_n] at g
          exact g
        · exact absurd h0 (by decide)
      · have e := (Option.some.inj hz).symm
        subst e
        rcases hi with ⟨hi, rfl⟩ | ⟨ix, h0, -⟩
        · have d : decode cc pc = .ok (.lcmp, 1) := by
            rcases hi with ⟨h0, -⟩ | ⟨h0, -⟩ | ⟨h0, -⟩ | ⟨h0, -⟩ | ⟨-, d⟩ | ⟨h0, -⟩ | ⟨h0, -⟩ | ⟨h0, -⟩ | ⟨h0, -⟩
            · exact absurd h0 (by decide)
            · exact absurd h0 (by decide)
            · exact absurd h0 (by decide)
            · exact absurd h0 (by decide)
            · exact d
            all_goals exact absurd h0 (by decide)
          refine W.lcmp hx hb d ?_
          simp only [ev_dn, ev_nI_n] at g
          exact g
        · exact absurd h0 (by decide)
      · have e := (Option.some.inj hz).symm
        subst e
        rcases hi with ⟨hi, rfl⟩ | ⟨ix, h0, -⟩
        · have d : decode cc pc = .ok (.lshr, 1) := by
            rcases hi with ⟨h0, -⟩ | ⟨h0, -⟩ | ⟨h0, -⟩ | ⟨h0, -⟩ | ⟨h0, -⟩ | ⟨-, d⟩ | ⟨h0, -⟩ | ⟨h0, -⟩ | ⟨h0, -⟩
            · exact absurd h0 (by decide)
            · exact absurd h0 (by decide)
            · exact absurd h0 (by decide)
            · exact absurd h0 (by decide)
            · exact absurd h0 (by decide)
            · exact d
            all_goals exact absurd h0 (by decide)
          refine lv_lshr hx hb d rfl ?_
          simp only [ev_dn, ev_lN_n] at g
          exact g
        · exact absurd h0 (by decide)
      · have e := (Option.some.inj hz).symm
        subst e
        rcases hi with ⟨hi, rfl⟩ | ⟨ix, h0, -⟩
        · have d : decode cc pc = .ok (.lshl, 1) := by
            rcases hi with ⟨h0, -⟩ | ⟨h0, -⟩ | ⟨h0, -⟩ | ⟨h0, -⟩ | ⟨h0, -⟩ | ⟨h0, -⟩ | ⟨-, d⟩ | ⟨h0, -⟩ | ⟨h0, -⟩
            · exact absurd h0 (by decide)
            · exact absurd h0 (by decide)
            · exact absurd h0 (by decide)
            · exact absurd h0 (by decide)
            · exact absurd h0 (by decide)
            · exact absurd h0 (by decide)
            · exact d
            all_goals exact absurd h0 (by decide)
          refine lv_lshl hx hb d rfl ?_
          simp only [ev_dn, ev_lN_n] at g
          exact g
        · exact absurd h0 (by decide)
      · have e := (Option.some.inj hz).symm
        subst e
        rcases hi with ⟨hi, rfl⟩ | ⟨ix, h0, -⟩
        · have d : decode cc pc = .ok (.land, 1) := by
            rcases hi with ⟨h0, -⟩ | ⟨h0, -⟩ | ⟨h0, -⟩ | ⟨h0, -⟩ | ⟨h0, -⟩ | ⟨h0, -⟩ | ⟨h0, -⟩ | ⟨-, d⟩ | ⟨h0, -⟩
            · exact absurd h0 (by decide)
            · exact absurd h0 (by decide)
            · exact absurd h0 (by decide)
            · exact absurd h0 (by decide)
            · exact absurd h0 (by decide)
            · exact absurd h0 (by decide)
            · exact absurd h0 (by decide)
            · exact d
            all_goals exact absurd h0 (by decide)
          refine lv_land hx hb d ?_
          simp only [ev_dn, ev_lN_n] at g
          exact g
        · exact absurd h0 (by decide)
      · have e := (Option.some.inj hz).symm
        subst e
        rcases hi with ⟨hi, rfl⟩ | ⟨ix, h0, -⟩
        · have d : decode cc pc = .ok (.lor, 1) := by
            rcases hi with ⟨h0, -⟩ | ⟨h0, -⟩ | ⟨h0, -⟩ | ⟨h0, -⟩ | ⟨h0, -⟩ | ⟨h0, -⟩ | ⟨h0, -⟩ | ⟨h0, -⟩ | ⟨-, d⟩
            · exact absurd h0 (by decide)
            · exact absurd h0 (by decide)
            · exact absurd h0 (by decide)
            · exact absurd h0 (by decide)
            · exact absurd h0 (by decide)
            · exact absurd h0 (by decide)
            · exact absurd h0 (by decide)
            · exact absurd h0 (by decide)
            · exact d
          refine lv_lor hx hb d ?_
          simp only [ev_dn, ev_lN_n] at g
          exact g
        · exact absurd h0 (by decide)
      · next m9 n9 =>
        have e := (Option.some.inj hz).symm
        subst e
        rcases hi with ⟨hi, -⟩ | ⟨ix, -, d, rfl, w1, w2, w3, w4⟩
        · rcases hi with ⟨h0, -⟩ | ⟨h0, -⟩ | ⟨h0, -⟩ | ⟨h0, -⟩ | ⟨h0, -⟩ | ⟨h0, -⟩ | ⟨h0, -⟩ | ⟨h0, -⟩ | ⟨h0, -⟩
          all_goals exact absurd h0 (by decide)
        · refine va_mmax hx hb (by rw [hml]; exact hl.1.symm) ho (ht _ w1) (ht _ w2) (ht _ w3) (ht _ w4) hR.1 (by omega) hMR.1 hMR.2 d ?_
          have e : ev_dn b B0 σ (.inl (ev_if (Nat.ble (ev_bi m9 + 1) (ev_bi n9)) n9 m9)) = .int (if nI m9 < nI n9 then nI n9 else nI m9) := by
            show Value.int _ = _
            refine congrArg Value.int ?_
            cases c1 : Nat.ble (ev_bi m9 + 1) (ev_bi n9) with
            | true =>
              have := Nat.le_of_ble_eq_true c1
              rw [ev_if_t, if_pos (by rw [ev_bb_lt, ← ev_bi_ok, ← ev_bi_ok]; omega)]
            | false =>
              have : ¬ ev_bi m9 + 1 ≤ ev_bi n9 := fun q => by rw [Nat.ble_eq_true_of_le q] at c1; cases c1
              rw [ev_if_f, if_neg (by rw [ev_bb_lt, ← ev_bi_ok, ← ev_bi_ok]; omega)]
          rw [e] at g
          exact g
      · cases hz
    · cases h
  · cases h
end EVM
/-! ===== a throw whose class's constructor calls the one above by another place of its pool (turned from the task's laws vx_ctorMadeS, vx_throwS) ===== -/
/-- a throw's words: the first constructor is rx, its link stands at ix -/
def ev_xA (own : String) (ic : Nat) (X : String) (ix : Nat) (rx : ByteArray) (Y0 : String) (names : List String) : List Cond :=
  (Bundle.throwableAtoms ++ Bundle.throwableSAtoms ++ (Bundle.passSAtoms X Y0 ix rx ++ Bundle.chainSAtoms Y0 names)) ++
  (Bundle.ownAtoms own ic X []).drop (Bundle.throwableAtoms ++ Bundle.throwableSAtoms ++ Bundle.chainSAtoms X []).length
theorem ev_xA_in {own : String} {ic : Nat} {X : String} {ix : Nat} {rx : ByteArray} {Y0 : String} {names : List String} {x : Cond} (h : x ∈ [Cond.methodLink own ic (Bundle.initS X), .instantiable X 6, .castable X X, .selects X Bundle.tFill0 Bundle.tFill0, .selects X Bundle.tFill Bundle.tFill,
    .lays X Bundle.tN "cause" "Ljava/lang/Throwable;", .lays X Bundle.tN "stackTrace" Bundle.steD, .lays X Bundle.tN "suppressedExceptions" Bundle.listD, .lays X Bundle.tN "detailMessage" "Ljava/lang/String;",
    .isRef (.static Bundle.tN "UNASSIGNED_STACK" Bundle.steD), .isRef (.static Bundle.tN "SUPPRESSED_SENTINEL" Bundle.listD),
    .fieldLink Bundle.tN 198 Bundle.tN "backtrace" "Ljava/lang/Object;", .lays Bundle.tN Bundle.tN "backtrace" "Ljava/lang/Object;", .lays X Bundle.tN "backtrace" "Ljava/lang/Object;"]) : x ∈ ev_xA own ic X ix rx Y0 names := by
  unfold ev_xA Bundle.ownAtoms
  rw [List.drop_left]
  exact List.mem_append.mpr (Or.inr h)
theorem ev_xA_t {own : String} {ic : Nat} {X : String} {ix : Nat} {rx : ByteArray} {Y0 : String} {names : List String} {x : Cond} (h : x ∈ Bundle.throwableAtoms) : x ∈ ev_xA own ic X ix rx Y0 names :=
  List.mem_append.mpr (Or.inl (List.mem_append.mpr (Or.inl (List.mem_append.mpr (Or.inl h)))))
theorem ev_xA_s {own : String} {ic : Nat} {X : String} {ix : Nat} {rx : ByteArray} {Y0 : String} {names : List String} {x : Cond} (h : x ∈ Bundle.throwableSAtoms) : x ∈ ev_xA own ic X ix rx Y0 names :=
  List.mem_append.mpr (Or.inl (List.mem_append.mpr (Or.inl (List.mem_append.mpr (Or.inr h)))))
theorem ev_xA_c {own : String} {ic : Nat} {X : String} {ix : Nat} {rx : ByteArray} {Y0 : String} {names : List String} {x : Cond} (h : x ∈ Bundle.passSAtoms X Y0 ix rx ++ Bundle.chainSAtoms Y0 names) : x ∈ ev_xA own ic X ix rx Y0 names :=
  List.mem_append.mpr (Or.inl (List.mem_append.mpr (Or.inr h)))
theorem ev_xA_p {own : String} {ic : Nat} {X : String} {ix : Nat} {rx : ByteArray} {Y0 : String} {names : List String} {x : Cond} (h : x ∈ Bundle.passSAtoms X Y0 ix rx) : x ∈ ev_xA own ic X ix rx Y0 names :=
  ev_xA_c (List.mem_append.mpr (Or.inl h))
theorem ev_chain {args : Array Value} {s : State} {pl : Platform} (hpl : pl.magicAccessors = ({} : Platform).magicAccessors) {top : MethodId} (htop : s.methodNamed? (Bundle.initS Bundle.tN) = some top)
    {ix : Nat} {rx : ByteArray} (x0 : decode rx 0 = .ok (.aload_n 0, 1)) (x1 : decode rx 1 = .ok (.aload_n 1, 1)) (x2 : decode rx 2 = .ok (.invokespecial ix, 3)) (x5 : decode rx 5 = .ok (.return_, 1))
    (names : List String) (Y X : String) (hX : Bundle.fit X = true) (hY : Bundle.fit Y = true) (hn : ∀ n ∈ names, Bundle.fit n = true) (h : ∀ c ∈ Bundle.passSAtoms X Y ix rx ++ Bundle.chainSAtoms Y names, c.before args s = true) :
    ∃ (P1 : PassC) (Ps : List PassC), Ps.length = names.length + 1 ∧ P1.LinksS pl s ∧ (∀ P, P ∈ Ps → P.LinksS pl s) ∧ s.methodNamed? (Bundle.initS X) = some P1.m ∧
      P1.sup = firstOf top (Ps.map (·.toPassT)) ∧ PassesOn top (Ps.map (·.toPassT)) := by
  obtain ⟨P, L, hm, hs⟩ := PassC.ofS_atoms (args := args) (s := s) hpl (X := X) (Y := Y) (Bundle.fit_spec hX).1 (Bundle.fit_spec hY).2 x0 x1 x2 x5 (fun c hc => h c (List.mem_append.mpr (Or.inl hc)))
  obtain ⟨P', Ps, hlen, L', hL, hm', hsup, hpass⟩ := Bundle.chainS (args := args) hpl htop names Y hY hn (fun c hc => h c (List.mem_append.mpr (Or.inr hc)))
  refine ⟨P, P' :: Ps, by simp [hlen], L, fun Q hQ => ?_, hm, Option.some.inj (hs.symm.trans hm'), hsup, hpass⟩
  rcases List.mem_cons.mp hQ with rfl | hQ
  · exact L'
  · exact hL Q hQ
section EVK
variable {p : Program} {l : Launch} {e : Env} {R : Room} {s : State} {m₀ : MethodId} {args : Array Value} {below : List Frame} {meth : Method} {c : Code} {W : State} {locs : List Loc} {cells slots : Nat}
set_option maxHeartbeats 1000000 in
theorem ev_ctorMade (X : Stand p l e R s m₀ args below meth c W locs cells slots) (hexec : p.tables.exec = Jvm.exec) (htr : e.platform.stackTraces = false) {own cls : String} {Y0 : String} {names : List String} {ic ix : Nat} {rx : ByteArray} (x0 : decode rx 0 = .ok (.aload_n 0, 1)) (x1 : decode rx 1 = .ok (.aload_n 1, 1)) (x2 : decode rx 2 = .ok (.invokespecial ix, 3)) (x5 : decode rx 5 = .ok (.return_, 1))
    (hown : s.vm.findClass own = some m₀.cls) (hcls : Bundle.fit cls = true) (hY0 : Bundle.fit Y0 = true) (hnames : ∀ n ∈ names, Bundle.fit n = true)
    (h : ∀ a ∈ ev_xA own ic cls ix rx Y0 names, a.before args s = true)
    (hlocs : ∀ x ∈ locs, ∀ cell, s.heap[x.base]? = some cell → cell.vm.isStatics = false)
    {a : Addr} {cX : ClassId} {kX : Class} (hfoundX : s.vm.findClass cls = some cX) (hkX : s.vm.classes[cX]? = some kX) (hcell : W.heap[a]? = some (freshCell cX kX)) (hnew : s.heap.size ≤ a)
    {msg : Value} (hmsg : msg.isRef = true)
    {g : JFrame} (hg : g.method = m₀) (hsize : g.locals.size = c.maxLocals) {rest : List Value} (hstack : g.stack = msg :: .ref a :: .ref a :: rest)
    (hd6 : decode c.code g.pc = .ok (.invokespecial ic, 3))
    (hRframes : names.length + 4 < R.frames) (hRlocals : 2 * g.monitorRoom + ((Value.ref a :: rest).map fun v => v.category).sum + (13 * (names.length + 2) + 42) ≤ R.locals) :
    ∃ (V : State) (ce : Cell) (L : List Loc), Stand p l e R s m₀ args below meth c (V.setCell a ce) (locs ++ L) cells slots ∧ (∀ y ∈ L, y.base = a) ∧ a < V.heap.size ∧ ce.cls = cX ∧ ce.vm = .none ∧
      ∀ target, Steps p.tables e below ((V.setCell a ce).setTop { g with stack := .ref a :: rest, pc := g.pc + 3 }) target → Steps p.tables e below (W.setTop g) target := by
  have howns : e.platform.frameOwnsMonitors = true := by rw [X.admits.platform]
  have hfin : e.platform.finalization = false := by rw [X.admits.platform]
  have hpl : e.platform.magicAccessors = ({} : Platform).magicAccessors := by rw [X.admits.platform]
  have a' : ∀ x, x ∈ ev_xA own ic cls ix rx Y0 names → x.holds args s none s [] = true := fun x hx => h x hx
  obtain ⟨T, Z0, L, -, Y⟩ := ThrowableC.of_atoms (args := args) howns hfin hpl (fun x hx => h x (ev_xA_t hx))
  obtain ⟨Z, M, LZ, LM, hnZ⟩ := Init0T.ofS_atoms (args := args) hpl L Y (fun x hx => h x (ev_xA_s hx))
  obtain ⟨P1, Ps, hlen, L1, hL, hP1m, hlink1, hlink⟩ := ev_chain (args := args) hpl hnZ x0 x1 x2 x5 names Y0 cls hcls hY0 hnames (fun x hx => h x (ev_xA_c hx))
  have hfound : s.vm.findClass cls = some P1.m.cls := findClass_of_methodNamed hP1m
  cases Option.some.inj (hfoundX.symm.trans hfound)
  obtain ⟨c1, kX', hc1, hk, hord, -, -, hn6⟩ := Cond.instantiable_spec (a' (.instantiable cls 6) (ev_xA_in (by simp)))
  cases Option.some.inj (hc1.symm.trans hfound)
  cases Option.some.inj (hkX.symm.trans hk)
  have hsel0 : selectMethod e.platform s.vm P1.m.cls T.fill0 = .method T.fill0 := by
    obtain ⟨c2, r2, m2, q1, q2, q3, q4, -⟩ := Cond.selects_spec (a' (.selects cls Bundle.tFill0 Bundle.tFill0) (ev_xA_in (by simp)))
    cases Option.some.inj (q1.symm.trans hfound)
    cases Option.some.inj (q2.symm.trans (State.methodFound?_of_named Y.fill0 (by decide)))
    cases Option.some.inj (q3.symm.trans Y.fill0)
    rw [Launch.admits_selectMethod X.admits]; exact q4
  have hselF : selectMethod e.platform s.vm P1.m.cls T.fill = .method T.fill := by
    obtain ⟨c2, r2, m2, q1, q2, q3, q4, -⟩ := Cond.selects_spec (a' (.selects cls Bundle.tFill Bundle.tFill) (ev_xA_in (by simp)))
    cases Option.some.inj (q1.symm.trans hfound)
    cases Option.some.inj (q2.symm.trans (State.methodFound?_of_named Y.fill (by decide)))
    cases Option.some.inj (q3.symm.trans Y.fill)
    rw [Launch.admits_selectMethod X.admits]; exact q4
  obtain ⟨cellS0, hcS0, hiss⟩ := Y.statics
  obtain ⟨u0, hu0⟩ := Cond.staticRefV Y.unassigned L.unassignedStatic L.statics hcS0 hiss (a' (.isRef (.static Bundle.tN "UNASSIGNED_STACK" Bundle.steD)) (ev_xA_in (by simp)))
  obtain ⟨sen, hsen⟩ := Cond.staticRefV Y.sentinel L.sentinelStatic L.statics hcS0 hiss (a' (.isRef (.static Bundle.tN "SUPPRESSED_SENTINEL" Bundle.listD)) (ev_xA_in (by simp)))
  obtain ⟨ci198, i198, fB, hk198, hg198, ha198, hsB, -, hnB, htB, hffB⟩ := Cond.ownField (t := .object "java/lang/Object") Y.found L.cls (by decide +kernel) (a' (.fieldLink Bundle.tN 198 Bundle.tN "backtrace" "Ljava/lang/Object;") (ev_xA_in (by simp))) (a' (.lays Bundle.tN Bundle.tN "backtrace" "Ljava/lang/Object;") (ev_xA_in (by simp))) e.platform hpl
  obtain ⟨cellS, hcS', heS, -, hkeep⟩ := X.same.2.2.2.2.2 T.aS cellS0 hcS0
  have hcellS : W.heap[T.aS]? = some cellS := hcS'
  have hout' : ∀ i, (⟨T.aS, i⟩ : Loc) ∉ locs := fun i hmem => by
    have := hlocs _ hmem cellS0 hcS0
    rw [hiss] at this; cases this
  have hknownS : cellS.vm ≠ .unknown := by
    rw [heS]; intro hu
    rw [show cellS0.vm = .unknown from hu] at hiss
    cases hiss
  have hneS : T.aS ≠ a := Nat.ne_of_lt (Nat.lt_of_lt_of_le (Array.getElem?_eq_some_iff.mp hcS0).1 hnew)
  obtain ⟨iM, hffM⟩ := Y.msg
  obtain ⟨tyC, dC, hdC, hdnC⟩ := Cond.laysAt hfound hk Y.cause (a' (.lays cls Bundle.tN "cause" "Ljava/lang/Throwable;") (ev_xA_in (by simp)))
  obtain ⟨tyS, dS, hdS, hdnS⟩ := Cond.laysAt hfound hk Y.stack (a' (.lays cls Bundle.tN "stackTrace" Bundle.steD) (ev_xA_in (by simp)))
  obtain ⟨tyP, dP, hdP, hdnP⟩ := Cond.laysAt hfound hk Y.supp (a' (.lays cls Bundle.tN "suppressedExceptions" Bundle.listD) (ev_xA_in (by simp)))
  obtain ⟨tyM, dM, hdM, hdnM⟩ := Cond.laysAt hfound hk hffM (a' (.lays cls Bundle.tN "detailMessage" "Ljava/lang/String;") (ev_xA_in (by simp)))
  obtain ⟨tyB, dB, hdB, hdnB⟩ := Cond.laysAt hfound hk hffB (a' (.lays cls Bundle.tN "backtrace" "Ljava/lang/Object;") (ev_xA_in (by simp)))
  have bC := Cond.laysApart hdB hdC hdnB hdnC (by rw [hnB, Y.causeName]; decide)
  have bS := Cond.laysApart hdB hdS hdnB hdnS (by rw [hnB, Y.stackName]; decide)
  have bP := Cond.laysApart hdB hdP hdnB hdnP (by rw [hnB, Y.suppName]; decide)
  have hskip : SkipFacts T e.platform s (fun u => u) u0 ((preparedCellV T.toThrowableT (freshCell P1.m.cls kX) a u0 sen).withEntry W.cur) :=
    ⟨{ ci198 := ci198, i198 := i198, fBack := fB }, ⟨hk198, hg198, ha198, hsB⟩, by
      have := fresh_default (c := P1.m.cls) tyB
      rw [htB] at this
      simpa [preparedCellV, Cell.setSlot, Cell.withEntry, Array.getElem?_setIfInBounds, bC, bS, bP, bC.symm, bS.symm, bP.symm, defaultValue] using this, fun _ _ => rfl⟩
  obtain ⟨tm, methC, cdC, kC, vm₁, hnC, -, -, -, -, -, -, -, hW₁, st1⟩ := Steps.initColdS (tb := p.tables) (e := e) (below := below) (s := s) (U := W) X.here hexec X.warmed hpl hown (t := Bundle.initS cls) rfl rfl (Bundle.fit_spec hcls).2
    (a' (.methodLink own ic (Bundle.initS cls)) (ev_xA_in (by simp))) (h (.instanceMethod (Bundle.initS cls)) (ev_xA_p (by simp [Bundle.passSAtoms]))) (bytes := rx) (maxL := 2) (h (.code (Bundle.initS cls) rx 2 none) (ev_xA_p (by simp [Bundle.passSAtoms])))
    (f := g) hg (a := a) (msg := msg) (rest := .ref a :: rest) hstack hd6
  cases Option.some.inj (hnC.symm.trans hP1m)
  have X₁ := X.noted hW₁
  obtain ⟨vm₂, X₂, st2⟩ := X₁.ctorMessageOffV hexec (g := { g with stack := .ref a :: rest }) hg hsize T L Z LZ M LM (P1 :: Ps)
    (fun P hP => by rcases List.mem_cons.mp hP with rfl | hP; exact L1; exact hL P hP) ⟨hlink1, hlink⟩ (u0 := u0) (sen := sen) (self := a) hmsg (cell := freshCell P1.m.cls kX) (cellS := cellS)
    hcell (fun _ => by simp) (by simp) rfl rfl hsel0 hselF hcellS hneS hknownS (by rw [hkeep _ (hout' _)]; exact hu0) (by rw [hkeep _ (hout' _)]; exact hsen)
    (Takes.of_laid hk hord tyC (by rw [Y.causeType]; rfl)) (Takes.of_laid hk hord tyS (by rw [Y.stackType]; exact fits_refV_array _ u0)) (Takes.of_laid hk hord tyP (by rw [Y.suppType]; exact fits_refV_object _ sen))
    (Takes.of_laid hk hord tyM (by rw [Y.msgType]; exact fits_refV_object _ ⟨msg, hmsg⟩)) Y.objLocals hskip htr [] hd6
    (by simp only [List.length_cons, hlen]; omega) (by simp only [List.length_cons, hlen]; exact hRlocals)
  have hlt : a < ((W.setVm vm₁).setVm vm₂).heap.size := (Array.getElem?_eq_some_iff.mp hcell).1
  refine ⟨(W.setVm vm₁).setVm vm₂, _, _, X₂, fun y hy => ?_, hlt, rfl, rfl, fun target hwalk => st1 _ (fun acts => ?_)⟩
  · simp only [List.mem_cons, List.not_mem_nil, or_false] at hy
    rcases hy with rfl | rfl | rfl | rfl | rfl <;> rfl
  · rw [doInvoke_state]
    exact st2 _ hwalk
end EVK
section EVT
variable {p : Program} {l : Launch} {e : Env} {R : Room} {s : State} {m : MethodId} {args : Array Value} {below : List Frame} {meth : Method} {c : Code} {H : Heap} {locs : List Loc} {cells slots : Nat} {Q : State → Prop}
variable {mc ms : Nat} {free : Addr → Prop} {A0 A1 : Nat → Prop} {H0 : Heap} {a : Array Value} {ls : Array Slot} {st0 rest : List Value}
variable {Qc : Array Value → State → Outcome → State → Prop} {XC : String → State → State → Prop}
theorem ev_throwX {cc : ByteArray} {pc : Nat} (hexec : p.tables.exec = Jvm.exec) (hb : c.code = cc) (hl : l.stackTraces = false) {own cls text : String} {Y0 : String} {names : List String} {ik is ic ix mc ms sa : Nat} {rx : ByteArray} (x0 : decode rx 0 = .ok (.aload_n 0, 1)) (x1 : decode rx 1 = .ok (.aload_n 1, 1)) (x2 : decode rx 2 = .ok (.invokespecial ix, 3)) (x5 : decode rx 5 = .ok (.return_, 1)) {A : Nat → Prop}
    (hown : s.vm.findClass own = some m.cls) (hcls : Bundle.fit cls = true) (hY0 : Bundle.fit Y0 = true) (hnames : ∀ n ∈ names, Bundle.fit n = true)
    (hk : (Cond.classLink own ik cls).before args s = true) (hini : (Cond.initialized cls).before args s = true) (hstr : vk_R own is text sa s) (hat : ∀ w ∈ (ev_xA own ic cls ix rx Y0 names).filter vx_no, w.before args s = true)
    (hgood : ∀ w ∈ Cond.classLink own ik cls :: Cond.initialized cls :: (ev_xA own ic cls ix rx Y0 names).filter vx_no, vx_ot w = true)
    (hU : vx_Zq Bundle.tN "UNASSIGNED_STACK" Bundle.steD A s s.heap) (hN : vx_Zq Bundle.tN "SUPPRESSED_SENTINEL" Bundle.listD A s s.heap) (hS : va_S A s.heap H locs) (hsize : ls.size = c.maxLocals)
    (d0 : decode cc pc = .ok (.new ik, 3)) (d3 : decode cc (pc + 3) = .ok (.dup, 1)) (d4 : decode cc (pc + 4) = .ok (.ldc is, 2)) (d6 : decode cc (pc + 6) = .ok (.invokespecial ic, 3)) (d9 : decode cc (pc + 9) = .ok (.athrow, 1))
    (hout : ∀ x ∈ c.exceptionTable.toList, covers x (pc + 9) = false)
    (hRframes : names.length + 4 < R.frames) (hRlocals : (rest.map fun v => v.category).sum + (13 * (names.length + 2) + 43) ≤ R.locals) (hRcells : cells + 1 ≤ R.cells) (hRslots : slots + 6 ≤ R.slots) (hlocks : meth.locks = false)
    (hx : ∀ t : State, s.vm.Alike t.vm → H.size ≤ t.heap.size → (∀ q : Nat, q < H.size → t.heap[q]? = H[q]?) → XC cls s t)
    (hf : ∀ z ∈ locs, free z.base) (hc : cells + 1 ≤ mc) (hs : slots + 6 ≤ ms) :
    W p l e R s m args below meth c H locs cells slots (vx_MQ below Qc XC args s mc ms free) (F0 m pc ls rest) := by
  intro T hT X
  have htr : e.platform.stackTraces = false := (show e.platform.stackTraces = l.stackTraces by rw [X.admits.platform]).trans hl
  have Y := vx_rebase X (R' := { frames := R.frames, locals := R.locals, cells := 1, slots := 6 }) (Nat.le_refl _) (Nat.le_refl _) hRcells hRslots
  obtain ⟨s', hA⟩ : ∃ z, z = (T.setVm s.vm).setFrames (.invoking m args :: below) := ⟨_, rfl⟩
  rw [← hA] at Y
  have hvm : s'.vm = s.vm := by rw [hA]; rfl
  have hhp : s'.heap = H := by rw [hA]; exact hT
  have hW0 : s.WarmedH s'.vm := by rw [hvm]; exact State.WarmedH.refl s
  have hat' : ∀ w ∈ (ev_xA own ic cls ix rx Y0 names).filter vx_no, w.before args s' = true := fun w hw => vx_ot_at hW0 hvm.symm (hgood w (List.mem_cons_of_mem _ (List.mem_cons_of_mem _ hw))) (hat w hw)
  have hk' : (Cond.classLink own ik cls).before args s' = true := vx_ot_at hW0 hvm.symm (hgood _ List.mem_cons_self) hk
  have hini' : (Cond.initialized cls).before args s' = true := vx_ot_at hW0 hvm.symm (hgood _ (List.mem_cons_of_mem _ List.mem_cons_self)) hini
  have hU' : vx_Zq Bundle.tN "UNASSIGNED_STACK" Bundle.steD A s' s'.heap := by rw [hhp]; exact vx_Zq.moved hW0.alike (hU.kept hS.2.1)
  have hN' : vx_Zq Bundle.tN "SUPPRESSED_SENTINEL" Bundle.listD A s' s'.heap := by rw [hhp]; exact vx_Zq.moved hW0.alike (hN.kept hS.2.1)
  have h : ∀ w ∈ ev_xA own ic cls ix rx Y0 names, w.before args s' = true := vx_own hat' (vx_isRefq hU'.1) (vx_isRefq hN'.1) hU'.2.word hN'.2.word
  have hown' : s'.vm.findClass own = some m.cls := by rw [hvm]; exact hown
  have hins : (Cond.instantiable cls 6).before args s' = true := h _ (ev_xA_in (by simp))
  obtain ⟨vm₁, cX, kX, hfX, hkX, -, -, X₁, st1⟩ := Y.newCold hexec (own := own) (C := cls) (index := ik) (n := 6) hown' hk' hins hini'
    (g := F0 m pc ls rest) rfl (by rw [hb]; exact d0) (Nat.le_refl _) (Nat.le_refl _)
  generalize hT1 : (T.setVm vm₁).pushCell { cls := cX, slots := kX.instanceTypes.map defaultValue, vm := .none } = T1 at X₁ st1
  have hcat : (Value.ref T.heap.size).category = 1 := rfl
  have hcellA : T1.heap[T.heap.size]? = some (freshCell cX kX) := by rw [← hT1]; exact State.heap_pushCell_size _ _
  have d3' : decode c.code (pc + 3) = .ok (.dup, 1) := by rw [hb]; exact d3
  have d4' : decode c.code (pc + 4) = .ok (.ldc is, 2) := by rw [hb]; exact d4
  have hstr' : vk_R own is text sa s' := vk_R.warm hW0 hstr
  obtain ⟨V, ce, L, Z, hL, hlt, hcl9, hvm9, st⟩ := ev_ctorMade X₁ hexec htr x0 x1 x2 x5 (own := own) (cls := cls) (Y0 := Y0) (names := names) (ic := ic) hown' hcls hY0 hnames h (fun x hx => nomatch hx) hfX hkX hcellA (by rw [hhp, hT]; exact Nat.le_refl _) (msg := .ref sa) rfl
    (g := { method := m, pc := pc + 6, locals := ls, stack := .ref sa :: .ref T.heap.size :: .ref T.heap.size :: rest, locked := none }) rfl hsize (rest := rest) rfl
    (by rw [hb]; exact d6) hRframes (by simp only [List.map_cons, List.sum_cons, hcat]; omega)
  have Z0 := Stand.forget (locs := []) Z (fun y hy => by rw [hL y hy, hhp, hT]; exact Nat.le_refl _)
  obtain ⟨hwalk, hrun, hend, hW, hsame⟩ := Z0.athrowLeaves hexec (g := { method := m, pc := pc + 6 + 3, locals := ls, stack := .ref T.heap.size :: rest, locked := none }) rfl rfl rfl hout (a := T.heap.size) (rest := rest) rfl (by rw [hb]; exact d9) hlocks
  obtain ⟨U, hU9⟩ : ∃ z, z = (V.setCell T.heap.size ce).setFrames (.throwing T.heap.size :: below) := ⟨_, rfl⟩
  rw [← hU9] at hwalk hrun hend hW hsame
  have hce : U.heap[T.heap.size]? = some ce := by rw [hU9]; exact heapAt_setCell_self (s := V) ce hlt
  have hsteps := st _ hwalk
  obtain ⟨f1, f2⟩ := vx_frame hsame
  rw [hhp] at f1 f2
  have hWs : s.WarmedH U.vm := State.WarmedH.trans hW0 hW
  have hcl : s.vm.findClass cls = some ce.cls := by
    rw [hvm] at hfX
    rw [hcl9]
    exact hfX
  have hall : s.sameButNew ({ U with vm := s.vm } : State) locs mc ms := by
    subst hA
    obtain ⟨e1, e2⟩ := hsame
    rw [State.setFrames_setFrames] at e1
    have h2 : (T.setVm s.vm).sameButNew ({ U with vm := s.vm } : State) [] (0 + 1) (0 + 6) := ⟨e1, e2⟩
    have h3 := X.same.trans h2
    rw [List.append_nil] at h3
    exact h3.mono hc hs
  refine ⟨U, ?_, .threw T.heap.size, hrun, hend, Or.inr ⟨T.heap.size, rfl, cls, ce, locs, hx U hWs.alike f1 (fun q hq => f2 q hq (fun z hz => nomatch hz)), hce, hvm9, hcl, hWs, hall, hf⟩⟩
  refine st1 _ ?_
  show Steps p.tables e below (T1.setTop { method := m, pc := pc + 3, locals := ls, stack := .ref T.heap.size :: rest, locked := none }) _
  jvm_step X₁.here [X₁.here.top, hexec, d3', Value.category]
  exact X₁.ldcString hexec (own := own) (text := text) (index := is) (a := sa) hown' hstr'.1 hstr'.2
    (g := { method := m, pc := pc + 4, locals := ls, stack := .ref T.heap.size :: .ref T.heap.size :: rest, locked := none }) rfl d4' _ hsteps
theorem ev_throwXW {cc : ByteArray} {pc : Nat} (hexec : p.tables.exec = Jvm.exec) (hb : c.code = cc) (hl : l.stackTraces = false) {own cls text : String} {Y0 : String} {names : List String} {ik is ic ix mc ms sa : Nat} {rx : ByteArray} (x0 : decode rx 0 = .ok (.aload_n 0, 1)) (x1 : decode rx 1 = .ok (.aload_n 1, 1)) (x2 : decode rx 2 = .ok (.invokespecial ix, 3)) (x5 : decode rx 5 = .ok (.return_, 1)) {A : Nat → Prop}
    (hown : s.vm.findClass own = some m.cls) (hcls : Bundle.fit cls = true) (hY0 : Bundle.fit Y0 = true) (hnames : ∀ n ∈ names, Bundle.fit n = true)
    (hk : (Cond.classLink own ik cls).before args s = true) (hini : (Cond.initialized cls).before args s = true) (hstr : vk_R own is text sa s) (hat : ∀ w ∈ (ev_xA own ic cls ix rx Y0 names).filter vx_no, w.before args s = true)
    (hgood : ∀ w ∈ Cond.classLink own ik cls :: Cond.initialized cls :: (ev_xA own ic cls ix rx Y0 names).filter vx_no, vx_ot w = true)
    (hU : vx_Zq Bundle.tN "UNASSIGNED_STACK" Bundle.steD A s s.heap) (hN : vx_Zq Bundle.tN "SUPPRESSED_SENTINEL" Bundle.listD A s s.heap) (hS : va_S A s.heap H locs) (hsize : ls.size = c.maxLocals)
    (d0 : decode cc pc = .ok (.new ik, 3)) (d3 : decode cc (pc + 3) = .ok (.dup, 1)) (d4 : decode cc (pc + 4) = .ok (.ldc_w is, 3)) (d7 : decode cc (pc + 7) = .ok (.invokespecial ic, 3)) (d10 : decode cc (pc + 10) = .ok (.athrow, 1))
    (hout : ∀ x ∈ c.exceptionTable.toList, covers x (pc + 10) = false)
    (hRframes : names.length + 4 < R.frames) (hRlocals : (rest.map fun v => v.category).sum + (13 * (names.length + 2) + 43) ≤ R.locals) (hRcells : cells + 1 ≤ R.cells) (hRslots : slots + 6 ≤ R.slots) (hlocks : meth.locks = false)
    (hx : ∀ t : State, s.vm.Alike t.vm → H.size ≤ t.heap.size → (∀ q : Nat, q < H.size → t.heap[q]? = H[q]?) → XC cls s t)
    (hf : ∀ z ∈ locs, free z.base) (hc : cells + 1 ≤ mc) (hs : slots + 6 ≤ ms) :
    W p l e R s m args below meth c H locs cells slots (vx_MQ below Qc XC args s mc ms free) (F0 m pc ls rest) := by
  intro T hT X
  have htr : e.platform.stackTraces = false := (show e.platform.stackTraces = l.stackTraces by rw [X.admits.platform]).trans hl
  have Y := vx_rebase X (R' := { frames := R.frames, locals := R.locals, cells := 1, slots := 6 }) (Nat.le_refl _) (Nat.le_refl _) hRcells hRslots
  obtain ⟨s', hA⟩ : ∃ z, z = (T.setVm s.vm).setFrames (.invoking m args :: below) := ⟨_, rfl⟩
  rw [← hA] at Y
  have hvm : s'.vm = s.vm := by rw [hA]; rfl
  have hhp : s'.heap = H := by rw [hA]; exact hT
  have hW0 : s.WarmedH s'.vm := by rw [hvm]; exact State.WarmedH.refl s
  have hat' : ∀ w ∈ (ev_xA own ic cls ix rx Y0 names).filter vx_no, w.before args s' = true := fun w hw => vx_ot_at hW0 hvm.symm (hgood w (List.mem_cons_of_mem _ (List.mem_cons_of_mem _ hw))) (hat w hw)
  have hk' : (Cond.classLink own ik cls).before args s' = true := vx_ot_at hW0 hvm.symm (hgood _ List.mem_cons_self) hk
  have hini' : (Cond.initialized cls).before args s' = true := vx_ot_at hW0 hvm.symm (hgood _ (List.mem_cons_of_mem _ List.mem_cons_self)) hini
  have hU' : vx_Zq Bundle.tN "UNASSIGNED_STACK" Bundle.steD A s' s'.heap := by rw [hhp]; exact vx_Zq.moved hW0.alike (hU.kept hS.2.1)
  have hN' : vx_Zq Bundle.tN "SUPPRESSED_SENTINEL" Bundle.listD A s' s'.heap := by rw [hhp]; exact vx_Zq.moved hW0.alike (hN.kept hS.2.1)
  have h : ∀ w ∈ ev_xA own ic cls ix rx Y0 names, w.before args s' = true := vx_own hat' (vx_isRefq hU'.1) (vx_isRefq hN'.1) hU'.2.word hN'.2.word
  have hown' : s'.vm.findClass own = some m.cls := by rw [hvm]; exact hown
  have hins : (Cond.instantiable cls 6).before args s' = true := h _ (ev_xA_in (by simp))
  obtain ⟨vm₁, cX, kX, hfX, hkX, -, -, X₁, st1⟩ := Y.newCold hexec (own := own) (C := cls) (index := ik) (n := 6) hown' hk' hins hini'
    (g := F0 m pc ls rest) rfl (by rw [hb]; exact d0) (Nat.le_refl _) (Nat.le_refl _)
  generalize hT1 : (T.setVm vm₁).pushCell { cls := cX, slots := kX.instanceTypes.map defaultValue, vm := .none } = T1 at X₁ st1
  have hcat : (Value.ref T.heap.size).category = 1 := rfl
  have hcellA : T1.heap[T.heap.size]? = some (freshCell cX kX) := by rw [← hT1]; exact State.heap_pushCell_size _ _
  have d3' : decode c.code (pc + 3) = .ok (.dup, 1) := by rw [hb]; exact d3
  have d4' : decode c.code (pc + 4) = .ok (.ldc_w is, 3) := by rw [hb]; exact d4
  have hstr' : vk_R own is text sa s' := vk_R.warm hW0 hstr
  obtain ⟨V, ce, L, Z, hL, hlt, hcl9, hvm9, st⟩ := ev_ctorMade X₁ hexec htr x0 x1 x2 x5 (own := own) (cls := cls) (Y0 := Y0) (names := names) (ic := ic) hown' hcls hY0 hnames h (fun x hx => nomatch hx) hfX hkX hcellA (by rw [hhp, hT]; exact Nat.le_refl _) (msg := .ref sa) rfl
    (g := { method := m, pc := pc + 7, locals := ls, stack := .ref sa :: .ref T.heap.size :: .ref T.heap.size :: rest, locked := none }) rfl hsize (rest := rest) rfl
    (by rw [hb]; exact d7) hRframes (by simp only [List.map_cons, List.sum_cons, hcat]; omega)
  have Z0 := Stand.forget (locs := []) Z (fun y hy => by rw [hL y hy, hhp, hT]; exact Nat.le_refl _)
  obtain ⟨hwalk, hrun, hend, hW, hsame⟩ := Z0.athrowLeaves hexec (g := { method := m, pc := pc + 7 + 3, locals := ls, stack := .ref T.heap.size :: rest, locked := none }) rfl rfl rfl hout (a := T.heap.size) (rest := rest) rfl (by rw [hb]; exact d10) hlocks
  obtain ⟨U, hU9⟩ : ∃ z, z = (V.setCell T.heap.size ce).setFrames (.throwing T.heap.size :: below) := ⟨_, rfl⟩
  rw [← hU9] at hwalk hrun hend hW hsame
  have hce : U.heap[T.heap.size]? = some ce := by rw [hU9]; exact heapAt_setCell_self (s := V) ce hlt
  have hsteps := st _ hwalk
  obtain ⟨f1, f2⟩ := vx_frame hsame
  rw [hhp] at f1 f2
  have hWs : s.WarmedH U.vm := State.WarmedH.trans hW0 hW
  have hcl : s.vm.findClass cls = some ce.cls := by
    rw [hvm] at hfX
    rw [hcl9]
    exact hfX
  have hall : s.sameButNew ({ U with vm := s.vm } : State) locs mc ms := by
    subst hA
    obtain ⟨e1, e2⟩ := hsame
    rw [State.setFrames_setFrames] at e1
    have h2 : (T.setVm s.vm).sameButNew ({ U with vm := s.vm } : State) [] (0 + 1) (0 + 6) := ⟨e1, e2⟩
    have h3 := X.same.trans h2
    rw [List.append_nil] at h3
    exact h3.mono hc hs
  refine ⟨U, ?_, .threw T.heap.size, hrun, hend, Or.inr ⟨T.heap.size, rfl, cls, ce, locs, hx U hWs.alike f1 (fun q hq => f2 q hq (fun z hz => nomatch hz)), hce, hvm9, hcl, hWs, hall, hf⟩⟩
  refine st1 _ ?_
  show Steps p.tables e below (T1.setTop { method := m, pc := pc + 3, locals := ls, stack := .ref T.heap.size :: rest, locked := none }) _
  jvm_step X₁.here [X₁.here.top, hexec, d3', Value.category]
  exact X₁.ldcStringW hexec (own := own) (text := text) (index := is) (a := sa) hown' hstr'.1 hstr'.2
    (g := { method := m, pc := pc + 4, locals := ls, stack := .ref T.heap.size :: .ref T.heap.size :: rest, locked := none }) rfl d4' _ hsteps
end EVT
/-- of the four exceptions: the place of the link in the constructor, its code -/
def ev_xi (a : Nat) : Nat × ByteArray := match a with
  | 3 => (13, ⟨#[0x2a, 0x2b, 0xb7, 0x00, 0x0d, 0xb1]⟩)
  | _ => (7, Bundle.six)
theorem ev_xi_ok (a : Nat) : decode (ev_xi a).2 0 = .ok (.aload_n 0, 1) ∧ decode (ev_xi a).2 1 = .ok (.aload_n 1, 1) ∧ decode (ev_xi a).2 2 = .ok (.invokespecial (ev_xi a).1, 3) ∧ decode (ev_xi a).2 5 = .ok (.return_, 1) := by
  unfold ev_xi
  split
  · decide +kernel
  · decide +kernel
def ev_xat (own : String) (ic a : Nat) : List Cond := (ev_xA own ic (ev_ex a) (ev_xi a).1 (ev_xi a).2 "java/lang/RuntimeException" ["java/lang/Exception"]).filter vx_no
/-! ===== answers, exceptions, calls (own work) ===== -/
section EVC
variable {D : va_G} {aC : Nat → ClassId} {b : ev_B} {B0 L : Nat} {σ : Nat → Int32}
variable {p : Program} {l : Launch} {e : Env} {R : Room} {s : State} {m : MethodId} {args : Array Value} {below : List Frame} {meth : Method} {c : Code} {Q : State → Prop}
variable {cc : ByteArray} {nL : Nat} {Ts : List Cond} {own : String} {Sg : List (String × (Nat × String))}
variable {Φ : ev_P} {M : ev_M} {k : ev_N} {cl : ev_F} {nx a b' c' pc : Nat} {tg : List Nat} {loc : ev_L} {st : List ev_V} {w : ev_W} {r : ev_S}
theorem ev_bw_warm {U : State} (hW : s.WarmedH U.vm) {x : Cond} (hx : ev_bw x = true) (h : x.before #[] s = true) : x.before #[] U = true := by
  match x, hx, h with
  | .castable C T, _, h => exact va_Nw.warmC hW h
  | .fieldLinkNest _ _ _ _ _ _, _, h => exact va_Nw.warmF hW h
  | .methodLinkNest _ _ _ _, _, h => exact va_Nw.warmM hW h
  | .arrayOver (.object C), _, h => exact va_AO.moved (C := C) hW.alike h
  | .declares x, _, h => exact va_Nw.warmD hW h
theorem ev_VF_warm {U : State} (hW : s.WarmedH U.vm) (h : ev_VF D aC Sg s) : ev_VF D aC Sg U := by
  obtain ⟨h1, h2, h3, h4⟩ := h
  refine ⟨va_K.moved hW.alike h1, fun x hx hb => ev_bw_warm hW hb (h2 x hx hb), fun q hq => ?_, fun i j hi hj hij => (h4 i j hi hj hij).moved hW.alike⟩
  obtain ⟨sa, h⟩ := h3 q hq
  exact ⟨sa, vk_R.warm hW h⟩
theorem ev_ZF_to {U : State} {H : Heap} {locs : List Loc} (hb : b.1 < B0) (hW : s.WarmedH U.vm) (h : ev_ZF b B0 L σ s s.heap) (hS : va_S (fun q => B0 ≤ q) s.heap H locs) : ev_ZF b B0 L σ U H := by
  have hv := hW.alike
  obtain ⟨h1, h2, h3, h4⟩ := h
  have kp : ∀ a : Nat, a < s.heap.size → ¬ B0 ≤ a → H[a]? = s.heap[a]? := fun a h1 h2 => hS.2.1 a h1 h2
  refine ⟨va_X.moved hv ?_, (h2.kept kp).moved hv, (h3.kept kp).moved hv, (h4.1.kept kp).moved hv, ?_, fun k hk => ?_⟩
  · obtain ⟨scr, g1, g2⟩ := h1
    exact ⟨scr, by rw [hS.2.1 b.1 (Array.getElem?_eq_some_iff.mp g1).1 (by omega)]; exact g1, g2⟩
  · obtain ⟨fm, h8, h9⟩ := h4.2.1
    exact ⟨fm, h8, (h9.kept kp).moved hv⟩
  · obtain ⟨q1, q2, q3, v, q4, q5⟩ := h4.2.2 k hk
    exact ⟨vk_R.warm hW q1, va_O.moved hv (q2.kept kp), va_OF.moved hv (q3.kept kp), v, va_OF.moved hv (q4.kept kp), va_T.moved hv (q5.kept kp)⟩
/-- a method's start, its answer, its exception -/
def ev_Pc (D : va_G) (aC : Nat → ClassId) (b : ev_B) (B0 L : Nat) (σ : Nat → Int32) (Sg : List (String × (Nat × String))) (As : List ev_V) (w : ev_W) : Array Value → State → Prop :=
  fun v U => v = (As.map (ev_dn b B0 σ)).toArray ∧ ev_J D aC b B0 σ w U.heap ∧ ev_VF D aC Sg U ∧ ev_ZF b B0 L σ U U.heap ∧ b.1 < B0 ∧ B0 ≤ U.heap.size
def ev_Qc (D : va_G) (aC : Nat → ClassId) (b : ev_B) (B0 : Nat) (σ : Nat → Int32) (r : ev_S) : Array Value → State → Outcome → State → Prop :=
  fun _ st o t => ∃ vo w2, r = .inl (vo, w2) ∧ o = .returned (vo.map (ev_dn b B0 σ)) ∧ ev_J D aC b B0 σ w2 t.heap ∧ va_F (fun q => B0 ≤ q) st t
def ev_Xc (D : va_G) (aC : Nat → ClassId) (b : ev_B) (B0 : Nat) (σ : Nat → Int32) (r : ev_S) : String → State → State → Prop :=
  fun E st t => ∃ n w2, r = .inr (.inl (n, w2)) ∧ E = ev_ex n ∧ n < 4 ∧ ev_J D aC b B0 σ w2 t.heap ∧ va_F (fun q => B0 ≤ q) st t
theorem ev_Pc_blind {As : List ev_V} : FrameBlind (ev_Pc D aC b B0 L σ Sg As w) := by
  intro v U g mk h
  obtain ⟨h1, h2, h3, h4, h5, h6⟩ := h
  have hv : U.vm.Alike (U.calling g mk v).vm := Vm.Alike.refl U.vm
  exact ⟨h1, h2, ev_VF_warm (s := U) (U := U.calling g mk v) (State.WarmedH.refl U) h3, ⟨va_X.moved hv h4.1, h4.2.1.moved hv, h4.2.2.1.moved hv, h4.2.2.2.1.moved hv, h4.2.2.2.2.1.imp (fun _ h9 => ⟨h9.1, h9.2.moved hv⟩), fun k hk => by
    obtain ⟨q1, q2, q3, z, q4, q5⟩ := h4.2.2.2.2.2 k hk
    exact ⟨vk_R.warm (s := U) (U := U.calling g mk v) (State.WarmedH.refl U) q1, va_O.moved hv q2, va_OF.moved hv q3, z, va_OF.moved hv q4, va_T.moved hv q5⟩⟩, h5, h6⟩
theorem ev_may0 (h : ev_may M w 0 0 = true) : w.2.2.2.1 ≤ M.2.1 ∧ w.2.2.2.2 ≤ M.2.2.1 := by
  unfold ev_may at h
  rw [Bool.and_eq_true] at h
  have h1 := Nat.le_of_ble_eq_true h.1
  have h2 := Nat.le_of_ble_eq_true h.2
  exact ⟨by omega, by omega⟩
theorem ev_o_vret (hF : ev_Fx D aC b B0 L σ p s m args meth c cc nL Ts own Sg) (hQ : Q = vx_MQ below (ev_Qc D aC b B0 σ r) (ev_Xc D aC b B0 σ r) args s M.2.1 M.2.2.1 (fun q => B0 ≤ q)) (h : ev_h_vret Φ M k cl nx a b' c' tg pc loc st w = some r)
    (hi : decode cc pc = .ok (.return_, 1) ∧ meth.sig.returnType = none) : ev_Go D aC b B0 σ p l e R s m args below meth c Q nL pc loc st w := by
  obtain ⟨hx, hb, -, -, -, -, -, -, -, hlk⟩ := id hF
  unfold ev_h_vret at h
  split at h
  · obtain ⟨h1, h⟩ := ev_if_n h
    have e := (Option.some.inj h).symm
    intro H locs ls hl hJ hS
    subst hQ
    obtain ⟨m1, m2⟩ := ev_may0 h1
    refine W.widen m1 m2 (vx_ret (W.vret hx hb hi.2 (fun t ht hW => ?_) hS.2.2 hi.1 (hlocks := hlk)))
    exact ⟨none, w, e, rfl, by rw [ht]; exact hJ, hS.F ht⟩
  · cases h
theorem ev_o_iret (hF : ev_Fx D aC b B0 L σ p s m args meth c cc nL Ts own Sg) (hQ : Q = vx_MQ below (ev_Qc D aC b B0 σ r) (ev_Xc D aC b B0 σ r) args s M.2.1 M.2.2.1 (fun q => B0 ≤ q)) (h : ev_h_iret Φ M k cl nx a b' c' tg pc loc st w = some r)
    (hi : decode cc pc = .ok (.ireturn, 1) ∧ ((a = 0 ∧ meth.sig.returnType = some .int) ∨ (a = 1 ∧ meth.sig.returnType = some .boolean))) : ev_Go D aC b B0 σ p l e R s m args below meth c Q nL pc loc st w := by
  obtain ⟨hx, hb, -, -, -, -, -, -, -, hlk⟩ := id hF
  unfold ev_h_iret at h
  split at h
  · next v =>
    obtain ⟨h1, h⟩ := ev_if_n h
    rw [Bool.and_eq_true] at h1
    have e := (Option.some.inj h).symm
    intro H locs ls hl hJ hS
    subst hQ
    obtain ⟨m1, m2⟩ := ev_may0 h1.2
    refine W.widen m1 m2 (vx_ret ?_)
    have hii : ev_ii v = true := by
      rcases hi.2 with ⟨rfl, -⟩ | ⟨rfl, -⟩
      · exact h1.1
      · rcases v with n | q | ⟨t, f⟩ | ⟨j, n⟩
        · rfl
        · exact absurd h1.1 (fun z => by cases z)
        · rfl
        · exact absurd h1.1 (fun z => by cases z)
    obtain ⟨x, ex⟩ := ev_dn_i (b := b) (B0 := B0) (σ := σ) hii
    have hn : ∃ ty, meth.sig.returnType = some ty ∧ narrow ty (.int x) = .int x := by
      rcases hi.2 with ⟨-, hr⟩ | ⟨rfl, hr⟩
      · exact ⟨_, hr, rfl⟩
      · have := (ev_fits_ok (b := b) (B0 := B0) (σ := σ) h1.1 (ty := .boolean) (Or.inr (Or.inl ⟨rfl, rfl⟩))).1
        rw [ex] at this
        exact ⟨_, hr, this⟩
    obtain ⟨ty, hr, hn⟩ := hn
    rw [List.map_cons, List.map_nil, ex]
    exact W.zret hx hb hr hn (fun t ht hW => ⟨some v, w, e, by rw [Option.map_some, ex], by rw [ht]; exact hJ, hS.F ht⟩) hS.2.2 hi.1 (hlocks := hlk)
  · cases h
theorem ev_o_aret (hF : ev_Fx D aC b B0 L σ p s m args meth c cc nL Ts own Sg) (hQ : Q = vx_MQ below (ev_Qc D aC b B0 σ r) (ev_Xc D aC b B0 σ r) args s M.2.1 M.2.2.1 (fun q => B0 ≤ q)) (h : ev_h_aret Φ M k cl nx a b' c' tg pc loc st w = some r)
    (hi : decode cc pc = .ok (.areturn, 1) ∧ ∃ rt, meth.sig.returnType = some rt ∧ ((∃ n, rt = .object n) ∨ ∃ t, rt = .array t)) : ev_Go D aC b B0 σ p l e R s m args below meth c Q nL pc loc st w := by
  obtain ⟨hx, hb, -, -, -, -, -, -, -, hlk⟩ := id hF
  obtain ⟨d, rt, hr, hrt⟩ := hi
  unfold ev_h_aret at h
  split at h
  · next v =>
    obtain ⟨h1, h⟩ := ev_if_n h
    rw [Bool.and_eq_true] at h1
    have e := (Option.some.inj h).symm
    intro H locs ls hl hJ hS
    subst hQ
    obtain ⟨m1, m2⟩ := ev_may0 h1.2
    refine W.widen m1 m2 (vx_ret ?_)
    obtain ⟨x, -, ex⟩ := ev_dn_r (b := b) (B0 := B0) (σ := σ) h1.1
    rw [List.map_cons, List.map_nil, ex]
    refine W.aret hx hb hr hrt ?_ (fun t ht hW => ⟨some v, w, e, by rw [Option.map_some, ex], by rw [ht]; exact hJ, hS.F ht⟩) hS.2.2 d (hlocks := hlk)
    cases x with
    | none => exact Or.inl rfl
    | some y => exact Or.inr ⟨_, rfl⟩
  · cases h
theorem ev_o_wret (hF : ev_Fx D aC b B0 L σ p s m args meth c cc nL Ts own Sg) (hQ : Q = vx_MQ below (ev_Qc D aC b B0 σ r) (ev_Xc D aC b B0 σ r) args s M.2.1 M.2.2.1 (fun q => B0 ≤ q)) (h : ev_h_wret Φ M k cl nx a b' c' tg pc loc st w = some r)
    (hi : (a = 1 ∧ decode cc pc = .ok (.freturn, 1) ∧ meth.sig.returnType = some .float) ∨ (a = 2 ∧ decode cc pc = .ok (.dreturn, 1) ∧ meth.sig.returnType = some .double)) : ev_Go D aC b B0 σ p l e R s m args below meth c Q nL pc loc st w := by
  obtain ⟨hx, hb, -, -, -, -, -, -, -, hlk⟩ := id hF
  unfold ev_h_wret at h
  split at h
  · next v =>
    obtain ⟨h1, h⟩ := ev_if_n h
    rw [Bool.and_eq_true] at h1
    have e := (Option.some.inj h).symm
    intro H locs ls hl hJ hS
    subst hQ
    obtain ⟨m1, m2⟩ := ev_may0 h1.2
    refine W.widen m1 m2 (vx_ret ?_)
    obtain ⟨n, rfl⟩ := ev_dn_k h1.1
    rcases hi with ⟨rfl, d, hr⟩ | ⟨rfl, d, hr⟩
    · exact W.fret hx hb hr (fun t ht hW => ⟨_, w, e, rfl, by rw [ht]; exact hJ, hS.F ht⟩) hS.2.2 d (hlocks := hlk)
    · exact W.dret hx hb hr (fun t ht hW => ⟨_, w, e, rfl, by rw [ht]; exact hJ, hS.F ht⟩) hS.2.2 d (hlocks := hlk)
  · cases h
theorem ev_ad_lt {i : Nat} {q : ev_C} {H : Heap} (hJ : ev_J D aC b B0 σ w H) (hq : ev_get w.1 i = some q) (h99 : q.1 ≠ 99) : B0 + i < H.size := by
  rcases (hJ.1 i q hq).2 with h | ⟨rr, -, cell, k1, -⟩ | ⟨-, -, k1⟩
  · exact absurd h h99
  · exact (Array.getElem?_eq_some_iff.mp k1).1
  · exact (Array.getElem?_eq_some_iff.mp k1).1
/-- the world stays behind what only makes new cells -/
theorem ev_J_more {H H1 : Heap} (hJ : ev_J D aC b B0 σ w H) (hz : H.size ≤ H1.size) (ho : ∀ q, q < H.size → H1[q]? = H[q]?) {y : Nat × Nat} : ev_J D aC b B0 σ (w.1, (w.2.1, (false, y))) H1 := by
  refine ⟨fun i q hq => ⟨(hJ.1 i q hq).1, ?_⟩, Nat.le_trans hJ.2.1 hz, fun z => by cases z⟩
  by_cases h : q.1 = 99
  · exact Or.inl h
  · exact (hJ.1 i q hq).2.kept (ho _ (ev_ad_lt hJ hq h))
theorem ev_o_throw (hF : ev_Fx D aC b B0 L σ p s m args meth c cc nL Ts own Sg) (hl9 : l.stackTraces = false) (hR : 10 ≤ R.frames ∧ 100 ≤ R.locals) (hMR : M.2.1 ≤ R.cells ∧ M.2.2.1 ≤ R.slots) (hT : ∀ x ∈ c.exceptionTable.toList, False)
    (hQ : Q = vx_MQ below (ev_Qc D aC b B0 σ r) (ev_Xc D aC b B0 σ r) args s M.2.1 M.2.2.1 (fun q => B0 ≤ q)) (h : ev_h_throw Φ M k cl nx a b' c' tg pc loc st w = some r)
    (hi : ∃ (ik is9 ic : Nat) (text : String), a < 4 ∧ decode cc pc = .ok (.new ik, 3) ∧ decode cc (pc + 3) = .ok (.dup, 1) ∧ ((decode cc (pc + 4) = .ok (.ldc is9, 2) ∧ decode cc (pc + 6) = .ok (.invokespecial ic, 3) ∧ decode cc (pc + 9) = .ok (.athrow, 1)) ∨ (decode cc (pc + 4) = .ok (.ldc_w is9, 3) ∧ decode cc (pc + 7) = .ok (.invokespecial ic, 3) ∧ decode cc (pc + 10) = .ok (.athrow, 1))) ∧
      Cond.classLink own ik (ev_ex a) ∈ Ts ∧ Cond.initialized (ev_ex a) ∈ Ts ∧ (own, (is9, text)) ∈ Sg ∧ (∀ x ∈ (ev_xat own ic a).filter goodWord, x ∈ Ts) ∧
      (∀ x ∈ (ev_xat own ic a).filter (fun w => !goodWord w), x ∈ lw_tbl ∧ ev_bw x = true ∧ x.onTables = true) ∧
      (∀ x ∈ Cond.classLink own ik (ev_ex a) :: Cond.initialized (ev_ex a) :: ev_xat own ic a, vx_ot x = true)) : ev_Go D aC b B0 σ p l e R s m args below meth c Q nL pc loc st w := by
  obtain ⟨hx, hb, hml, ho, ht, hV, hZ, hbB, hB, hlk⟩ := id hF
  obtain ⟨ik, is9, ic, text, ha, d0, d3, d9, w1, w2, w3, w4, w5, w6⟩ := hi
  unfold ev_h_throw at h
  obtain ⟨h1, h⟩ := ev_if_n h
  rw [Bool.and_eq_true] at h1
  have e := (Option.some.inj h).symm
  have h2 := Nat.le_of_ble_eq_true h1.2
  have h3 := ev_cs_ok (b := b) (B0 := B0) (σ := σ) st
  intro H locs ls hl hJ hS
  subst hQ
  obtain ⟨sa, hstr⟩ := hV.2.2.1 _ w3
  have hm : w.2.2.2.1 + 1 ≤ M.2.1 ∧ w.2.2.2.2 + 6 ≤ M.2.2.1 := by
    have h9 := h1.1
    unfold ev_may at h9
    rw [Bool.and_eq_true] at h9
    exact ⟨Nat.le_of_ble_eq_true h9.1, Nat.le_of_ble_eq_true h9.2⟩
  have hfit : Bundle.fit (ev_ex a) = true := by
    have : a = 0 ∨ a = 1 ∨ a = 2 ∨ a = 3 := by omega
    rcases this with rfl | rfl | rfl | rfl <;> decide +kernel
  have hnm : ∀ n ∈ ["java/lang/Exception"], Bundle.fit n = true := by decide +kernel
  have hat : ∀ x ∈ ev_xat own ic a, x.before args s = true := by
    refine vx_hat (B := (ev_xat own ic a).filter (fun w => !goodWord w)) (fun x hx => ht _ (w4 x hx)) (fun x hx => hx) (fun x hx => ?_)
    obtain ⟨g1, g2, g3⟩ := w5 x hx
    exact va_Nw.use g3 (hV.2.1 x g1 g2)
  have hxx : ∀ t : State, s.vm.Alike t.vm → H.size ≤ t.heap.size → (∀ q : Nat, q < H.size → t.heap[q]? = H[q]?) → ev_Xc D aC b B0 σ r (ev_ex a) s t := fun t hv hz hq =>
    ⟨a, _, e, rfl, ha, ev_J_more hJ hz hq, ⟨Nat.le_trans hS.1 hz, fun q g1 g2 => (hq q (Nat.lt_of_lt_of_le g1 hS.1)).trans (hS.2.1 q g1 g2)⟩⟩
  rcases d9 with ⟨d4, d6, d9⟩ | ⟨d4, d6, d9⟩
  · exact ev_throwX (Y0 := "java/lang/RuntimeException") (names := ["java/lang/Exception"]) (A := fun q => B0 ≤ q) hx hb hl9 (ev_xi_ok a).1 (ev_xi_ok a).2.1 (ev_xi_ok a).2.2.1 (ev_xi_ok a).2.2.2 ho hfit (by decide +kernel) hnm (ht _ w1) (ht _ w2) hstr hat w6 hZ.2.1 hZ.2.2.1 hS (by rw [hml]; exact hl.1) d0 d3 d4 d6 d9 (fun x hx => (hT x hx).elim) (by simp only [List.length_cons, List.length_nil]; omega) (by simp only [List.length_cons, List.length_nil]; omega) (by omega) (by omega) hlk hxx hS.2.2 hm.1 hm.2
  · exact ev_throwXW (Y0 := "java/lang/RuntimeException") (names := ["java/lang/Exception"]) (A := fun q => B0 ≤ q) hx hb hl9 (ev_xi_ok a).1 (ev_xi_ok a).2.1 (ev_xi_ok a).2.2.1 (ev_xi_ok a).2.2.2 ho hfit (by decide +kernel) hnm (ht _ w1) (ht _ w2) hstr hat w6 hZ.2.1 hZ.2.2.1 hS (by rw [hml]; exact hl.1) d0 d3 d4 d6 d9 (fun x hx => (hT x hx).elim) (by simp only [List.length_cons, List.length_nil]; omega) (by simp only [List.length_cons, List.length_nil]; omega) (by omega) (by omega) hlk hxx hS.2.2 hm.1 hm.2
/-- behind a call -/
theorem ev_call_end {r2 : ev_S} {H : Heap} {locs : List Loc} {ls : Array Slot} {st0 rest : List Value} {a9 : Array Value} {mc ms : Nat} (hS : va_S (fun q => B0 ≤ q) s.heap H locs)
    (hrun : vx_Run p l e R s m args below meth c H locs w.2.2.2.1 w.2.2.2.2 mc ms (F0 m pc ls st0) rest (ev_Qc D aC b B0 σ r2 a9) (ev_Xc D aC b B0 σ r2) (fun q => B0 ≤ q))
    (hret : ∀ vo w2 (H1 : Heap) (locs1 : List Loc), r2 = .inl (vo, w2) → ev_J D aC b B0 σ w2 H1 → va_S (fun q => B0 ≤ q) s.heap H1 locs1 → W p l e R s m args below meth c H1 locs1 (w.2.2.2.1 + mc) (w.2.2.2.2 + ms) Q (F0 m (pc + 3) ls ((vo.map (ev_dn b B0 σ)).toList ++ rest)))
    (hthr : ∀ n w2 (H1 : Heap) (locs1 : List Loc) (q : Nat) (ce : Cell), r2 = .inr (.inl (n, w2)) → n < 4 → ev_J D aC b B0 σ w2 H1 → va_S (fun q => B0 ≤ q) s.heap H1 locs1 → H1[q]? = some ce → ce.vm = .none → s.vm.findClass (ev_ex n) = some ce.cls → vx_W p l e R s m args below meth c H1 locs1 (w.2.2.2.1 + mc) (w.2.2.2.2 + ms) Q (F0 m pc ls rest) q) :
    W p l e R s m args below meth c H locs w.2.2.2.1 w.2.2.2.2 Q (F0 m pc ls st0) := by
  intro T hT X
  rcases hrun T hT X with ⟨v, st₀, t, T', L9, h0, X', hL, e1, e2, ⟨vo, w2, g1, g2, g3, g4⟩, stp⟩ | ⟨q, st₀, t, T', L9, E, ce, h0, X', hL, e1, e2, ⟨n, w2, g1, g2, g3, g4, g5⟩, hce, hcv, hcl, stp⟩
  · obtain ⟨-, -, k3⟩ := vx_keep h0 e1 hS (fun q _ h => h) (fun q h => h) hL g4
    have g2 := Outcome.returned.inj g2
    subst g2
    obtain ⟨t2, a1, b1⟩ := hret vo w2 T'.heap (locs ++ L9) g1 (by rw [e1]; exact g3) k3 T' rfl X'
    exact ⟨t2, stp t2 a1, b1⟩
  · obtain ⟨-, -, k3⟩ := vx_keep h0 e1 hS (fun q _ h => h) (fun q h => h) hL g5
    subst g2
    obtain ⟨t2, a1, b1⟩ := hthr n w2 T'.heap (locs ++ L9) q ce g1 g3 (by rw [e1]; exact g4) k3 (by rw [e1]; exact hce) hcv hcl T' rfl X'
    exact ⟨t2, stp.trans a1, b1⟩
end EVC
/-! ===== a method's frame, from its entry to its end (own work) ===== -/
/-- a method: its name, its code, what it answers, its handlers as the class file has them -/
abbrev ev_Im : Type := MethodName × (ByteArray × (Option FieldType × List (Nat × Nat × Nat × Nat)))
def ev_UW : List Cond := lw_tbl.filter goodWord
def ev_cw (x : ev_Im) (n : Nat) : Cond := match x.2.2.2 with
  | [] => .code x.1 x.2.1 n x.2.2.1
  | q :: t => .codeWith x.1 x.2.1 n x.2.2.1 (q :: t)
def ev_wm (x : ev_Im) (n : Nat) : List Cond := ev_cw x n :: ev_UW
def ev_rm (d mc ms : Nat) : Room := { frames := 10 + d, cells := mc, slots := ms, locals := 100 + 70 * d }
section EVE
/-! what an entry of the evaluator's program must be, by what stands in the class file -/
def ev_i_int (cc : ByteArray) (own : String) (Ts : List Cond) (pc nx a : Nat) : Prop :=
  (∃ n, decode cc pc = .ok (.iconst n, 1) ∧ Int32.ofInt n = nI a ∧ nx = pc + 1) ∨ (∃ n, decode cc pc = .ok (.bipush n, 2) ∧ (Int8.ofInt n).toInt32 = nI a ∧ nx = pc + 2) ∨ (∃ n, decode cc pc = .ok (.sipush n, 3) ∧ (Int16.ofInt n).toInt32 = nI a ∧ nx = pc + 3) ∨ (∃ (ix : Nat) (v : Int32), decode cc pc = .ok (.ldc ix, 2) ∧ v = nI a ∧ nx = pc + 2 ∧ Cond.constant own ix v ∈ Ts) ∨ (∃ (ix : Nat) (v : Int32), decode cc pc = .ok (.ldc_w ix, 3) ∧ v = nI a ∧ nx = pc + 3 ∧ Cond.constant own ix v ∈ Ts)
def ev_i_wide (cc : ByteArray) (own : String) (Ts : List Cond) (pc nx a b' : Nat) : Prop :=
  ((∃ n : Fin 2, decode cc pc = .ok (.lconst n, 1) ∧ a = 0 ∧ Int64.ofNat (n : Nat) = lN b' ∧ nx = pc + 1) ∨ (decode cc pc = .ok (.dconst 0, 1) ∧ a = 2 ∧ FP.dconst0 = UInt64.ofNat b' ∧ nx = pc + 1)) ∨ ((decode cc pc = .ok (.fconst 0, 1) ∧ a = 1 ∧ FP.fconst0 = UInt32.ofNat b' ∧ nx = pc + 1) ∨ (∃ (ix : Nat) (v : Int64), decode cc pc = .ok (.ldc2_w ix, 3) ∧ a = 0 ∧ v = lN b' ∧ nx = pc + 3 ∧ Cond.constantLong own ix v ∈ Ts))
def ev_i_if (cc : ByteArray) (pc a b' c' : Nat) (f : Jvm.ClassFile.Cond → Int → Instr) : Prop :=
  ∃ off : Int, ((a = 0 ∧ decode cc pc = .ok (f .eq off, 3) ∧ (pc : Int) + off = (b' : Int) ∧ c' = pc + 3) ∨ (a = 0 ∧ decode cc pc = .ok (f .ne off, 3) ∧ (pc : Int) + off = (c' : Int) ∧ b' = pc + 3)) ∨ ((a = 1 ∧ decode cc pc = .ok (f .lt off, 3) ∧ (pc : Int) + off = (b' : Int) ∧ c' = pc + 3) ∨ (a = 1 ∧ decode cc pc = .ok (f .ge off, 3) ∧ (pc : Int) + off = (c' : Int) ∧ b' = pc + 3)) ∨ ((a = 2 ∧ decode cc pc = .ok (f .gt off, 3) ∧ (pc : Int) + off = (b' : Int) ∧ c' = pc + 3) ∨ (a = 2 ∧ decode cc pc = .ok (f .le off, 3) ∧ (pc : Int) + off = (c' : Int) ∧ b' = pc + 3))
def ev_i_st (cc : ByteArray) (nL pc nx a : Nat) (f : Nat → Instr) (g : Fin 4 → Instr) : Prop :=
  ((decode cc pc = .ok (f a, 2) ∧ nx = pc + 2) ∨ (∃ n : Fin 4, decode cc pc = .ok (g n, 1) ∧ (n : Nat) = a ∧ nx = pc + 1)) ∧ a < nL
def ev_i_ld (cc : ByteArray) (pc nx a : Nat) (f : Nat → Instr) (g : Fin 4 → Instr) : Prop :=
  (decode cc pc = .ok (f a, 2) ∧ nx = pc + 2) ∨ (∃ n : Fin 4, decode cc pc = .ok (g n, 1) ∧ (n : Nat) = a ∧ nx = pc + 1)
def ev_i_bin (cc : ByteArray) (pc nx a : Nat) : Prop :=
  ((a = 0 ∧ decode cc pc = .ok (.imul, 1)) ∨ (a = 1 ∧ decode cc pc = .ok (.iand, 1)) ∨ (a = 2 ∧ decode cc pc = .ok (.ior, 1)) ∨ (a = 3 ∧ decode cc pc = .ok (.ixor, 1)) ∨ (a = 4 ∧ decode cc pc = .ok (.ishl, 1)) ∨ (a = 5 ∧ decode cc pc = .ok (.ishr, 1)) ∨ (a = 6 ∧ decode cc pc = .ok (.iushr, 1))) ∧ nx = pc + 1
def ev_i_acmp (cc : ByteArray) (pc b' c' : Nat) : Prop :=
  ∃ off : Int, (decode cc pc = .ok (.if_acmp .eq off, 3) ∧ (pc : Int) + off = (b' : Int) ∧ c' = pc + 3) ∨ (decode cc pc = .ok (.if_acmp .ne off, 3) ∧ (pc : Int) + off = (c' : Int) ∧ b' = pc + 3)
def ev_i_isnull (cc : ByteArray) (pc b' c' : Nat) : Prop :=
  ∃ off : Int, (decode cc pc = .ok (.ifnull off, 3) ∧ (pc : Int) + off = (b' : Int) ∧ c' = pc + 3) ∨ (decode cc pc = .ok (.ifnonnull off, 3) ∧ (pc : Int) + off = (c' : Int) ∧ b' = pc + 3)
def ev_i_getf (cc : ByteArray) (own : String) (Ts : List Cond) (pc nx a b' : Nat) : Prop :=
  ∃ (index : Nat) (C : String) (T : u_T) (N : Nat), decode cc pc = .ok (.getfield index, 3) ∧ nx = pc + 3 ∧ vwCl[a]? = some (C, T, N) ∧ b' < N ∧ (∀ x ∈ u_ws C T N, x ∈ Ts) ∧ ev_fl_ok own (T b').1 (T b').2.1 (T b').2.2.1 index Ts
def ev_i_putf (cc : ByteArray) (own mn : String) (Ts : List Cond) (pc nx a b' c' : Nat) : Prop :=
  ∃ (index : Nat) (C : String) (T : u_T) (N : Nat) (ty0 : Nat → FieldType), decode cc pc = .ok (.putfield index, 3) ∧ nx = pc + 3 ∧ vwCl[a]? = some (C, T, N) ∧ b' < N ∧ (∀ x ∈ u_ws C T N, x ∈ Ts) ∧ (∀ k, k < N → parseFieldDescriptor (T k).2.2.1 = some (ty0 k)) ∧ (∀ x, x < N → ∀ y, y < N → x ≠ y → (T x).2.1 ≠ (T y).2.1) ∧
      ((c' = 0 ∧ ty0 b' = .int) ∨ (c' = 1 ∧ ty0 b' = .boolean) ∨ (c' = 2 ∧ ((∃ C, ty0 b' = .object C) ∨ ∃ t, ty0 b' = .array t)) ∨ (c' = 3 ∧ ty0 b' = .long)) ∧
      (((T b').2.2.2 = false ∧ ev_fl_ok own (T b').1 (T b').2.1 (T b').2.2.1 index Ts) ∨ ((T b').2.2.2 = true ∧ mn = "<init>" ∧ (T b').1 = own ∧ Cond.fieldLink own index (T b').1 (T b').2.1 (T b').2.2.1 ∈ Ts))
def ev_i_ald (cc : ByteArray) (pc nx a b' : Nat) : Prop :=
  ((a = 20 ∧ b' = 20 ∧ decode cc pc = .ok (.iaload, 1)) ∨ (a = 21 ∧ b' = 22 ∧ decode cc pc = .ok (.baload, 1)) ∨ (a = 23 ∧ b' = 23 ∧ decode cc pc = .ok (.laload, 1)) ∨ (a = 24 ∧ b' = 25 ∧ decode cc pc = .ok (.aaload, 1))) ∧ nx = pc + 1
def ev_i_new (cc : ByteArray) (own : String) (Ts : List Cond) (pc nx a b' : Nat) (tg : List Nat) : Prop :=
  ∃ (index : Nat) (C : String) (T : u_T) (N : Nat) (ty0 : Nat → FieldType), decode cc pc = .ok (.new index, 3) ∧ nx = pc + 3 ∧ vwCl[a]? = some (C, T, N) ∧ b' = N ∧ N ≤ 32 ∧ (∀ x ∈ u_ws C T N, x ∈ Ts) ∧ (∀ k, k < N → parseFieldDescriptor (T k).2.2.1 = some (ty0 k)) ∧ (∀ k, k < N → ev_dc (ty0 k) < 3) ∧ tg = (List.range N).map (fun k => ev_dc (ty0 k)) ∧
      Cond.classLink own index C ∈ Ts ∧ Cond.instantiable C N ∈ Ts ∧ Cond.initialized C ∈ Ts
def ev_i_newa (cc : ByteArray) (own : String) (Ts : List Cond) (pc nx a b' : Nat) : Prop :=
  (∃ at9 : ArrayType, decode cc pc = .ok (.newarray at9, 2) ∧ nx = pc + 2 ∧ newarray.typeOf at9 = ev_ty a ∧ 20 ≤ a ∧ a ≤ 23 ∧ b' = ev_dc (ev_ty a) ∧ Cond.arrayClass (newarray.typeOf at9) ∈ Ts) ∨
      (∃ (ix : Nat) (C : String), decode cc pc = .ok (.anewarray ix, 3) ∧ nx = pc + 3 ∧ 24 ≤ a ∧ a ≤ 25 ∧ ev_ty a = .object C ∧ b' = 1 ∧ Cond.classLink own ix C ∈ Ts ∧ Cond.arrayOver (.object C) ∈ lw_tbl)
def ev_i_call (I : Nat → ev_Im) (P : Nat → ev_M) (cc : ByteArray) (own : String) (pc nx a b' c' : Nat) (tg : List Nat) : Prop :=
  ∃ (ix n : Nat), nx = pc + 3 ∧ tg = [(P a).2.1, (P a).2.2.1] ∧ (P a).1 ≤ 51 ∧ b' ≤ (P a).1 ∧ ev_cw (I a) (P a).1 ∈ ev_UW ∧ Cond.initialized (I a).1.cls ∈ ev_UW ∧
    ((I a).1.cls ≠ "java/lang/invoke/MethodHandle" ∧ (I a).1.cls ≠ "java/lang/invoke/VarHandle" ∧ (parseMethodDescriptor (I a).1.desc).map (fun d => d.parameters.length) = some n) ∧ Cond.initialized own ∈ ev_UW ∧
    ((decode cc pc = .ok (.invokevirtual ix, 3) ∧ b' = n + 1 ∧ (∃ (ci : Nat) (rr : vw_C), c' = ci + 1 ∧ vwCl[ci]? = some rr ∧ rr.1 = (I a).1.cls) ∧ (I a).2.2.2 = [] ∧ Cond.methodLink own ix (I a).1 ∈ ev_UW ∧ Cond.instanceMethod (I a).1 ∈ ev_UW ∧ Cond.selects (I a).1.cls (I a).1 (I a).1 ∈ ev_UW) ∨
     (decode cc pc = .ok (.invokestatic ix, 3) ∧ b' = n ∧ c' = 0 ∧ Cond.methodLink own ix (I a).1 ∈ ev_UW ∧ Cond.static (I a).1 ∈ ev_UW) ∨
     (decode cc pc = .ok (.invokespecial ix, 3) ∧ b' = n + 1 ∧ (∃ (ci : Nat) (rr : vw_C), c' = ci + 1 ∧ vwCl[ci]? = some rr) ∧ (I a).2.2.2 = [] ∧ (I a).1.name = "<init>" ∧ (I a).2.2.1 = none ∧ Cond.instanceMethod (I a).1 ∈ ev_UW ∧ (Cond.methodLink own ix (I a).1 ∈ ev_UW ∨ ∃ host, Cond.methodLinkNest own ix (I a).1 host ∈ lw_tbl)))
def ev_i_throw (cc : ByteArray) (own : String) (Ts : List Cond) (Sg : List (String × (Nat × String))) (pc a : Nat) : Prop :=
  ∃ (ik is9 ic : Nat) (text : String), a < 4 ∧ decode cc pc = .ok (.new ik, 3) ∧ decode cc (pc + 3) = .ok (.dup, 1) ∧ ((decode cc (pc + 4) = .ok (.ldc is9, 2) ∧ decode cc (pc + 6) = .ok (.invokespecial ic, 3) ∧ decode cc (pc + 9) = .ok (.athrow, 1)) ∨ (decode cc (pc + 4) = .ok (.ldc_w is9, 3) ∧ decode cc (pc + 7) = .ok (.invokespecial ic, 3) ∧ decode cc (pc + 10) = .ok (.athrow, 1))) ∧
      Cond.classLink own ik (ev_ex a) ∈ Ts ∧ Cond.initialized (ev_ex a) ∈ Ts ∧ (own, (is9, text)) ∈ Sg ∧ (∀ x ∈ (ev_xat own ic a).filter goodWord, x ∈ Ts) ∧
      (∀ x ∈ (ev_xat own ic a).filter (fun w => !goodWord w), x ∈ lw_tbl ∧ ev_bw x = true ∧ x.onTables = true) ∧
      (∀ x ∈ Cond.classLink own ik (ev_ex a) :: Cond.initialized (ev_ex a) :: ev_xat own ic a, vx_ot x = true)
def ev_i_switch (cc : ByteArray) (pc a b' c' : Nat) (tg : List Nat) : Prop :=
  ∃ (df lo hi9 : Int) (offs : Array Int) (len : Nat), decode cc pc = .ok (.tableswitch df lo hi9 offs, len) ∧ -2147483648 ≤ lo ∧ -2147483648 ≤ hi9 ∧ a = (lo + 2147483648).toNat ∧ b' = (hi9 + 2147483648).toNat ∧ (pc : Int) + df = (c' : Int) ∧ (∀ (j t : Nat), tg[j]? = some t → ∃ off, offs[j]? = some off ∧ (pc : Int) + off = (t : Int))
def ev_i_cv (cc : ByteArray) (pc nx a : Nat) : Prop :=
  ((a = 0 ∧ decode cc pc = .ok (.i2l, 1)) ∨ (a = 1 ∧ decode cc pc = .ok (.l2i, 1)) ∨ (a = 2 ∧ decode cc pc = .ok (.i2d, 1)) ∨ (a = 3 ∧ decode cc pc = .ok (.i2f, 1)) ∨ (a = 4 ∧ decode cc pc = .ok (.f2d, 1)) ∨ (a = 5 ∧ decode cc pc = .ok (.i2b, 1)) ∨ (a = 6 ∧ decode cc pc = .ok (.i2c, 1))) ∧ nx = pc + 1
def ev_i_w2 (cc : ByteArray) (own : String) (Ts : List Cond) (pc nx a : Nat) : Prop :=
  (((a = 0 ∧ decode cc pc = .ok (.ddiv, 1)) ∨ (a = 1 ∧ decode cc pc = .ok (.fdiv, 1)) ∨ (a = 2 ∧ decode cc pc = .ok (.dcmp .l, 1)) ∨ (a = 3 ∧ decode cc pc = .ok (.dcmp .g, 1)) ∨ (a = 4 ∧ decode cc pc = .ok (.lcmp, 1)) ∨ (a = 5 ∧ decode cc pc = .ok (.lshr, 1)) ∨ (a = 6 ∧ decode cc pc = .ok (.lshl, 1)) ∨ (a = 7 ∧ decode cc pc = .ok (.land, 1)) ∨ (a = 8 ∧ decode cc pc = .ok (.lor, 1))) ∧ nx = pc + 1) ∨
      (∃ ix : Nat, a = 9 ∧ decode cc pc = .ok (.invokestatic ix, 3) ∧ nx = pc + 3 ∧ Cond.methodLink own ix Lib.Math.max.name ∈ Ts ∧ Cond.static Lib.Math.max.name ∈ Ts ∧ Cond.initialized "java/lang/Math" ∈ Ts ∧ Cond.code Lib.Math.max.name Lib.Math.max.code 2 (some .int) ∈ Ts)
def ev_i_objinit (cc : ByteArray) (own : String) (Ts : List Cond) (pc nx : Nat) : Prop :=
  ∃ ix : Nat, decode cc pc = .ok (.invokespecial ix, 3) ∧ nx = pc + 3 ∧ Cond.methodLink own ix Lib.objectInit ∈ Ts ∧ Cond.instanceMethod Lib.objectInit ∈ Ts ∧ Cond.code Lib.objectInit ⟨#[0xb1]⟩ 1 none ∈ Ts
def ev_i_copy (cc : ByteArray) (own : String) (Ts : List Cond) (pc nx : Nat) : Prop :=
  ∃ ix : Nat, decode cc pc = .ok (.invokestatic ix, 3) ∧ nx = pc + 3 ∧ Cond.methodLink own ix arraycopyName ∈ Ts ∧ Cond.native arraycopyName ∈ Ts ∧ Cond.static arraycopyName ∈ Ts ∧ Cond.initialized "java/lang/System" ∈ Ts
def ev_i_idiv (cc : ByteArray) (pc nx a : Nat) : Prop := ((a = 0 ∧ decode cc pc = .ok (.idiv, 1)) ∨ (a = 1 ∧ decode cc pc = .ok (.irem, 1))) ∧ nx = pc + 1
/-! the JDK's own string bodies: names and words -/
def js_co : MethodName := { cls := "java/lang/String", name := "coder", desc := "()B" }
def js_ln : MethodName := { cls := "java/lang/String", name := "length", desc := "()I" }
def js_il : MethodName := { cls := "java/lang/String", name := "isLatin1", desc := "()Z" }
def js_ch : MethodName := { cls := "java/lang/String", name := "charAt", desc := "(I)C" }
def js_ci : MethodName := { cls := "java/lang/String", name := "checkIndex", desc := "(II)V" }
def js_lc : MethodName := { cls := "java/lang/StringLatin1", name := "charAt", desc := "([BI)C" }
def js_pi : MethodName := { cls := "jdk/internal/util/Preconditions", name := "checkIndex", desc := "(IILjava/util/function/BiFunction;)I" }
/-- the words that these bodies stand on -/
def js_ws : List Cond := [.code js_co prog_20_method_152_code 1 (some .byte), .code js_ln prog_20_method_54_code 1 (some .int), .code js_il prog_20_method_154_code 1 (some .boolean), .code js_ch prog_20_method_56_code 2 (some .char), .code js_ci prog_20_method_155_code 2 none, .code js_lc prog_21_method_2_code 2 (some .char), .code js_pi prog_28_method_11_code 3 (some .int),
  .methodLink "java/lang/String" 335 js_co, .methodLink "java/lang/String" 492 js_il, .methodLink "java/lang/String" 495 js_lc, .methodLink "java/lang/StringLatin1" 9 js_ci, .methodLink "java/lang/String" 1059 js_pi,
  .instanceMethod js_co, .instanceMethod js_il, .instanceMethod js_ln, .instanceMethod js_ch, .selects "java/lang/String" js_co js_co, .selects "java/lang/String" js_il js_il, .selects "java/lang/String" js_ln js_ln, .selects "java/lang/String" js_ch js_ch, .static js_lc, .static js_ci, .static js_pi,
  .initialized "java/lang/String", .initialized "java/lang/StringLatin1", .initialized "jdk/internal/util/Preconditions",
  .fieldLink "java/lang/String" 38 "java/lang/String" "COMPACT_STRINGS" "Z", .fieldLink "java/lang/String" 15 "java/lang/String" "coder" "B", .fieldLink "java/lang/String" 9 "java/lang/String" "value" "[B", .fieldLink "java/lang/String" 1053 "jdk/internal/util/Preconditions" "SIOOBE_FORMATTER" "Ljava/util/function/BiFunction;"]
def ev_i_ldcs (cc : ByteArray) (own : String) (pc nx a : Nat) : Prop := a < 26 ∧ own = (ev_sk a).1 ∧ decode cc pc = .ok (.ldc (ev_sk a).2.1, 2) ∧ nx = pc + 2
def ev_i_str (cc : ByteArray) (own : String) (pc nx : Nat) (y : MethodName) : Prop := ∃ ix, decode cc pc = .ok (.invokevirtual ix, 3) ∧ nx = pc + 3 ∧ Cond.methodLink own ix y ∈ ev_UW ∧ ∀ x ∈ js_ws, x ∈ ev_UW
/-- an entry is what the class file has there -/
def ev_eok (I : Nat → ev_Im) (P : Nat → ev_M) (Sg : List (String × (Nat × String))) (Ts : List Cond) (y : MethodName) (cc : ByteArray) (ret : Option FieldType) (nL pc op nx a b' c' : Nat) (tg : List Nat) : Prop :=
  match op with
  | 0 => True
  | 1 => ev_i_int cc y.cls Ts pc nx a
  | 2 => decode cc pc = .ok (.aconst_null, 1) ∧ nx = pc + 1
  | 3 => ev_i_wide cc y.cls Ts pc nx a b'
  | 6 => ev_i_ld cc pc nx a .iload .iload_n
  | 7 => ev_i_ld cc pc nx a .aload .aload_n
  | 8 => decode cc pc = .ok (.dload a, 2) ∧ nx = pc + 2
  | 9 => ev_i_st cc nL pc nx a .istore .istore_n
  | 10 => ev_i_st cc nL pc nx a .astore .astore_n
  | 11 => decode cc pc = .ok (.dstore a, 2) ∧ nx = pc + 2 ∧ a + 1 < nL
  | 12 => ∃ n : Int, decode cc pc = .ok (.iinc a n, 3) ∧ Int32.ofInt n = nI b' ∧ nx = pc + 3 ∧ a < nL
  | 13 => decode cc pc = .ok (.iadd, 1) ∧ nx = pc + 1
  | 14 => decode cc pc = .ok (.isub, 1) ∧ nx = pc + 1
  | 15 => ev_i_bin cc pc nx a
  | 16 => ev_i_if cc pc a b' c' .ifCond
  | 17 => ev_i_if cc pc a b' c' .if_icmp
  | 18 => ev_i_acmp cc pc b' c'
  | 19 => ev_i_isnull cc pc b' c'
  | 20 => ∃ off : Int, decode cc pc = .ok (.goto off, 3) ∧ (pc : Int) + off = (nx : Int)
  | 21 => decode cc pc = .ok (.dup, 1) ∧ nx = pc + 1
  | 22 => decode cc pc = .ok (.dup2, 1) ∧ nx = pc + 1
  | 23 => decode cc pc = .ok (.pop, 1) ∧ nx = pc + 1
  | 24 => ev_i_getf cc y.cls Ts pc nx a b'
  | 25 => ev_i_putf cc y.cls y.name Ts pc nx a b' c'
  | 26 => decode cc pc = .ok (.arraylength, 1) ∧ nx = pc + 1
  | 27 => a = 20 ∧ b' = 20 ∧ decode cc pc = .ok (.iaload, 1) ∧ nx = pc + 1
  | 28 => decode cc pc = .ok (.iastore, 1) ∧ nx = pc + 1
  | 29 => ev_i_ald cc pc nx a b'
  | 30 => decode cc pc = .ok (.bastore, 1) ∧ nx = pc + 1
  | 31 => decode cc pc = .ok (.lastore, 1) ∧ nx = pc + 1
  | 32 => decode cc pc = .ok (.aastore, 1) ∧ nx = pc + 1
  | 33 => ev_i_new cc y.cls Ts pc nx a b' tg
  | 34 => ev_i_newa cc y.cls Ts pc nx a b'
  | 35 => ev_i_call I P cc y.cls pc nx a b' c' tg
  | 36 => ev_i_objinit cc y.cls Ts pc nx
  | 37 => ev_i_throw cc y.cls Ts Sg pc a
  | 38 => decode cc pc = .ok (.return_, 1) ∧ ret = none
  | 39 => decode cc pc = .ok (.ireturn, 1) ∧ ((a = 0 ∧ ret = some .int) ∨ (a = 1 ∧ ret = some .boolean))
  | 40 => decode cc pc = .ok (.areturn, 1) ∧ ∃ rt, ret = some rt ∧ ((∃ n, rt = .object n) ∨ ∃ t, rt = .array t)
  | 41 => (a = 1 ∧ decode cc pc = .ok (.freturn, 1) ∧ ret = some .float) ∨ (a = 2 ∧ decode cc pc = .ok (.dreturn, 1) ∧ ret = some .double)
  | 42 => ev_i_switch cc pc a b' c' tg
  | 43 => ev_i_cv cc pc nx a
  | 44 => ev_i_w2 cc y.cls Ts pc nx a
  | 45 => ev_i_copy cc y.cls Ts pc nx
  | 46 => True
  | 47 => ev_i_idiv cc pc nx a
  | 48 => a = 1 ∧ decode cc pc = .ok (.iand, 1) ∧ nx = pc + 1
  | 49 => ev_i_ldcs cc y.cls pc nx a
  | 50 => ev_i_str cc y.cls pc nx js_ln
  | 51 => ev_i_str cc y.cls pc nx js_ch
  | _ => False
/-- .. wherever the program counter stands -/
def ev_cok (I : Nat → ev_Im) (P : Nat → ev_M) (Sg : List (String × (Nat × String))) (Ts : List Cond) (y : MethodName) (cc : ByteArray) (ret : Option FieldType) (nL : Nat) (code : Nat → ev_E) : Prop :=
  ∀ pc, ev_eok I P Sg Ts y cc ret nL pc (code pc).1 (code pc).2.1 (code pc).2.2.1 (code pc).2.2.2.1 (code pc).2.2.2.2.1 (code pc).2.2.2.2.2
/-- the handlers, with the exceptions' numbers for the places in the class's pool -/
def ev_hok (own : String) (Ts : List Cond) (hh : List (Nat × Nat × Nat × Nat)) (hs : List (Nat × (Nat × (Nat × Nat)))) : Prop :=
  ∃ cn : Nat → Nat, hs = hh.map (fun q => (q.1, (q.2.1, (q.2.2.1, cn q.2.2.2)))) ∧ ∀ q ∈ hh, cn q.2.2.2 < 4 ∧ q.2.2.2 ≠ 0 ∧ Cond.classLink own q.2.2.2 (ev_ex (cn q.2.2.2)) ∈ Ts
/-- a method of the program is what the class file has -/
def ev_mok (I : Nat → ev_Im) (P : Nat → ev_M) (Sg : List (String × (Nat × String))) (i : Nat) : Prop :=
  plainName (I i).1.cls = true ∧ ev_cok I P Sg (ev_wm (I i) (P i).1) (I i).1 (I i).2.1 (I i).2.2.1 (P i).1 (P i).2.2.2.2 ∧ ev_hok (I i).1.cls (ev_wm (I i) (P i).1) (I i).2.2.2 (P i).2.2.2.1 ∧
    ((I i).2.2.2 ≠ [] → ∀ pc, ((P i).2.2.2.2 pc).1 ≠ 37) ∧ ∀ pc, ((P i).2.2.2.2 pc).1 ≠ 46
end EVE
section EVX
variable {D : va_G} {aC : Nat → ClassId} {b : ev_B} {B0 L : Nat} {σ : Nat → Int32}
variable {p : Program} {l : Launch} {e : Env} {R : Room} {s : State} {m : MethodId} {args : Array Value} {below : List Frame} {meth : Method} {c : Code} {Q : State → Prop}
variable {cc : ByteArray} {nL : Nat} {Ts : List Cond} {own : String} {Sg : List (String × (Nat × String))}
variable {Φ : ev_P} {M : ev_M} {k : ev_N} {cl : ev_F} {nx a b' c' pc : Nat} {tg : List Nat} {loc : ev_L} {st : List ev_V} {w : ev_W} {r : ev_S}
theorem ev_dle (x y : Nat) : decide (x ≤ y) = Nat.ble x y := by
  cases h : Nat.ble x y with
  | true => exact decide_eq_true (Nat.le_of_ble_eq_true h)
  | false => exact decide_eq_false (fun q => by rw [Nat.ble_eq_true_of_le q] at h; cases h)
theorem ev_sp_ok : ∀ (n : Nat) (acc st As r : List ev_V), ev_sp n acc st = some (As, r) → ∃ t, st = t ++ r ∧ t.length = n ∧ As = t.reverse ++ acc := by
  intro n
  induction n with
  | zero =>
    intro acc st As r h
    have h : some (acc, st) = some (As, r) := h
    cases h
    exact ⟨[], rfl, rfl, rfl⟩
  | succ n ih =>
    intro acc st As r h
    cases st with
    | nil => exact absurd h (fun z => by cases z)
    | cons v t =>
      obtain ⟨t9, h1, h2, h3⟩ := ih (v :: acc) t As r h
      exact ⟨v :: t9, by rw [h1]; rfl, by rw [List.length_cons, h2], by rw [h3]; simp⟩
theorem ev_hd_ok {args : Array Value} {s : State} {own : String} {Ts : List Cond} {cn : Nat → Nat} {E pc : Nat} (hE : E < 4) (ht : ∀ w ∈ Ts, w.before args s = true) (hV : ev_VF D aC Sg s) : ∀ (hh : List (Nat × Nat × Nat × Nat)), (∀ q ∈ hh, cn q.2.2.2 < 4 ∧ q.2.2.2 ≠ 0 ∧ Cond.classLink own q.2.2.2 (ev_ex (cn q.2.2.2)) ∈ Ts) →
    (ev_hd (hh.map (fun q => (q.1, (q.2.1, (q.2.2.1, cn q.2.2.2))))) pc E = none → ∀ z ∈ tableOf hh, covers z pc = false ∨ (z.catchType ≠ 0 ∧ ∃ nm : String, (Cond.classLink own z.catchType nm).before args s = true ∧ va_Nc (ev_ex E) nm s)) ∧
    (∀ hp, ev_hd (hh.map (fun q => (q.1, (q.2.1, (q.2.2.1, cn q.2.2.2))))) pc E = some hp → ∃ (pre : List ExceptionTableEntry) (x : ExceptionTableEntry) (suf : List ExceptionTableEntry), tableOf hh = pre ++ x :: suf ∧ (∀ z ∈ pre, covers z pc = false ∨ (z.catchType ≠ 0 ∧ ∃ nm : String, (Cond.classLink own z.catchType nm).before args s = true ∧ va_Nc (ev_ex E) nm s)) ∧ covers x pc = true ∧ x.catchType ≠ 0 ∧ (Cond.classLink own x.catchType (ev_ex E)).before args s = true ∧ x.handlerPc = hp) := by
  intro hh
  induction hh with
  | nil => exact fun _ => ⟨fun _ z hz => absurd hz List.not_mem_nil, fun hp h => absurd h (fun z => by cases z)⟩
  | cons q t ih =>
    intro hq
    obtain ⟨i1, i2⟩ := ih (fun x hx => hq x (List.mem_cons_of_mem _ hx))
    obtain ⟨q1, q2, q3⟩ := hq q List.mem_cons_self
    have ecov : covers (⟨q.1, q.2.1, q.2.2.1, q.2.2.2⟩ : ExceptionTableEntry) pc = (Nat.ble q.1 pc && Nat.ble (pc + 1) q.2.1) := by
      show (decide (q.1 ≤ pc) && decide (pc + 1 ≤ q.2.1)) = _
      rw [ev_dle, ev_dle]
    have hun : ev_hd ((q :: t).map (fun q => (q.1, (q.2.1, (q.2.2.1, cn q.2.2.2))))) pc E = ev_if (Nat.ble q.1 pc && Nat.ble (pc + 1) q.2.1) (ev_if (Nat.beq (cn q.2.2.2) E) (some q.2.2.1) (ev_hd (t.map (fun q => (q.1, (q.2.1, (q.2.2.1, cn q.2.2.2))))) pc E)) (ev_hd (t.map (fun q => (q.1, (q.2.1, (q.2.2.1, cn q.2.2.2))))) pc E) := rfl
    rw [hun]
    have htab : tableOf (q :: t) = (⟨q.1, q.2.1, q.2.2.1, q.2.2.2⟩ : ExceptionTableEntry) :: tableOf t := rfl
    rw [htab]
    have cons9 : ∀ hp, (covers (⟨q.1, q.2.1, q.2.2.1, q.2.2.2⟩ : ExceptionTableEntry) pc = false ∨ (q.2.2.2 ≠ 0 ∧ ∃ nm : String, (Cond.classLink own q.2.2.2 nm).before args s = true ∧ va_Nc (ev_ex E) nm s)) → ev_hd (t.map (fun q => (q.1, (q.2.1, (q.2.2.1, cn q.2.2.2))))) pc E = some hp →
        ∃ (pre : List ExceptionTableEntry) (x : ExceptionTableEntry) (suf : List ExceptionTableEntry), (⟨q.1, q.2.1, q.2.2.1, q.2.2.2⟩ : ExceptionTableEntry) :: tableOf t = pre ++ x :: suf ∧ (∀ z ∈ pre, covers z pc = false ∨ (z.catchType ≠ 0 ∧ ∃ nm : String, (Cond.classLink own z.catchType nm).before args s = true ∧ va_Nc (ev_ex E) nm s)) ∧ covers x pc = true ∧ x.catchType ≠ 0 ∧ (Cond.classLink own x.catchType (ev_ex E)).before args s = true ∧ x.handlerPc = hp := by
      intro hp h0 h1
      obtain ⟨pre, x, suf, g1, g2, g3⟩ := i2 hp h1
      refine ⟨_ :: pre, x, suf, by rw [g1]; rfl, fun z hz => ?_, g3⟩
      rcases List.mem_cons.mp hz with rfl | hz
      · exact h0
      · exact g2 z hz
    cases c1 : (Nat.ble q.1 pc && Nat.ble (pc + 1) q.2.1) with
    | false =>
      rw [c1] at ecov
      rw [ev_if_f]
      refine ⟨fun h z hz => ?_, fun hp h => cons9 hp (Or.inl ecov) h⟩
      rcases List.mem_cons.mp hz with rfl | hz
      · exact Or.inl ecov
      · exact i1 h z hz
    | true =>
      rw [c1] at ecov
      rw [ev_if_t]
      cases c2 : Nat.beq (cn q.2.2.2) E with
      | true =>
        rw [ev_if_t]
        have c2 := Nat.eq_of_beq_eq_true c2
        refine ⟨fun h => absurd h (fun z => by cases z), fun hp h => ?_⟩
        have h := Option.some.inj h
        refine ⟨[], _, tableOf t, rfl, fun z hz => absurd hz List.not_mem_nil, ecov, q2, ?_, h⟩
        rw [← c2]
        exact ht _ q3
      | false =>
        rw [ev_if_f]
        have c2 := Nat.ne_of_beq_eq_false c2
        have h0 : covers (⟨q.1, q.2.1, q.2.2.1, q.2.2.2⟩ : ExceptionTableEntry) pc = false ∨ (q.2.2.2 ≠ 0 ∧ ∃ nm : String, (Cond.classLink own q.2.2.2 nm).before args s = true ∧ va_Nc (ev_ex E) nm s) := Or.inr ⟨q2, _, ht _ q3, hV.2.2.2 E _ hE q1 (fun z => c2 z.symm)⟩
        refine ⟨fun h z hz => ?_, fun hp h => cons9 hp h0 h⟩
        rcases List.mem_cons.mp hz with rfl | hz
        · exact h0
        · exact i1 h z hz
end EVX
