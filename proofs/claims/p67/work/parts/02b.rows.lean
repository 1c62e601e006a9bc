/-! ===== the evaluator over a heap of whole numbers (own work) =====
A heap is a function of the cell and the place in it to a whole number: an int as it is, a reference by its number (-1: null), a boolean 0 or 1, a long as it is. -/
abbrev gH : Type := Int → Int → Int
def InR (x : Int) : Prop := -2147483648 ≤ x ∧ x < 2147483648
def B01 (x : Int) : Prop := x = 0 ∨ x = 1
def RfR (x : Int) : Prop := -1 ≤ x ∧ x < 624
def L64 (x : Int) : Prop := -9223372036854775808 ≤ x ∧ x < 9223372036854775808
def w32 (x : Int) : Int := (x + 2147483648) % 4294967296 - 2147483648
def sI (x : Int) : ev_V := .inl (x % 4294967296).toNat
def sR (x : Int) : ev_V := .inr (.inl (if x < 0 then none else some x.toNat))
def sL (x : Int) : ev_V := .inr (.inr (.inr (0, (x % 18446744073709551616).toNat)))
def sF (x : Int) : ev_V := .inr (.inr (.inr (1, x.toNat)))
def sD (x : Int) : ev_V := .inr (.inr (.inr (2, x.toNat)))
def toI (x : Int) : Int32 := nI (x % 4294967296).toNat
def toL (x : Int) : Int64 := lN (x % 18446744073709551616).toNat
def opI (j : Nat) (x y : Int) : Int := (ev_opI j (toI x) (toI y)).toInt
theorem inR_w32 (x : Int) : InR (w32 x) := by unfold InR w32; omega
theorem inR_b {x : Int} (h : B01 x) : InR x := by rcases h with rfl | rfl <;> (unfold InR; omega)
theorem w32_id {x : Int} (h : InR x) : w32 x = x := by unfold InR at h; unfold w32; omega
theorem sI_w32 (x : Int) : sI (w32 x) = sI x := by
  unfold sI w32
  congr 2
  omega
theorem inR_I32 (x : Int32) : InR x.toInt := ⟨by have := x.le_toInt; simpa using this, by have := x.toInt_lt; simpa using this⟩
theorem inR_opI (j : Nat) (x y : Int) : InR (opI j x y) := inR_I32 _
theorem rfR_null : RfR (-1) := by unfold RfR; omega
theorem ev_n_sI (x : Int32) : (.inl (ev_n x) : ev_V) = sI x.toInt := by
  have h := inR_I32 x
  unfold InR at h
  have e : ev_n x = x.toUInt32.toNat := rfl
  unfold sI
  congr 1
  have : (x.toBitVec.toNat : Int) = x.toInt % 4294967296 := by
    have h2 : x.toInt = x.toBitVec.toInt := rfl
    rw [h2, BitVec.toInt_eq_toNat_cond]
    have := x.toBitVec.isLt
    split <;> omega
  unfold ev_n
  omega
/-! what the cells are -/
def tr_T : List (Nat × Nat) := (5, 10) :: (3, 15) :: (24, 40) :: (20, 8) :: (20, 5) :: List.replicate 39 (3, 15)
def kd_T : List (Nat × Nat) := (6, 7) :: (tr_T ++ tr_T ++ tr_T ++ [(0, 3), (25, 10)] ++ tr_T ++ tr_T ++ tr_T ++ tr_T ++ tr_T ++ tr_T ++ tr_T ++ tr_T ++ tr_T ++ tr_T ++ [(4, 11), (1, 2), (21, 500)] ++ tr_T ++ [(2, 2), (21, 300), (7, 24), (20, 780), (20, 780), (20, 780), (20, 780), (20, 7800), (22, 40), (20, 500), (20, 4), (20, 40), (20, 400), (23, 1)])
def kd (a : Int) : Nat := if a < 0 then 99 else (kd_T.getD a.toNat (99, 0)).1
def sz (a : Int) : Int := if a < 0 then 0 else ((kd_T.getD a.toNat (99, 0)).2 : Nat)
def ty_T : List (List Nat) := [[2, 0, 0], [2, 0], [2, 0], [0, 0, 2, 0, 0, 0, 0, 0, 0, 0, 0, 0, 0, 1, 3], [2, 2, 0, 0, 0, 0, 0, 0, 1, 1, 1], [2, 2, 2, 2, 0, 0, 0, 0, 0, 0], [2, 2, 2, 2, 2, 2, 1], [2, 2, 2, 2, 2, 2, 0, 1, 0, 2, 0, 0, 0, 0, 0, 0, 0, 0, 0, 0, 2, 2, 2, 0]]
/-- 0 int, 1 boolean, 2 reference, 3 long -/
def typ (k : Nat) (b : Int) : Nat := if k < 8 then ((ty_T.getD k []).getD b.toNat 0) else if k = 22 then 1 else if k = 23 then 3 else if k = 24 ∨ k = 25 then 2 else 0
def dec (t : Nat) (v : Int) : ev_V := match t with
  | 2 => sR v
  | 3 => sL v
  | _ => sI v
def VT (t : Nat) (v : Int) : Prop := match t with
  | 0 => InR v
  | 1 => B01 v
  | 2 => RfR v
  | 3 => L64 v
  | _ => InR v
def HR (g : gH) : Prop := ∀ a b, a < 624 → VT (typ (kd a) b) (g a b)
def pU (g : gH) (a b v : Int) : gH := fun x y => if x = a ∧ y = b then v else g x y
theorem hr_pU {g : gH} {a b v : Int} (hg : HR g) (hv : VT (typ (kd a) b) v) : HR (pU g a b v) := by
  intro x y hx
  unfold pU
  split
  · next h => rw [h.1, h.2]; exact hv
  · exact hg x y hx
theorem kd_lt {a : Int} {k : Nat} (h : kd a = k) (hk : k ≠ 99) : 0 ≤ a ∧ a < 636 := by
  unfold kd at h
  split at h
  · exact absurd h.symm hk
  · next h0 =>
    refine ⟨by omega, ?_⟩
    rcases Int.lt_or_le a 636 with h1 | h1
    · exact h1
    · exfalso
      have hl : kd_T.length = 636 := by decide +kernel
      have : kd_T[a.toNat]? = none := List.getElem?_eq_none (by omega)
      rw [List.getD_eq_getElem?_getD, this] at h
      exact hk h.symm
theorem kd_cl {a : Int} {k : Nat} (h : kd a = k) (hk : k < 7 ∨ k = 24 ∨ k = 25) : 0 ≤ a ∧ a < 624 := by
  obtain ⟨h0, h1⟩ := kd_lt h (by omega)
  refine ⟨h0, ?_⟩
  rcases Int.lt_or_le a 624 with h2 | h2
  · exact h2
  · exfalso
    have h3 : ∀ i : Nat, i < 12 → ¬ ((kd_T.getD (624 + i) (99, 0)).1 < 7) ∧ ¬ (kd_T.getD (624 + i) (99, 0)).1 = 24 ∧ ¬ (kd_T.getD (624 + i) (99, 0)).1 = 25 := by decide +kernel
    have h4 := h3 (a.toNat - 624) (by omega)
    rw [show 624 + (a.toNat - 624) = a.toNat by omega] at h4
    unfold kd at h
    rw [if_neg (by omega)] at h
    rw [h] at h4
    omega
/-- the world w holds the heap g -/
def Wg (w : ev_W) (g : gH) : Prop := ∀ i : Nat, i < 624 → ∃ q, ev_get w.1 i = some q ∧ q.1 = kd i ∧ (q.2.1 : Int) = sz i ∧ ∀ j : Nat, (j : Int) < sz i → ev_get q.2.2 j = some (dec (typ (kd i) j) (g i j))
/-! stores -/
theorem gb_lg {α : Type} (l : List α) : ∀ n, ev_lg l n = l[n]? := by
  induction l with
  | nil => intro n; rfl
  | cons a t ih =>
    intro n
    cases n with
    | zero => rfl
    | succ m => exact (ih m).trans (by simp)
theorem gb_lso {α : Type} (l : List α) : ∀ n v, n < l.length → ev_lso l n v = some (l.set n v) := by
  induction l with
  | nil => intro n v h; exact absurd h (by simp)
  | cons a t ih =>
    intro n v h
    cases n with
    | zero => rfl
    | succ m =>
      show (Option.rec none (fun z => some (a :: z)) (ev_lso t m v) : Option (List α)) = _
      rw [ih m v (by simpa using h)]
      rfl
theorem gb_get {α : Type} (t : List (List (List α))) (i : Nat) : ev_get t i = (t[i / 64]?).bind (fun c => (c[i / 8 % 8]?).bind (fun d => d[i % 8]?)) := by
  unfold ev_get
  rw [gb_lg]
  cases h : t[i / 64]? with
  | none => rfl
  | some c =>
    show ev_g2 c _ _ = (c[i / 8 % 8]?).bind (fun d => d[i % 8]?)
    unfold ev_g2
    rw [gb_lg]
    cases h : c[i / 8 % 8]? with
    | none => rfl
    | some d => exact gb_lg d _
theorem gb_sto {α : Type} {t : List (List (List α))} {i : Nat} {u v : α} (h : ev_get t i = some u) : ∃ t', ev_sto t i v = some t' ∧ ∀ j, ev_get t' j = if j = i then some v else ev_get t j := by
  rw [gb_get] at h
  cases hc : t[i / 64]? with
  | none => rw [hc] at h; cases h
  | some c =>
    rw [hc] at h
    have h : (c[i / 8 % 8]?).bind (fun d => d[i % 8]?) = some u := h
    cases hd : c[i / 8 % 8]? with
    | none => rw [hd] at h; cases h
    | some d =>
      rw [hd] at h
      have h : d[i % 8]? = some u := h
      have l1 := (List.getElem?_eq_some_iff.mp hc).1
      have l2 := (List.getElem?_eq_some_iff.mp hd).1
      have l3 := (List.getElem?_eq_some_iff.mp h).1
      refine ⟨t.set (i / 64) (c.set (i / 8 % 8) (d.set (i % 8) v)), ?_, ?_⟩
      · unfold ev_sto
        rw [gb_lg, hc]
        show (Option.rec none (fun c' => ev_lso t (i / 64) c') (ev_s2 c (i / 8 % 8) (i % 8) v) : Option (List (List (List α)))) = _
        have : ev_s2 c (i / 8 % 8) (i % 8) v = some (c.set (i / 8 % 8) (d.set (i % 8) v)) := by
          unfold ev_s2
          rw [gb_lg, hd]
          show (Option.rec none (fun d' => ev_lso c (i / 8 % 8) d') (ev_lso d (i % 8) v) : Option (List (List α))) = _
          rw [gb_lso d _ _ l3]
          exact gb_lso c _ _ l2
        rw [this]
        exact gb_lso t _ _ l1
      · intro j
        rw [gb_get, gb_get]
        by_cases h1 : j / 64 = i / 64
        · rw [h1, List.getElem?_set_self l1, hc]
          show ((c.set (i / 8 % 8) (d.set (i % 8) v))[j / 8 % 8]?).bind (fun d => d[j % 8]?) = if j = i then some v else (c[j / 8 % 8]?).bind (fun d => d[j % 8]?)
          by_cases h2 : j / 8 % 8 = i / 8 % 8
          · rw [h2, List.getElem?_set_self l2, hd]
            show (d.set (i % 8) v)[j % 8]? = if j = i then some v else d[j % 8]?
            by_cases h3 : j % 8 = i % 8
            · rw [if_pos (by omega), h3, List.getElem?_set_self l3]
            · rw [if_neg (by omega), List.getElem?_set_ne (fun q => h3 q.symm)]
          · rw [if_neg (by omega), List.getElem?_set_ne (fun q => h2 q.symm)]
        · rw [if_neg (by omega), List.getElem?_set_ne (fun q => h1 q.symm)]
theorem wg_pU {w : ev_W} {g : gH} {a b v : Int} (hw : Wg w g) (ha : 0 ≤ a ∧ a < 624) (hb : 0 ≤ b ∧ b < sz a) :
    ∃ q x, ev_get w.1 a.toNat = some q ∧ q.1 = kd a ∧ (q.2.1 : Int) = sz a ∧ ev_get q.2.2 b.toNat = some (dec (typ (kd a) b) (g a b)) ∧ Wg (x, w.2) (pU g a b v) ∧ ∀ kt : ev_W → ev_R, ev_upd w a.toNat q b.toNat (dec (typ (kd a) b) v) kt = kt (x, w.2) := by
  have ea : ((a.toNat : Nat) : Int) = a := Int.toNat_of_nonneg ha.1
  have eb : ((b.toNat : Nat) : Int) = b := Int.toNat_of_nonneg hb.1
  obtain ⟨q, h1, h2, h3, h4⟩ := hw a.toNat (by omega)
  rw [ea] at h2 h3 h4
  have h5 := h4 b.toNat (by omega)
  rw [eb] at h5
  obtain ⟨d, d1, d2⟩ := gb_sto (v := dec (typ (kd a) b) v) h5
  obtain ⟨x, x1, x2⟩ := gb_sto (v := (q.1, (q.2.1, d))) h1
  refine ⟨q, x, h1, h2, h3, h5, ?_, ?_⟩
  · intro i hi
    by_cases hia : i = a.toNat
    · subst hia
      refine ⟨(q.1, (q.2.1, d)), by rw [x2, if_pos rfl], by rw [ea]; exact h2, by rw [ea]; exact h3, fun j hj => ?_⟩
      rw [ea] at hj ⊢
      show ev_get d j = _
      rw [d2]
      unfold pU
      by_cases hjb : j = b.toNat
      · rw [if_pos hjb, if_pos ⟨rfl, by omega⟩, show (j : Int) = b by omega]
      · rw [if_neg hjb, if_neg (fun z => hjb (by omega))]
        exact h4 j hj
    · obtain ⟨q9, e1, e2, e3, e4⟩ := hw i hi
      refine ⟨q9, by rw [x2, if_neg hia]; exact e1, e2, e3, fun j hj => ?_⟩
      unfold pU
      rw [if_neg (fun z => hia (by omega))]
      exact e4 j hj
  · intro kt
    unfold ev_upd
    rw [d1]
    show (match ev_sto w.1 a.toNat (q.1, (q.2.1, d)) with
      | some x => kt (x, w.2)
      | none => none) = _
    rw [x1]
theorem wg_get {w : ev_W} {g : gH} {a b : Int} (hw : Wg w g) (ha : 0 ≤ a ∧ a < 624) (hb : 0 ≤ b ∧ b < sz a) :
    ∃ q, ev_get w.1 a.toNat = some q ∧ q.1 = kd a ∧ (q.2.1 : Int) = sz a ∧ ev_get q.2.2 b.toNat = some (dec (typ (kd a) b) (g a b)) := by
  obtain ⟨q, x, h1, h2, h3, h4, -⟩ := wg_pU (v := 0) hw ha hb
  exact ⟨q, h1, h2, h3, h4⟩
theorem wg_cell {w : ev_W} {g : gH} {a : Int} (hw : Wg w g) (ha : 0 ≤ a ∧ a < 624) : ∃ q, ev_get w.1 a.toNat = some q ∧ q.1 = kd a ∧ (q.2.1 : Int) = sz a := by
  have ea : ((a.toNat : Nat) : Int) = a := Int.toNat_of_nonneg ha.1
  obtain ⟨q, h1, h2, h3, h4⟩ := hw a.toNat (by omega)
  rw [ea] at h2 h3
  exact ⟨q, h1, h2, h3⟩
theorem sR_pos {x : Int} (h : 0 ≤ x) : sR x = .inr (.inl (some x.toNat)) := by
  unfold sR
  rw [if_neg (by omega)]
