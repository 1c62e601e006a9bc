/-! ===== what a run over such a heap comes to (own work) ===== -/
def drv (t : Nat) (v : Int) : Option ev_V := match t with
  | 0 => none
  | 1 => some (sI v)
  | 2 => some (sR v)
  | 3 => some (sI v)
  | 4 => some (sF v)
  | _ => some (sD v)
def VRt (t : Nat) (v : Int) : Prop := match t with
  | 1 => InR v
  | 2 => RfR v
  | 3 => B01 v
  | _ => True
def go_fin (t e : Nat) (v : Int) (w : ev_W) : ev_S := match e with
  | 0 => .inl (drv t v, w)
  | k + 1 => .inr (.inl (k, w))
def bnd {α β : Type} (x : α) (k : α → β) : β := k x
/-- if X tells an end, the run from here comes to it -/
def Go {β : Type} (Φ : ev_P) (P : Nat → ev_M) (f : β → Nat × (Int × gH)) (t : Nat) (X : Option β) (d : Nat) (M : ev_M) (pc : Nat) (loc : ev_L) (st : List ev_V) (g : gH) (c s : Nat) : Prop :=
  ∀ r, X = some r → (f r).1 = 0 → VRt t (f r).2.1 ∧ HR (f r).2.2 ∧ ∀ w, Wg w g → w.2.2.2 = (c, s) → ∃ n0 w', Wg w' (f r).2.2 ∧ w'.2 = w.2 ∧ ∀ n, n0 ≤ n → ev_run Φ P n d M pc loc st w = some (go_fin t 0 (f r).2.1 w')
/-- kinds of methods: pure or not, throwing or not -/
def fP (g : gH) (v : Int) : Nat × (Int × gH) := (0, (v, g))
def fN (y : Int × gH) : Nat × (Int × gH) := (0, y)
def fQ (g : gH) (y : Nat × Int) : Nat × (Int × gH) := (y.1, (y.2, g))
def fT (y : Nat × (Int × gH)) : Nat × (Int × gH) := y
noncomputable def go_cl (Φ : ev_P) (P : Nat → ev_M) (n d : Nat) : ev_F := fun mi As w => Nat.rec (motive := fun _ => ev_R) none (fun d' _ => ev_run Φ P n d' (P mi) 0 (ev_loc (P mi).1 As) [] w) d
theorem go_stp {Φ : ev_P} {P : Nat → ev_M} {n d : Nat} {M : ev_M} {pc : Nat} {loc : ev_L} {st : List ev_V} {w : ev_W} {op nx a b c' : Nat} {tg : List Nat} (hc : M.2.2.2.2 pc = (op, (nx, (a, (b, (c', tg)))))) :
    ev_run Φ P (n + 1) d M pc loc st w = ev_sel op Φ M (ev_run Φ P n d M) (go_cl Φ P n d) nx a b c' tg pc loc st w := by
  show ev_exec Φ M (ev_run Φ P n d M) (go_cl Φ P n d) (M.2.2.2.2 pc) pc loc st w = _
  rw [hc]
  rfl
theorem sI_n {x : Int} : ∃ m, sI x = .inl m ∧ m < 4294967296 ∧ (m : Int) = x % 4294967296 := ⟨_, rfl, by omega, by omega⟩
theorem gq_bi {x : Int} (h : InR x) : ev_bi (x % 4294967296).toNat = (x + 2147483648).toNat := by
  unfold InR at h
  unfold ev_bi
  omega
theorem gq_itv {Φ : ev_P} {x : Int} (h : InR x) : ev_itv Φ (sI x) = some ((x + 2147483648).toNat, (x + 2147483648).toNat) := by
  show some (ev_bi (x % 4294967296).toNat, ev_bi (x % 4294967296).toNat) = _
  rw [gq_bi h]
theorem gq_lt {Φ : ev_P} {x y : Int} (hx : InR x) (hy : InR y) : ev_lt Φ (sI x) (sI y) = some (decide (x < y)) := by
  unfold ev_lt
  rw [gq_itv hx, gq_itv hy]
  unfold InR at hx hy
  by_cases h : x < y
  · have e : Nat.ble ((x + 2147483648).toNat + 1) (y + 2147483648).toNat = true := Nat.ble_eq.mpr (by omega)
    show ev_if (Nat.ble ((x + 2147483648).toNat + 1) (y + 2147483648).toNat) _ _ = _
    rw [e, decide_eq_true h]
    rfl
  · have e : Nat.ble ((x + 2147483648).toNat + 1) (y + 2147483648).toNat = false := Bool.eq_false_iff.mpr (fun z => h (by have := Nat.ble_eq.mp z; omega))
    have e2 : Nat.ble (y + 2147483648).toNat (x + 2147483648).toNat = true := Nat.ble_eq.mpr (by omega)
    show ev_if (Nat.ble ((x + 2147483648).toNat + 1) (y + 2147483648).toNat) _ (ev_if (Nat.ble (y + 2147483648).toNat (x + 2147483648).toNat) _ _) = _
    rw [e, e2, decide_eq_false h]
    rfl
theorem gq_eq {Φ : ev_P} {x y : Int} (hx : InR x) (hy : InR y) : ev_eq Φ (sI x) (sI y) = some (decide (x = y)) := by
  unfold ev_eq
  rw [gq_itv hx, gq_itv hy]
  unfold InR at hx hy
  show ev_if (Nat.ble ((x + 2147483648).toNat + 1) (y + 2147483648).toNat) (some false) (ev_if (Nat.ble ((y + 2147483648).toNat + 1) (x + 2147483648).toNat) (some false) (ev_if (Nat.beq (x + 2147483648).toNat (x + 2147483648).toNat && (Nat.beq (y + 2147483648).toNat (y + 2147483648).toNat && Nat.beq (x + 2147483648).toNat (y + 2147483648).toNat)) (some true) none)) = _
  by_cases h : x = y
  · subst h
    have e : Nat.ble ((x + 2147483648).toNat + 1) (x + 2147483648).toNat = false := Bool.eq_false_iff.mpr (fun z => by have := Nat.ble_eq.mp z; omega)
    have e3 : Nat.beq (x + 2147483648).toNat (x + 2147483648).toNat = true := Nat.beq_refl _
    rw [e, e3, decide_eq_true rfl]
    rfl
  · rw [decide_eq_false h]
    by_cases h1 : x < y
    · have e : Nat.ble ((x + 2147483648).toNat + 1) (y + 2147483648).toNat = true := Nat.ble_eq.mpr (by omega)
      rw [e]
      rfl
    · have e : Nat.ble ((x + 2147483648).toNat + 1) (y + 2147483648).toNat = false := Bool.eq_false_iff.mpr (fun z => h1 (by have := Nat.ble_eq.mp z; omega))
      have e2 : Nat.ble ((y + 2147483648).toNat + 1) (x + 2147483648).toNat = true := Nat.ble_eq.mpr (by omega)
      rw [e, e2]
      rfl
theorem inR_0 : InR 0 := by unfold InR; omega
theorem gq_0 : (.inl 0 : ev_V) = sI 0 := by
  unfold sI
  rfl
theorem gq_m0 (Φ : ev_P) (u v : ev_V) : ev_cmp Φ 0 u v = ev_eq Φ u v := rfl
theorem gq_m1 (Φ : ev_P) (u v : ev_V) : ev_cmp Φ 1 u v = ev_lt Φ u v := rfl
theorem gq_m2 (Φ : ev_P) (u v : ev_V) : ev_cmp Φ 2 u v = ev_lt Φ v u := rfl
theorem gq_16 {Φ : ev_P} {M : ev_M} {k : ev_N} {cl : ev_F} {nx a b c' pc : Nat} {tg : List Nat} {loc : ev_L} {x : ev_V} {r : List ev_V} {w : ev_W} : ev_sel 16 Φ M k cl nx a b c' tg pc loc (x :: r) w = ev_br (ev_cmp Φ a x (.inl 0)) (k b loc r w) (k c' loc r w) := rfl
theorem gq_17 {Φ : ev_P} {M : ev_M} {k : ev_N} {cl : ev_F} {nx a b c' pc : Nat} {tg : List Nat} {loc : ev_L} {x y : ev_V} {r : List ev_V} {w : ev_W} : ev_sel 17 Φ M k cl nx a b c' tg pc loc (y :: x :: r) w = ev_br (ev_cmp Φ a x y) (k b loc r w) (k c' loc r w) := rfl
theorem gq_42 {Φ : ev_P} {M : ev_M} {k : ev_N} {cl : ev_F} {nx a b c' pc : Nat} {tg : List Nat} {loc : ev_L} {r : List ev_V} {w : ev_W} : ev_sel 42 Φ M k cl nx a b c' tg pc loc r w = ev_h_switch Φ M k cl nx a b c' tg pc loc r w := rfl
theorem gq_c0 {Φ : ev_P} {x y : Int} (hx : InR x) (hy : InR y) : ev_cmp Φ 0 (sI x) (sI y) = some (decide (x = y)) := (gq_m0 _ _ _).trans (gq_eq hx hy)
theorem gq_c1 {Φ : ev_P} {x y : Int} (hx : InR x) (hy : InR y) : ev_cmp Φ 1 (sI x) (sI y) = some (decide (x < y)) := (gq_m1 _ _ _).trans (gq_lt hx hy)
theorem gq_c2 {Φ : ev_P} {x y : Int} (hx : InR x) (hy : InR y) : ev_cmp Φ 2 (sI x) (sI y) = some (decide (y < x)) := (gq_m2 _ _ _).trans (gq_lt hy hx)
theorem sz_bd (p : Int) : 0 ≤ sz p ∧ sz p ≤ 7800 := by
  unfold sz
  split
  · omega
  · have ha : kd_T.all (fun q => decide (q.2 ≤ 7800)) = true := by decide +kernel
    have h : ∀ i : Nat, i < 636 → (kd_T.getD i (99, 0)).2 ≤ 7800 := by
      intro i _
      rw [List.getD_eq_getElem?_getD]
      cases hq : kd_T[i]? with
      | none => exact Nat.zero_le 7800
      | some q => exact of_decide_eq_true (List.all_eq_true.mp ha q (List.mem_of_getElem? hq))
    rcases Nat.lt_or_ge p.toNat 636 with h1 | h1
    · have := h _ h1
      omega
    · have hl : kd_T.length = 636 := by decide +kernel
      rw [List.getD_eq_getElem?_getD, List.getElem?_eq_none (by omega)]
      show (0 : Int) ≤ ((0 : Nat) : Int) ∧ ((0 : Nat) : Int) ≤ 7800
      omega
theorem inR_sz (p : Int) : InR (sz p) := by have := sz_bd p; unfold InR; omega
theorem sz_of {p : Int} {k : Nat} (h : kd p = k) (hk : k < 8) : sz p = ((ty_T.getD k []).length : Nat) := by
  obtain ⟨h0, h1⟩ := kd_lt h (by omega)
  have ha : kd_T.all (fun q => decide (q.1 < 8 → q.2 = (ty_T.getD q.1 []).length)) = true := by decide +kernel
  have hh : ∀ i : Nat, i < 636 → (kd_T.getD i (99, 0)).1 < 8 → (kd_T.getD i (99, 0)).2 = (ty_T.getD (kd_T.getD i (99, 0)).1 []).length := by
    intro i _
    rw [List.getD_eq_getElem?_getD]
    cases hq : kd_T[i]? with
    | none => exact fun z => absurd z (by decide)
    | some q => exact of_decide_eq_true (List.all_eq_true.mp ha q (List.mem_of_getElem? hq))
  unfold kd at h
  rw [if_neg (by omega)] at h
  unfold sz
  rw [if_neg (by omega), hh _ (by omega) (by omega), h]
theorem sz_1 {p : Int} {k : Nat} (h : kd p = k) (hk : k = 20 ∨ k = 21 ∨ k = 22 ∨ k = 23 ∨ k = 24 ∨ k = 25) : (0 ≤ p ∧ p < 636) ∧ k < 99 := ⟨kd_lt h (by omega), by omega⟩
section GO
variable {β : Type} {Φ : ev_P} {P : Nat → ev_M} {f : β → Nat × (Int × gH)} {t : Nat} {X A B : Option β} {d : Nat} {M : ev_M} {pc nx : Nat} {loc : ev_L} {st r : List ev_V} {g : gH} {c s a b c' : Nat} {tg : List Nat} {x y p : Int}
theorem go_none : Go Φ P f t none d M pc loc st g c s := fun r h => by cases h
/-- an end that isn't a normal one: nothing is told of it -/
theorem go_thr {x : β} (h : (f x).1 ≠ 0) : Go Φ P f t (some x) d M pc loc st g c s := fun r hr h0 => by
  cases hr
  exact absurd h0 h
theorem go_ck {q : Prop} [Decidable q] (k : q → Go Φ P f t X d M pc loc st g c s) : Go Φ P f t (if q then X else none) d M pc loc st g c s := by
  split
  · next h => exact k h
  · exact go_none
theorem go_ite {q : Prop} [Decidable q] (k1 : q → Go Φ P f t A d M pc loc st g c s) (k2 : ¬ q → Go Φ P f t B d M pc loc st g c s) : Go Φ P f t (if q then A else B) d M pc loc st g c s := by
  split
  · next h => exact k1 h
  · next h => exact k2 h
theorem go_step {op pc2 : Nat} {loc2 : ev_L} {st2 : List ev_V} {g2 : gH} (hc : M.2.2.2.2 pc = (op, (nx, (a, (b, (c', tg)))))) (h : ∀ w, Wg w g → w.2.2.2 = (c, s) → ∃ w2, Wg w2 g2 ∧ w2.2 = w.2 ∧ ∀ (k : ev_N) (cl : ev_F), ev_sel op Φ M k cl nx a b c' tg pc loc st w = k pc2 loc2 st2 w2)
    (hk : Go Φ P f t X d M pc2 loc2 st2 g2 c s) : Go Φ P f t X d M pc loc st g c s := by
  intro r hr h0
  obtain ⟨h1, h2, h3⟩ := hk r hr h0
  refine ⟨h1, h2, fun w hw hz => ?_⟩
  obtain ⟨w2, a1, a2, a3⟩ := h w hw hz
  obtain ⟨n0, w', b1, b3, b2⟩ := h3 w2 a1 (by rw [a2]; exact hz)
  refine ⟨n0 + 1, w', b1, b3.trans a2, fun n hn => ?_⟩
  cases n with
  | zero => exact absurd hn (by omega)
  | succ n =>
    rw [go_stp hc, a3]
    exact b2 n (by omega)
/-- an instruction that leaves the heap as it is -/
theorem go_sl {op pc2 : Nat} {loc2 : ev_L} {st2 : List ev_V} (hc : M.2.2.2.2 pc = (op, (nx, (a, (b, (c', tg)))))) (h : ∀ (w : ev_W) (k : ev_N) (cl : ev_F), Wg w g → w.2.2.2 = (c, s) → ev_sel op Φ M k cl nx a b c' tg pc loc st w = k pc2 loc2 st2 w)
    (hk : Go Φ P f t X d M pc2 loc2 st2 g c s) : Go Φ P f t X d M pc loc st g c s := go_step hc (fun w hw hz => ⟨w, hw, rfl, fun k cl => h w k cl hw hz⟩) hk
theorem go_int (hc : M.2.2.2.2 pc = (1, (nx, (a, (b, (c', tg)))))) (x : Int) (hx : (x % 4294967296).toNat = a) (k : Go Φ P f t X d M nx loc (sI x :: st) g c s) : Go Φ P f t X d M pc loc st g c s :=
  go_sl hc (fun w k cl _ _ => by subst hx; rfl) k
theorem go_null (hc : M.2.2.2.2 pc = (2, (nx, (a, (b, (c', tg)))))) (k : Go Φ P f t X d M nx loc (sR (-1) :: st) g c s) : Go Φ P f t X d M pc loc st g c s :=
  go_sl hc (fun w k cl _ _ => rfl) k
theorem go_lconst (hc : M.2.2.2.2 pc = (3, (nx, (0, (b, (c', tg)))))) (x : Int) (hx : (x % 18446744073709551616).toNat = b) (k : Go Φ P f t X d M nx loc (sL x :: st) g c s) : Go Φ P f t X d M pc loc st g c s :=
  go_sl hc (fun w k cl _ _ => by subst hx; rfl) k
theorem go_fconst (hc : M.2.2.2.2 pc = (3, (nx, (1, (b, (c', tg)))))) (x : Int) (hx : x.toNat = b) (k : Go Φ P f t X d M nx loc (sF x :: st) g c s) : Go Φ P f t X d M pc loc st g c s :=
  go_sl hc (fun w k cl _ _ => by subst hx; rfl) k
theorem go_dconst (hc : M.2.2.2.2 pc = (3, (nx, (2, (b, (c', tg)))))) (x : Int) (hx : x.toNat = b) (k : Go Φ P f t X d M nx loc (sD x :: st) g c s) : Go Φ P f t X d M pc loc st g c s :=
  go_sl hc (fun w k cl _ _ => by subst hx; rfl) k
theorem go_iload (hc : M.2.2.2.2 pc = (6, (nx, (a, (b, (c', tg)))))) (hl : ev_lg loc a = some (some (sI x))) (k : Go Φ P f t X d M nx loc (sI x :: st) g c s) : Go Φ P f t X d M pc loc st g c s :=
  go_sl hc (fun w k cl _ _ => by
    show ev_h_iload Φ M k cl nx a b c' tg pc loc st w = _
    unfold ev_h_iload
    rw [hl]
    rfl) k
theorem go_aload (hc : M.2.2.2.2 pc = (7, (nx, (a, (b, (c', tg)))))) (hl : ev_lg loc a = some (some (sR x))) (k : Go Φ P f t X d M nx loc (sR x :: st) g c s) : Go Φ P f t X d M pc loc st g c s :=
  go_sl hc (fun w k cl _ _ => by
    show ev_h_aload Φ M k cl nx a b c' tg pc loc st w = _
    unfold ev_h_aload
    rw [hl]
    rfl) k
theorem go_dload (hc : M.2.2.2.2 pc = (8, (nx, (a, (b, (c', tg)))))) (hl : ev_lg loc a = some (some (sD x))) (k : Go Φ P f t X d M nx loc (sD x :: st) g c s) : Go Φ P f t X d M pc loc st g c s :=
  go_sl hc (fun w k cl _ _ => by
    show ev_h_dload Φ M k cl nx a b c' tg pc loc st w = _
    unfold ev_h_dload
    rw [hl]
    rfl) k
theorem go_istore {loc2 : ev_L} (hc : M.2.2.2.2 pc = (9, (nx, (a, (b, (c', tg)))))) (hn : ev_nw loc a = true) (h2 : ev_ls loc a (some (sI x)) = loc2) (k : Go Φ P f t X d M nx loc2 r g c s) : Go Φ P f t X d M pc loc (sI x :: r) g c s :=
  go_sl hc (fun w k cl _ _ => by
    subst h2
    show ev_if (ev_ii (sI x) && ev_nw loc a) _ _ = _
    rw [hn]
    rfl) k
theorem go_astore {loc2 : ev_L} (hc : M.2.2.2.2 pc = (10, (nx, (a, (b, (c', tg)))))) (hn : ev_nw loc a = true) (h2 : ev_ls loc a (some (sR x)) = loc2) (k : Go Φ P f t X d M nx loc2 r g c s) : Go Φ P f t X d M pc loc (sR x :: r) g c s :=
  go_sl hc (fun w k cl _ _ => by
    subst h2
    show ev_if (ev_ir (sR x) && ev_nw loc a) _ _ = _
    rw [hn]
    rfl) k
theorem go_dstore {loc2 : ev_L} (hc : M.2.2.2.2 pc = (11, (nx, (a, (b, (c', tg)))))) (hn : ev_nw loc a = true) (h2 : ev_ls (ev_ls loc a (some (sD x))) (a + 1) none = loc2) (k : Go Φ P f t X d M nx loc2 r g c s) : Go Φ P f t X d M pc loc (sD x :: r) g c s :=
  go_sl hc (fun w k cl _ _ => by
    subst h2
    show ev_if (ev_ik 2 (sD x) && ev_nw loc a) _ _ = _
    rw [hn]
    rfl) k
theorem go_iinc {loc2 : ev_L} (hc : M.2.2.2.2 pc = (12, (nx, (a, (b, (c', tg)))))) (hl : ev_lg loc a = some (some (sI x))) (hn : ev_nw loc a = true) (y : Int) (hy : (y % 4294967296).toNat = b) (h2 : ev_ls loc a (some (sI (w32 (x + y)))) = loc2) (k : Go Φ P f t X d M nx loc2 st g c s) : Go Φ P f t X d M pc loc st g c s :=
  go_sl hc (fun w kk cl _ _ => by
    subst h2
    show ev_h_iinc Φ M kk cl nx a b c' tg pc loc st w = _
    unfold ev_h_iinc
    rw [hl, sI_w32]
    show ev_if (ev_nw loc a) (kk nx (ev_ls loc a (some (.inl (((x % 4294967296).toNat + b) % 4294967296)))) st w) none = _
    rw [hn]
    show kk nx (ev_ls loc a (some (.inl (((x % 4294967296).toNat + b) % 4294967296)))) st w = kk nx (ev_ls loc a (some (.inl ((x + y) % 4294967296).toNat))) st w
    rw [show ((x % 4294967296).toNat + b) % 4294967296 = ((x + y) % 4294967296).toNat by omega]) k
theorem go_iadd (hc : M.2.2.2.2 pc = (13, (nx, (a, (b, (c', tg)))))) (k : Go Φ P f t X d M nx loc (sI (w32 (x + y)) :: r) g c s) : Go Φ P f t X d M pc loc (sI y :: sI x :: r) g c s :=
  go_sl hc (fun w k cl _ _ => by
    show k nx loc (.inl (((x % 4294967296).toNat + (y % 4294967296).toNat) % 4294967296) :: r) w = _
    rw [sI_w32]
    show _ = k nx loc (.inl ((x + y) % 4294967296).toNat :: r) w
    rw [show ((x % 4294967296).toNat + (y % 4294967296).toNat) % 4294967296 = ((x + y) % 4294967296).toNat by omega]) k
theorem go_isub (hc : M.2.2.2.2 pc = (14, (nx, (a, (b, (c', tg)))))) (k : Go Φ P f t X d M nx loc (sI (w32 (x - y)) :: r) g c s) : Go Φ P f t X d M pc loc (sI y :: sI x :: r) g c s :=
  go_sl hc (fun w k cl _ _ => by
    show k nx loc (.inl (((x % 4294967296).toNat + (4294967296 - (y % 4294967296).toNat % 4294967296)) % 4294967296) :: r) w = _
    rw [sI_w32]
    show _ = k nx loc (.inl ((x - y) % 4294967296).toNat :: r) w
    rw [show ((x % 4294967296).toNat + (4294967296 - (y % 4294967296).toNat % 4294967296)) % 4294967296 = ((x - y) % 4294967296).toNat by omega]) k
theorem go_ibin (hc : M.2.2.2.2 pc = (15, (nx, (a, (b, (c', tg)))))) (k : Go Φ P f t X d M nx loc (sI (opI a x y) :: r) g c s) : Go Φ P f t X d M pc loc (sI y :: sI x :: r) g c s :=
  go_sl hc (fun w k cl _ _ => by
    show k nx loc (.inl (ev_n (ev_opI a (nI (x % 4294967296).toNat) (nI (y % 4294967296).toNat))) :: r) w = _
    rw [ev_n_sI]
    rfl) k
theorem go_iand63 (hc : M.2.2.2.2 pc = (48, (nx, (1, (b, (c', tg)))))) (k : Go Φ P f t X d M nx loc (sI (opI 1 x 63) :: r) g c s) : Go Φ P f t X d M pc loc (sI 63 :: sI x :: r) g c s :=
  go_sl hc (fun w k cl _ _ => by
    show k nx loc (.inl (ev_n (ev_opI 1 (nI (x % 4294967296).toNat) (nI 63))) :: r) w = _
    rw [ev_n_sI]
    rfl) k
theorem go_div (hc : M.2.2.2.2 pc = (47, (nx, (0, (b, (c', tg)))))) (h : 1 ≤ y ∧ y < 2147483648 ∧ 0 ≤ x ∧ x < 2147483648) (k : Go Φ P f t X d M nx loc (sI (x / y) :: r) g c s) : Go Φ P f t X d M pc loc (sI y :: sI x :: r) g c s :=
  go_sl hc (fun w k cl _ _ => by
    obtain ⟨h1, h2, h3, h4⟩ := h
    obtain ⟨m, rfl⟩ := Int.eq_ofNat_of_zero_le h3
    obtain ⟨n, rfl⟩ := Int.eq_ofNat_of_zero_le (show 0 ≤ y by omega)
    have e1 : sI (m : Int) = .inl m := by unfold sI; congr 1; omega
    have e2 : sI (n : Int) = .inl n := by unfold sI; congr 1; omega
    have e4 : m / n ≤ m := Nat.div_le_self _ _
    have e3 : sI ((m : Int) / (n : Int)) = .inl (m / n) := by
      rw [show (m : Int) / (n : Int) = ((m / n : Nat) : Int) from rfl]
      generalize m / n = z at e4 ⊢
      unfold sI
      congr 1
      omega
    rw [e1, e2, e3]
    show ev_if (Nat.ble 1 n && (Nat.ble (n + 1) 2147483648 && Nat.ble (m + 1) 2147483648)) _ _ = _
    rw [Nat.ble_eq.mpr (show 1 ≤ n by omega), Nat.ble_eq.mpr (show n + 1 ≤ 2147483648 by omega), Nat.ble_eq.mpr (show m + 1 ≤ 2147483648 by omega)]
    rfl) k
theorem go_rem (hc : M.2.2.2.2 pc = (47, (nx, (1, (b, (c', tg)))))) (h : 1 ≤ y ∧ y < 2147483648 ∧ 0 ≤ x ∧ x < 2147483648) (k : Go Φ P f t X d M nx loc (sI (x % y) :: r) g c s) : Go Φ P f t X d M pc loc (sI y :: sI x :: r) g c s :=
  go_sl hc (fun w k cl _ _ => by
    obtain ⟨h1, h2, h3, h4⟩ := h
    obtain ⟨m, rfl⟩ := Int.eq_ofNat_of_zero_le h3
    obtain ⟨n, rfl⟩ := Int.eq_ofNat_of_zero_le (show 0 ≤ y by omega)
    have e1 : sI (m : Int) = .inl m := by unfold sI; congr 1; omega
    have e2 : sI (n : Int) = .inl n := by unfold sI; congr 1; omega
    have e4 : m % n ≤ m := Nat.mod_le _ _
    have e3 : sI ((m : Int) % (n : Int)) = .inl (m % n) := by
      rw [show (m : Int) % (n : Int) = ((m % n : Nat) : Int) from rfl]
      generalize m % n = z at e4 ⊢
      unfold sI
      congr 1
      omega
    rw [e1, e2, e3]
    show ev_if (Nat.ble 1 n && (Nat.ble (n + 1) 2147483648 && Nat.ble (m + 1) 2147483648)) _ _ = _
    rw [Nat.ble_eq.mpr (show 1 ≤ n by omega), Nat.ble_eq.mpr (show n + 1 ≤ 2147483648 by omega), Nat.ble_eq.mpr (show m + 1 ≤ 2147483648 by omega)]
    rfl) k
/-! branches -/
theorem go_br {op : Nat} {q : Prop} [Decidable q] {tp fp : Nat} (hc : M.2.2.2.2 pc = (op, (nx, (a, (b, (c', tg)))))) (h : ∀ (w : ev_W) (k : ev_N) (cl : ev_F), ev_sel op Φ M k cl nx a b c' tg pc loc st w = ev_br (some (decide q)) (k tp loc r w) (k fp loc r w))
    (k1 : q → Go Φ P f t A d M tp loc r g c s) (k2 : ¬ q → Go Φ P f t B d M fp loc r g c s) : Go Φ P f t (if q then A else B) d M pc loc st g c s := by
  split
  · next hq => exact go_sl hc (fun w k cl _ _ => by rw [h, decide_eq_true hq]; rfl) (k1 hq)
  · next hq => exact go_sl hc (fun w k cl _ _ => by rw [h, decide_eq_false hq]; rfl) (k2 hq)
theorem go_ifeq (hc : M.2.2.2.2 pc = (16, (nx, (0, (b, (c', tg)))))) (hx : InR x) (k1 : x = 0 → Go Φ P f t A d M b loc r g c s) (k2 : ¬ x = 0 → Go Φ P f t B d M c' loc r g c s) : Go Φ P f t (if x = 0 then A else B) d M pc loc (sI x :: r) g c s :=
  go_br (r := r) hc (fun w k cl => by rw [gq_16, gq_0, gq_c0 hx inR_0]) k1 k2
theorem go_iflt (hc : M.2.2.2.2 pc = (16, (nx, (1, (b, (c', tg)))))) (hx : InR x) (k1 : x < 0 → Go Φ P f t A d M b loc r g c s) (k2 : ¬ x < 0 → Go Φ P f t B d M c' loc r g c s) : Go Φ P f t (if x < 0 then A else B) d M pc loc (sI x :: r) g c s :=
  go_br (r := r) hc (fun w k cl => by rw [gq_16, gq_0, gq_c1 hx inR_0]) k1 k2
theorem go_ifgt (hc : M.2.2.2.2 pc = (16, (nx, (2, (b, (c', tg)))))) (hx : InR x) (k1 : 0 < x → Go Φ P f t A d M b loc r g c s) (k2 : ¬ 0 < x → Go Φ P f t B d M c' loc r g c s) : Go Φ P f t (if 0 < x then A else B) d M pc loc (sI x :: r) g c s :=
  go_br (r := r) hc (fun w k cl => by rw [gq_16, gq_0, gq_c2 hx inR_0]) k1 k2
theorem go_cmeq (hc : M.2.2.2.2 pc = (17, (nx, (0, (b, (c', tg)))))) (hx : InR x) (hy : InR y) (k1 : x = y → Go Φ P f t A d M b loc r g c s) (k2 : ¬ x = y → Go Φ P f t B d M c' loc r g c s) : Go Φ P f t (if x = y then A else B) d M pc loc (sI y :: sI x :: r) g c s :=
  go_br (r := r) hc (fun w k cl => by rw [gq_17, gq_c0 hx hy]) k1 k2
theorem go_cmlt (hc : M.2.2.2.2 pc = (17, (nx, (1, (b, (c', tg)))))) (hx : InR x) (hy : InR y) (k1 : x < y → Go Φ P f t A d M b loc r g c s) (k2 : ¬ x < y → Go Φ P f t B d M c' loc r g c s) : Go Φ P f t (if x < y then A else B) d M pc loc (sI y :: sI x :: r) g c s :=
  go_br (r := r) hc (fun w k cl => by rw [gq_17, gq_c1 hx hy]) k1 k2
theorem go_cmgt (hc : M.2.2.2.2 pc = (17, (nx, (2, (b, (c', tg)))))) (hx : InR x) (hy : InR y) (k1 : y < x → Go Φ P f t A d M b loc r g c s) (k2 : ¬ y < x → Go Φ P f t B d M c' loc r g c s) : Go Φ P f t (if y < x then A else B) d M pc loc (sI y :: sI x :: r) g c s :=
  go_br (r := r) hc (fun w k cl => by rw [gq_17, gq_c2 hx hy]) k1 k2
theorem go_acmp (hc : M.2.2.2.2 pc = (18, (nx, (a, (b, (c', tg)))))) (hx : RfR x) (hy : RfR y) (k1 : x = y → Go Φ P f t A d M b loc r g c s) (k2 : ¬ x = y → Go Φ P f t B d M c' loc r g c s) : Go Φ P f t (if x = y then A else B) d M pc loc (sR y :: sR x :: r) g c s :=
  go_br (r := r) hc (fun w k cl => by
    unfold RfR at hx hy
    show ev_if (ev_own (if x < 0 then none else some x.toNat) && ev_own (if y < 0 then none else some y.toNat)) (ev_if (ev_oeq (if x < 0 then none else some x.toNat) (if y < 0 then none else some y.toNat)) (k b loc r w) (k c' loc r w)) none = _
    have ow : ∀ z : Int, z < 1000000 → ev_own (if z < 0 then none else some z.toNat) = true := by
      intro z hz
      split
      · rfl
      · exact Nat.ble_eq.mpr (by omega)
    rw [ow x (by have := hx.2; omega), ow y (by have := hy.2; omega)]
    have oe : ev_oeq (if x < 0 then none else some x.toNat) (if y < 0 then none else some y.toNat) = decide (x = y) := by
      by_cases h1 : x < 0
      · by_cases h2 : y < 0
        · rw [if_pos h1, if_pos h2, decide_eq_true (by omega)]
          rfl
        · rw [if_pos h1, if_neg h2, decide_eq_false (by omega)]
          rfl
      · by_cases h2 : y < 0
        · rw [if_neg h1, if_pos h2, decide_eq_false (by omega)]
          rfl
        · rw [if_neg h1, if_neg h2]
          show Nat.beq x.toNat y.toNat = _
          by_cases h3 : x = y
          · rw [h3, decide_eq_true rfl]
            exact Nat.beq_refl _
          · rw [decide_eq_false h3]
            exact Bool.eq_false_iff.mpr (fun z => h3 (by have := Nat.eq_of_beq_eq_true z; omega))
    rw [oe]
    cases decide (x = y) <;> rfl) k1 k2
theorem go_isnull (hc : M.2.2.2.2 pc = (19, (nx, (a, (b, (c', tg)))))) (k1 : x < 0 → Go Φ P f t A d M b loc r g c s) (k2 : ¬ x < 0 → Go Φ P f t B d M c' loc r g c s) : Go Φ P f t (if x < 0 then A else B) d M pc loc (sR x :: r) g c s :=
  go_br (r := r) hc (fun w k cl => by
    unfold sR
    by_cases h : x < 0
    · rw [if_pos h, decide_eq_true h]
      rfl
    · rw [if_neg h, decide_eq_false h]
      rfl) k1 k2
theorem go_goto (hc : M.2.2.2.2 pc = (20, (nx, (a, (b, (c', tg)))))) (k : Go Φ P f t X d M nx loc st g c s) : Go Φ P f t X d M pc loc st g c s := go_sl hc (fun w k cl _ _ => rfl) k
theorem go_dupI (hc : M.2.2.2.2 pc = (21, (nx, (a, (b, (c', tg)))))) (k : Go Φ P f t X d M nx loc (sI x :: sI x :: r) g c s) : Go Φ P f t X d M pc loc (sI x :: r) g c s := go_sl hc (fun w k cl _ _ => rfl) k
theorem go_dupR (hc : M.2.2.2.2 pc = (21, (nx, (a, (b, (c', tg)))))) (k : Go Φ P f t X d M nx loc (sR x :: sR x :: r) g c s) : Go Φ P f t X d M pc loc (sR x :: r) g c s := go_sl hc (fun w k cl _ _ => rfl) k
theorem go_dup2 (hc : M.2.2.2.2 pc = (22, (nx, (a, (b, (c', tg)))))) (k : Go Φ P f t X d M nx loc (sI x :: sR y :: sI x :: sR y :: r) g c s) : Go Φ P f t X d M pc loc (sI x :: sR y :: r) g c s := go_sl hc (fun w k cl _ _ => rfl) k
theorem go_popI (hc : M.2.2.2.2 pc = (23, (nx, (a, (b, (c', tg)))))) (k : Go Φ P f t X d M nx loc r g c s) : Go Φ P f t X d M pc loc (sI x :: r) g c s := go_sl hc (fun w k cl _ _ => rfl) k
theorem go_popR (hc : M.2.2.2.2 pc = (23, (nx, (a, (b, (c', tg)))))) (k : Go Φ P f t X d M nx loc r g c s) : Go Φ P f t X d M pc loc (sR x :: r) g c s := go_sl hc (fun w k cl _ _ => rfl) k
/-- a switch: a case, the default -/
theorem gq_sw {Φ : ev_P} {M : ev_M} {k : ev_N} {cl : ev_F} {nx a b c' pc u : Nat} {tg : List Nat} {loc : ev_L} {x : ev_V} {r : List ev_V} {w : ev_W} (h : ev_itv Φ x = some (u, u)) : ev_h_switch Φ M k cl nx a b c' tg pc loc (x :: r) w = ev_if (Nat.ble (u + 1) a || Nat.ble (b + 1) u) (k c' loc r w) (ev_if (Nat.beq u u && (Nat.ble a u && Nat.ble u b)) (match ev_lg tg (u - a) with
        | some t => k t loc r w
        | none => none) none) := by
  show (match ev_itv Φ x with
      | some p => ev_if (Nat.ble (p.2 + 1) a || Nat.ble (b + 1) p.1) (k c' loc r w) (ev_if (Nat.beq p.1 p.2 && (Nat.ble a p.1 && Nat.ble p.1 b)) (match ev_lg tg (p.1 - a) with
        | some t => k t loc r w
        | none => none) none)
      | none => none) = _
  rw [h]
theorem gq_bf {m n : Nat} (h : n < m) : Nat.ble m n = false := Bool.eq_false_iff.mpr (fun z => by have := Nat.ble_eq.mp z; omega)
theorem go_swh {lo hi : Int} {i tp : Nat} (hc : M.2.2.2.2 pc = (42, (nx, (a, (b, (c', tg)))))) (ha : (lo + 2147483648).toNat = a) (hb : (hi + 2147483648).toNat = b) (hx : x = lo + i) (hr : -2147483648 ≤ lo ∧ lo + i ≤ hi ∧ hi < 2147483648) (ht : ev_lg tg i = some tp) (k : Go Φ P f t X d M tp loc r g c s) : Go Φ P f t X d M pc loc (sI x :: r) g c s := by
  have hi' : InR x := by unfold InR; omega
  have hu := gq_itv (Φ := Φ) hi'
  have h1 : a ≤ (x + 2147483648).toNat := by omega
  have h2 : (x + 2147483648).toNat ≤ b := by omega
  have h3 : (x + 2147483648).toNat - a = i := by omega
  generalize (x + 2147483648).toNat = u at hu h1 h2 h3
  exact go_sl hc (fun w kk cl _ _ => by
    rw [gq_42, gq_sw hu, gq_bf (show a < u + 1 by omega), gq_bf (show u < b + 1 by omega), show Nat.beq u u = true from Nat.beq_refl _, Nat.ble_eq.mpr h1, Nat.ble_eq.mpr h2, h3, ht]
    rfl) k
theorem go_swd {lo hi : Int} (hc : M.2.2.2.2 pc = (42, (nx, (a, (b, (c', tg)))))) (ha : (lo + 2147483648).toNat = a) (hb : (hi + 2147483648).toNat = b) (hi' : InR x) (hr : x < lo ∨ hi < x) (hlo : -2147483648 ≤ lo ∧ -2147483648 ≤ hi) (k : Go Φ P f t X d M c' loc r g c s) : Go Φ P f t X d M pc loc (sI x :: r) g c s := by
  have hu := gq_itv (Φ := Φ) hi'
  unfold InR at hi'
  have h1 : (Nat.ble ((x + 2147483648).toNat + 1) a || Nat.ble (b + 1) (x + 2147483648).toNat) = true := by
    rw [Bool.or_eq_true, Nat.ble_eq, Nat.ble_eq]
    omega
  generalize (x + 2147483648).toNat = u at hu h1
  exact go_sl hc (fun w kk cl _ _ => by
    rw [gq_42, gq_sw hu, h1]
    rfl) k
end GO
