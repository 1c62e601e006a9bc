/-! ===== rows of the heap, calls, ends (own work) ===== -/
def i2b (x : Int) : Int := ((toI x).toInt8.toInt32).toInt
def gi2d (x : Int) : Int := ((FP.i2d (toI x)).toNat : Int)
def gi2f (x : Int) : Int := ((FP.i2f (toI x)).toNat : Int)
def gf2d (x : Int) : Int := ((FP.f2d (UInt32.ofNat x.toNat)).toNat : Int)
def okf2d (x : Int) : Bool := ev_n64 (FP.f2d (UInt32.ofNat x.toNat))
def gddiv (x y : Int) : Int := ((FP.ddiv (UInt64.ofNat x.toNat) (UInt64.ofNat y.toNat)).toNat : Int)
def okddiv (x y : Int) : Bool := ev_n64 (FP.ddiv (UInt64.ofNat x.toNat) (UInt64.ofNat y.toNat))
def gfdiv (x y : Int) : Int := ((FP.fdiv (UInt32.ofNat x.toNat) (UInt32.ofNat y.toNat)).toNat : Int)
def okfdiv (x y : Int) : Bool := ev_n32 (FP.fdiv (UInt32.ofNat x.toNat) (UInt32.ofNat y.toNat))
def gdcmp (j : Nat) (x y : Int) : Int := (match j with
  | 2 => Op.cmpValue (FP.dcmp (UInt64.ofNat x.toNat) (UInt64.ofNat y.toNat)) .l
  | _ => Op.cmpValue (FP.dcmp (UInt64.ofNat x.toNat) (UInt64.ofNat y.toNat)) .g : Int32).toInt
def glcmp (x y : Int) : Int := (lg_cmp (toL x) (toL y)).toInt
def opL (j : Nat) (x y : Int) : Int := (ev_opL j (toL x) (toL y)).toInt
def opS (j : Nat) (x y : Int) : Int := (ev_opS j (toL x) (toI y)).toInt
noncomputable def gtx (p : Int) : List Nat := (ev_txt (p.toNat - ev_tb)).getD []
theorem inR_i2b (x : Int) : InR (i2b x) := inR_I32 _
theorem inR_glcmp (x y : Int) : InR (glcmp x y) := inR_I32 _
theorem inR_gdcmp (j : Nat) (x y : Int) : InR (gdcmp j x y) := inR_I32 _
theorem inL_I64 (x : Int64) : L64 x.toInt := ⟨by have := x.le_toInt; simpa using this, by have := x.toInt_lt; simpa using this⟩
theorem inL_opL (j : Nat) (x y : Int) : L64 (opL j x y) := inL_I64 _
theorem inL_opS (j : Nat) (x y : Int) : L64 (opS j x y) := inL_I64 _
theorem inL_R {x : Int} (h : InR x) : L64 x := by unfold InR at h; unfold L64; omega
theorem ev_nl_sL (x : Int64) : (.inr (.inr (.inr (0, ev_nl x))) : ev_V) = sL x.toInt := by
  have : (x.toBitVec.toNat : Int) = x.toInt % 18446744073709551616 := by
    have h2 : x.toInt = x.toBitVec.toInt := rfl
    rw [h2, BitVec.toInt_eq_toNat_cond]
    have := x.toBitVec.isLt
    split <;> omega
  unfold sL ev_nl
  rw [show x.toBitVec.toNat = (x.toInt % 18446744073709551616).toNat by omega]
/-! the handlers, at a stack of any values -/
section HAND
variable {Φ : ev_P} {M : ev_M} {k : ev_N} {cl : ev_F} {nx a b c' pc : Nat} {tg : List Nat} {loc : ev_L} {r : List ev_V} {w : ev_W} {u v z : ev_V}
theorem gh_24 {i : Nat} {q : ev_C} (h : ev_get w.1 i = some q) (hk : q.1 = a) (h2 : ev_get q.2.2 b = some v) : ev_sel 24 Φ M k cl nx a b c' tg pc loc (.inr (.inl (some i)) :: r) w = k nx loc (v :: r) w := by
  show (match ev_get w.1 i with
    | some q => ev_if (Nat.beq q.1 a) (match ev_get q.2.2 b with
      | some v => k nx loc (v :: r) w
      | none => none) none
    | none => none) = _
  rw [h]
  show ev_if (Nat.beq q.1 a) (match ev_get q.2.2 b with
      | some v => k nx loc (v :: r) w
      | none => none) none = _
  rw [hk, Nat.beq_refl, h2]
  rfl
theorem gh_25 {i : Nat} {q : ev_C} (h : ev_get w.1 i = some q) (hk : q.1 = a) (hf : ev_fits c' v = true) : ev_sel 25 Φ M k cl nx a b c' tg pc loc (v :: .inr (.inl (some i)) :: r) w = ev_upd w i q b v (k nx loc r) := by
  show (match ev_get w.1 i with
    | some q => ev_if (Nat.beq q.1 a && ev_fits c' v) (ev_upd w i q b v (k nx loc r)) none
    | none => none) = _
  rw [h]
  show ev_if (Nat.beq q.1 a && ev_fits c' v) (ev_upd w i q b v (k nx loc r)) none = _
  rw [hk, Nat.beq_refl, hf]
  rfl
theorem gh_26 {i : Nat} {q : ev_C} (h : ev_get w.1 i = some q) (hi : i < 1000000) (hk : 20 ≤ q.1 ∧ q.1 ≤ 25) : ev_sel 26 Φ M k cl nx a b c' tg pc loc (.inr (.inl (some i)) :: r) w = k nx loc (.inl q.2.1 :: r) w := by
  show ev_if (Nat.beq i 1000000) (ev_if (Nat.ble Φ.1 5000) (k nx loc (.inl Φ.1 :: r) w) none) (match ev_get w.1 i with
    | some q => ev_if (Nat.ble 20 q.1 && Nat.ble q.1 28) (k nx loc (.inl q.2.1 :: r) w) none
    | none => none) = _
  rw [Bool.eq_false_iff.mpr (fun z => by have := Nat.eq_of_beq_eq_true z; omega : ¬ Nat.beq i 1000000 = true), h]
  show ev_if (Nat.ble 20 q.1 && Nat.ble q.1 28) (k nx loc (.inl q.2.1 :: r) w) none = _
  rw [Nat.ble_eq.mpr hk.1, Nat.ble_eq.mpr (show q.1 ≤ 28 by omega)]
  rfl
theorem gh_29 {i j : Nat} {q : ev_C} (h : ev_get w.1 i = some q) (hk : a ≤ q.1 ∧ q.1 ≤ b) (hj : j < q.2.1 ∧ q.2.1 ≤ 65536) (h2 : ev_get q.2.2 j = some v) : ev_sel 29 Φ M k cl nx a b c' tg pc loc (.inl j :: .inr (.inl (some i)) :: r) w = k nx loc (v :: r) w := by
  show (match ev_get w.1 i with
    | some q => ev_if (Nat.ble a q.1 && (Nat.ble q.1 b && (Nat.ble (j + 1) q.2.1 && Nat.ble q.2.1 65536))) (match ev_get q.2.2 j with
      | some v => k nx loc (v :: r) w
      | none => none) none
    | none => none) = _
  rw [h]
  show ev_if (Nat.ble a q.1 && (Nat.ble q.1 b && (Nat.ble (j + 1) q.2.1 && Nat.ble q.2.1 65536))) (match ev_get q.2.2 j with
      | some v => k nx loc (v :: r) w
      | none => none) none = _
  rw [Nat.ble_eq.mpr hk.1, Nat.ble_eq.mpr hk.2, Nat.ble_eq.mpr (show j + 1 ≤ q.2.1 by omega), Nat.ble_eq.mpr hj.2, h2]
  rfl
theorem gh_27 {i j : Nat} {q : ev_C} (h : ev_get w.1 i = some q) (hi : i < 1000000) (hk : a ≤ q.1 ∧ q.1 ≤ b) (hj : j < q.2.1 ∧ q.2.1 ≤ 65536) (h2 : ev_get q.2.2 j = some v) : ev_sel 27 Φ M k cl nx a b c' tg pc loc (.inl j :: .inr (.inl (some i)) :: r) w = k nx loc (v :: r) w := by
  show ev_if (Nat.beq i 1000000) _ (ev_h_ald Φ M k cl nx a b c' tg pc loc (.inl j :: .inr (.inl (some i)) :: r) w) = _
  rw [Bool.eq_false_iff.mpr (fun z => by have := Nat.eq_of_beq_eq_true z; omega : ¬ Nat.beq i 1000000 = true)]
  exact gh_29 (Φ := Φ) (M := M) (cl := cl) (c' := c') (tg := tg) (pc := pc) h hk hj h2
theorem gh_28 {i j : Nat} {q : ev_C} (h : ev_get w.1 i = some q) (hk : q.1 = 20) (hj : j < q.2.1 ∧ q.2.1 ≤ 65536) (hv : ev_ii v = true) : ev_sel 28 Φ M k cl nx a b c' tg pc loc (v :: .inl j :: .inr (.inl (some i)) :: r) w = ev_upd w i q j v (k nx loc r) := by
  show (match ev_get w.1 i with
    | some q => ev_if (Nat.beq q.1 20 && (ev_ii v && (Nat.ble (j + 1) q.2.1 && Nat.ble q.2.1 65536))) (ev_upd w i q j v (k nx loc r)) none
    | none => none) = _
  rw [h]
  show ev_if (Nat.beq q.1 20 && (ev_ii v && (Nat.ble (j + 1) q.2.1 && Nat.ble q.2.1 65536))) (ev_upd w i q j v (k nx loc r)) none = _
  rw [hk, Nat.beq_refl, hv, Nat.ble_eq.mpr (show j + 1 ≤ q.2.1 by omega), Nat.ble_eq.mpr hj.2]
  rfl
theorem gh_30b {i j : Nat} {q : ev_C} (h : ev_get w.1 i = some q) (hk : q.1 = 21) (hj : j < q.2.1 ∧ q.2.1 ≤ 65536) (hv : ev_nb v = some z) : ev_sel 30 Φ M k cl nx a b c' tg pc loc (v :: .inl j :: .inr (.inl (some i)) :: r) w = ev_upd w i q j z (k nx loc r) := by
  show (match ev_get w.1 i with
    | some q => ev_if (Nat.ble (j + 1) q.2.1 && Nat.ble q.2.1 65536)
      (ev_if (Nat.beq q.1 21) (match ev_nb v with
        | some z => ev_upd w i q j z (k nx loc r)
        | none => none) (ev_if (Nat.beq q.1 22 && ev_fits 1 v) (ev_upd w i q j v (k nx loc r)) none)) none
    | none => none) = _
  rw [h]
  show ev_if (Nat.ble (j + 1) q.2.1 && Nat.ble q.2.1 65536)
      (ev_if (Nat.beq q.1 21) (match ev_nb v with
        | some z => ev_upd w i q j z (k nx loc r)
        | none => none) (ev_if (Nat.beq q.1 22 && ev_fits 1 v) (ev_upd w i q j v (k nx loc r)) none)) none = _
  rw [hk, Nat.ble_eq.mpr (show j + 1 ≤ q.2.1 by omega), Nat.ble_eq.mpr hj.2, hv]
  rfl
theorem gh_30z {i j : Nat} {q : ev_C} (h : ev_get w.1 i = some q) (hk : q.1 = 22) (hj : j < q.2.1 ∧ q.2.1 ≤ 65536) (hv : ev_fits 1 v = true) : ev_sel 30 Φ M k cl nx a b c' tg pc loc (v :: .inl j :: .inr (.inl (some i)) :: r) w = ev_upd w i q j v (k nx loc r) := by
  show (match ev_get w.1 i with
    | some q => ev_if (Nat.ble (j + 1) q.2.1 && Nat.ble q.2.1 65536)
      (ev_if (Nat.beq q.1 21) (match ev_nb v with
        | some z => ev_upd w i q j z (k nx loc r)
        | none => none) (ev_if (Nat.beq q.1 22 && ev_fits 1 v) (ev_upd w i q j v (k nx loc r)) none)) none
    | none => none) = _
  rw [h]
  show ev_if (Nat.ble (j + 1) q.2.1 && Nat.ble q.2.1 65536)
      (ev_if (Nat.beq q.1 21) (match ev_nb v with
        | some z => ev_upd w i q j z (k nx loc r)
        | none => none) (ev_if (Nat.beq q.1 22 && ev_fits 1 v) (ev_upd w i q j v (k nx loc r)) none)) none = _
  rw [hk, Nat.ble_eq.mpr (show j + 1 ≤ q.2.1 by omega), Nat.ble_eq.mpr hj.2, hv]
  rfl
theorem gh_31 {i j : Nat} {q : ev_C} (h : ev_get w.1 i = some q) (hk : q.1 = 23) (hj : j < q.2.1 ∧ q.2.1 ≤ 65536) (hv : ev_ik 0 v = true) : ev_sel 31 Φ M k cl nx a b c' tg pc loc (v :: .inl j :: .inr (.inl (some i)) :: r) w = ev_upd w i q j v (k nx loc r) := by
  show (match ev_get w.1 i with
    | some q => ev_if (Nat.beq q.1 23 && (ev_ik 0 v && (Nat.ble (j + 1) q.2.1 && Nat.ble q.2.1 65536))) (ev_upd w i q j v (k nx loc r)) none
    | none => none) = _
  rw [h]
  show ev_if (Nat.beq q.1 23 && (ev_ik 0 v && (Nat.ble (j + 1) q.2.1 && Nat.ble q.2.1 65536))) (ev_upd w i q j v (k nx loc r)) none = _
  rw [hk, Nat.beq_refl, hv, Nat.ble_eq.mpr (show j + 1 ≤ q.2.1 by omega), Nat.ble_eq.mpr hj.2]
  rfl
theorem gh_43 (h : ev_cv a u = some z) : ev_sel 43 Φ M k cl nx a b c' tg pc loc (u :: r) w = k nx loc (z :: r) w := by
  show (match ev_cv a u with
    | some z => k nx loc (z :: r) w
    | none => none) = _
  rw [h]
theorem gh_44 (h : ev_w2 a u v = some z) (hs : Nat.ble (ev_cs r) 8 = true) (hm : ev_may M w 0 0 = true) : ev_sel 44 Φ M k cl nx a b c' tg pc loc (v :: u :: r) w = k nx loc (z :: r) w := by
  show (match ev_w2 a u v with
    | some z => ev_if (Nat.ble (ev_cs r) 8 && ev_may M w 0 0) (k nx loc (z :: r) w) none
    | none => none) = _
  rw [h]
  show ev_if (Nat.ble (ev_cs r) 8 && ev_may M w 0 0) (k nx loc (z :: r) w) none = _
  rw [hs, hm]
  rfl
theorem gh_may {c s mc ms : Nat} (hz : w.2.2.2 = (c, s)) (h : c + mc ≤ M.2.1 ∧ s + ms ≤ M.2.2.1) : ev_may M w mc ms = true := by
  show (Nat.ble (w.2.2.2.1 + mc) M.2.1 && Nat.ble (w.2.2.2.2 + ms) M.2.2.1) = true
  rw [hz]
  show (Nat.ble (c + mc) M.2.1 && Nat.ble (s + ms) M.2.2.1) = true
  rw [Nat.ble_eq.mpr h.1, Nat.ble_eq.mpr h.2]
  rfl
theorem gh_35 {As : List ev_V} {mc ms : Nat} {st : List ev_V} (hsp : ev_sp b [] st = some (As, r)) (hs : Nat.ble (ev_cs r) 8 = true) (hm : ev_may M w mc ms = true) (hw : As.all (fun v => !ev_wide v) = true) (hr : ev_rc c' As w = true) :
    ev_sel 35 Φ M k cl nx a b c' [mc, ms] pc loc st w = ev_cont M k nx pc loc r w mc ms (cl a As (w.1, (w.2.1, (w.2.2.1, (0, 0))))) := by
  show (match ev_sp b [] st with
  | some (As, r) => ev_if (Nat.ble (ev_cs r) 8 && (ev_may M w mc ms && As.all (fun v => !ev_wide v))) (ev_if (ev_rc c' As w) (ev_cont M k nx pc loc r w mc ms (cl a As (w.1, (w.2.1, (w.2.2.1, (0, 0)))))) none) none
  | none => none) = _
  rw [hsp]
  show ev_if (Nat.ble (ev_cs r) 8 && (ev_may M w mc ms && As.all (fun v => !ev_wide v))) (ev_if (ev_rc c' As w) (ev_cont M k nx pc loc r w mc ms (cl a As (w.1, (w.2.1, (w.2.2.1, (0, 0)))))) none) none = _
  rw [hs, hm, hw, hr]
  rfl
theorem gh_37 {st : List ev_V} (hm : ev_may M w 1 6 = true) (hs : Nat.ble (ev_cs st) 8 = true) : ev_sel 37 Φ M k cl nx a b c' tg pc loc st w = some (.inr (.inl (a, (w.1, (w.2.1, (false, (w.2.2.2.1 + 1, w.2.2.2.2 + 6))))))) := by
  show ev_if (ev_may M w 1 6 && Nat.ble (ev_cs st) 8) _ none = _
  rw [hm, hs]
  rfl
theorem gh_38 (hm : ev_may M w 0 0 = true) : ev_sel 38 Φ M k cl nx a b c' tg pc loc [] w = some (.inl (none, w)) := by
  show ev_if (ev_may M w 0 0) _ none = _
  rw [hm]
  rfl
theorem gh_39 (hm : ev_may M w 0 0 = true) (hf : ev_fits a v = true) : ev_sel 39 Φ M k cl nx a b c' tg pc loc [v] w = some (.inl (some v, w)) := by
  show ev_if (ev_fits a v && ev_may M w 0 0) _ none = _
  rw [hm, hf]
  rfl
theorem gh_40 (hm : ev_may M w 0 0 = true) (hf : ev_ir v = true) : ev_sel 40 Φ M k cl nx a b c' tg pc loc [v] w = some (.inl (some v, w)) := by
  show ev_if (ev_ir v && ev_may M w 0 0) _ none = _
  rw [hm, hf]
  rfl
theorem gh_41 (hm : ev_may M w 0 0 = true) (hf : ev_ik a v = true) : ev_sel 41 Φ M k cl nx a b c' tg pc loc [v] w = some (.inl (some v, w)) := by
  show ev_if (ev_ik a v && ev_may M w 0 0) _ none = _
  rw [hm, hf]
  rfl
end HAND
theorem sI_B01 {v : Int} (h : B01 v) : ev_fits 1 (sI v) = true := by
  rcases h with rfl | rfl
  · rw [show sI 0 = .inl 0 from rfl]
    rfl
  · rw [show sI 1 = .inl 1 from rfl]
    rfl
