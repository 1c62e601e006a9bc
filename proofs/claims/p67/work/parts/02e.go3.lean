/-! ===== rows of the heap, calls, ends (own work) ===== -/
theorem go_lit {x : Int} (m : Nat) (h : (m : Int) = x) (hx : InR x) : sI x = .inl m := by
  subst h
  unfold InR at hx
  unfold sI
  congr 1
  omega
theorem toI_toInt (x : Int) : (toI x).toInt = w32 x := by
  show (BitVec.ofNat 32 (x % 4294967296).toNat).toInt = _
  rw [BitVec.toInt_ofNat']
  unfold w32
  simp only [Int.bmod_def]
  omega
theorem toL_toInt {x : Int} (h : L64 x) : (toL x).toInt = x := by
  show (BitVec.ofNat 64 (x % 18446744073709551616).toNat).toInt = _
  rw [BitVec.toInt_ofNat']
  unfold L64 at h
  simp only [Int.bmod_def]
  omega
section GO3
variable {β : Type} {Φ : ev_P} {P : Nat → ev_M} {f : β → Nat × (Int × gH)} {t : Nat} {X A B : Option β} {d : Nat} {M : ev_M} {pc nx : Nat} {loc : ev_L} {st r : List ev_V} {g : gH} {c s a b c' : Nat} {tg : List Nat} {x y p j bI : Int} {K : gH → Option β}
theorem typ_h {g : gH} {p bI : Int} {T : Nat} (hg : HR g) (hk : kd p = a) (hT : typ a bI = T) (hp : p < 624) : VT T (g p bI) := by
  subst hk hT
  exact hg p bI hp
/-- a field read -/
theorem go_get {T : Nat} (hc : M.2.2.2.2 pc = (24, (nx, (a, (b, (c', tg)))))) (hk : kd p = a) (ha : a < 7 ∧ b < (ty_T.getD a []).length) (hb : (b : Int) = bI) (hT : typ a bI = T) (k : Go Φ P f t X d M nx loc (dec T (g p bI) :: r) g c s) : Go Φ P f t X d M pc loc (sR p :: r) g c s := by
  have hp := kd_cl hk (Or.inl ha.1)
  have hs := sz_of hk (by omega)
  refine go_sl hc (fun w kk cl hw _ => ?_) k
  obtain ⟨q, h1, h2, h3, h4⟩ := wg_get (a := p) (b := bI) hw hp ⟨by omega, by omega⟩
  rw [sR_pos hp.1]
  rw [hk, hT, show bI.toNat = b by omega] at h4
  exact gh_24 h1 (h2.trans hk) h4
theorem go_getI (hc : M.2.2.2.2 pc = (24, (nx, (a, (b, (c', tg)))))) (hg : HR g) (hk : kd p = a) (ha : a < 7 ∧ b < (ty_T.getD a []).length) (hb : (b : Int) = bI) (hT : typ a bI = 0) (k : InR (g p bI) → Go Φ P f t X d M nx loc (sI (g p bI) :: r) g c s) : Go Φ P f t X d M pc loc (sR p :: r) g c s :=
  go_get (T := 0) hc hk ha hb hT (k (typ_h hg hk hT (kd_cl hk (Or.inl ha.1)).2))
theorem go_getB (hc : M.2.2.2.2 pc = (24, (nx, (a, (b, (c', tg)))))) (hg : HR g) (hk : kd p = a) (ha : a < 7 ∧ b < (ty_T.getD a []).length) (hb : (b : Int) = bI) (hT : typ a bI = 1) (k : B01 (g p bI) → Go Φ P f t X d M nx loc (sI (g p bI) :: r) g c s) : Go Φ P f t X d M pc loc (sR p :: r) g c s :=
  go_get (T := 1) hc hk ha hb hT (k (typ_h hg hk hT (kd_cl hk (Or.inl ha.1)).2))
theorem go_getR (hc : M.2.2.2.2 pc = (24, (nx, (a, (b, (c', tg)))))) (hg : HR g) (hk : kd p = a) (ha : a < 7 ∧ b < (ty_T.getD a []).length) (hb : (b : Int) = bI) (hT : typ a bI = 2) (k : RfR (g p bI) → Go Φ P f t X d M nx loc (sR (g p bI) :: r) g c s) : Go Φ P f t X d M pc loc (sR p :: r) g c s :=
  go_get (T := 2) hc hk ha hb hT (k (typ_h hg hk hT (kd_cl hk (Or.inl ha.1)).2))
theorem go_getL (hc : M.2.2.2.2 pc = (24, (nx, (a, (b, (c', tg)))))) (hg : HR g) (hk : kd p = a) (ha : a < 7 ∧ b < (ty_T.getD a []).length) (hb : (b : Int) = bI) (hT : typ a bI = 3) (k : L64 (g p bI) → Go Φ P f t X d M nx loc (sL (g p bI) :: r) g c s) : Go Φ P f t X d M pc loc (sR p :: r) g c s :=
  go_get (T := 3) hc hk ha hb hT (k (typ_h hg hk hT (kd_cl hk (Or.inl ha.1)).2))
/-- a field written -/
theorem go_put {T : Nat} {op : Nat} {st : List ev_V} (hc : M.2.2.2.2 pc = (op, (nx, (a, (b, (c', tg)))))) (hg : HR g) (hp : 0 ≤ p ∧ p < 624) (hb : 0 ≤ bI ∧ bI < sz p) (hT : typ (kd p) bI = T) (hv : VT T x) (h : ∀ (w : ev_W) (k : ev_N) (cl : ev_F) (q : ev_C), ev_get w.1 p.toNat = some q → q.1 = kd p → (q.2.1 : Int) = sz p → ev_sel op Φ M k cl nx a b c' tg pc loc st w = ev_upd w p.toNat q bI.toNat (dec T x) (k nx loc r))
    (k : ∀ g1, HR g1 → Go Φ P f t (K g1) d M nx loc r g1 c s) : Go Φ P f t (bnd (pU g p bI x) K) d M pc loc st g c s := by
  refine go_step hc (fun w hw hz => ?_) (k (pU g p bI x) (hr_pU hg (by rw [hT]; exact hv)))
  obtain ⟨q, x9, h1, h2, h3, h4, h5, h6⟩ := wg_pU (v := x) hw hp hb
  refine ⟨(x9, w.2), h5, rfl, fun kk cl => ?_⟩
  rw [h w kk cl q h1 h2 h3, ← hT]
  exact h6 _
theorem go_putf {T : Nat} (hc : M.2.2.2.2 pc = (25, (nx, (a, (b, (c', tg)))))) (hg : HR g) (hk : kd p = a) (ha : a < 7 ∧ b < (ty_T.getD a []).length) (hb : (b : Int) = bI) (hT : typ a bI = T) (hv : VT T x) (hf : ev_fits c' (dec T x) = true)
    (k : ∀ g1, HR g1 → Go Φ P f t (K g1) d M nx loc r g1 c s) : Go Φ P f t (bnd (pU g p bI x) K) d M pc loc (dec T x :: sR p :: r) g c s := by
  have hp := kd_cl hk (Or.inl ha.1)
  have hs := sz_of hk (by omega)
  refine go_put hc hg hp (by omega) (by rw [hk]; exact hT) hv (fun w kk cl q h1 h2 h3 => ?_) k
  rw [sR_pos hp.1, show bI.toNat = b by omega]
  exact gh_25 h1 (h2.trans hk) hf
theorem go_putI (hc : M.2.2.2.2 pc = (25, (nx, (a, (b, (0, tg)))))) (hg : HR g) (hk : kd p = a) (ha : a < 7 ∧ b < (ty_T.getD a []).length) (hb : (b : Int) = bI) (hT : typ a bI = 0) (hv : InR x)
    (k : ∀ g1, HR g1 → Go Φ P f t (K g1) d M nx loc r g1 c s) : Go Φ P f t (bnd (pU g p bI x) K) d M pc loc (sI x :: sR p :: r) g c s := go_putf (T := 0) hc hg hk ha hb hT hv rfl k
theorem go_putB (hc : M.2.2.2.2 pc = (25, (nx, (a, (b, (1, tg)))))) (hg : HR g) (hk : kd p = a) (ha : a < 7 ∧ b < (ty_T.getD a []).length) (hb : (b : Int) = bI) (hT : typ a bI = 1) (hv : B01 x)
    (k : ∀ g1, HR g1 → Go Φ P f t (K g1) d M nx loc r g1 c s) : Go Φ P f t (bnd (pU g p bI x) K) d M pc loc (sI x :: sR p :: r) g c s := go_putf (T := 1) hc hg hk ha hb hT hv (sI_B01 hv) k
theorem go_putR (hc : M.2.2.2.2 pc = (25, (nx, (a, (b, (2, tg)))))) (hg : HR g) (hk : kd p = a) (ha : a < 7 ∧ b < (ty_T.getD a []).length) (hb : (b : Int) = bI) (hT : typ a bI = 2) (hv : RfR x)
    (k : ∀ g1, HR g1 → Go Φ P f t (K g1) d M nx loc r g1 c s) : Go Φ P f t (bnd (pU g p bI x) K) d M pc loc (sR x :: sR p :: r) g c s := go_putf (T := 2) hc hg hk ha hb hT hv rfl k
theorem go_putL (hc : M.2.2.2.2 pc = (25, (nx, (a, (b, (3, tg)))))) (hg : HR g) (hk : kd p = a) (ha : a < 7 ∧ b < (ty_T.getD a []).length) (hb : (b : Int) = bI) (hT : typ a bI = 3) (hv : L64 x)
    (k : ∀ g1, HR g1 → Go Φ P f t (K g1) d M nx loc r g1 c s) : Go Φ P f t (bnd (pU g p bI x) K) d M pc loc (sL x :: sR p :: r) g c s := go_putf (T := 3) hc hg hk ha hb hT hv rfl k
/-! arrays -/
theorem rfR_pt {p : Int} {k : Nat} (h : kd p = k) (hk : k < 7 ∨ k = 24 ∨ k = 25) : RfR p := by
  have := kd_cl h hk
  unfold RfR
  omega
theorem go_alen (hc : M.2.2.2.2 pc = (26, (nx, (a, (b, (c', tg)))))) (hk : 20 ≤ kd p ∧ kd p ≤ 25) (hr : RfR p) (k : InR (sz p) → Go Φ P f t X d M nx loc (sI (sz p) :: r) g c s) : Go Φ P f t X d M pc loc (sR p :: r) g c s := by
  have hp : 0 ≤ p ∧ p < 624 := ⟨(kd_lt (a := p) rfl (by omega)).1, hr.2⟩
  refine go_sl hc (fun w kk cl hw _ => ?_) (k (inR_sz p))
  obtain ⟨q, h1, h2, h3⟩ := wg_cell (a := p) hw hp
  rw [sR_pos hp.1, go_lit (x := sz p) q.2.1 h3 (inR_sz p)]
  exact gh_26 h1 (by omega) (by omega)
theorem go_ldx {op T kk : Nat} (hop : op = 27 ∨ op = 29) (hc : M.2.2.2.2 pc = (op, (nx, (a, (b, (c', tg)))))) (h : kd p = kk ∧ 0 ≤ j ∧ j < sz p) (hr : RfR p) (hk : a ≤ kk ∧ kk ≤ b ∧ kk < 99) (hT : typ kk j = T) (k : Go Φ P f t X d M nx loc (dec T (g p j) :: r) g c s) : Go Φ P f t X d M pc loc (sI j :: sR p :: r) g c s := by
  obtain ⟨h0, h1, h2⟩ := h
  have hp : 0 ≤ p ∧ p < 624 := ⟨(kd_lt h0 (by omega)).1, hr.2⟩
  have hs := sz_bd p
  refine go_sl hc (fun w kk9 cl hw _ => ?_) k
  obtain ⟨q, e1, e2, e3, e4⟩ := wg_get (a := p) (b := j) hw hp ⟨h1, h2⟩
  rw [h0, hT] at e4
  rw [sR_pos hp.1, go_lit (x := j) j.toNat (by omega) (by unfold InR; omega)]
  rcases hop with rfl | rfl
  · exact gh_27 e1 (by omega) (by omega) (by omega) e4
  · exact gh_29 e1 (by omega) (by omega) e4
theorem go_iald (hc : M.2.2.2.2 pc = (27, (nx, (20, (20, (c', tg)))))) (hg : HR g) (h : kd p = 20 ∧ 0 ≤ j ∧ j < sz p) (hr : RfR p) (k : InR (g p j) → Go Φ P f t X d M nx loc (sI (g p j) :: r) g c s) : Go Φ P f t X d M pc loc (sI j :: sR p :: r) g c s :=
  go_ldx (T := 0) (kk := 20) (Or.inl rfl) hc h hr (by omega) rfl (k (typ_h (T := 0) (bI := j) hg h.1 rfl hr.2))
theorem go_bald (hc : M.2.2.2.2 pc = (29, (nx, (21, (22, (c', tg)))))) (hg : HR g) (h : kd p = 21 ∧ 0 ≤ j ∧ j < sz p) (hr : RfR p) (k : InR (g p j) → Go Φ P f t X d M nx loc (sI (g p j) :: r) g c s) : Go Φ P f t X d M pc loc (sI j :: sR p :: r) g c s :=
  go_ldx (T := 0) (kk := 21) (Or.inr rfl) hc h hr (by omega) rfl (k (typ_h (T := 0) (bI := j) hg h.1 rfl hr.2))
theorem go_zald (hc : M.2.2.2.2 pc = (29, (nx, (21, (22, (c', tg)))))) (hg : HR g) (h : kd p = 22 ∧ 0 ≤ j ∧ j < sz p) (hr : RfR p) (k : B01 (g p j) → Go Φ P f t X d M nx loc (sI (g p j) :: r) g c s) : Go Φ P f t X d M pc loc (sI j :: sR p :: r) g c s :=
  go_ldx (T := 1) (kk := 22) (Or.inr rfl) hc h hr (by omega) rfl (k (typ_h (T := 1) (bI := j) hg h.1 rfl hr.2))
theorem go_lald (hc : M.2.2.2.2 pc = (29, (nx, (23, (23, (c', tg)))))) (hg : HR g) (h : kd p = 23 ∧ 0 ≤ j ∧ j < sz p) (hr : RfR p) (k : L64 (g p j) → Go Φ P f t X d M nx loc (sL (g p j) :: r) g c s) : Go Φ P f t X d M pc loc (sI j :: sR p :: r) g c s :=
  go_ldx (T := 3) (kk := 23) (Or.inr rfl) hc h hr (by omega) rfl (k (typ_h (T := 3) (bI := j) hg h.1 rfl hr.2))
theorem go_pald (hc : M.2.2.2.2 pc = (29, (nx, (24, (25, (c', tg)))))) (hg : HR g) (h : kd p = 24 ∧ 0 ≤ j ∧ j < sz p) (k : RfR (g p j) → Go Φ P f t X d M nx loc (sR (g p j) :: r) g c s) : Go Φ P f t X d M pc loc (sI j :: sR p :: r) g c s :=
  go_ldx (T := 2) (kk := 24) (Or.inr rfl) hc h (rfR_pt h.1 (by omega)) (by omega) rfl (k (typ_h (T := 2) (bI := j) hg h.1 rfl (kd_cl h.1 (by omega)).2))
theorem go_tald (hc : M.2.2.2.2 pc = (29, (nx, (24, (25, (c', tg)))))) (hg : HR g) (h : kd p = 25 ∧ 0 ≤ j ∧ j < sz p) (k : RfR (g p j) → Go Φ P f t X d M nx loc (sR (g p j) :: r) g c s) : Go Φ P f t X d M pc loc (sI j :: sR p :: r) g c s :=
  go_ldx (T := 2) (kk := 25) (Or.inr rfl) hc h (rfR_pt h.1 (by omega)) (by omega) rfl (k (typ_h (T := 2) (bI := j) hg h.1 rfl (kd_cl h.1 (by omega)).2))
theorem go_iast (hc : M.2.2.2.2 pc = (28, (nx, (a, (b, (c', tg)))))) (hg : HR g) (h : kd p = 20 ∧ 0 ≤ j ∧ j < sz p) (hr : RfR p) (hv : InR x) (k : ∀ g1, HR g1 → Go Φ P f t (K g1) d M nx loc r g1 c s) : Go Φ P f t (bnd (pU g p j x) K) d M pc loc (sI x :: sI j :: sR p :: r) g c s := by
  obtain ⟨h0, h1, h2⟩ := h
  have hp : 0 ≤ p ∧ p < 624 := ⟨(kd_lt h0 (by omega)).1, hr.2⟩
  have hs := sz_bd p
  refine go_put (T := 0) hc hg hp ⟨h1, h2⟩ (by rw [h0]; rfl) hv (fun w kk cl q e1 e2 e3 => ?_) k
  rw [sR_pos hp.1, go_lit (x := j) j.toNat (by omega) (by unfold InR; omega)]
  exact gh_28 e1 (e2.trans h0) (by omega) rfl
theorem go_bast (hc : M.2.2.2.2 pc = (30, (nx, (a, (b, (c', tg)))))) (hg : HR g) (h : kd p = 21 ∧ 0 ≤ j ∧ j < sz p) (hr : RfR p) (k : ∀ g1, HR g1 → Go Φ P f t (K g1) d M nx loc r g1 c s) : Go Φ P f t (bnd (pU g p j (i2b x)) K) d M pc loc (sI x :: sI j :: sR p :: r) g c s := by
  obtain ⟨h0, h1, h2⟩ := h
  have hp : 0 ≤ p ∧ p < 624 := ⟨(kd_lt h0 (by omega)).1, hr.2⟩
  have hs := sz_bd p
  refine go_put (T := 0) hc hg hp ⟨h1, h2⟩ (by rw [h0]; rfl) (inR_i2b x) (fun w kk cl q e1 e2 e3 => ?_) k
  rw [sR_pos hp.1, go_lit (x := j) j.toNat (by omega) (by unfold InR; omega)]
  refine gh_30b e1 (e2.trans h0) (by omega) ?_
  show some (.inl (ev_n (nI (x % 4294967296).toNat).toInt8.toInt32)) = some (sI (i2b x))
  rw [ev_n_sI]
  rfl
theorem go_zast (hc : M.2.2.2.2 pc = (30, (nx, (a, (b, (c', tg)))))) (hg : HR g) (h : kd p = 22 ∧ 0 ≤ j ∧ j < sz p) (hr : RfR p) (hv : B01 x) (k : ∀ g1, HR g1 → Go Φ P f t (K g1) d M nx loc r g1 c s) : Go Φ P f t (bnd (pU g p j x) K) d M pc loc (sI x :: sI j :: sR p :: r) g c s := by
  obtain ⟨h0, h1, h2⟩ := h
  have hp : 0 ≤ p ∧ p < 624 := ⟨(kd_lt h0 (by omega)).1, hr.2⟩
  have hs := sz_bd p
  refine go_put (T := 1) hc hg hp ⟨h1, h2⟩ (by rw [h0]; rfl) hv (fun w kk cl q e1 e2 e3 => ?_) k
  rw [sR_pos hp.1, go_lit (x := j) j.toNat (by omega) (by unfold InR; omega)]
  exact gh_30z e1 (e2.trans h0) (by omega) (sI_B01 hv)
theorem go_last (hc : M.2.2.2.2 pc = (31, (nx, (a, (b, (c', tg)))))) (hg : HR g) (h : kd p = 23 ∧ 0 ≤ j ∧ j < sz p) (hr : RfR p) (hv : L64 x) (k : ∀ g1, HR g1 → Go Φ P f t (K g1) d M nx loc r g1 c s) : Go Φ P f t (bnd (pU g p j x) K) d M pc loc (sL x :: sI j :: sR p :: r) g c s := by
  obtain ⟨h0, h1, h2⟩ := h
  have hp : 0 ≤ p ∧ p < 624 := ⟨(kd_lt h0 (by omega)).1, hr.2⟩
  have hs := sz_bd p
  refine go_put (T := 3) hc hg hp ⟨h1, h2⟩ (by rw [h0]; rfl) hv (fun w kk cl q e1 e2 e3 => ?_) k
  rw [sR_pos hp.1, go_lit (x := j) j.toNat (by omega) (by unfold InR; omega)]
  exact gh_31 e1 (e2.trans h0) (by omega) rfl
/-! numbers of other kinds -/
theorem go_i2l (hc : M.2.2.2.2 pc = (43, (nx, (0, (b, (c', tg)))))) (hx : InR x) (k : Go Φ P f t X d M nx loc (sL x :: r) g c s) : Go Φ P f t X d M pc loc (sI x :: r) g c s :=
  go_sl hc (fun w kk cl _ _ => gh_43 (by
    show some (.inr (.inr (.inr (0, ev_nl (nI (x % 4294967296).toNat).toInt64)))) = some (sL x)
    rw [ev_nl_sL]
    congr 2
    rw [Int32.toInt_toInt64]
    exact (toI_toInt x).trans (w32_id hx))) k
theorem go_l2i (hc : M.2.2.2.2 pc = (43, (nx, (1, (b, (c', tg)))))) (k : Go Φ P f t X d M nx loc (sI (toL x).toInt32.toInt :: r) g c s) : Go Φ P f t X d M pc loc (sL x :: r) g c s :=
  go_sl hc (fun w kk cl _ _ => gh_43 (by
    show (some (.inl (ev_n (lN (x % 18446744073709551616).toNat).toInt32)) : Option ev_V) = _
    rw [ev_n_sI]
    rfl)) k
theorem go_i2d (hc : M.2.2.2.2 pc = (43, (nx, (2, (b, (c', tg)))))) (k : Go Φ P f t X d M nx loc (sD (gi2d x) :: r) g c s) : Go Φ P f t X d M pc loc (sI x :: r) g c s :=
  go_sl hc (fun w kk cl _ _ => gh_43 rfl) k
theorem go_i2f (hc : M.2.2.2.2 pc = (43, (nx, (3, (b, (c', tg)))))) (k : Go Φ P f t X d M nx loc (sF (gi2f x) :: r) g c s) : Go Φ P f t X d M pc loc (sI x :: r) g c s :=
  go_sl hc (fun w kk cl _ _ => gh_43 rfl) k
theorem go_f2d (hc : M.2.2.2.2 pc = (43, (nx, (4, (b, (c', tg)))))) (h : okf2d x = true) (k : Go Φ P f t X d M nx loc (sD (gf2d x) :: r) g c s) : Go Φ P f t X d M pc loc (sF x :: r) g c s :=
  go_sl hc (fun w kk cl _ _ => gh_43 (by
    show ev_if (okf2d x) (some (sD (gf2d x))) none = _
    rw [h]
    rfl)) k
theorem go_i2b (hc : M.2.2.2.2 pc = (43, (nx, (5, (b, (c', tg)))))) (k : Go Φ P f t X d M nx loc (sI (i2b x) :: r) g c s) : Go Φ P f t X d M pc loc (sI x :: r) g c s :=
  go_sl hc (fun w kk cl _ _ => gh_43 (by
    show (some (.inl (ev_n (nI (x % 4294967296).toNat).toInt8.toInt32)) : Option ev_V) = _
    rw [ev_n_sI]
    rfl)) k
theorem go_i2c (hc : M.2.2.2.2 pc = (43, (nx, (6, (b, (c', tg)))))) (k : Go Φ P f t X d M nx loc (sI (x % 65536) :: r) g c s) : Go Φ P f t X d M pc loc (sI x :: r) g c s :=
  go_sl hc (fun w kk cl _ _ => gh_43 (by
    show (some (.inl ((x % 4294967296).toNat % 65536)) : Option ev_V) = some (.inl ((x % 65536) % 4294967296).toNat)
    rw [show (x % 4294967296).toNat % 65536 = ((x % 65536) % 4294967296).toNat by omega])) k
theorem go_w2 {j : Nat} {u v z : ev_V} (hc : M.2.2.2.2 pc = (44, (nx, (j, (b, (c', tg)))))) (h : ev_w2 j u v = some z) (hs : Nat.ble (ev_cs r) 8 = true) (hm : c ≤ M.2.1 ∧ s ≤ M.2.2.1) (k : Go Φ P f t X d M nx loc (z :: r) g c s) : Go Φ P f t X d M pc loc (v :: u :: r) g c s :=
  go_sl hc (fun w kk cl _ hz => gh_44 h hs (gh_may hz hm)) k
theorem go_ddiv (hc : M.2.2.2.2 pc = (44, (nx, (0, (b, (c', tg)))))) (h : okddiv x y = true) (hs : Nat.ble (ev_cs r) 8 = true) (hm : c ≤ M.2.1 ∧ s ≤ M.2.2.1) (k : Go Φ P f t X d M nx loc (sD (gddiv x y) :: r) g c s) : Go Φ P f t X d M pc loc (sD y :: sD x :: r) g c s :=
  go_w2 hc (by
    show ev_if (okddiv x y) (some (sD (gddiv x y))) none = _
    rw [h]
    rfl) hs hm k
theorem go_fdiv (hc : M.2.2.2.2 pc = (44, (nx, (1, (b, (c', tg)))))) (h : okfdiv x y = true) (hs : Nat.ble (ev_cs r) 8 = true) (hm : c ≤ M.2.1 ∧ s ≤ M.2.2.1) (k : Go Φ P f t X d M nx loc (sF (gfdiv x y) :: r) g c s) : Go Φ P f t X d M pc loc (sF y :: sF x :: r) g c s :=
  go_w2 hc (by
    show ev_if (okfdiv x y) (some (sF (gfdiv x y))) none = _
    rw [h]
    rfl) hs hm k
theorem go_dcmpl (hc : M.2.2.2.2 pc = (44, (nx, (2, (b, (c', tg)))))) (hs : Nat.ble (ev_cs r) 8 = true) (hm : c ≤ M.2.1 ∧ s ≤ M.2.2.1) (k : Go Φ P f t X d M nx loc (sI (gdcmp 2 x y) :: r) g c s) : Go Φ P f t X d M pc loc (sD y :: sD x :: r) g c s :=
  go_w2 hc (by
    show (some (.inl (ev_n _)) : Option ev_V) = _
    rw [ev_n_sI]
    rfl) hs hm k
theorem go_dcmpg (hc : M.2.2.2.2 pc = (44, (nx, (3, (b, (c', tg)))))) (hs : Nat.ble (ev_cs r) 8 = true) (hm : c ≤ M.2.1 ∧ s ≤ M.2.2.1) (k : Go Φ P f t X d M nx loc (sI (gdcmp 3 x y) :: r) g c s) : Go Φ P f t X d M pc loc (sD y :: sD x :: r) g c s :=
  go_w2 hc (by
    show (some (.inl (ev_n _)) : Option ev_V) = _
    rw [ev_n_sI]
    rfl) hs hm k
theorem go_lcmp (hc : M.2.2.2.2 pc = (44, (nx, (4, (b, (c', tg)))))) (hs : Nat.ble (ev_cs r) 8 = true) (hm : c ≤ M.2.1 ∧ s ≤ M.2.2.1) (k : Go Φ P f t X d M nx loc (sI (glcmp x y) :: r) g c s) : Go Φ P f t X d M pc loc (sL y :: sL x :: r) g c s :=
  go_w2 hc (by
    show (some (.inl (ev_n _)) : Option ev_V) = _
    rw [ev_n_sI]
    rfl) hs hm k
theorem go_lshr (hc : M.2.2.2.2 pc = (44, (nx, (5, (b, (c', tg)))))) (hs : Nat.ble (ev_cs r) 8 = true) (hm : c ≤ M.2.1 ∧ s ≤ M.2.2.1) (k : Go Φ P f t X d M nx loc (sL (opS 0 x y) :: r) g c s) : Go Φ P f t X d M pc loc (sI y :: sL x :: r) g c s :=
  go_w2 hc (by
    show (some (.inr (.inr (.inr (0, ev_nl _)))) : Option ev_V) = _
    rw [ev_nl_sL]
    rfl) hs hm k
theorem go_lshl (hc : M.2.2.2.2 pc = (44, (nx, (6, (b, (c', tg)))))) (hs : Nat.ble (ev_cs r) 8 = true) (hm : c ≤ M.2.1 ∧ s ≤ M.2.2.1) (k : Go Φ P f t X d M nx loc (sL (opS 1 x y) :: r) g c s) : Go Φ P f t X d M pc loc (sI y :: sL x :: r) g c s :=
  go_w2 hc (by
    show (some (.inr (.inr (.inr (0, ev_nl _)))) : Option ev_V) = _
    rw [ev_nl_sL]
    rfl) hs hm k
theorem go_land (hc : M.2.2.2.2 pc = (44, (nx, (7, (b, (c', tg)))))) (hs : Nat.ble (ev_cs r) 8 = true) (hm : c ≤ M.2.1 ∧ s ≤ M.2.2.1) (k : Go Φ P f t X d M nx loc (sL (opL 0 x y) :: r) g c s) : Go Φ P f t X d M pc loc (sL y :: sL x :: r) g c s :=
  go_w2 hc (by
    show (some (.inr (.inr (.inr (0, ev_nl _)))) : Option ev_V) = _
    rw [ev_nl_sL]
    rfl) hs hm k
theorem go_lor (hc : M.2.2.2.2 pc = (44, (nx, (8, (b, (c', tg)))))) (hs : Nat.ble (ev_cs r) 8 = true) (hm : c ≤ M.2.1 ∧ s ≤ M.2.2.1) (k : Go Φ P f t X d M nx loc (sL (opL 1 x y) :: r) g c s) : Go Φ P f t X d M pc loc (sL y :: sL x :: r) g c s :=
  go_w2 hc (by
    show (some (.inr (.inr (.inr (0, ev_nl _)))) : Option ev_V) = _
    rw [ev_nl_sL]
    rfl) hs hm k
def gmax (x y : Int) : Int := if x < y then y else x
theorem inR_gmax {x y : Int} (hx : InR x) (hy : InR y) : InR (gmax x y) := by
  unfold gmax
  split
  · exact hy
  · exact hx
theorem gq_9 (m n : Nat) : ev_w2 9 (.inl m) (.inl n) = some (.inl (ev_if (Nat.ble (ev_bi m + 1) (ev_bi n)) n m)) := rfl
theorem go_max (hc : M.2.2.2.2 pc = (44, (nx, (9, (b, (c', tg)))))) (hx : InR x) (hy : InR y) (hs : Nat.ble (ev_cs r) 8 = true) (hm : c ≤ M.2.1 ∧ s ≤ M.2.2.1) (k : Go Φ P f t X d M nx loc (sI (gmax x y) :: r) g c s) : Go Φ P f t X d M pc loc (sI y :: sI x :: r) g c s :=
  go_w2 hc (by
    unfold sI
    rw [gq_9, gq_bi hx, gq_bi hy]
    unfold InR at hx hy
    unfold gmax
    by_cases h : x < y
    · rw [if_pos h, Nat.ble_eq.mpr (show (x + 2147483648).toNat + 1 ≤ (y + 2147483648).toNat by omega)]
      rfl
    · rw [if_neg h, gq_bf (show (y + 2147483648).toNat < (x + 2147483648).toNat + 1 by omega)]
      rfl) hs hm k
end GO3
