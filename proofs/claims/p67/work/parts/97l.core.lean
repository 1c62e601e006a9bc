/-! ===== the law's layer: a heap that grows (own work) =====
n cells so far, slots made, kinds, sizes, what stands in them, where the class's cells begin (-1: not made), the class's heap. -/
abbrev sS : Type := Int × (Int × ((Int → Nat) × ((Int → Int) × (gH × (Int × gH)))))
def sn (S : sS) : Int := S.1
def ss (S : sS) : Int := S.2.1
def sK (S : sS) (x : Int) : Nat := S.2.2.1 x
def sZ (S : sS) (x : Int) : Int := S.2.2.2.1 x
def sg (S : sS) (x y : Int) : Int := S.2.2.2.2.1 x y
def sb (S : sS) : Int := S.2.2.2.2.2.1
def sc (S : sS) : gH := S.2.2.2.2.2.2
/-- types: 0 int, 1 boolean, 2 a thing of the law's, 4 a byte, 5 a thing of the law's or a constant -/
def ty2_T : List (List Nat) := [[], [], [], [], [], [], [], [0, 0, 2, 2, 2, 0, 0, 0, 0, 0, 0, 1, 2], [2, 2, 2, 2, 0, 0, 0, 0], [0, 5, 0], [0, 0, 0, 2], [2, 0, 1, 0], [5, 0, 0, 1]]
def nf (k : Nat) : Nat := (ty2_T.getD k []).length
def ty2 (k : Nat) (b : Int) : Nat := if k < 13 then ((ty2_T.getD k []).getD b.toNat 0) else if k = 26 ∨ k = 27 then 2 else if k = 28 then 5 else if k = 21 then 4 else 0
def RfO (x : Int) : Prop := -1 ≤ x ∧ x < 1000000
def RfA (x : Int) : Prop := -1 ≤ x ∧ x < 3000000
def VT2 (t : Nat) (v : Int) : Prop := match t with
  | 0 => InR v
  | 1 => B01 v
  | 2 => RfO v
  | 4 => -128 ≤ v ∧ v < 128
  | 5 => RfA v
  | _ => InR v
def dec2 (t : Nat) (v : Int) : ev_V := match t with
  | 2 => sR v
  | 5 => sR v
  | _ => sI v
/-- a value of the class's heap, where its cells begin at β -/
def decB (β : Int) (t : Nat) (v : Int) : ev_V := match t with
  | 2 => sR (if v < 0 then -1 else β + v)
  | 3 => sL v
  | _ => sI v
def dS (k : Nat) (y : Int) : Int := if ty2 k y = 2 ∨ ty2 k y = 5 then -1 else 0
def uS (S : sS) (a b v : Int) : sS := (S.1, (S.2.1, (S.2.2.1, (S.2.2.2.1, (pU S.2.2.2.2.1 a b v, S.2.2.2.2.2)))))
def nS (S : sS) (k : Nat) (z : Int) : sS := (S.1 + 1, (S.2.1 + z, (fun x => if x = S.1 then k else S.2.2.1 x, (fun x => if x = S.1 then z else S.2.2.2.1 x, (fun x y => if x = S.1 then dS k y else S.2.2.2.2.1 x y, S.2.2.2.2.2)))))
def cS (S : sS) (c : gH) : sS := (S.1, (S.2.1, (S.2.2.1, (S.2.2.2.1, (S.2.2.2.2.1, (S.2.2.2.2.2.1, c))))))
/-! constants: from 2000100 on the law's texts, from 2100100 on their bytes, then the JDK's digits, the empty array, the class Object[] -/
def lw_tx : List (List Nat) := [[32, 110, 101, 97, 114], [32, 103, 114, 111, 117, 112], [32, 114, 111, 111, 109], [32, 107, 105, 110], [32, 111, 108, 100], [111, 114, 100, 101, 114], [59, 100, 101, 101, 112, 32], [59, 114, 111, 111, 116, 32], [112, 114, 111, 99, 101, 115, 115, 32], [100, 117, 116, 121, 32], [119, 105, 108, 108, 32]]
def lw_dig (j : Nat) (y : Int) : Int := if j = 0 then 48 + y % 10 else 48 + y / 10
def cK (x : Int) : Nat := if 2000100 ≤ x ∧ x < 2000111 then 12 else if 2100100 ≤ x ∧ x < 2100111 then 21 else if x = 2200000 ∨ x = 2200001 then 21 else if x = 2200002 then 26 else 99
def cZ (x : Int) : Int := if 2000100 ≤ x ∧ x < 2000111 then 4 else if 2100100 ≤ x ∧ x < 2100111 then ((lw_tx.getD (x - 2100100).toNat []).length : Nat) else if x = 2200000 ∨ x = 2200001 then 100 else 0
def cg (x y : Int) : Int := if 2000100 ≤ x ∧ x < 2000111 then (if y = 0 then x + 100000 else 0) else if 2100100 ≤ x ∧ x < 2100111 then ((lw_tx.getD (x - 2100100).toNat []).getD y.toNat 0 : Nat) else if (x = 2200000 ∨ x = 2200001) ∧ 0 ≤ y ∧ y < 100 then lw_dig (x - 2200000).toNat y else 0
/-- typed -/
def HS (S : sS) : Prop := (∀ a b, VT2 (ty2 (sK S a) b) (sg S a b)) ∧ HR (sc S)
/-- well made -/
def SF (S : sS) : Prop := 0 ≤ sn S ∧ (∀ x, 0 ≤ x → x < sn S → (sK S x = 98 ∧ 0 ≤ sb S ∧ sb S ≤ x ∧ x < sb S + 624) ∨ ((7 ≤ sK S x ∧ sK S x ≤ 12) ∧ sZ S x = nf (sK S x)) ∨ ((ev_ak (sK S x) ∧ ¬ sK S x = 24 ∧ ¬ sK S x = 25) ∧ 0 ≤ sZ S x ∧ sZ S x ≤ 65536)) ∧ (sb S = -1 ∨ (0 ≤ sb S ∧ sb S + 624 ≤ sn S)) ∧
  (0 ≤ sb S → ∀ x, sb S ≤ x → x < sb S + 624 → sK S x = 98) ∧ (∀ x, 2000000 ≤ x → sK S x = cK x ∧ sZ S x = cZ x ∧ ∀ y, sg S x y = cg x y) ∧ (∀ x, (x < 0 ∨ (sn S ≤ x ∧ x < 2000000 ∧ ¬ x = 1000000)) → sK S x = 99)
/-- what is there stays of its kind and size -/
def EXT (S S' : sS) : Prop := ∀ x, ¬ sK S x = 99 → sK S' x = sK S x ∧ sZ S' x = sZ S x
theorem ext_r {S : sS} : EXT S S := fun _ _ => ⟨rfl, rfl⟩
theorem ext_t {S S1 S2 : sS} (h : EXT S S1) (h2 : EXT S1 S2) : EXT S S2 := fun x hx => by
  obtain ⟨a, b⟩ := h x hx
  obtain ⟨c, d⟩ := h2 x (by rw [a]; exact hx)
  exact ⟨c.trans a, d.trans b⟩
theorem ext_uS {S : sS} {a b v : Int} : EXT S (uS S a b v) := fun _ _ => ⟨rfl, rfl⟩
theorem ext_cS {S : sS} {c : gH} : EXT S (cS S c) := fun _ _ => ⟨rfl, rfl⟩
theorem ext_nS {S : sS} {k : Nat} {z : Int} (h : SF S) (h1 : sn S < 1000000) : EXT S (nS S k z) := fun x hx => by
  have e : ¬ x = sn S := fun e => hx (h.2.2.2.2.2 x (Or.inr ⟨by rw [e]; exact Int.le_refl _, by omega, by omega⟩))
  exact ⟨if_neg e, if_neg e⟩
/-- knowledge goes along -/
theorem ek {S S1 : sS} {p : Int} {a : Nat} (e : EXT S S1) (h : sK S p = a) (ha : ¬ a = 99) : sK S1 p = a := ((e p (by rw [h]; exact ha)).1).trans h
theorem ekn {S S1 : sS} {p : Int} {a : Nat} (e : EXT S S1) (h : p = -1 ∨ sK S p = a) (ha : ¬ a = 99) : p = -1 ∨ sK S1 p = a := h.imp id (fun h => ek e h ha)
/-! three-level lists out of functions -/
def mkR {α : Type} (n : Nat) (f : Nat → α) : List (List (List α)) := (List.range (n / 64 + 1)).map (fun a => (List.range 8).map (fun b => (List.range 8).map (fun c => f (64 * a + 8 * b + c))))
theorem mkR_get {α : Type} {n j : Nat} {f : Nat → α} : ev_get (mkR n f) j = if j < 64 * (n / 64 + 1) then some (f j) else none := by
  rw [gb_get]
  unfold mkR
  by_cases h : j < 64 * (n / 64 + 1)
  · rw [if_pos h, List.getElem?_map, List.getElem?_range (by omega)]
    show ((List.map (fun b => (List.range 8).map (fun c => f (64 * (j / 64) + 8 * b + c))) (List.range 8))[j / 8 % 8]?).bind (fun d => d[j % 8]?) = some (f j)
    rw [List.getElem?_map, List.getElem?_range (by omega)]
    show ((List.range 8).map (fun c => f (64 * (j / 64) + 8 * (j / 8 % 8) + c)))[j % 8]? = some (f j)
    rw [List.getElem?_map, List.getElem?_range (by omega)]
    show some (f (64 * (j / 64) + 8 * (j / 8 % 8) + j % 8)) = some (f j)
    rw [show 64 * (j / 64) + 8 * (j / 8 % 8) + j % 8 = j by omega]
  · rw [if_neg h, List.getElem?_map, List.getElem?_eq_none (by rw [List.length_range]; omega)]
    rfl
/-- the cell at i -/
def cC (S : sS) (i : Nat) : ev_C :=
  if (i : Int) < sn S then
    (if sK S i = 98 then (kd (i - sb S), ((sz (i - sb S)).toNat, mkR (sz (i - sb S)).toNat (fun j => decB (sb S) (typ (kd (i - sb S)) j) (sc S (i - sb S) j))))
     else (sK S i, ((sZ S i).toNat, mkR (sZ S i).toNat (fun j => dec2 (ty2 (sK S i) j) (sg S i j)))))
  else (99, (0, []))
theorem cT_ex (S : sS) : ∃ T : List (List (List ev_C)), ∀ i, ev_get T i = if i < 1000000 then some (cC S i) else none := ⟨mkR 999999 (cC S), fun i => mkR_get⟩
noncomputable def cT (S : sS) : List (List (List ev_C)) := Classical.choose (cT_ex S)
noncomputable def cW (S : sS) (c s : Nat) : ev_W := (cT S, ((sn S).toNat, (true, (c, s))))
def qE (q q' : ev_C) : Prop := q.1 = q'.1 ∧ q.2.1 = q'.2.1 ∧ ∀ j, j < q'.2.1 → ev_get q.2.2 j = ev_get q'.2.2 j
/-- a world that holds S -/
def WS (w : ev_W) (S : sS) : Prop := (∀ i, i < 1000000 → ∃ q, ev_get w.1 i = some q ∧ qE q (cC S i)) ∧ (∀ i, 1000000 ≤ i → ev_get w.1 i = none) ∧ w.2.1 = (sn S).toNat ∧ w.2.2.1 = true
theorem cT_get {S : sS} {i : Nat} : ev_get (cT S) i = if i < 1000000 then some (cC S i) else none := Classical.choose_spec (cT_ex S) i
theorem ws_c {S : sS} {c s : Nat} : WS (cW S c s) S :=
  ⟨fun i hi => ⟨cC S i, by show ev_get (cT S) i = _; rw [cT_get, if_pos hi], rfl, rfl, fun _ _ => rfl⟩, fun i hi => by show ev_get (cT S) i = _; rw [cT_get, if_neg (by omega)], rfl, rfl⟩
/-- what is wanted of a cell that holds an object: its size -/
def qN (q : ev_C) : Prop := ∀ r, vwCl[q.1]? = some r → r.2.2 ≤ q.2.1
theorem nf_vw : ∀ k, k < 13 → 7 ≤ k → ∀ r, vwCl[k]? = some r → r.2.2 = nf k := by
  intro k h1 h2 r hr
  have h : k = 7 ∨ k = 8 ∨ k = 9 ∨ k = 10 ∨ k = 11 ∨ k = 12 := by omega
  rcases h with rfl | rfl | rfl | rfl | rfl | rfl <;> (cases hr; rfl)
theorem sz_vw : ∀ k, k < 7 → ∀ r, vwCl[k]? = some r → r.2.2 = (ty_T.getD k []).length := by
  intro k h1 r hr
  have h : k = 0 ∨ k = 1 ∨ k = 2 ∨ k = 3 ∨ k = 4 ∨ k = 5 ∨ k = 6 := by omega
  rcases h with rfl | rfl | rfl | rfl | rfl | rfl | rfl <;> (cases hr; rfl)
theorem kd_rg : ∀ a : Int, 0 ≤ a → a < 624 → kd a < 7 ∨ kd a = 20 ∨ kd a = 21 ∨ kd a = 24 ∨ kd a = 25 := by
  intro a h0 h1
  have h : (List.range 624).all (fun i => decide ((kd_T.getD i (99, 0)).1 < 7 ∨ (kd_T.getD i (99, 0)).1 = 20 ∨ (kd_T.getD i (99, 0)).1 = 21 ∨ (kd_T.getD i (99, 0)).1 = 24 ∨ (kd_T.getD i (99, 0)).1 = 25)) = true := by decide +kernel
  have := of_decide_eq_true (List.all_eq_true.mp h a.toNat (List.mem_range.mpr (by omega)))
  unfold kd
  rw [if_neg (by omega)]
  exact this
theorem cC_N {S : sS} {i : Nat} (h : SF S) : qN (cC S i) := by
  intro r hr
  unfold cC at hr ⊢
  by_cases h1 : (i : Int) < sn S
  · rw [if_pos h1] at hr ⊢
    rcases h.2.1 i (by omega) h1 with ⟨k1, k2, k3, k4⟩ | ⟨k1, k2⟩ | ⟨⟨k1, -⟩, k2⟩
    · rw [if_pos k1] at hr ⊢
      have hr : vwCl[kd ((i : Int) - sb S)]? = some r := hr
      show r.2.2 ≤ (sz ((i : Int) - sb S)).toNat
      rcases kd_rg ((i : Int) - sb S) (by omega) (by omega) with h5 | h5 | h5 | h5 | h5
      · rw [sz_vw _ h5 r hr, sz_of rfl (by omega)]
        omega
      · rw [h5] at hr; cases hr
      · rw [h5] at hr; cases hr
      · rw [h5] at hr; cases hr
      · rw [h5] at hr; cases hr
    · rw [if_neg (by omega)] at hr ⊢
      have hr : vwCl[sK S i]? = some r := hr
      show r.2.2 ≤ (sZ S i).toNat
      rw [nf_vw _ (by omega) k1.1 r hr, k2]
      omega
    · have h98 : ¬ sK S i = 98 := by
        rcases k1 with k | k | k | k | k | k | k <;> (rw [k]; decide)
      rw [if_neg h98] at hr ⊢
      have hr : vwCl[sK S i]? = some r := hr
      rcases k1 with k | k | k | k | k | k | k <;> (rw [k] at hr; cases hr)
  · rw [if_neg h1] at hr
    cases hr
section CORE
variable {D : va_G} {aC : Nat → ClassId} {b : ev_B} {B0 L : Nat} {σ : Nat → Int32}
variable {p : Program} {l : Launch} {e : Env} {R : Room} {s : State} {m : MethodId} {args : Array Value} {below : List Frame} {meth : Method} {c : Code} {Q : State → Prop} {nL pc : Nat} {loc : ev_L} {st : List ev_V} {w : ev_W}
theorem ev_at_qE {a : Nat} {q q' : ev_C} {H : Heap} (h : ev_at D aC b B0 σ a q H) (e : qE q q') (hn : qN q') : ev_at D aC b B0 σ a q' H := by
  obtain ⟨e1, e2, e3⟩ := e
  rcases h with h | ⟨r, h1, h2⟩ | ⟨h1, h2, h3⟩
  · exact Or.inl (e1 ▸ h)
  · rw [e1] at h1 h2
    refine Or.inr (Or.inl ⟨r, h1, h2.to (fun k hk => ?_)⟩)
    unfold ev_fv
    rw [e3 k (Nat.lt_of_lt_of_le hk (hn r h1))]
  · rw [e1] at h1 h2 h3
    refine Or.inr (Or.inr ⟨h1, h2, ?_⟩)
    rw [h3, e2]
    refine congrArg some (ev_arr_to (fun j hj => ?_))
    unfold ev_fv
    rw [e3 j hj]
theorem ws_J {S : sS} {H : Heap} {c9 s9 : Nat} (hw : WS w S) (hS : SF S) (hJ : ev_J D aC b B0 σ w H) : ev_J D aC b B0 σ (cW S c9 s9) H := by
  refine ⟨fun i q hq => ?_, ?_, fun _ => ?_⟩
  · have hq : ev_get (cT S) i = some q := hq
    rw [cT_get] at hq
    by_cases hi : i < 1000000
    · rw [if_pos hi] at hq
      cases hq
      obtain ⟨q0, h1, h2⟩ := hw.1 i hi
      obtain ⟨h3, h4⟩ := hJ.1 i q0 h1
      exact ⟨h3, ev_at_qE h4 h2 (cC_N hS)⟩
    · rw [if_neg hi] at hq
      cases hq
  · have := hJ.2.1
    rw [hw.2.2.1] at this
    exact this
  · have := hJ.2.2 hw.2.2.2
    rw [hw.2.2.1] at this
    exact this
theorem ws_Go {S : sS} {c9 s9 : Nat} (hw : WS w S) (hS : SF S) (hz : w.2.2.2 = (c9, s9)) (h : ev_Go D aC b B0 σ p l e R s m args below meth c Q nL pc loc st (cW S c9 s9)) : ev_Go D aC b B0 σ p l e R s m args below meth c Q nL pc loc st w := by
  intro H locs ls hl hJ hS9
  have := h H locs ls hl (ws_J hw hS hJ) hS9
  rw [hz]
  exact this
end CORE
/-- the machine goes on well from here, as a next step of the evaluator -/
def ev_r0 : ev_S := .inr (.inr (0, ([], ([], ([], (0, (true, (0, 0))))))))
noncomputable def kG (G : Nat → ev_L → List ev_V → ev_W → Prop) : ev_N := fun pc loc st w => @ite _ (G pc loc st w) (Classical.propDecidable _) (some ev_r0) none
theorem kG_t {G : Nat → ev_L → List ev_V → ev_W → Prop} {pc : Nat} {loc : ev_L} {st : List ev_V} {w : ev_W} (h : G pc loc st w) : kG G pc loc st w = some ev_r0 := by
  unfold kG
  exact if_pos h
theorem kG_o {G : Nat → ev_L → List ev_V → ev_W → Prop} {r : ev_S} (pc : Nat) (loc : ev_L) (st : List ev_V) (w : ev_W) (h : kG G pc loc st w = some r) : G pc loc st w := by
  unfold kG at h
  by_cases hg : G pc loc st w
  · exact hg
  · rw [if_neg hg] at h
    cases h
/-! ===== the judgement ===== -/
/-- what is fixed all along: classes, array classes, addresses, base, script's length and cells, launch, texts of throws, facts of the script, the law's and the JDK's methods -/
abbrev CX : Type := va_G × ((Nat → ClassId) × (ev_B × (Nat × (Nat × ((Nat → Int32) × (Launch × (List (String × (Nat × String)) × (ev_P × ((Nat → ev_Im) × (Nat → ev_M))))))))))
def cxG (κ : CX) (p : Program) (e : Env) (R : Room) (s : State) (m : MethodId) (args : Array Value) (below : List Frame) (meth : Method) (c : Code) (Q : State → Prop) (nL pc : Nat) (loc : ev_L) (st : List ev_V) (w : ev_W) : Prop :=
  ev_Go κ.1 κ.2.1 κ.2.2.1 κ.2.2.2.1 κ.2.2.2.2.2.1 p κ.2.2.2.2.2.2.1 e R s m args below meth c Q nL pc loc st w
/-- the script, as a thing of its own number -/
def SCR (κ : CX) (S : sS) : Prop := sK S 1000000 = 20 ∧ sZ S 1000000 = (κ.2.2.2.2.1 : Nat) ∧ (∀ j : Nat, sg S 1000000 j = (κ.2.2.2.2.2.1 j).toInt) ∧ κ.2.2.2.2.1 ≤ 5000
def WF2 (κ : CX) (S : sS) : Prop := HS S ∧ SF S ∧ SCR κ S
/-- what holds of all along -/
def CXok (κ : CX) : Prop := ev_FO κ.2.2.2.2.2.2.2.2.1 κ.2.2.2.2.2.1 ∧ (κ.2.2.2.2.2.2.2.2.1.1 ≤ 5000 → κ.2.2.2.2.2.2.2.2.1.1 = κ.2.2.2.2.1) ∧ κ.2.2.1.2.2 = 1000000 ∧ κ.2.2.2.2.2.2.1.stackTraces = false ∧ κ.2.2.2.2.2.2.2.1 = pr_S ∧ ∀ i, i < 4 → Cond.castable (ev_ex i) (ev_ex i) ∈ lw_tbl
/-- an answer's value -/
def drv2 (t : Nat) (v : Int) : Option ev_V := match t with
  | 0 => none
  | 1 => some (sI v)
  | 3 => some (sI v)
  | _ => some (sR v)
def VR2 (t : Nat) (v : Int) : Prop := match t with
  | 1 => InR v
  | 3 => B01 v
  | 2 => RfO v
  | 6 => RfA v
  | _ => True
