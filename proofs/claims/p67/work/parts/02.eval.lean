/-! ===== an evaluator of the claim's bytecode over a picture of the heap (own work) =====
A value: a number below 2^32, or null or the number of a thing, or a number that depends on the script (which cell of it, if it is one), or a wide one or a float (0: long, 1: float, 2: double).
A thing: its kind (below 20: a class of vwCl; 20 int[], 21 byte[], 22 boolean[], 23 long[], 24 Proc[], 25 Tree[]; 99 nothing yet), how many fields or elements, and these.
A world: the things, how many there are, whether no cell of the heap lies behind them, what this frame has made (cells, slots). -/
abbrev ev_V : Type := Nat ⊕ (Option Nat ⊕ ((Option Nat × ((Nat → Int32) → Int32)) ⊕ (Nat × Nat)))
abbrev ev_C : Type := Nat × (Nat × List (List (List ev_V)))
abbrev ev_W : Type := List (List (List ev_C)) × (Nat × (Bool × (Nat × Nat)))
/-- an instruction: what it does, where it goes on, three operands, a list of operands -/
abbrev ev_E : Type := Nat × (Nat × (Nat × (Nat × (Nat × List Nat))))
/-- a method: its locals, the cells and slots that it may make, its handlers (from, to, handler, class), its code -/
abbrev ev_M : Type := Nat × (Nat × (Nat × (List (Nat × (Nat × (Nat × Nat))) × (Nat → ev_E))))
abbrev ev_L : Type := List (Option ev_V)
/-- an end: an answer; an exception by its number; a stop -/
abbrev ev_S : Type := (Option ev_V × ev_W) ⊕ ((Nat × ev_W) ⊕ (Nat × (ev_L × (List ev_V × ev_W))))
abbrev ev_R : Type := Option ev_S
/-- the script's length, and what is known of its cells (which, from, to; the least number counts as nought) -/
abbrev ev_P : Type := Nat × List (Nat × (Nat × Nat))
abbrev ev_N : Type := Nat → ev_L → List ev_V → ev_W → ev_R
abbrev ev_F : Type := Nat → List ev_V → ev_W → ev_R
abbrev ev_H : Type := ev_P → ev_M → ev_N → ev_F → Nat → Nat → Nat → Nat → List Nat → Nat → ev_L → List ev_V → ev_W → ev_R
noncomputable def ev_lg {α : Type} (l : List α) : Nat → Option α :=
  List.rec (motive := fun _ => Nat → Option α) (fun _ => none) (fun a _ ih n => Nat.rec (motive := fun _ => Option α) (some a) (fun m _ => ih m) n) l
noncomputable def ev_ls {α : Type} (l : List α) : Nat → α → List α :=
  List.rec (motive := fun _ => Nat → α → List α) (fun _ _ => []) (fun a t ih n v => Nat.rec (motive := fun _ => List α) (v :: t) (fun m _ => a :: ih m v) n) l
noncomputable def ev_if {α : Type} (c : Bool) (t e : α) : α := Bool.rec (motive := fun _ => α) e t c
noncomputable def ev_g2 {α : Type} (c : List (List α)) (p q : Nat) : Option α :=
  Option.rec (motive := fun _ => Option α) none (fun d => ev_lg d q) (ev_lg c p)
noncomputable def ev_get {α : Type} (t : List (List (List α))) (i : Nat) : Option α :=
  Option.rec (motive := fun _ => Option α) none (fun c => ev_g2 c (i / 8 % 8) (i % 8)) (ev_lg t (i / 64))
noncomputable def ev_lso {α : Type} (l : List α) : Nat → α → Option (List α) :=
  List.rec (motive := fun _ => Nat → α → Option (List α)) (fun _ _ => none) (fun a t ih n v => Nat.rec (motive := fun _ => Option (List α)) (some (v :: t)) (fun m _ => Option.rec (motive := fun _ => Option (List α)) none (fun z => some (a :: z)) (ih m v)) n) l
noncomputable def ev_s2 {α : Type} (c : List (List α)) (p q : Nat) (v : α) : Option (List (List α)) :=
  Option.rec (motive := fun _ => Option (List (List α))) none (fun d => Option.rec (motive := fun _ => Option (List (List α))) none (fun d' => ev_lso c p d') (ev_lso d q v)) (ev_lg c p)
noncomputable def ev_sto {α : Type} (t : List (List (List α))) (i : Nat) (v : α) : Option (List (List (List α))) :=
  Option.rec (motive := fun _ => Option (List (List (List α)))) none (fun c => Option.rec (motive := fun _ => Option (List (List (List α)))) none (fun c' => ev_lso t (i / 64) c') (ev_s2 c (i / 8 % 8) (i % 8) v)) (ev_lg t (i / 64))
/-- element b of the thing q at i becomes v -/
noncomputable def ev_upd (w : ev_W) (i : Nat) (q : ev_C) (b : Nat) (v : ev_V) (kt : ev_W → ev_R) : ev_R :=
  match ev_sto q.2.2 b v with
  | some d => match ev_sto w.1 i (q.1, (q.2.1, d)) with
    | some x => kt (x, w.2)
    | none => none
  | none => none
/-- kinds of values -/
def ev_ii : ev_V → Bool
  | .inl _ => true
  | .inr (.inr (.inl _)) => true
  | _ => false
def ev_ir : ev_V → Bool
  | .inr (.inl _) => true
  | _ => false
def ev_ik (k : Nat) : ev_V → Bool
  | .inr (.inr (.inr (j, _))) => Nat.beq j k
  | _ => false
def ev_wide : ev_V → Bool
  | .inr (.inr (.inr _)) => true
  | _ => false
/-- a value's biased bounds -/
def ev_bi (n : Nat) : Nat := (n + 2147483648) % 4294967296
noncomputable def ev_fl (l : List (Nat × (Nat × Nat))) (i : Nat) : Nat × Nat :=
  List.rec (motive := fun _ => Nat × Nat) (0, 4294967295) (fun q _ ih => ev_if (Nat.beq q.1 i) q.2 ih) l
noncomputable def ev_itv (Φ : ev_P) : ev_V → Option (Nat × Nat)
  | .inl n => some (ev_bi n, ev_bi n)
  | .inr (.inr (.inl (some i, _))) => some (ev_fl Φ.2 i)
  | .inr (.inr (.inl (none, _))) => some (0, 4294967295)
  | _ => none
noncomputable def ev_lt (Φ : ev_P) (x y : ev_V) : Option Bool :=
  match ev_itv Φ x, ev_itv Φ y with
  | some p, some q => ev_if (Nat.ble (p.2 + 1) q.1) (some true) (ev_if (Nat.ble q.2 p.1) (some false) none)
  | _, _ => none
noncomputable def ev_eq (Φ : ev_P) (x y : ev_V) : Option Bool :=
  match ev_itv Φ x, ev_itv Φ y with
  | some p, some q => ev_if (Nat.ble (p.2 + 1) q.1) (some false) (ev_if (Nat.ble (q.2 + 1) p.1) (some false) (ev_if (Nat.beq p.1 p.2 && (Nat.beq q.1 q.2 && Nat.beq p.1 q.1)) (some true) none))
  | _, _ => none
/-- 0: equal, 1: less, 2: greater -/
noncomputable def ev_cmp (Φ : ev_P) (j : Nat) (x y : ev_V) : Option Bool :=
  ev_if (Nat.beq j 0) (ev_eq Φ x y) (ev_if (Nat.beq j 1) (ev_lt Φ x y) (ev_lt Φ y x))
/-- numbers as functions of the script -/
noncomputable def ev_sv (σ : Nat → Int32) (i : Nat) : Int32 := if i < 5000 then σ i else σ (i - 5000) &&& 63
noncomputable def ev_iv : ev_V → Option ((Nat → Int32) → Int32)
  | .inl n => some (fun _ => nI n)
  | .inr (.inr (.inl (some i, _))) => some (fun σ => ev_sv σ i)
  | .inr (.inr (.inl (none, f))) => some f
  | _ => none
noncomputable def ev_b2 (G : Nat → Nat → Nat) (F : Int32 → Int32 → Int32) (x y : ev_V) : Option ev_V :=
  match x, y with
  | .inl m, .inl n => some (.inl (G m n))
  | x, y => match ev_iv x, ev_iv y with
    | some f, some g => some (.inr (.inr (.inl (none, fun σ => F (f σ) (g σ)))))
    | _, _ => none
def ev_n (x : Int32) : Nat := x.toBitVec.toNat
def ev_nl (x : Int64) : Nat := x.toBitVec.toNat
def ev_opI (j : Nat) (x y : Int32) : Int32 :=
  match j with
  | 0 => x * y
  | 1 => x &&& y
  | 2 => x ||| y
  | 3 => x ^^^ y
  | 4 => x <<< (y &&& 31)
  | 5 => x >>> (y &&& 31)
  | 6 => (x.toUInt32 >>> (y.toUInt32 &&& Int32.toUInt32 31)).toInt32
  | _ => 0
def ev_opL (j : Nat) (x y : Int64) : Int64 :=
  match j with
  | 0 => x &&& y
  | _ => x ||| y
def ev_opS (j : Nat) (x : Int64) (y : Int32) : Int64 :=
  match j with
  | 0 => x >>> (y.toInt64 &&& 63)
  | _ => x <<< (y.toInt64 &&& 63)
/-- the local ahead isn't of two slots -/
noncomputable def ev_nw (loc : ev_L) (a : Nat) : Bool :=
  match a with
  | 0 => true
  | k + 1 => match ev_lg loc k with
    | some (some v) => !ev_wide v
    | _ => true
/-- units of a stack -/
noncomputable def ev_cs : List ev_V → Nat
  | [] => 0
  | v :: r => ev_if (ev_wide v) 2 1 + ev_cs r
noncomputable def ev_sp (n : Nat) : List ev_V → List ev_V → Option (List ev_V × List ev_V) :=
  Nat.rec (motive := fun _ => List ev_V → List ev_V → Option (List ev_V × List ev_V)) (fun acc st => some (acc, st)) (fun _ ih acc st => match st with
    | [] => none
    | v :: r => ih (v :: acc) r) n
def ev_dv (c : Nat) : ev_V := match c with
  | 0 => .inl 0
  | 1 => .inr (.inl none)
  | _ => .inr (.inr (.inr (0, 0)))
/-- may a value stand in a field of this type: 0 int, 1 boolean, 2 reference, 3 long -/
def ev_fits (c : Nat) (v : ev_V) : Bool := match c with
  | 0 => ev_ii v
  | 1 => match v with
    | .inl n => Nat.ble n 1
    | _ => false
  | 2 => ev_ir v
  | _ => ev_ik 0 v
/-- may so many cells and slots be made -/
noncomputable def ev_may (M : ev_M) (w : ev_W) (c s : Nat) : Bool := Nat.ble (w.2.2.2.1 + c) M.2.1 && Nat.ble (w.2.2.2.2 + s) M.2.2.1
/-! the instructions -/
noncomputable def ev_h_none : ev_H := fun _ _ _ _ _ _ _ _ _ _ _ _ _ => none
noncomputable def ev_h_int : ev_H := fun _ _ k _ nx a _ _ _ _ loc st w => k nx loc (.inl a :: st) w
noncomputable def ev_h_null : ev_H := fun _ _ k _ nx _ _ _ _ _ loc st w => k nx loc (.inr (.inl none) :: st) w
noncomputable def ev_h_wide : ev_H := fun _ _ k _ nx a b _ _ _ loc st w => k nx loc (.inr (.inr (.inr (a, b))) :: st) w
noncomputable def ev_h_iload : ev_H := fun _ _ k _ nx a _ _ _ _ loc st w =>
  match ev_lg loc a with
  | some (some v) => ev_if (ev_ii v) (k nx loc (v :: st) w) none
  | _ => none
noncomputable def ev_h_aload : ev_H := fun _ _ k _ nx a _ _ _ _ loc st w =>
  match ev_lg loc a with
  | some (some v) => ev_if (ev_ir v) (k nx loc (v :: st) w) none
  | _ => none
noncomputable def ev_h_dload : ev_H := fun _ _ k _ nx a _ _ _ _ loc st w =>
  match ev_lg loc a with
  | some (some v) => ev_if (ev_ik 2 v) (k nx loc (v :: st) w) none
  | _ => none
noncomputable def ev_h_istore : ev_H := fun _ _ k _ nx a _ _ _ _ loc st w =>
  match st with
  | v :: r => ev_if (ev_ii v && ev_nw loc a) (k nx (ev_ls loc a (some v)) r w) none
  | _ => none
noncomputable def ev_h_astore : ev_H := fun _ _ k _ nx a _ _ _ _ loc st w =>
  match st with
  | v :: r => ev_if (ev_ir v && ev_nw loc a) (k nx (ev_ls loc a (some v)) r w) none
  | _ => none
noncomputable def ev_h_dstore : ev_H := fun _ _ k _ nx a _ _ _ _ loc st w =>
  match st with
  | v :: r => ev_if (ev_ik 2 v && ev_nw loc a) (k nx (ev_ls (ev_ls loc a (some v)) (a + 1) none) r w) none
  | _ => none
noncomputable def ev_h_iinc : ev_H := fun _ _ k _ nx a b _ _ _ loc st w =>
  match ev_lg loc a with
  | some (some (.inl n)) => ev_if (ev_nw loc a) (k nx (ev_ls loc a (some (.inl ((n + b) % 4294967296)))) st w) none
  | _ => none
noncomputable def ev_h_iadd : ev_H := fun _ _ k _ nx _ _ _ _ _ loc st w =>
  match st with
  | y :: x :: r => match ev_b2 (fun m n => (m + n) % 4294967296) (fun p q => p + q) x y with
    | some z => k nx loc (z :: r) w
    | none => none
  | _ => none
noncomputable def ev_h_isub : ev_H := fun _ _ k _ nx _ _ _ _ _ loc st w =>
  match st with
  | y :: x :: r => match ev_b2 (fun m n => (m + (4294967296 - n % 4294967296)) % 4294967296) (fun p q => p - q) x y with
    | some z => k nx loc (z :: r) w
    | none => none
  | _ => none
noncomputable def ev_h_ibin : ev_H := fun _ _ k _ nx a _ _ _ _ loc st w =>
  match st with
  | y :: x :: r => match ev_b2 (fun m n => ev_n (ev_opI a (nI m) (nI n))) (ev_opI a) x y with
    | some z => k nx loc (z :: r) w
    | none => none
  | _ => none
/-- a cell of the script, its last six bits -/
noncomputable def ev_h_iand63 : ev_H := fun Φ M k cl nx a b c tg pc loc st w =>
  match st with
  | .inl 63 :: .inr (.inr (.inl (some i, _))) :: r => ev_if (Nat.ble (i + 1) 5000) (k nx loc (.inr (.inr (.inl (some (i + 5000), fun _ => 0))) :: r) w) none
  | _ => ev_h_ibin Φ M k cl nx a b c tg pc loc st w
noncomputable def ev_h_idiv : ev_H := fun _ _ k _ nx a _ _ _ _ loc st w =>
  match st with
  | .inl y :: .inl x :: r => ev_if (Nat.ble 1 y && (Nat.ble (y + 1) 2147483648 && Nat.ble (x + 1) 2147483648)) (k nx loc (.inl (ev_if (Nat.beq a 0) (x / y) (x % y)) :: r) w) none
  | _ => none
noncomputable def ev_br (o : Option Bool) (t f : ev_R) : ev_R := match o with
  | some true => t
  | some false => f
  | none => none
noncomputable def ev_h_if0 : ev_H := fun Φ _ k _ _ a b c _ _ loc st w =>
  match st with
  | x :: r => ev_br (ev_cmp Φ a x (.inl 0)) (k b loc r w) (k c loc r w)
  | _ => none
noncomputable def ev_h_icmp : ev_H := fun Φ _ k _ _ a b c _ _ loc st w =>
  match st with
  | y :: x :: r => ev_br (ev_cmp Φ a x y) (k b loc r w) (k c loc r w)
  | _ => none
noncomputable def ev_oeq (x y : Option Nat) : Bool := match x, y with
  | some m, some n => Nat.beq m n
  | none, none => true
  | _, _ => false
noncomputable def ev_own (x : Option Nat) : Bool := match x with
  | some m => Nat.ble (m + 1) 1000000
  | none => true
noncomputable def ev_h_acmp : ev_H := fun _ _ k _ _ _ b c _ _ loc st w =>
  match st with
  | .inr (.inl y) :: .inr (.inl x) :: r => ev_if (ev_own x && ev_own y) (ev_if (ev_oeq x y) (k b loc r w) (k c loc r w)) none
  | _ => none
noncomputable def ev_h_isnull : ev_H := fun _ _ k _ _ _ b c _ _ loc st w =>
  match st with
  | .inr (.inl none) :: r => k b loc r w
  | .inr (.inl (some _)) :: r => k c loc r w
  | _ => none
noncomputable def ev_h_goto : ev_H := fun _ _ k _ nx _ _ _ _ _ loc st w => k nx loc st w
noncomputable def ev_h_dup : ev_H := fun _ _ k _ nx _ _ _ _ _ loc st w =>
  match st with
  | x :: r => ev_if (!ev_wide x) (k nx loc (x :: x :: r) w) none
  | _ => none
noncomputable def ev_h_dup2 : ev_H := fun _ _ k _ nx _ _ _ _ _ loc st w =>
  match st with
  | x :: y :: r => ev_if (!ev_wide x && !ev_wide y) (k nx loc (x :: y :: x :: y :: r) w) none
  | _ => none
noncomputable def ev_h_pop : ev_H := fun _ _ k _ nx _ _ _ _ _ loc st w =>
  match st with
  | x :: r => ev_if (!ev_wide x) (k nx loc r w) none
  | _ => none
noncomputable def ev_h_getf : ev_H := fun _ _ k _ nx a b _ _ _ loc st w =>
  match st with
  | .inr (.inl (some i)) :: r => match ev_get w.1 i with
    | some q => ev_if (Nat.beq q.1 a) (match ev_get q.2.2 b with
      | some v => k nx loc (v :: r) w
      | none => none) none
    | none => none
  | _ => none
noncomputable def ev_h_putf : ev_H := fun _ _ k _ nx a b c _ _ loc st w =>
  match st with
  | v :: .inr (.inl (some i)) :: r => match ev_get w.1 i with
    | some q => ev_if (Nat.beq q.1 a && ev_fits c v) (ev_upd w i q b v (k nx loc r)) none
    | none => none
  | _ => none
noncomputable def ev_h_alen : ev_H := fun Φ _ k _ nx _ _ _ _ _ loc st w =>
  match st with
  | .inr (.inl (some i)) :: r => ev_if (Nat.beq i 1000000) (ev_if (Nat.ble Φ.1 5000) (k nx loc (.inl Φ.1 :: r) w) none) (match ev_get w.1 i with
    | some q => ev_if (Nat.ble 20 q.1 && Nat.ble q.1 28) (k nx loc (.inl q.2.1 :: r) w) none
    | none => none)
  | _ => none
/-- from an array of a kind from a to b -/
noncomputable def ev_h_ald : ev_H := fun _ _ k _ nx a b _ _ _ loc st w =>
  match st with
  | .inl j :: .inr (.inl (some i)) :: r => match ev_get w.1 i with
    | some q => ev_if (Nat.ble a q.1 && (Nat.ble q.1 b && (Nat.ble (j + 1) q.2.1 && Nat.ble q.2.1 65536))) (match ev_get q.2.2 j with
      | some v => k nx loc (v :: r) w
      | none => none) none
    | none => none
  | _ => none
/-- the same for ints: from the script, too -/
noncomputable def ev_h_iald : ev_H := fun Φ M k cl nx a b c tg pc loc st w =>
  match st with
  | .inl j :: .inr (.inl (some i)) :: r => ev_if (Nat.beq i 1000000) (ev_if (Nat.ble (j + 1) Φ.1 && Nat.ble Φ.1 5000) (Prod.rec (motive := fun _ => ev_R) (fun lo hi => ev_if (Nat.beq lo hi) (k nx loc (.inl ((lo + 2147483648) % 4294967296) :: r) w) (k nx loc (.inr (.inr (.inl (some j, fun _ => 0))) :: r) w)) (ev_fl Φ.2 j)) none) (ev_h_ald Φ M k cl nx a b c tg pc loc st w)
  | _ => none
noncomputable def ev_h_iast : ev_H := fun _ _ k _ nx _ _ _ _ _ loc st w =>
  match st with
  | v :: .inl j :: .inr (.inl (some i)) :: r => match ev_get w.1 i with
    | some q => ev_if (Nat.beq q.1 20 && (ev_ii v && (Nat.ble (j + 1) q.2.1 && Nat.ble q.2.1 65536))) (ev_upd w i q j v (k nx loc r)) none
    | none => none
  | _ => none
def ev_nb : ev_V → Option ev_V
  | .inl n => some (.inl (ev_n (nI n).toInt8.toInt32))
  | .inr (.inr (.inl (none, f))) => some (.inr (.inr (.inl (none, fun σ => (f σ).toInt8.toInt32))))
  | _ => none
/-- into a byte[] what is a byte, into a boolean[] 0 or 1 -/
noncomputable def ev_h_bast : ev_H := fun _ _ k _ nx _ _ _ _ _ loc st w =>
  match st with
  | v :: .inl j :: .inr (.inl (some i)) :: r => match ev_get w.1 i with
    | some q => ev_if (Nat.ble (j + 1) q.2.1 && Nat.ble q.2.1 65536)
      (ev_if (Nat.beq q.1 21) (match ev_nb v with
        | some z => ev_upd w i q j z (k nx loc r)
        | none => none) (ev_if (Nat.beq q.1 22 && ev_fits 1 v) (ev_upd w i q j v (k nx loc r)) none)) none
    | none => none
  | _ => none
noncomputable def ev_h_last : ev_H := fun _ _ k _ nx _ _ _ _ _ loc st w =>
  match st with
  | v :: .inl j :: .inr (.inl (some i)) :: r => match ev_get w.1 i with
    | some q => ev_if (Nat.beq q.1 23 && (ev_ik 0 v && (Nat.ble (j + 1) q.2.1 && Nat.ble q.2.1 65536))) (ev_upd w i q j v (k nx loc r)) none
    | none => none
  | _ => none
/-- a Proc (3) into a Proc[] (24), a Tree (5) into a Tree[] (25): the class is asked of the program -/
noncomputable def ev_h_aast (cP cT : Nat) : ev_H := fun _ _ k _ nx _ _ _ _ _ loc st w =>
  match st with
  | .inr (.inl (some x)) :: .inl j :: .inr (.inl (some i)) :: r => match ev_get w.1 i, ev_get w.1 x with
    | some q, some u => ev_if ((ev_if (Nat.beq q.1 24) (Nat.beq u.1 cP) (Nat.beq q.1 25 && Nat.beq u.1 cT)) && (Nat.ble (j + 1) q.2.1 && Nat.ble q.2.1 65536)) (ev_upd w i q j (.inr (.inl (some x))) (k nx loc r)) none
    | _, _ => none
  | _ => none
/-- a new thing q of s slots -/
noncomputable def ev_mk (w : ev_W) (q : ev_C) (s : Nat) (kt : ev_W → ev_R) : ev_R :=
  ev_if w.2.2.1 (match ev_sto w.1 w.2.1 q with
    | some x => kt (x, (w.2.1 + 1, (true, (w.2.2.2.1 + 1, w.2.2.2.2 + s))))
    | none => none) none
def ev_ch8 (l : List ev_V) : List (List ev_V) := [l.take 8, (l.drop 8).take 8, (l.drop 16).take 8, l.drop 24]
noncomputable def ev_h_new : ev_H := fun _ M k _ nx a b _ tg _ loc st w =>
  ev_if (ev_may M w 1 b) (ev_mk w (a, (b, [ev_ch8 (tg.map ev_dv)])) b (k nx loc (.inr (.inl (some w.2.1)) :: st))) none
noncomputable def ev_rows (n : Nat) (v : ev_V) : List (List (List ev_V)) := List.replicate (n / 64 + 1) (List.replicate 8 (List.replicate 8 v))
noncomputable def ev_h_newa : ev_H := fun _ M k _ nx a b _ _ _ loc st w =>
  match st with
  | .inl n :: r => ev_if (ev_may M w 1 n && Nat.ble n 65536) (ev_mk w (a, (n, ev_rows n (ev_dv b))) n (k nx loc (.inr (.inl (some w.2.1)) :: r))) none
  | _ => none
/-- behind a call -/
noncomputable def ev_back (w w2 : ev_W) (c s : Nat) : ev_W := (w2.1, (w2.2.1, (w2.2.2.1, (w.2.2.2.1 + c, w.2.2.2.2 + s))))
/-- which handler takes exception E over pc -/
noncomputable def ev_hd (l : List (Nat × (Nat × (Nat × Nat)))) (pc E : Nat) : Option Nat :=
  List.rec (motive := fun _ => Option Nat) none (fun q _ ih => ev_if (Nat.ble q.1 pc && Nat.ble (pc + 1) q.2.1) (ev_if (Nat.beq q.2.2.2 E) (some q.2.2.1) ih) ih) l
/-- an exception over pc: caught by a handler that begins with a store of it, or on to the caller -/
noncomputable def ev_exc (M : ev_M) (k : ev_N) (pc E : Nat) (loc : ev_L) (w : ev_W) : ev_R :=
  match ev_hd M.2.2.2.1 pc E with
  | none => ev_if (ev_may M w 0 0) (some (.inr (.inl (E, w)))) none
  | some h => match M.2.2.2.2 h with
    | (op, (nx, (a, _))) => ev_if (Nat.beq op 10 && ev_nw loc a) (k nx (ev_ls loc a none) [] w) none
/-- the receiver's class is asked (its number + 1; 0: not asked) -/
noncomputable def ev_rc (c : Nat) (As : List ev_V) (w : ev_W) : Bool := match c, As with
  | 0, _ => true
  | ci + 1, .inr (.inl (some i)) :: _ => match ev_get w.1 i with
    | some q => Nat.beq q.1 ci
    | none => false
  | _, _ => false
noncomputable def ev_cont (M : ev_M) (k : ev_N) (nx pc : Nat) (loc : ev_L) (r : List ev_V) (w : ev_W) (mc ms : Nat) (o : ev_R) : ev_R := match o with
  | some (.inl (some v, w2)) => k nx loc (v :: r) (ev_back w w2 mc ms)
  | some (.inl (none, w2)) => k nx loc r (ev_back w w2 mc ms)
  | some (.inr (.inl (E, w2))) => ev_exc M k pc E loc (ev_back w w2 mc ms)
  | _ => none
/-- a call: a which method, b how many things come off the stack, c the receiver's class + 1 (0: not asked) -/
noncomputable def ev_h_call : ev_H := fun _ M k cl nx a b c tg pc loc st w =>
  match ev_sp b [] st with
  | some (As, r) => match tg with
    | [mc, ms] => ev_if (Nat.ble (ev_cs r) 8 && (ev_may M w mc ms && As.all (fun v => !ev_wide v))) (ev_if (ev_rc c As w) (ev_cont M k nx pc loc r w mc ms (cl a As (w.1, (w.2.1, (w.2.2.1, (0, 0)))))) none) none
    | _ => none
  | none => none
noncomputable def ev_h_objinit : ev_H := fun _ _ k _ nx _ _ _ _ _ loc st w =>
  match st with
  | .inr (.inl (some _)) :: r => ev_if (Nat.ble (ev_cs r) 8) (k nx loc r w) none
  | _ => none
noncomputable def ev_h_throw : ev_H := fun _ M _ _ _ a _ _ _ _ _ st w =>
  ev_if (ev_may M w 1 6 && Nat.ble (ev_cs st) 8) (some (.inr (.inl (a, (w.1, (w.2.1, (false, (w.2.2.2.1 + 1, w.2.2.2.2 + 6)))))))) none
noncomputable def ev_h_vret : ev_H := fun _ M _ _ _ _ _ _ _ _ _ st w =>
  match st with
  | [] => ev_if (ev_may M w 0 0) (some (.inl (none, w))) none
  | _ => none
/-- a: 0 int, 1 boolean -/
noncomputable def ev_h_iret : ev_H := fun _ M _ _ _ a _ _ _ _ _ st w =>
  match st with
  | [v] => ev_if (ev_fits a v && ev_may M w 0 0) (some (.inl (some v, w))) none
  | _ => none
noncomputable def ev_h_aret : ev_H := fun _ M _ _ _ _ _ _ _ _ _ st w =>
  match st with
  | [v] => ev_if (ev_ir v && ev_may M w 0 0) (some (.inl (some v, w))) none
  | _ => none
noncomputable def ev_h_wret : ev_H := fun _ M _ _ _ a _ _ _ _ _ st w =>
  match st with
  | [v] => ev_if (ev_ik a v && ev_may M w 0 0) (some (.inl (some v, w))) none
  | _ => none
/-- a, b: the least and the greatest case, biased; c: the default -/
noncomputable def ev_h_switch : ev_H := fun Φ _ k _ _ a b c tg _ loc st w =>
  match st with
  | x :: r => match ev_itv Φ x with
    | some p => ev_if (Nat.ble (p.2 + 1) a || Nat.ble (b + 1) p.1) (k c loc r w) (ev_if (Nat.beq p.1 p.2 && (Nat.ble a p.1 && Nat.ble p.1 b)) (match ev_lg tg (p.1 - a) with
      | some t => k t loc r w
      | none => none) none)
    | none => none
  | _ => none
/-- from one value to another: 0 i2l, 1 l2i, 2 i2d, 3 i2f, 4 f2d, 5 i2b, 6 i2c -/
def ev_n64 (r : UInt64) : Bool := decide (r &&& 0x7fffffffffffffff ≤ 0x7ff0000000000000)
def ev_n32 (r : UInt32) : Bool := decide (r &&& 0x7fffffff ≤ 0x7f800000)
noncomputable def ev_cv (j : Nat) (v : ev_V) : Option ev_V :=
  match j, v with
  | 0, .inl n => some (.inr (.inr (.inr (0, ev_nl (nI n).toInt64))))
  | 1, .inr (.inr (.inr (0, n))) => some (.inl (ev_n (lN n).toInt32))
  | 2, .inl n => some (.inr (.inr (.inr (2, (FP.i2d (nI n)).toNat))))
  | 3, .inl n => some (.inr (.inr (.inr (1, (FP.i2f (nI n)).toNat))))
  | 4, .inr (.inr (.inr (1, n))) => ev_if (ev_n64 (FP.f2d (UInt32.ofNat n))) (some (.inr (.inr (.inr (2, (FP.f2d (UInt32.ofNat n)).toNat))))) none
  | 5, .inl n => some (.inl (ev_n (nI n).toInt8.toInt32))
  | 5, .inr (.inr (.inl (none, f))) => some (.inr (.inr (.inl (none, fun σ => (f σ).toInt8.toInt32))))
  | 6, .inl n => some (.inl (n % 65536))
  | _, _ => none
noncomputable def ev_h_cv : ev_H := fun _ _ k _ nx a _ _ _ _ loc st w =>
  match st with
  | x :: r => match ev_cv a x with
    | some z => k nx loc (z :: r) w
    | none => none
  | _ => none
/-- two values to one: 0 ddiv, 1 fdiv, 2 dcmpl, 3 dcmpg, 4 lcmp, 5 lshr, 6 lshl, 7 land, 8 lor, 9 Math.max -/
noncomputable def ev_w2 (j : Nat) (x y : ev_V) : Option ev_V :=
  match j, x, y with
  | 0, .inr (.inr (.inr (2, m))), .inr (.inr (.inr (2, n))) => ev_if (ev_n64 (FP.ddiv (UInt64.ofNat m) (UInt64.ofNat n))) (some (.inr (.inr (.inr (2, (FP.ddiv (UInt64.ofNat m) (UInt64.ofNat n)).toNat))))) none
  | 1, .inr (.inr (.inr (1, m))), .inr (.inr (.inr (1, n))) => ev_if (ev_n32 (FP.fdiv (UInt32.ofNat m) (UInt32.ofNat n))) (some (.inr (.inr (.inr (1, (FP.fdiv (UInt32.ofNat m) (UInt32.ofNat n)).toNat))))) none
  | 2, .inr (.inr (.inr (2, m))), .inr (.inr (.inr (2, n))) => some (.inl (ev_n (Op.cmpValue (FP.dcmp (UInt64.ofNat m) (UInt64.ofNat n)) .l)))
  | 3, .inr (.inr (.inr (2, m))), .inr (.inr (.inr (2, n))) => some (.inl (ev_n (Op.cmpValue (FP.dcmp (UInt64.ofNat m) (UInt64.ofNat n)) .g)))
  | 4, .inr (.inr (.inr (0, m))), .inr (.inr (.inr (0, n))) => some (.inl (ev_n (lg_cmp (lN m) (lN n))))
  | 5, .inr (.inr (.inr (0, m))), .inl n => some (.inr (.inr (.inr (0, ev_nl (ev_opS 0 (lN m) (nI n))))))
  | 6, .inr (.inr (.inr (0, m))), .inl n => some (.inr (.inr (.inr (0, ev_nl (ev_opS 1 (lN m) (nI n))))))
  | 7, .inr (.inr (.inr (0, m))), .inr (.inr (.inr (0, n))) => some (.inr (.inr (.inr (0, ev_nl (ev_opL 0 (lN m) (lN n))))))
  | 8, .inr (.inr (.inr (0, m))), .inr (.inr (.inr (0, n))) => some (.inr (.inr (.inr (0, ev_nl (ev_opL 1 (lN m) (lN n))))))
  | 9, .inl m, .inl n => some (.inl (ev_if (Nat.ble (ev_bi m + 1) (ev_bi n)) n m))
  | _, _, _ => none
noncomputable def ev_h_w2 : ev_H := fun _ M k _ nx a _ _ _ _ loc st w =>
  match st with
  | y :: x :: r => match ev_w2 a x y with
    | some z => ev_if (Nat.ble (ev_cs r) 8 && ev_may M w 0 0) (k nx loc (z :: r) w) none
    | none => none
  | _ => none
/-- System.arraycopy between int[]s, from their beginnings -/
noncomputable def ev_cpy (n : Nat) (f g : List (List (List ev_V))) : Option (List (List (List ev_V))) :=
  Nat.rec (motive := fun _ => Option (List (List (List ev_V)))) (some g) (fun i ih => match ih, ev_get f i with
    | some h, some v => ev_if (ev_ii v) (ev_sto h i v) none
    | _, _ => none) n
noncomputable def ev_h_copy : ev_H := fun _ _ k _ nx _ _ _ _ _ loc st w =>
  match st with
  | .inl n :: .inl 0 :: .inr (.inl (some i)) :: .inl 0 :: .inr (.inl (some i0)) :: r => match ev_get w.1 i, ev_get w.1 i0 with
    | some q, some q0 => ev_if (Nat.beq q.1 20 && (Nat.beq q0.1 20 && (Nat.ble n q.2.1 && (Nat.ble n q0.2.1 && (Nat.ble q.2.1 65536 && (Nat.ble q0.2.1 65536 && Nat.ble (ev_cs r) 8)))))) (match ev_cpy n q0.2.2 q.2.2 with
      | some z => match ev_sto w.1 i (q.1, (q.2.1, z)) with
        | some x => k nx loc r (x, w.2)
        | none => none
      | none => none) none
    | _, _ => none
  | _ => none
noncomputable def ev_h_stop : ev_H := fun _ _ _ _ _ a _ _ _ _ loc st w => some (.inr (.inr (a, (loc, (st, w)))))
/-- the words of the setup text, as the class and the reference name them; a text is the thing 2000000 + its place -/
def ev_tx : List (List Nat) := [[111, 114, 100, 101, 114], [100, 101, 101, 112], [114, 111, 111, 116], [112, 114, 111, 99, 101, 115, 115], [104, 101, 105, 114], [100, 117, 116, 121], [114, 101, 102, 117, 115, 101], [119, 105, 108, 108], [110, 101, 97, 114], [103, 114, 111, 117, 112], [114, 111, 111, 109], [107, 105, 110], [111, 108, 100]]
def ev_tb : Nat := 2000000
def ev_tin (i : Nat) : Bool := Nat.ble ev_tb i && Nat.ble (i + 1) (ev_tb + 26)
noncomputable def ev_txt (k : Nat) : Option (List Nat) := ev_lg ev_tx (k % 13)
noncomputable def ev_h_ldcs : ev_H := fun _ _ k _ nx a _ _ _ _ loc st w => ev_if (Nat.ble (a + 1) 26) (k nx loc (.inr (.inl (some (ev_tb + a))) :: st) w) none
/-- String.length() -/
noncomputable def ev_h_slen : ev_H := fun _ M k _ nx _ _ _ _ _ loc st w =>
  match st with
  | .inr (.inl (some i)) :: r => ev_if (ev_tin i && (Nat.ble (ev_cs r) 8 && ev_may M w 0 0)) (match ev_txt (i - ev_tb) with
    | some t => k nx loc (.inl t.length :: r) w
    | none => none) none
  | _ => none
/-- String.charAt(int) -/
noncomputable def ev_h_chat : ev_H := fun _ M k _ nx _ _ _ _ _ loc st w =>
  match st with
  | .inl j :: .inr (.inl (some i)) :: r => ev_if (ev_tin i && (Nat.ble (ev_cs r) 8 && ev_may M w 0 0)) (match ev_txt (i - ev_tb) with
    | some t => match ev_lg t j with
      | some z => k nx loc (.inl z :: r) w
      | none => none
    | none => none) none
  | _ => none
/-! which is which: two digits, eight to each -/
noncomputable def ev_sw (n : Nat) (f g : Nat → ev_H) : Nat → ev_H := fun op => Bool.rec (motive := fun _ => ev_H) (g op) (f op) (Nat.ble op n)
noncomputable def ev_k (h : ev_H) : Nat → ev_H := fun _ => h
noncomputable def ev_sel : Nat → ev_H := (ev_sw 25 (ev_sw 13 (ev_sw 7 (ev_sw 2 (ev_sw 1 (ev_sw 0 (ev_k ev_h_none) (ev_k ev_h_int)) (ev_k ev_h_null)) (ev_sw 6 (ev_sw 3 (ev_k ev_h_wide) (ev_k ev_h_iload)) (ev_k ev_h_aload))) (ev_sw 10 (ev_sw 9 (ev_sw 8 (ev_k ev_h_dload) (ev_k ev_h_istore)) (ev_k ev_h_astore)) (ev_sw 12 (ev_sw 11 (ev_k ev_h_dstore) (ev_k ev_h_iinc)) (ev_k ev_h_iadd)))) (ev_sw 19 (ev_sw 16 (ev_sw 15 (ev_sw 14 (ev_k ev_h_isub) (ev_k ev_h_ibin)) (ev_k ev_h_if0)) (ev_sw 18 (ev_sw 17 (ev_k ev_h_icmp) (ev_k ev_h_acmp)) (ev_k ev_h_isnull))) (ev_sw 22 (ev_sw 21 (ev_sw 20 (ev_k ev_h_goto) (ev_k ev_h_dup)) (ev_k ev_h_dup2)) (ev_sw 24 (ev_sw 23 (ev_k ev_h_pop) (ev_k ev_h_getf)) (ev_k ev_h_putf))))) (ev_sw 37 (ev_sw 31 (ev_sw 28 (ev_sw 27 (ev_sw 26 (ev_k ev_h_alen) (ev_k ev_h_iald)) (ev_k ev_h_iast)) (ev_sw 30 (ev_sw 29 (ev_k ev_h_ald) (ev_k ev_h_bast)) (ev_k ev_h_last))) (ev_sw 34 (ev_sw 33 (ev_sw 32 (ev_k (ev_h_aast 3 5)) (ev_k ev_h_new)) (ev_k ev_h_newa)) (ev_sw 36 (ev_sw 35 (ev_k ev_h_call) (ev_k ev_h_objinit)) (ev_k ev_h_throw)))) (ev_sw 43 (ev_sw 40 (ev_sw 39 (ev_sw 38 (ev_k ev_h_vret) (ev_k ev_h_iret)) (ev_k ev_h_aret)) (ev_sw 42 (ev_sw 41 (ev_k ev_h_wret) (ev_k ev_h_switch)) (ev_k ev_h_cv))) (ev_sw 46 (ev_sw 45 (ev_sw 44 (ev_k ev_h_w2) (ev_k ev_h_copy)) (ev_k ev_h_stop)) (ev_sw 49 (ev_sw 48 (ev_sw 47 (ev_k ev_h_idiv) (ev_k ev_h_iand63)) (ev_k ev_h_ldcs)) (ev_sw 50 (ev_k ev_h_slen) (ev_k ev_h_chat)))))))
/-- one instruction -/
noncomputable def ev_exec (Φ : ev_P) (M : ev_M) (k : ev_N) (cl : ev_F) (x : ev_E) (pc : Nat) (loc : ev_L) (st : List ev_V) (w : ev_W) : ev_R :=
  Prod.rec (motive := fun _ => ev_R) (fun op x => Prod.rec (motive := fun _ => ev_R) (fun nx x => Prod.rec (motive := fun _ => ev_R) (fun a x => Prod.rec (motive := fun _ => ev_R) (fun b x => Prod.rec (motive := fun _ => ev_R) (fun c tg => ev_sel op Φ M k cl nx a b c tg pc loc st w) x) x) x) x) x
/-- the locals at a method's start -/
noncomputable def ev_loc (n : Nat) (As : List ev_V) : ev_L := As.map some ++ List.replicate (n - As.length) none
/-- d: how many calls deep it may still go -/
noncomputable def ev_run (Φ : ev_P) (P : Nat → ev_M) (n : Nat) : Nat → ev_M → ev_N :=
  Nat.rec (motive := fun _ => Nat → ev_M → ev_N) (fun _ _ _ _ _ _ => none)
    (fun _ ih d M pc loc st w => ev_exec Φ M (ih d M) (fun mi As w => Nat.rec (motive := fun _ => ev_R) none (fun d' _ => ih d' (P mi) 0 (ev_loc (P mi).1 As) [] w) d) (M.2.2.2.2 pc) pc loc st w) n
/-- a method's code as a tree -/
noncomputable def ev_ct (n : Nat) (f g : Nat → ev_E) : Nat → ev_E := fun pc => Bool.rec (motive := fun _ => ev_E) (g pc) (f pc) (Nat.ble pc n)
noncomputable def ev_cl (x : ev_E) : Nat → ev_E := fun _ => x
noncomputable def ev_mt (n : Nat) (f g : Nat → ev_M) : Nat → ev_M := fun i => Bool.rec (motive := fun _ => ev_M) (g i) (f i) (Nat.ble i n)
noncomputable def ev_ml (x : ev_M) : Nat → ev_M := fun _ => x
