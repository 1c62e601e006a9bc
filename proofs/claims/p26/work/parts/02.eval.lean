/-! ===== an evaluator of the claim's bytecode over a picture of the heap (own work) =====
A value: a number below 2^32, or null or the number of a thing, or a number that depends on the script (which cell of it, if it is one), or a wide one or a float (0: long, 1: float, 2: double).
A thing: its kind (below 20: a class of vwCl; 20 int[], 21 byte[], 22 boolean[], 23 long[], 24 Proc[], 25 Tree[]; 99 nothing yet), how many fields or elements, and these.
A world: the things, how many there are, whether no cell of the heap lies behind them, what this frame has made (cells, slots). -/
abbrev ev_V : Type := Nat ⊕ (Option Nat ⊕ ((Option Nat × ((Nat → Int32) → Int32)) ⊕ (Nat × Nat)))
abbrev ev_C : Type := Nat × (Nat × List (List (List ev_V)))
abbrev ev_W : Type := List (List (List ev_C)) × (Nat × (Bool × (Nat × Nat)))
/-- an instruction: what it does, where it goes on, three operands, a list of operands -/
abbrev ev_E : Type := Nat × (Nat × (Nat × (Nat × (Nat × List Nat))))
/-- a method: its locals, the cells and slots that it may make, its handlers (from, to, handler, class), its code -/
abbrev ev_M : Type := Nat × (Nat × (Nat × (List (Nat × (Nat × (Nat × Nat))) × (Nat → ev_E))))
abbrev ev_L : Type := List (Option ev_V)
/-- an end: an answer; an exception by its number; a stop -/
abbrev ev_S : Type := (Option ev_V × ev_W) ⊕ ((Nat × ev_W) ⊕ (Nat × (ev_L × (List ev_V × ev_W))))
abbrev ev_R : Type := Option ev_S
/-- the script's length, and what is known of its cells (which, from, to; the least number counts as nought) -/
abbrev ev_P : Type := Nat × List (Nat × (Nat × Nat))
abbrev ev_N : Type := Nat → ev_L → List ev_V → ev_W → ev_R
abbrev ev_F : Type := Nat → List ev_V → ev_W → ev_R
abbrev ev_H : Type := ev_P → ev_M → ev_N → ev_F → Nat → Nat → Nat → Nat → List Nat → Nat → ev_L → List ev_V → ev_W → ev_R
noncomputable def ev_lg {α : Type} (l : List α) : Nat → Option α :=
  List.rec (motive := fun _ => Nat → Option α) (fun _ => none) (fun a _ ih n => Nat.rec (motive := fun _ => Option α) (some a) (fun m _ => ih m) n) l
noncomputable def ev_ls {α : Type} (l : List α) : Nat → α → List α :=
  List.rec (motive := fun _ => Nat → α → List α) (fun _ _ => []) (fun a t ih n v => Nat.rec (motive := fun _ => List α) (v :: t) (fun m _ => a :: ih m v) n) l
noncomputable def ev_if {α : Type} (c : Bool) (t e : α) : α := Bool.rec (motive := fun _ => α) e t c
noncomputable def ev_g2 {α : Type} (c : List (List α)) (p q : Nat) : Option α :=
  Option.rec (motive := fun _ => Option α) none (fun d => ev_lg d q) (ev_lg c p)
noncomputable def ev_get {α : Type} (t : List (List (List α))) (i : Nat) : Option α :=
  Option.rec (motive := fun _ => Option α) none (fun c => ev_g2 c (i / 8 % 8) (i % 8)) (ev_lg t (i / 64))
noncomputable def ev_lso {α : Type} (l : List α) : Nat → α → Option (List α) :=
  List.rec (motive := fun _ => Nat → α → Option (List α)) (fun _ _ => none) (fun a t ih n v => Nat.rec (motive := fun _ => Option (List α)) (some (v :: t)) (fun m _ => Option.rec (motive := fun _ => Option (List α)) none (fun z => some (a :: z)) (ih m v)) n) l
noncomputable def ev_s2 {α : Type} (c : List (List α)) (p q : Nat) (v : α) : Option (List (List α)) :=
  Option.rec (motive := fun _ => Option (List (List α))) none (fun d => Option.rec (motive := fun _ => Option (List (List α))) none (fun d' => ev_lso c p d') (ev_lso d q v)) (ev_lg c p)
noncomputable def ev_sto {α : Type} (t : List (List (List α))) (i : Nat) (v : α) : Option (List (List (List α))) :=
  Option.rec (motive := fun _ => Option (List (List (List α)))) none (fun c => Option.rec (motive := fun _ => Option (List (List (List α)))) none (fun c' => ev_lso t (i / 64) c') (ev_s2 c (i / 8 % 8) (i % 8) v)) (ev_lg t (i / 64))
/-- element b of the thing q at i becomes v -/
noncomputable def ev_upd (w : ev_W) (i : Nat) (q : ev_C) (b : Nat) (v : ev_V) (kt : ev_W → ev_R) : ev_R :=
  match ev_sto q.2.2 b v with
  | some d => match ev_sto w.1 i (q.1, (q.2.1, d)) with
    | some x => kt (x, w.2)
    | none => none
  | none => none
/-- kinds of values -/
def ev_ii : ev_V → Bool
  | .inl _ => true
  | .inr (.inr (.inl _)) => true
  | _ => false
def ev_ir : ev_V → Bool
  | .inr (.inl _) => true
  | _ => false
def ev_ik (k : Nat) : ev_V → Bool
  | .inr (.inr (.inr (j, _))) => Nat.beq j k
  | _ => false
def ev_wide : ev_V → Bool
  | .inr (.inr (.inr _)) => true
  | _ => false
/-- a value's biased bounds -/
def ev_bi (n : Nat) : Nat := (n + 2147483648) % 4294967296
noncomputable def ev_fl (l : List (Nat × (Nat × Nat))) (i : Nat) : Nat × Nat :=
  List.rec (motive := fun _ => Nat × Nat) (0, 4294967295) (fun q _ ih => ev_if (Nat.beq q.1 i) q.2 ih) l
noncomputable def ev_itv (Φ : ev_P) : ev_V → Option (Nat × Nat)
  | .inl n => some (ev_bi n, ev_bi n)
  | .inr (.inr (.inl (some i, _))) => some (ev_fl Φ.2 i)
  | .inr (.inr (.inl (none, _))) => some (0, 4294967295)
  | _ => none
noncomputable def ev_lt (Φ : ev_P) (x y : ev_V) : Option Bool :=
  match ev_itv Φ x, ev_itv Φ y with
  | some p, some q => ev_if (Nat.ble (p.2 + 1) q.1) (some true) (ev_if (Nat.ble q.2 p.1) (some false) none)
  | _, _ => none
noncomputable def ev_eq (Φ : ev_P) (x y : ev_V) : Option Bool :=
  match ev_itv Φ x, ev_itv Φ y with
  | some p, some q => ev_if (Nat.ble (p.2 + 1) q.1) (some false) (ev_if (Nat.ble (q.2 + 1) p.1) (some false) (ev_if (Nat.beq p.1 p.2 && (Nat.beq q.1 q.2 && Nat.beq p.1 q.1)) (some true) none))
  | _, _ => none
/-- 0: equal, 1: less, 2: greater -/
noncomputable def ev_cmp (Φ : ev_P) (j : Nat) (x y : ev_V) : Option Bool :=
  ev_if (Nat.beq j 0) (ev_eq Φ x y) (ev_if (Nat.beq j 1) (ev_lt Φ x y) (ev_lt Φ y x))
/-- numbers as functions of the script -/
noncomputable def ev_sv (σ : Nat → Int32) (i : Nat) : Int32 := if i < 5000 then σ i else σ (i - 5000) &&& 63
noncomputable def ev_iv : ev_V → Option ((Nat → Int32) → Int32)
  | .inl n => some (fun _ => nI n)
  | .inr (.inr (.inl (some i, _))) => some (fun σ => ev_sv σ i)
  | .inr (.inr (.inl (none, f))) => some f
  | _ => none
noncomputable def ev_b2 (G : Nat → Nat → Nat) (F : Int32 → Int32 → Int32) (x y : ev_V) : Option ev_V :=
  match x, y with
  | .inl m, .inl n => some (.inl (G m n))
  | x, y => match ev_iv x, ev_iv y with
    | some f, some g => some (.inr (.inr (.inl (none, fun σ => F (f σ) (g σ)))))
    | _, _ => none
def ev_n (x : Int32) : Nat := x.toBitVec.toNat
def ev_nl (x : Int64) : Nat := x.toBitVec.toNat
def ev_opI (j : Nat) (x y : Int32) : Int32 :=
  match j with
  | 0 => x * y
  | 1 => x &&& y
  | 2 => x ||| y
  | 3 => x ^^^ y
  | 4 => x <<< (y &&& 31)
  | 5 => x >>> (y &&& 31)
  | 6 => (x.toUInt32 >>> (y.toUInt32 &&& Int32.toUInt32 31)).toInt32
  | _ => 0
def ev_opL (j : Nat) (x y : Int64) : Int64 :=
  match j with
  | 0 => x &&& y
  | _ => x ||| y
def ev_opS (j : Nat) (x : Int64) (y : Int32) : Int64 :=
  match j with
  | 0 => x >>> (y.toInt64 &&& 63)
  | _ => x <<< (y.toInt64 &&& 63)
/-- the local ahead isn't of two slots -/
noncomputable def ev_nw (loc : ev_L) (a : Nat) : Bool :=
  match a with
  | 0 => true
  | k + 1 => match ev_lg loc k with
    | some (some v) => !ev_wide v
    | _ => true
/-- units of a stack -/
noncomputable def ev_cs : List ev_V → Nat
  | [] => 0
  | v :: r => ev_if (ev_wide v) 2 1 + ev_cs r
noncomputable def ev_sp (n : Nat) : List ev_V → List ev_V → Option (List ev_V × List ev_V) :=
  Nat.rec (motive := fun _ => List ev_V → List ev_V → Option (List ev_V × List ev_V)) (fun acc st => some (acc, st)) (fun _ ih acc st => match st with
    | [] => none
    | v :: r => ih (v :: acc) r) n
def ev_dv (c : Nat) : ev_V := match c with
  | 0 => .inl 0
  | 1 => .inr (.inl none)
  | _ => .inr (.inr (.inr (0, 0)))
/-- may a value stand in a field of this type: 0 int, 1 boolean, 2 reference, 3 long -/
def ev_fits (c : Nat) (v : ev_V) : Bool := match c with
  | 0 => ev_ii v
  | 1 => match v with
    | .inl n => Nat.ble n 1
    | _ => false
  | 2 => ev_ir v
  | _ => ev_ik 0 v
/-- may so many cells and slots be made -/
noncomputable def ev_may (M : ev_M) (w : ev_W) (c s : Nat) : Bool := Nat.ble (w.2.2.2.1 + c) M.2.1 && Nat.ble (w.2.2.2.2 + s) M.2.2.1
/-! the instructions -/
noncomputable def ev_h_none : ev_H := fun _ _ _ _ _ _ _ _ _ _ _ _ _ => none
noncomputable def ev_h_int : ev_H := fun _ _ k _ nx a _ _ _ _ loc st w => k nx loc (.inl a :: st) w
noncomputable def ev_h_null : ev_H := fun _ _ k _ nx _ _ _ _ _ loc st w => k nx loc (.inr (.inl none) :: st) w
noncomputable def ev_h_wide : ev_H := fun _ _ k _ nx a b _ _ _ loc st w => k nx loc (.inr (.inr (.inr (a, b))) :: st) w
noncomputable def ev_h_iload : ev_H := fun _ _ k _ nx a _ _ _ _ loc st w =>
  match ev_lg loc a with
  | some (some v) => ev_if (ev_ii v) (k nx loc (v :: st) w) none
  | _ => none
noncomputable def ev_h_aload : ev_H := fun _ _ k _ nx a _ _ _ _ loc st w =>
  match ev_lg loc a with
  | some (some v) => ev_if (ev_ir v) (k nx loc (v :: st) w) none
  | _ => none
noncomputable def ev_h_dload : ev_H := fun _ _ k _ nx a _ _ _ _ loc st w =>
  match ev_lg loc a with
  | some (some v) => ev_if (ev_ik 2 v) (k nx loc (v :: st) w) none
  | _ => none
noncomputable def ev_h_istore : ev_H := fun _ _ k _ nx a _ _ _ _ loc st w =>
  match st with
  | v :: r => ev_if (ev_ii v && ev_nw loc a) (k nx (ev_ls loc a (some v)) r w) none
  | _ => none
noncomputable def ev_h_astore : ev_H := fun _ _ k _ nx a _ _ _ _ loc st w =>
  match st with
  | v :: r => ev_if (ev_ir v && ev_nw loc a) (k nx (ev_ls loc a (some v)) r w) none
  | _ => none
noncomputable def ev_h_dstore : ev_H := fun _ _ k _ nx a _ _ _ _ loc st w =>
  match st with
  | v :: r => ev_if (ev_ik 2 v && ev_nw loc a) (k nx (ev_ls (ev_ls loc a (some v)) (a + 1) none) r w) none
  | _ => none
noncomputable def ev_h_iinc : ev_H := fun _ _ k _ nx a b _ _ _ loc st w =>
  match ev_lg loc a with
  | some (some (.inl n)) => ev_if (ev_nw loc a) (k nx (ev_ls loc a (some (.inl ((n + b) % 4294967296)))) st w) none
  | _ => none
noncomputable def ev_h_iadd : ev_H := fun _ _ k _ nx _ _ _ _ _ loc st w =>
  match st with
  | y :: x :: r => match ev_b2 (fun m n => (m + n) % 4294967296) (fun p q => p + q) x y with
    | some z => k nx loc (z :: r) w
    | none => none
  | _ => none
noncomputable def ev_h_isub : ev_H := fun _ _ k _ nx _ _ _ _ _ loc st w =>
  match st with
  | y :: x :: r => match ev_b2 (fun m n => (m + (4294967296 - n % 4294967296)) % 4294967296) (fun p q => p - q) x y with
    | some z => k nx loc (z :: r) w
    | none => none
  | _ => none
noncomputable def ev_h_ibin : ev_H := fun _ _ k _ nx a _ _ _ _ loc st w =>
  match st with
  | y :: x :: r => match ev_b2 (fun m n => ev_n (ev_opI a (nI m) (nI n))) (ev_opI a) x y with
    | some z => k nx loc (z :: r) w
    | none => none
  | _ => none
/-- a cell of the script, its last six bits -/
noncomputable def ev_h_iand63 : ev_H := fun Φ M k cl nx a b c tg pc loc st w =>
  match st with
  | .inl 63 :: .inr (.inr (.inl (some i, _))) :: r => ev_if (Nat.ble (i + 1) 5000) (k nx loc (.inr (.inr (.inl (some (i + 5000), fun _ => 0))) :: r) w) none
  | _ => ev_h_ibin Φ M k cl nx a b c tg pc loc st w
noncomputable def ev_h_idiv : ev_H := fun _ _ k _ nx a _ _ _ _ loc st w =>
  match st with
  | .inl y :: .inl x :: r => ev_if (Nat.ble 1 y && (Nat.ble (y + 1) 2147483648 && Nat.ble (x + 1) 2147483648)) (k nx loc (.inl (ev_if (Nat.beq a 0) (x / y) (x % y)) :: r) w) none
  | _ => none
noncomputable def ev_br (o : Option Bool) (t f : ev_R) : ev_R := match o with
  | some true => t
  | some false => f
  | none => none
noncomputable def ev_h_if0 : ev_H := fun Φ _ k _ _ a b c _ _ loc st w =>
  match st with
  | x :: r => ev_br (ev_cmp Φ a x (.inl 0)) (k b loc r w) (k c loc r w)
  | _ => none
noncomputable def ev_h_icmp : ev_H := fun Φ _ k _ _ a b c _ _ loc st w =>
  match st with
  | y :: x :: r => ev_br (ev_cmp Φ a x y) (k b loc r w) (k c loc r w)
  | _ => none
noncomputable def ev_oeq (x y : Option Nat) : Bool := match x, y with
  | some m, some n => Nat.beq m n
  | none, none => true
  | _, _ => false
noncomputable def ev_own (x : Option Nat) : Bool := match x with
  | some m => Nat.ble (m + 1) 1000000
  | none => true
noncomputable def ev_h_acmp : ev_H := fun _ _ k _ _ _ b c _ _ loc st w =>
  match st with
  | .inr (.inl y) :: .inr (.inl x) :: r => ev_if (ev_own x && ev_own y) (ev_if (ev_oeq x y) (k b loc r w) (k c loc r w)) none
  | _ => none
noncomputable def ev_h_isnull : ev_H := fun _ _ k _ _ _ b c _ _ loc st w =>
  match st with
  | .inr (.inl none) :: r => k b loc r w
  | .inr (.inl (some _)) :: r => k c loc r w
  | _ => none
noncomputable def ev_h_goto : ev_H := fun _ _ k _ nx _ _ _ _ _ loc st w => k nx loc st w
noncomputable def ev_h_dup : ev_H := fun _ _ k _ nx _ _ _ _ _ loc st w =>
  match st with
  | x :: r => ev_if (!ev_wide x) (k nx loc (x :: x :: r) w) none
  | _ => none
noncomputable def ev_h_dup2 : ev_H := fun _ _ k _ nx _ _ _ _ _ loc st w =>
  match st with
  | x :: y :: r => ev_if (!ev_wide x && !ev_wide y) (k nx loc (x :: y :: x :: y :: r) w) none
  | _ => none
noncomputable def ev_h_pop : ev_H := fun _ _ k _ nx _ _ _ _ _ loc st w =>
  match st with
  | x :: r => ev_if (!ev_wide x) (k nx loc r w) none
  | _ => none
noncomputable def ev_h_getf : ev_H := fun _ _ k _ nx a b _ _ _ loc st w =>
  match st with
  | .inr (.inl (some i)) :: r => match ev_get w.1 i with
    | some q => ev_if (Nat.beq q.1 a) (match ev_get q.2.2 b with
      | some v => k nx loc (v :: r) w
      | none => none) none
    | none => none
  | _ => none
noncomputable def ev_h_putf : ev_H := fun _ _ k _ nx a b c _ _ loc st w =>
  match st with
  | v :: .inr (.inl (some i)) :: r => match ev_get w.1 i with
    | some q => ev_if (Nat.beq q.1 a && ev_fits c v) (ev_upd w i q b v (k nx loc r)) none
    | none => none
  | _ => none
noncomputable def ev_h_alen : ev_H := fun Φ _ k _ nx _ _ _ _ _ loc st w =>
  match st with
  | .inr (.inl (some i)) :: r => ev_if (Nat.beq i 1000000) (ev_if (Nat.ble Φ.1 5000) (k nx loc (.inl Φ.1 :: r) w) none) (match ev_get w.1 i with
    | some q => ev_if (Nat.ble 20 q.1 && Nat.ble q.1 25) (k nx loc (.inl q.2.1 :: r) w) none
    | none => none)
  | _ => none
/-- from an array of a kind from a to b -/
noncomputable def ev_h_ald : ev_H := fun _ _ k _ nx a b _ _ _ loc st w =>
  match st with
  | .inl j :: .inr (.inl (some i)) :: r => match ev_get w.1 i with
    | some q => ev_if (Nat.ble a q.1 && (Nat.ble q.1 b && (Nat.ble (j + 1) q.2.1 && Nat.ble q.2.1 65536))) (match ev_get q.2.2 j with
      | some v => k nx loc (v :: r) w
      | none => none) none
    | none => none
  | _ => none
/-- the same for ints: from the script, too -/
noncomputable def ev_h_iald : ev_H := fun Φ M k cl nx a b c tg pc loc st w =>
  match st with
  | .inl j :: .inr (.inl (some i)) :: r => ev_if (Nat.beq i 1000000) (ev_if (Nat.ble (j + 1) Φ.1 && Nat.ble Φ.1 5000) (Prod.rec (motive := fun _ => ev_R) (fun lo hi => ev_if (Nat.beq lo hi) (k nx loc (.inl ((lo + 2147483648) % 4294967296) :: r) w) (k nx loc (.inr (.inr (.inl (some j, fun _ => 0))) :: r) w)) (ev_fl Φ.2 j)) none) (ev_h_ald Φ M k cl nx a b c tg pc loc st w)
  | _ => none
noncomputable def ev_h_iast : ev_H := fun _ _ k _ nx _ _ _ _ _ loc st w =>
  match st with
  | v :: .inl j :: .inr (.inl (some i)) :: r => match ev_get w.1 i with
    | some q => ev_if (Nat.beq q.1 20 && (ev_ii v && (Nat.ble (j + 1) q.2.1 && Nat.ble q.2.1 65536))) (ev_upd w i q j v (k nx loc r)) none
    | none => none
  | _ => none
def ev_nb : ev_V → Option ev_V
  | .inl n => some (.inl (ev_n (nI n).toInt8.toInt32))
  | .inr (.inr (.inl (none, f))) => some (.inr (.inr (.inl (none, fun σ => (f σ).toInt8.toInt32))))
  | _ => none
/-- into a byte[] what is a byte, into a boolean[] 0 or 1 -/
noncomputable def ev_h_bast : ev_H := fun _ _ k _ nx _ _ _ _ _ loc st w =>
  match st with
  | v :: .inl j :: .inr (.inl (some i)) :: r => match ev_get w.1 i with
    | some q => ev_if (Nat.ble (j + 1) q.2.1 && Nat.ble q.2.1 65536)
      (ev_if (Nat.beq q.1 21) (match ev_nb v with
        | some z => ev_upd w i q j z (k nx loc r)
        | none => none) (ev_if (Nat.beq q.1 22 && ev_fits 1 v) (ev_upd w i q j v (k nx loc r)) none)) none
    | none => none
  | _ => none
noncomputable def ev_h_last : ev_H := fun _ _ k _ nx _ _ _ _ _ loc st w =>
  match st with
  | v :: .inl j :: .inr (.inl (some i)) :: r => match ev_get w.1 i with
    | some q => ev_if (Nat.beq q.1 23 && (ev_ik 0 v && (Nat.ble (j + 1) q.2.1 && Nat.ble q.2.1 65536))) (ev_upd w i q j v (k nx loc r)) none
    | none => none
  | _ => none
/-- a Proc (3) into a Proc[] (24), a Tree (5) into a Tree[] (25): the class is asked of the program -/
noncomputable def ev_h_aast (cP cT : Nat) : ev_H := fun _ _ k _ nx _ _ _ _ _ loc st w =>
  match st with
  | .inr (.inl (some x)) :: .inl j :: .inr (.inl (some i)) :: r => match ev_get w.1 i, ev_get w.1 x with
    | some q, some u => ev_if ((ev_if (Nat.beq q.1 24) (Nat.beq u.1 cP) (Nat.beq q.1 25 && Nat.beq u.1 cT)) && (Nat.ble (j + 1) q.2.1 && Nat.ble q.2.1 65536)) (ev_upd w i q j (.inr (.inl (some x))) (k nx loc r)) none
    | _, _ => none
  | _ => none
/-- a new thing q of s slots -/
noncomputable def ev_mk (w : ev_W) (q : ev_C) (s : Nat) (kt : ev_W → ev_R) : ev_R :=
  ev_if w.2.2.1 (match ev_sto w.1 w.2.1 q with
    | some x => kt (x, (w.2.1 + 1, (true, (w.2.2.2.1 + 1, w.2.2.2.2 + s))))
    | none => none) none
def ev_ch8 (l : List ev_V) : List (List ev_V) := [l.take 8, (l.drop 8).take 8, (l.drop 16).take 8, l.drop 24]
noncomputable def ev_h_new : ev_H := fun _ M k _ nx a b _ tg _ loc st w =>
  ev_if (ev_may M w 1 b) (ev_mk w (a, (b, [ev_ch8 (tg.map ev_dv)])) b (k nx loc (.inr (.inl (some w.2.1)) :: st))) none
noncomputable def ev_rows (n : Nat) (v : ev_V) : List (List (List ev_V)) := List.replicate (n / 64 + 1) (List.replicate 8 (List.replicate 8 v))
noncomputable def ev_h_newa : ev_H := fun _ M k _ nx a b _ _ _ loc st w =>
  match st with
  | .inl n :: r => ev_if (ev_may M w 1 n && Nat.ble n 65536) (ev_mk w (a, (n, ev_rows n (ev_dv b))) n (k nx loc (.inr (.inl (some w.2.1)) :: r))) none
  | _ => none
/-- behind a call -/
noncomputable def ev_back (w w2 : ev_W) (c s : Nat) : ev_W := (w2.1, (w2.2.1, (w2.2.2.1, (w.2.2.2.1 + c, w.2.2.2.2 + s))))
/-- which handler takes exception E over pc -/
noncomputable def ev_hd (l : List (Nat × (Nat × (Nat × Nat)))) (pc E : Nat) : Option Nat :=
  List.rec (motive := fun _ => Option Nat) none (fun q _ ih => ev_if (Nat.ble q.1 pc && Nat.ble (pc + 1) q.2.1) (ev_if (Nat.beq q.2.2.2 E) (some q.2.2.1) ih) ih) l
/-- an exception over pc: caught by a handler that begins with a store of it, or on to the caller -/
noncomputable def ev_exc (M : ev_M) (k : ev_N) (pc E : Nat) (loc : ev_L) (w : ev_W) : ev_R :=
  match ev_hd M.2.2.2.1 pc E with
  | none => ev_if (ev_may M w 0 0) (some (.inr (.inl (E, w)))) none
  | some h => match M.2.2.2.2 h with
    | (op, (nx, (a, _))) => ev_if (Nat.beq op 10 && ev_nw loc a) (k nx (ev_ls loc a none) [] w) none
/-- the receiver's class is asked (its number + 1; 0: not asked) -/
noncomputable def ev_rc (c : Nat) (As : List ev_V) (w : ev_W) : Bool := match c, As with
  | 0, _ => true
  | ci + 1, .inr (.inl (some i)) :: _ => match ev_get w.1 i with
    | some q => Nat.beq q.1 ci
    | none => false
  | _, _ => false
noncomputable def ev_cont (M : ev_M) (k : ev_N) (nx pc : Nat) (loc : ev_L) (r : List ev_V) (w : ev_W) (mc ms : Nat) (o : ev_R) : ev_R := match o with
  | some (.inl (some v, w2)) => k nx loc (v :: r) (ev_back w w2 mc ms)
  | some (.inl (none, w2)) => k nx loc r (ev_back w w2 mc ms)
  | some (.inr (.inl (E, w2))) => ev_exc M k pc E loc (ev_back w w2 mc ms)
  | _ => none
/-- a call: a which method, b how many things come off the stack, c the receiver's class + 1 (0: not asked) -/
noncomputable def ev_h_call : ev_H := fun _ M k cl nx a b c tg pc loc st w =>
  match ev_sp b [] st with
  | some (As, r) => match tg with
    | [mc, ms] => ev_if (Nat.ble (ev_cs r) 8 && (ev_may M w mc ms && As.all (fun v => !ev_wide v))) (ev_if (ev_rc c As w) (ev_cont M k nx pc loc r w mc ms (cl a As (w.1, (w.2.1, (w.2.2.1, (0, 0)))))) none) none
    | _ => none
  | none => none
noncomputable def ev_h_objinit : ev_H := fun _ _ k _ nx _ _ _ _ _ loc st w =>
  match st with
  | .inr (.inl (some _)) :: r => ev_if (Nat.ble (ev_cs r) 8) (k nx loc r w) none
  | _ => none
noncomputable def ev_h_throw : ev_H := fun _ M _ _ _ a _ _ _ _ _ st w =>
  ev_if (ev_may M w 1 6 && Nat.ble (ev_cs st) 8) (some (.inr (.inl (a, (w.1, (w.2.1, (false, (w.2.2.2.1 + 1, w.2.2.2.2 + 6)))))))) none
noncomputable def ev_h_vret : ev_H := fun _ M _ _ _ _ _ _ _ _ _ st w =>
  match st with
  | [] => ev_if (ev_may M w 0 0) (some (.inl (none, w))) none
  | _ => none
/-- a: 0 int, 1 boolean -/
noncomputable def ev_h_iret : ev_H := fun _ M _ _ _ a _ _ _ _ _ st w =>
  match st with
  | [v] => ev_if (ev_fits a v && ev_may M w 0 0) (some (.inl (some v, w))) none
  | _ => none
noncomputable def ev_h_aret : ev_H := fun _ M _ _ _ _ _ _ _ _ _ st w =>
  match st with
  | [v] => ev_if (ev_ir v && ev_may M w 0 0) (some (.inl (some v, w))) none
  | _ => none
noncomputable def ev_h_wret : ev_H := fun _ M _ _ _ a _ _ _ _ _ st w =>
  match st with
  | [v] => ev_if (ev_ik a v && ev_may M w 0 0) (some (.inl (some v, w))) none
  | _ => none
/-- a, b: the least and the greatest case, biased; c: the default -/
noncomputable def ev_h_switch : ev_H := fun Φ _ k _ _ a b c tg _ loc st w =>
  match st with
  | x :: r => match ev_itv Φ x with
    | some p => ev_if (Nat.ble (p.2 + 1) a || Nat.ble (b + 1) p.1) (k c loc r w) (ev_if (Nat.beq p.1 p.2 && (Nat.ble a p.1 && Nat.ble p.1 b)) (match ev_lg tg (p.1 - a) with
      | some t => k t loc r w
      | none => none) none)
    | none => none
  | _ => none
/-- from one value to another: 0 i2l, 1 l2i, 2 i2d, 3 i2f, 4 f2d, 5 i2b, 6 i2c -/
def ev_n64 (r : UInt64) : Bool := decide (r &&& 0x7fffffffffffffff ≤ 0x7ff0000000000000)
def ev_n32 (r : UInt32) : Bool := decide (r &&& 0x7fffffff ≤ 0x7f800000)
noncomputable def ev_cv (j : Nat) (v : ev_V) : Option ev_V :=
  match j, v with
  | 0, .inl n => some (.inr (.inr (.inr (0, ev_nl (nI n).toInt64))))
  | 1, .inr (.inr (.inr (0, n))) => some (.inl (ev_n (lN n).toInt32))
  | 2, .inl n => some (.inr (.inr (.inr (2, (FP.i2d (nI n)).toNat))))
  | 3, .inl n => some (.inr (.inr (.inr (1, (FP.i2f (nI n)).toNat))))
  | 4, .inr (.inr (.inr (1, n))) => ev_if (ev_n64 (FP.f2d (UInt32.ofNat n))) (some (.inr (.inr (.inr (2, (FP.f2d (UInt32.ofNat n)).toNat))))) none
  | 5, .inl n => some (.inl (ev_n (nI n).toInt8.toInt32))
  | 5, .inr (.inr (.inl (none, f))) => some (.inr (.inr (.inl (none, fun σ => (f σ).toInt8.toInt32))))
  | 6, .inl n => some (.inl (n % 65536))
  | _, _ => none
noncomputable def ev_h_cv : ev_H := fun _ _ k _ nx a _ _ _ _ loc st w =>
  match st with
  | x :: r => match ev_cv a x with
    | some z => k nx loc (z :: r) w
    | none => none
  | _ => none
/-- two values to one: 0 ddiv, 1 fdiv, 2 dcmpl, 3 dcmpg, 4 lcmp, 5 lshr, 6 lshl, 7 land, 8 lor, 9 Math.max -/
noncomputable def ev_w2 (j : Nat) (x y : ev_V) : Option ev_V :=
  match j, x, y with
  | 0, .inr (.inr (.inr (2, m))), .inr (.inr (.inr (2, n))) => ev_if (ev_n64 (FP.ddiv (UInt64.ofNat m) (UInt64.ofNat n))) (some (.inr (.inr (.inr (2, (FP.ddiv (UInt64.ofNat m) (UInt64.ofNat n)).toNat))))) none
  | 1, .inr (.inr (.inr (1, m))), .inr (.inr (.inr (1, n))) => ev_if (ev_n32 (FP.fdiv (UInt32.ofNat m) (UInt32.ofNat n))) (some (.inr (.inr (.inr (1, (FP.fdiv (UInt32.ofNat m) (UInt32.ofNat n)).toNat))))) none
  | 2, .inr (.inr (.inr (2, m))), .inr (.inr (.inr (2, n))) => some (.inl (ev_n (Op.cmpValue (FP.dcmp (UInt64.ofNat m) (UInt64.ofNat n)) .l)))
  | 3, .inr (.inr (.inr (2, m))), .inr (.inr (.inr (2, n))) => some (.inl (ev_n (Op.cmpValue (FP.dcmp (UInt64.ofNat m) (UInt64.ofNat n)) .g)))
  | 4, .inr (.inr (.inr (0, m))), .inr (.inr (.inr (0, n))) => some (.inl (ev_n (lg_cmp (lN m) (lN n))))
  | 5, .inr (.inr (.inr (0, m))), .inl n => some (.inr (.inr (.inr (0, ev_nl (ev_opS 0 (lN m) (nI n))))))
  | 6, .inr (.inr (.inr (0, m))), .inl n => some (.inr (.inr (.inr (0, ev_nl (ev_opS 1 (lN m) (nI n))))))
  | 7, .inr (.inr (.inr (0, m))), .inr (.inr (.inr (0, n))) => some (.inr (.inr (.inr (0, ev_nl (ev_opL 0 (lN m) (lN n))))))
  | 8, .inr (.inr (.inr (0, m))), .inr (.inr (.inr (0, n))) => some (.inr (.inr (.inr (0, ev_nl (ev_opL 1 (lN m) (lN n))))))
  | 9, .inl m, .inl n => some (.inl (ev_if (Nat.ble (ev_bi m + 1) (ev_bi n)) n m))
  | _, _, _ => none
noncomputable def ev_h_w2 : ev_H := fun _ M k _ nx a _ _ _ _ loc st w =>
  match st with
  | y :: x :: r => match ev_w2 a x y with
    | some z => ev_if (Nat.ble (ev_cs r) 8 && ev_may M w 0 0) (k nx loc (z :: r) w) none
    | none => none
  | _ => none
/-- System.arraycopy between int[]s, from their beginnings -/
noncomputable def ev_cpy (n : Nat) (f g : List (List (List ev_V))) : Option (List (List (List ev_V))) :=
  Nat.rec (motive := fun _ => Option (List (List (List ev_V)))) (some g) (fun i ih => match ih, ev_get f i with
    | some h, some v => ev_if (ev_ii v) (ev_sto h i v) none
    | _, _ => none) n
noncomputable def ev_h_copy : ev_H := fun _ _ k _ nx _ _ _ _ _ loc st w =>
  match st with
  | .inl n :: .inl 0 :: .inr (.inl (some i)) :: .inl 0 :: .inr (.inl (some i0)) :: r => match ev_get w.1 i, ev_get w.1 i0 with
    | some q, some q0 => ev_if (Nat.beq q.1 20 && (Nat.beq q0.1 20 && (Nat.ble n q.2.1 && (Nat.ble n q0.2.1 && (Nat.ble q.2.1 65536 && (Nat.ble q0.2.1 65536 && Nat.ble (ev_cs r) 8)))))) (match ev_cpy n q0.2.2 q.2.2 with
      | some z => match ev_sto w.1 i (q.1, (q.2.1, z)) with
        | some x => k nx loc r (x, w.2)
        | none => none
      | none => none) none
    | _, _ => none
  | _ => none
noncomputable def ev_h_stop : ev_H := fun _ _ _ _ _ a _ _ _ _ loc st w => some (.inr (.inr (a, (loc, (st, w)))))
/-- the words of the setup text, as the class and the reference name them; a text is the thing 2000000 + its place -/
def ev_tx : List (List Nat) := [[111, 114, 100, 101, 114], [100, 101, 101, 112], [114, 111, 111, 116], [112, 114, 111, 99, 101, 115, 115], [104, 101, 105, 114], [100, 117, 116, 121], [114, 101, 102, 117, 115, 101], [119, 105, 108, 108], [110, 101, 97, 114], [103, 114, 111, 117, 112], [114, 111, 111, 109], [107, 105, 110], [111, 108, 100]]
def ev_tb : Nat := 2000000
def ev_tin (i : Nat) : Bool := Nat.ble ev_tb i && Nat.ble (i + 1) (ev_tb + 26)
noncomputable def ev_txt (k : Nat) : Option (List Nat) := ev_lg ev_tx (k % 13)
noncomputable def ev_h_ldcs : ev_H := fun _ _ k _ nx a _ _ _ _ loc st w => ev_if (Nat.ble (a + 1) 26) (k nx loc (.inr (.inl (some (ev_tb + a))) :: st) w) none
/-- String.length() -/
noncomputable def ev_h_slen : ev_H := fun _ M k _ nx _ _ _ _ _ loc st w =>
  match st with
  | .inr (.inl (some i)) :: r => ev_if (ev_tin i && (Nat.ble (ev_cs r) 8 && ev_may M w 0 0)) (match ev_txt (i - ev_tb) with
    | some t => k nx loc (.inl t.length :: r) w
    | none => none) none
  | _ => none
/-- String.charAt(int) -/
noncomputable def ev_h_chat : ev_H := fun _ M k _ nx _ _ _ _ _ loc st w =>
  match st with
  | .inl j :: .inr (.inl (some i)) :: r => ev_if (ev_tin i && (Nat.ble (ev_cs r) 8 && ev_may M w 0 0)) (match ev_txt (i - ev_tb) with
    | some t => match ev_lg t j with
      | some z => k nx loc (.inl z :: r) w
      | none => none
    | none => none) none
  | _ => none
/-! which is which: two digits, eight to each -/
noncomputable def ev_sw (n : Nat) (f g : Nat → ev_H) : Nat → ev_H := fun op => Bool.rec (motive := fun _ => ev_H) (g op) (f op) (Nat.ble op n)
noncomputable def ev_k (h : ev_H) : Nat → ev_H := fun _ => h
noncomputable def ev_sel : Nat → ev_H := (ev_sw 25 (ev_sw 13 (ev_sw 7 (ev_sw 2 (ev_sw 1 (ev_sw 0 (ev_k ev_h_none) (ev_k ev_h_int)) (ev_k ev_h_null)) (ev_sw 6 (ev_sw 3 (ev_k ev_h_wide) (ev_k ev_h_iload)) (ev_k ev_h_aload))) (ev_sw 10 (ev_sw 9 (ev_sw 8 (ev_k ev_h_dload) (ev_k ev_h_istore)) (ev_k ev_h_astore)) (ev_sw 12 (ev_sw 11 (ev_k ev_h_dstore) (ev_k ev_h_iinc)) (ev_k ev_h_iadd)))) (ev_sw 19 (ev_sw 16 (ev_sw 15 (ev_sw 14 (ev_k ev_h_isub) (ev_k ev_h_ibin)) (ev_k ev_h_if0)) (ev_sw 18 (ev_sw 17 (ev_k ev_h_icmp) (ev_k ev_h_acmp)) (ev_k ev_h_isnull))) (ev_sw 22 (ev_sw 21 (ev_sw 20 (ev_k ev_h_goto) (ev_k ev_h_dup)) (ev_k ev_h_dup2)) (ev_sw 24 (ev_sw 23 (ev_k ev_h_pop) (ev_k ev_h_getf)) (ev_k ev_h_putf))))) (ev_sw 37 (ev_sw 31 (ev_sw 28 (ev_sw 27 (ev_sw 26 (ev_k ev_h_alen) (ev_k ev_h_iald)) (ev_k ev_h_iast)) (ev_sw 30 (ev_sw 29 (ev_k ev_h_ald) (ev_k ev_h_bast)) (ev_k ev_h_last))) (ev_sw 34 (ev_sw 33 (ev_sw 32 (ev_k (ev_h_aast 3 5)) (ev_k ev_h_new)) (ev_k ev_h_newa)) (ev_sw 36 (ev_sw 35 (ev_k ev_h_call) (ev_k ev_h_objinit)) (ev_k ev_h_throw)))) (ev_sw 43 (ev_sw 40 (ev_sw 39 (ev_sw 38 (ev_k ev_h_vret) (ev_k ev_h_iret)) (ev_k ev_h_aret)) (ev_sw 42 (ev_sw 41 (ev_k ev_h_wret) (ev_k ev_h_switch)) (ev_k ev_h_cv))) (ev_sw 46 (ev_sw 45 (ev_sw 44 (ev_k ev_h_w2) (ev_k ev_h_copy)) (ev_k ev_h_stop)) (ev_sw 49 (ev_sw 48 (ev_sw 47 (ev_k ev_h_idiv) (ev_k ev_h_iand63)) (ev_k ev_h_ldcs)) (ev_sw 50 (ev_k ev_h_slen) (ev_k ev_h_chat)))))))
/-- one instruction -/
noncomputable def ev_exec (Φ : ev_P) (M : ev_M) (k : ev_N) (cl : ev_F) (x : ev_E) (pc : Nat) (loc : ev_L) (st : List ev_V) (w : ev_W) : ev_R :=
  Prod.rec (motive := fun _ => ev_R) (fun op x => Prod.rec (motive := fun _ => ev_R) (fun nx x => Prod.rec (motive := fun _ => ev_R) (fun a x => Prod.rec (motive := fun _ => ev_R) (fun b x => Prod.rec (motive := fun _ => ev_R) (fun c tg => ev_sel op Φ M k cl nx a b c tg pc loc st w) x) x) x) x) x
/-- the locals at a method's start -/
noncomputable def ev_loc (n : Nat) (As : List ev_V) : ev_L := As.map some ++ List.replicate (n - As.length) none
/-- d: how many calls deep it may still go -/
noncomputable def ev_run (Φ : ev_P) (P : Nat → ev_M) (n : Nat) : Nat → ev_M → ev_N :=
  Nat.rec (motive := fun _ => Nat → ev_M → ev_N) (fun _ _ _ _ _ _ => none)
    (fun _ ih d M pc loc st w => ev_exec Φ M (ih d M) (fun mi As w => Nat.rec (motive := fun _ => ev_R) none (fun d' _ => ih d' (P mi) 0 (ev_loc (P mi).1 As) [] w) d) (M.2.2.2.2 pc) pc loc st w) n
/-- a method's code as a tree -/
noncomputable def ev_ct (n : Nat) (f g : Nat → ev_E) : Nat → ev_E := fun pc => Bool.rec (motive := fun _ => ev_E) (g pc) (f pc) (Nat.ble pc n)
noncomputable def ev_cl (x : ev_E) : Nat → ev_E := fun _ => x
noncomputable def ev_mt (n : Nat) (f g : Nat → ev_M) : Nat → ev_M := fun i => Bool.rec (motive := fun _ => ev_M) (g i) (f i) (Nat.ble i n)
noncomputable def ev_ml (x : ev_M) : Nat → ev_M := fun _ => x
/-! ===== the evaluator over a heap of whole numbers (own work) =====
A heap is a function of the cell and the place in it to a whole number: an int as it is, a reference by its number (-1: null), a boolean 0 or 1, a long as it is. -/
abbrev gH : Type := Int → Int → Int
def InR (x : Int) : Prop := -2147483648 ≤ x ∧ x < 2147483648
def B01 (x : Int) : Prop := x = 0 ∨ x = 1
def RfR (x : Int) : Prop := -1 ≤ x ∧ x < 1000000
def L64 (x : Int) : Prop := -9223372036854775808 ≤ x ∧ x < 9223372036854775808
def w32 (x : Int) : Int := (x + 2147483648) % 4294967296 - 2147483648
def sI (x : Int) : ev_V := .inl (x % 4294967296).toNat
def sR (x : Int) : ev_V := .inr (.inl (if x < 0 then none else some x.toNat))
def sL (x : Int) : ev_V := .inr (.inr (.inr (0, (x % 18446744073709551616).toNat)))
def sF (x : Int) : ev_V := .inr (.inr (.inr (1, x.toNat)))
def sD (x : Int) : ev_V := .inr (.inr (.inr (2, x.toNat)))
def toI (x : Int) : Int32 := nI (x % 4294967296).toNat
def toL (x : Int) : Int64 := lN (x % 18446744073709551616).toNat
def opI (j : Nat) (x y : Int) : Int := (ev_opI j (toI x) (toI y)).toInt
theorem inR_w32 (x : Int) : InR (w32 x) := by unfold InR w32; omega
theorem inR_b {x : Int} (h : B01 x) : InR x := by rcases h with rfl | rfl <;> (unfold InR; omega)
theorem w32_id {x : Int} (h : InR x) : w32 x = x := by unfold InR at h; unfold w32; omega
theorem sI_w32 (x : Int) : sI (w32 x) = sI x := by
  unfold sI w32
  congr 2
  omega
theorem inR_I32 (x : Int32) : InR x.toInt := ⟨by have := x.le_toInt; simpa using this, by have := x.toInt_lt; simpa using this⟩
theorem inR_opI (j : Nat) (x y : Int) : InR (opI j x y) := inR_I32 _
theorem rfR_null : RfR (-1) := by unfold RfR; omega
theorem ev_n_sI (x : Int32) : (.inl (ev_n x) : ev_V) = sI x.toInt := by
  have h := inR_I32 x
  unfold InR at h
  have e : ev_n x = x.toUInt32.toNat := rfl
  unfold sI
  congr 1
  have : (x.toBitVec.toNat : Int) = x.toInt % 4294967296 := by
    have h2 : x.toInt = x.toBitVec.toInt := rfl
    rw [h2, BitVec.toInt_eq_toNat_cond]
    have := x.toBitVec.isLt
    split <;> omega
  unfold ev_n
  omega
/-! what the cells are -/
def tr_T : List (Nat × Nat) := (5, 10) :: (3, 15) :: (24, 40) :: (20, 8) :: (20, 5) :: List.replicate 39 (3, 15)
def kd_T : List (Nat × Nat) := (6, 7) :: (tr_T ++ tr_T ++ tr_T ++ [(0, 3), (25, 10)] ++ tr_T ++ tr_T ++ tr_T ++ tr_T ++ tr_T ++ tr_T ++ tr_T ++ tr_T ++ tr_T ++ tr_T ++ [(4, 11), (1, 2), (21, 500)] ++ tr_T ++ [(2, 2), (21, 300), (7, 24), (20, 780), (20, 780), (20, 780), (20, 780), (20, 7800), (22, 40), (20, 500), (20, 4), (20, 40), (20, 400), (23, 1)])
def kd (a : Int) : Nat := if a < 0 then 99 else (kd_T.getD a.toNat (99, 0)).1
def sz (a : Int) : Int := if a < 0 then 0 else ((kd_T.getD a.toNat (99, 0)).2 : Nat)
def ty_T : List (List Nat) := [[2, 0, 0], [2, 0], [2, 0], [0, 0, 2, 0, 0, 0, 0, 0, 0, 0, 0, 0, 0, 1, 3], [2, 2, 0, 0, 0, 0, 0, 0, 1, 1, 1], [2, 2, 2, 2, 0, 0, 0, 0, 0, 0], [2, 2, 2, 2, 2, 2, 1], [2, 2, 2, 2, 2, 2, 0, 1, 0, 2, 0, 0, 0, 0, 0, 0, 0, 0, 0, 0, 2, 2, 2, 0]]
/-- 0 int, 1 boolean, 2 reference, 3 long -/
def typ (k : Nat) (b : Int) : Nat := if k < 8 then ((ty_T.getD k []).getD b.toNat 0) else if k = 22 then 1 else if k = 23 then 3 else if k = 24 ∨ k = 25 then 2 else 0
def dec (t : Nat) (v : Int) : ev_V := match t with
  | 2 => sR v
  | 3 => sL v
  | _ => sI v
def VT (t : Nat) (v : Int) : Prop := match t with
  | 0 => InR v
  | 1 => B01 v
  | 2 => RfR v
  | 3 => L64 v
  | _ => InR v
def HR (g : gH) : Prop := ∀ a b, VT (typ (kd a) b) (g a b)
def pU (g : gH) (a b v : Int) : gH := fun x y => if x = a ∧ y = b then v else g x y
theorem hr_pU {g : gH} {a b v : Int} (hg : HR g) (hv : VT (typ (kd a) b) v) : HR (pU g a b v) := by
  intro x y
  unfold pU
  split
  · next h => rw [h.1, h.2]; exact hv
  · exact hg x y
theorem kd_lt {a : Int} {k : Nat} (h : kd a = k) (hk : k ≠ 99) : 0 ≤ a ∧ a < 636 := by
  unfold kd at h
  split at h
  · exact absurd h.symm hk
  · next h0 =>
    refine ⟨by omega, ?_⟩
    rcases Int.lt_or_le a 636 with h1 | h1
    · exact h1
    · exfalso
      have hl : kd_T.length = 636 := by decide +kernel
      have : kd_T[a.toNat]? = none := List.getElem?_eq_none (by omega)
      rw [List.getD_eq_getElem?_getD, this] at h
      exact hk h.symm
/-- the world w holds the heap g -/
def Wg (w : ev_W) (g : gH) : Prop := ∀ i : Nat, i < 636 → ∃ q, ev_get w.1 i = some q ∧ q.1 = kd i ∧ (q.2.1 : Int) = sz i ∧ ∀ j : Nat, (j : Int) < sz i → ev_get q.2.2 j = some (dec (typ (kd i) j) (g i j))
/-! stores -/
theorem gb_lg {α : Type} (l : List α) : ∀ n, ev_lg l n = l[n]? := by
  induction l with
  | nil => intro n; rfl
  | cons a t ih =>
    intro n
    cases n with
    | zero => rfl
    | succ m => exact (ih m).trans (by simp)
theorem gb_lso {α : Type} (l : List α) : ∀ n v, n < l.length → ev_lso l n v = some (l.set n v) := by
  induction l with
  | nil => intro n v h; exact absurd h (by simp)
  | cons a t ih =>
    intro n v h
    cases n with
    | zero => rfl
    | succ m =>
      show (Option.rec none (fun z => some (a :: z)) (ev_lso t m v) : Option (List α)) = _
      rw [ih m v (by simpa using h)]
      rfl
theorem gb_get {α : Type} (t : List (List (List α))) (i : Nat) : ev_get t i = (t[i / 64]?).bind (fun c => (c[i / 8 % 8]?).bind (fun d => d[i % 8]?)) := by
  unfold ev_get
  rw [gb_lg]
  cases h : t[i / 64]? with
  | none => rfl
  | some c =>
    show ev_g2 c _ _ = (c[i / 8 % 8]?).bind (fun d => d[i % 8]?)
    unfold ev_g2
    rw [gb_lg]
    cases h : c[i / 8 % 8]? with
    | none => rfl
    | some d => exact gb_lg d _
theorem gb_sto {α : Type} {t : List (List (List α))} {i : Nat} {u v : α} (h : ev_get t i = some u) : ∃ t', ev_sto t i v = some t' ∧ ∀ j, ev_get t' j = if j = i then some v else ev_get t j := by
  rw [gb_get] at h
  cases hc : t[i / 64]? with
  | none => rw [hc] at h; cases h
  | some c =>
    rw [hc] at h
    have h : (c[i / 8 % 8]?).bind (fun d => d[i % 8]?) = some u := h
    cases hd : c[i / 8 % 8]? with
    | none => rw [hd] at h; cases h
    | some d =>
      rw [hd] at h
      have h : d[i % 8]? = some u := h
      have l1 := (List.getElem?_eq_some_iff.mp hc).1
      have l2 := (List.getElem?_eq_some_iff.mp hd).1
      have l3 := (List.getElem?_eq_some_iff.mp h).1
      refine ⟨t.set (i / 64) (c.set (i / 8 % 8) (d.set (i % 8) v)), ?_, ?_⟩
      · unfold ev_sto
        rw [gb_lg, hc]
        show (Option.rec none (fun c' => ev_lso t (i / 64) c') (ev_s2 c (i / 8 % 8) (i % 8) v) : Option (List (List (List α)))) = _
        have : ev_s2 c (i / 8 % 8) (i % 8) v = some (c.set (i / 8 % 8) (d.set (i % 8) v)) := by
          unfold ev_s2
          rw [gb_lg, hd]
          show (Option.rec none (fun d' => ev_lso c (i / 8 % 8) d') (ev_lso d (i % 8) v) : Option (List (List α))) = _
          rw [gb_lso d _ _ l3]
          exact gb_lso c _ _ l2
        rw [this]
        exact gb_lso t _ _ l1
      · intro j
        rw [gb_get, gb_get]
        by_cases h1 : j / 64 = i / 64
        · rw [h1, List.getElem?_set_self l1, hc]
          show ((c.set (i / 8 % 8) (d.set (i % 8) v))[j / 8 % 8]?).bind (fun d => d[j % 8]?) = if j = i then some v else (c[j / 8 % 8]?).bind (fun d => d[j % 8]?)
          by_cases h2 : j / 8 % 8 = i / 8 % 8
          · rw [h2, List.getElem?_set_self l2, hd]
            show (d.set (i % 8) v)[j % 8]? = if j = i then some v else d[j % 8]?
            by_cases h3 : j % 8 = i % 8
            · rw [if_pos (by omega), h3, List.getElem?_set_self l3]
            · rw [if_neg (by omega), List.getElem?_set_ne (fun q => h3 q.symm)]
          · rw [if_neg (by omega), List.getElem?_set_ne (fun q => h2 q.symm)]
        · rw [if_neg (by omega), List.getElem?_set_ne (fun q => h1 q.symm)]
theorem wg_pU {w : ev_W} {g : gH} {a b v : Int} (hw : Wg w g) (ha : 0 ≤ a ∧ a < 636) (hb : 0 ≤ b ∧ b < sz a) :
    ∃ q x, ev_get w.1 a.toNat = some q ∧ q.1 = kd a ∧ (q.2.1 : Int) = sz a ∧ ev_get q.2.2 b.toNat = some (dec (typ (kd a) b) (g a b)) ∧ Wg (x, w.2) (pU g a b v) ∧ ∀ kt : ev_W → ev_R, ev_upd w a.toNat q b.toNat (dec (typ (kd a) b) v) kt = kt (x, w.2) := by
  have ea : ((a.toNat : Nat) : Int) = a := Int.toNat_of_nonneg ha.1
  have eb : ((b.toNat : Nat) : Int) = b := Int.toNat_of_nonneg hb.1
  obtain ⟨q, h1, h2, h3, h4⟩ := hw a.toNat (by omega)
  rw [ea] at h2 h3 h4
  have h5 := h4 b.toNat (by omega)
  rw [eb] at h5
  obtain ⟨d, d1, d2⟩ := gb_sto (v := dec (typ (kd a) b) v) h5
  obtain ⟨x, x1, x2⟩ := gb_sto (v := (q.1, (q.2.1, d))) h1
  refine ⟨q, x, h1, h2, h3, h5, ?_, ?_⟩
  · intro i hi
    by_cases hia : i = a.toNat
    · subst hia
      refine ⟨(q.1, (q.2.1, d)), by rw [x2, if_pos rfl], by rw [ea]; exact h2, by rw [ea]; exact h3, fun j hj => ?_⟩
      rw [ea] at hj ⊢
      show ev_get d j = _
      rw [d2]
      unfold pU
      by_cases hjb : j = b.toNat
      · rw [if_pos hjb, if_pos ⟨rfl, by omega⟩, show (j : Int) = b by omega]
      · rw [if_neg hjb, if_neg (fun z => hjb (by omega))]
        exact h4 j hj
    · obtain ⟨q9, e1, e2, e3, e4⟩ := hw i hi
      refine ⟨q9, by rw [x2, if_neg hia]; exact e1, e2, e3, fun j hj => ?_⟩
      unfold pU
      rw [if_neg (fun z => hia (by omega))]
      exact e4 j hj
  · intro kt
    unfold ev_upd
    rw [d1]
    show (match ev_sto w.1 a.toNat (q.1, (q.2.1, d)) with
      | some x => kt (x, w.2)
      | none => none) = _
    rw [x1]
theorem wg_get {w : ev_W} {g : gH} {a b : Int} (hw : Wg w g) (ha : 0 ≤ a ∧ a < 636) (hb : 0 ≤ b ∧ b < sz a) :
    ∃ q, ev_get w.1 a.toNat = some q ∧ q.1 = kd a ∧ (q.2.1 : Int) = sz a ∧ ev_get q.2.2 b.toNat = some (dec (typ (kd a) b) (g a b)) := by
  obtain ⟨q, x, h1, h2, h3, h4, -⟩ := wg_pU (v := 0) hw ha hb
  exact ⟨q, h1, h2, h3, h4⟩
theorem wg_cell {w : ev_W} {g : gH} {a : Int} (hw : Wg w g) (ha : 0 ≤ a ∧ a < 636) : ∃ q, ev_get w.1 a.toNat = some q ∧ q.1 = kd a ∧ (q.2.1 : Int) = sz a := by
  have ea : ((a.toNat : Nat) : Int) = a := Int.toNat_of_nonneg ha.1
  obtain ⟨q, h1, h2, h3, h4⟩ := hw a.toNat (by omega)
  rw [ea] at h2 h3
  exact ⟨q, h1, h2, h3⟩
theorem sR_pos {x : Int} (h : 0 ≤ x) : sR x = .inr (.inl (some x.toNat)) := by
  unfold sR
  rw [if_neg (by omega)]
/-! ===== what a run over such a heap comes to (own work) ===== -/
def drv (t : Nat) (v : Int) : Option ev_V := match t with
  | 0 => none
  | 1 => some (sI v)
  | 2 => some (sR v)
  | 3 => some (sI v)
  | 4 => some (sF v)
  | _ => some (sD v)
def VRt (t : Nat) (v : Int) : Prop := match t with
  | 1 => InR v
  | 2 => RfR v
  | 3 => B01 v
  | _ => True
def go_fin (t e : Nat) (v : Int) (w : ev_W) : ev_S := match e with
  | 0 => .inl (drv t v, w)
  | k + 1 => .inr (.inl (k, w))
def bnd {α β : Type} (x : α) (k : α → β) : β := k x
/-- if X tells an end, the run from here comes to it -/
def Go {β : Type} (Φ : ev_P) (P : Nat → ev_M) (f : β → Nat × (Int × gH)) (t : Nat) (X : Option β) (d : Nat) (M : ev_M) (pc : Nat) (loc : ev_L) (st : List ev_V) (g : gH) (c s : Nat) : Prop :=
  ∀ r, X = some r → ((f r).1 = 0 → VRt t (f r).2.1) ∧ HR (f r).2.2 ∧ ∀ w, Wg w g → w.2.2.2 = (c, s) → ∃ n0 w', Wg w' (f r).2.2 ∧ ∀ n, n0 ≤ n → ev_run Φ P n d M pc loc st w = some (go_fin t (f r).1 (f r).2.1 w')
/-- kinds of methods: pure or not, throwing or not -/
def fP (g : gH) (v : Int) : Nat × (Int × gH) := (0, (v, g))
def fN (y : Int × gH) : Nat × (Int × gH) := (0, y)
def fQ (g : gH) (y : Nat × Int) : Nat × (Int × gH) := (y.1, (y.2, g))
def fT (y : Nat × (Int × gH)) : Nat × (Int × gH) := y
noncomputable def go_cl (Φ : ev_P) (P : Nat → ev_M) (n d : Nat) : ev_F := fun mi As w => Nat.rec (motive := fun _ => ev_R) none (fun d' _ => ev_run Φ P n d' (P mi) 0 (ev_loc (P mi).1 As) [] w) d
theorem go_stp {Φ : ev_P} {P : Nat → ev_M} {n d : Nat} {M : ev_M} {pc : Nat} {loc : ev_L} {st : List ev_V} {w : ev_W} {op nx a b c' : Nat} {tg : List Nat} (hc : M.2.2.2.2 pc = (op, (nx, (a, (b, (c', tg)))))) :
    ev_run Φ P (n + 1) d M pc loc st w = ev_sel op Φ M (ev_run Φ P n d M) (go_cl Φ P n d) nx a b c' tg pc loc st w := by
  show ev_exec Φ M (ev_run Φ P n d M) (go_cl Φ P n d) (M.2.2.2.2 pc) pc loc st w = _
  rw [hc]
  rfl
theorem sI_n {x : Int} : ∃ m, sI x = .inl m ∧ m < 4294967296 ∧ (m : Int) = x % 4294967296 := ⟨_, rfl, by omega, by omega⟩
theorem gq_bi {x : Int} (h : InR x) : ev_bi (x % 4294967296).toNat = (x + 2147483648).toNat := by
  unfold InR at h
  unfold ev_bi
  omega
theorem gq_itv {Φ : ev_P} {x : Int} (h : InR x) : ev_itv Φ (sI x) = some ((x + 2147483648).toNat, (x + 2147483648).toNat) := by
  show some (ev_bi (x % 4294967296).toNat, ev_bi (x % 4294967296).toNat) = _
  rw [gq_bi h]
theorem gq_lt {Φ : ev_P} {x y : Int} (hx : InR x) (hy : InR y) : ev_lt Φ (sI x) (sI y) = some (decide (x < y)) := by
  unfold ev_lt
  rw [gq_itv hx, gq_itv hy]
  unfold InR at hx hy
  by_cases h : x < y
  · have e : Nat.ble ((x + 2147483648).toNat + 1) (y + 2147483648).toNat = true := Nat.ble_eq.mpr (by omega)
    show ev_if (Nat.ble ((x + 2147483648).toNat + 1) (y + 2147483648).toNat) _ _ = _
    rw [e, decide_eq_true h]
    rfl
  · have e : Nat.ble ((x + 2147483648).toNat + 1) (y + 2147483648).toNat = false := Bool.eq_false_iff.mpr (fun z => h (by have := Nat.ble_eq.mp z; omega))
    have e2 : Nat.ble (y + 2147483648).toNat (x + 2147483648).toNat = true := Nat.ble_eq.mpr (by omega)
    show ev_if (Nat.ble ((x + 2147483648).toNat + 1) (y + 2147483648).toNat) _ (ev_if (Nat.ble (y + 2147483648).toNat (x + 2147483648).toNat) _ _) = _
    rw [e, e2, decide_eq_false h]
    rfl
theorem gq_eq {Φ : ev_P} {x y : Int} (hx : InR x) (hy : InR y) : ev_eq Φ (sI x) (sI y) = some (decide (x = y)) := by
  unfold ev_eq
  rw [gq_itv hx, gq_itv hy]
  unfold InR at hx hy
  show ev_if (Nat.ble ((x + 2147483648).toNat + 1) (y + 2147483648).toNat) (some false) (ev_if (Nat.ble ((y + 2147483648).toNat + 1) (x + 2147483648).toNat) (some false) (ev_if (Nat.beq (x + 2147483648).toNat (x + 2147483648).toNat && (Nat.beq (y + 2147483648).toNat (y + 2147483648).toNat && Nat.beq (x + 2147483648).toNat (y + 2147483648).toNat)) (some true) none)) = _
  by_cases h : x = y
  · subst h
    have e : Nat.ble ((x + 2147483648).toNat + 1) (x + 2147483648).toNat = false := Bool.eq_false_iff.mpr (fun z => by have := Nat.ble_eq.mp z; omega)
    have e3 : Nat.beq (x + 2147483648).toNat (x + 2147483648).toNat = true := Nat.beq_refl _
    rw [e, e3, decide_eq_true rfl]
    rfl
  · rw [decide_eq_false h]
    by_cases h1 : x < y
    · have e : Nat.ble ((x + 2147483648).toNat + 1) (y + 2147483648).toNat = true := Nat.ble_eq.mpr (by omega)
      rw [e]
      rfl
    · have e : Nat.ble ((x + 2147483648).toNat + 1) (y + 2147483648).toNat = false := Bool.eq_false_iff.mpr (fun z => h1 (by have := Nat.ble_eq.mp z; omega))
      have e2 : Nat.ble ((y + 2147483648).toNat + 1) (x + 2147483648).toNat = true := Nat.ble_eq.mpr (by omega)
      rw [e, e2]
      rfl
theorem inR_0 : InR 0 := by unfold InR; omega
theorem gq_0 : (.inl 0 : ev_V) = sI 0 := by
  unfold sI
  rfl
theorem gq_m0 (Φ : ev_P) (u v : ev_V) : ev_cmp Φ 0 u v = ev_eq Φ u v := rfl
theorem gq_m1 (Φ : ev_P) (u v : ev_V) : ev_cmp Φ 1 u v = ev_lt Φ u v := rfl
theorem gq_m2 (Φ : ev_P) (u v : ev_V) : ev_cmp Φ 2 u v = ev_lt Φ v u := rfl
theorem gq_16 {Φ : ev_P} {M : ev_M} {k : ev_N} {cl : ev_F} {nx a b c' pc : Nat} {tg : List Nat} {loc : ev_L} {x : ev_V} {r : List ev_V} {w : ev_W} : ev_sel 16 Φ M k cl nx a b c' tg pc loc (x :: r) w = ev_br (ev_cmp Φ a x (.inl 0)) (k b loc r w) (k c' loc r w) := rfl
theorem gq_17 {Φ : ev_P} {M : ev_M} {k : ev_N} {cl : ev_F} {nx a b c' pc : Nat} {tg : List Nat} {loc : ev_L} {x y : ev_V} {r : List ev_V} {w : ev_W} : ev_sel 17 Φ M k cl nx a b c' tg pc loc (y :: x :: r) w = ev_br (ev_cmp Φ a x y) (k b loc r w) (k c' loc r w) := rfl
theorem gq_42 {Φ : ev_P} {M : ev_M} {k : ev_N} {cl : ev_F} {nx a b c' pc : Nat} {tg : List Nat} {loc : ev_L} {r : List ev_V} {w : ev_W} : ev_sel 42 Φ M k cl nx a b c' tg pc loc r w = ev_h_switch Φ M k cl nx a b c' tg pc loc r w := rfl
theorem gq_c0 {Φ : ev_P} {x y : Int} (hx : InR x) (hy : InR y) : ev_cmp Φ 0 (sI x) (sI y) = some (decide (x = y)) := (gq_m0 _ _ _).trans (gq_eq hx hy)
theorem gq_c1 {Φ : ev_P} {x y : Int} (hx : InR x) (hy : InR y) : ev_cmp Φ 1 (sI x) (sI y) = some (decide (x < y)) := (gq_m1 _ _ _).trans (gq_lt hx hy)
theorem gq_c2 {Φ : ev_P} {x y : Int} (hx : InR x) (hy : InR y) : ev_cmp Φ 2 (sI x) (sI y) = some (decide (y < x)) := (gq_m2 _ _ _).trans (gq_lt hy hx)
theorem sz_bd (p : Int) : 0 ≤ sz p ∧ sz p ≤ 7800 := by
  unfold sz
  split
  · omega
  · have ha : kd_T.all (fun q => decide (q.2 ≤ 7800)) = true := by decide +kernel
    have h : ∀ i : Nat, i < 636 → (kd_T.getD i (99, 0)).2 ≤ 7800 := by
      intro i _
      rw [List.getD_eq_getElem?_getD]
      cases hq : kd_T[i]? with
      | none => exact Nat.zero_le 7800
      | some q => exact of_decide_eq_true (List.all_eq_true.mp ha q (List.mem_of_getElem? hq))
    rcases Nat.lt_or_ge p.toNat 636 with h1 | h1
    · have := h _ h1
      omega
    · have hl : kd_T.length = 636 := by decide +kernel
      rw [List.getD_eq_getElem?_getD, List.getElem?_eq_none (by omega)]
      show (0 : Int) ≤ ((0 : Nat) : Int) ∧ ((0 : Nat) : Int) ≤ 7800
      omega
theorem inR_sz (p : Int) : InR (sz p) := by have := sz_bd p; unfold InR; omega
theorem sz_of {p : Int} {k : Nat} (h : kd p = k) (hk : k < 8) : sz p = ((ty_T.getD k []).length : Nat) := by
  obtain ⟨h0, h1⟩ := kd_lt h (by omega)
  have ha : kd_T.all (fun q => decide (q.1 < 8 → q.2 = (ty_T.getD q.1 []).length)) = true := by decide +kernel
  have hh : ∀ i : Nat, i < 636 → (kd_T.getD i (99, 0)).1 < 8 → (kd_T.getD i (99, 0)).2 = (ty_T.getD (kd_T.getD i (99, 0)).1 []).length := by
    intro i _
    rw [List.getD_eq_getElem?_getD]
    cases hq : kd_T[i]? with
    | none => exact fun z => absurd z (by decide)
    | some q => exact of_decide_eq_true (List.all_eq_true.mp ha q (List.mem_of_getElem? hq))
  unfold kd at h
  rw [if_neg (by omega)] at h
  unfold sz
  rw [if_neg (by omega), hh _ (by omega) (by omega), h]
theorem sz_1 {p : Int} {k : Nat} (h : kd p = k) (hk : k = 20 ∨ k = 21 ∨ k = 22 ∨ k = 23 ∨ k = 24 ∨ k = 25) : (0 ≤ p ∧ p < 636) ∧ k < 99 := ⟨kd_lt h (by omega), by omega⟩
section GO
variable {β : Type} {Φ : ev_P} {P : Nat → ev_M} {f : β → Nat × (Int × gH)} {t : Nat} {X A B : Option β} {d : Nat} {M : ev_M} {pc nx : Nat} {loc : ev_L} {st r : List ev_V} {g : gH} {c s a b c' : Nat} {tg : List Nat} {x y p : Int}
theorem go_none : Go Φ P f t none d M pc loc st g c s := fun r h => by cases h
theorem go_ck {q : Prop} [Decidable q] (k : q → Go Φ P f t X d M pc loc st g c s) : Go Φ P f t (if q then X else none) d M pc loc st g c s := by
  split
  · next h => exact k h
  · exact go_none
theorem go_ite {q : Prop} [Decidable q] (k1 : q → Go Φ P f t A d M pc loc st g c s) (k2 : ¬ q → Go Φ P f t B d M pc loc st g c s) : Go Φ P f t (if q then A else B) d M pc loc st g c s := by
  split
  · next h => exact k1 h
  · next h => exact k2 h
theorem go_step {op pc2 : Nat} {loc2 : ev_L} {st2 : List ev_V} {g2 : gH} {c2 s2 : Nat} (hc : M.2.2.2.2 pc = (op, (nx, (a, (b, (c', tg)))))) (h : ∀ w, Wg w g → w.2.2.2 = (c, s) → ∃ w2, Wg w2 g2 ∧ w2.2.2.2 = (c2, s2) ∧ ∀ (k : ev_N) (cl : ev_F), ev_sel op Φ M k cl nx a b c' tg pc loc st w = k pc2 loc2 st2 w2)
    (hk : Go Φ P f t X d M pc2 loc2 st2 g2 c2 s2) : Go Φ P f t X d M pc loc st g c s := by
  intro r hr
  obtain ⟨h1, h2, h3⟩ := hk r hr
  refine ⟨h1, h2, fun w hw hz => ?_⟩
  obtain ⟨w2, a1, a2, a3⟩ := h w hw hz
  obtain ⟨n0, w', b1, b2⟩ := h3 w2 a1 a2
  refine ⟨n0 + 1, w', b1, fun n hn => ?_⟩
  cases n with
  | zero => exact absurd hn (by omega)
  | succ n =>
    rw [go_stp hc, a3]
    exact b2 n (by omega)
/-- an instruction that leaves the heap as it is -/
theorem go_sl {op pc2 : Nat} {loc2 : ev_L} {st2 : List ev_V} (hc : M.2.2.2.2 pc = (op, (nx, (a, (b, (c', tg)))))) (h : ∀ (w : ev_W) (k : ev_N) (cl : ev_F), Wg w g → w.2.2.2 = (c, s) → ev_sel op Φ M k cl nx a b c' tg pc loc st w = k pc2 loc2 st2 w)
    (hk : Go Φ P f t X d M pc2 loc2 st2 g c s) : Go Φ P f t X d M pc loc st g c s := go_step hc (fun w hw hz => ⟨w, hw, hz, fun k cl => h w k cl hw hz⟩) hk
theorem go_int (hc : M.2.2.2.2 pc = (1, (nx, (a, (b, (c', tg)))))) (x : Int) (hx : (x % 4294967296).toNat = a) (k : Go Φ P f t X d M nx loc (sI x :: st) g c s) : Go Φ P f t X d M pc loc st g c s :=
  go_sl hc (fun w k cl _ _ => by subst hx; rfl) k
theorem go_null (hc : M.2.2.2.2 pc = (2, (nx, (a, (b, (c', tg)))))) (k : Go Φ P f t X d M nx loc (sR (-1) :: st) g c s) : Go Φ P f t X d M pc loc st g c s :=
  go_sl hc (fun w k cl _ _ => rfl) k
theorem go_lconst (hc : M.2.2.2.2 pc = (3, (nx, (0, (b, (c', tg)))))) (x : Int) (hx : (x % 18446744073709551616).toNat = b) (k : Go Φ P f t X d M nx loc (sL x :: st) g c s) : Go Φ P f t X d M pc loc st g c s :=
  go_sl hc (fun w k cl _ _ => by subst hx; rfl) k
theorem go_fconst (hc : M.2.2.2.2 pc = (3, (nx, (1, (b, (c', tg)))))) (x : Int) (hx : x.toNat = b) (k : Go Φ P f t X d M nx loc (sF x :: st) g c s) : Go Φ P f t X d M pc loc st g c s :=
  go_sl hc (fun w k cl _ _ => by subst hx; rfl) k
theorem go_dconst (hc : M.2.2.2.2 pc = (3, (nx, (2, (b, (c', tg)))))) (x : Int) (hx : x.toNat = b) (k : Go Φ P f t X d M nx loc (sD x :: st) g c s) : Go Φ P f t X d M pc loc st g c s :=
  go_sl hc (fun w k cl _ _ => by subst hx; rfl) k
theorem go_iload (hc : M.2.2.2.2 pc = (6, (nx, (a, (b, (c', tg)))))) (hl : ev_lg loc a = some (some (sI x))) (k : Go Φ P f t X d M nx loc (sI x :: st) g c s) : Go Φ P f t X d M pc loc st g c s :=
  go_sl hc (fun w k cl _ _ => by
    show ev_h_iload Φ M k cl nx a b c' tg pc loc st w = _
    unfold ev_h_iload
    rw [hl]
    rfl) k
theorem go_aload (hc : M.2.2.2.2 pc = (7, (nx, (a, (b, (c', tg)))))) (hl : ev_lg loc a = some (some (sR x))) (k : Go Φ P f t X d M nx loc (sR x :: st) g c s) : Go Φ P f t X d M pc loc st g c s :=
  go_sl hc (fun w k cl _ _ => by
    show ev_h_aload Φ M k cl nx a b c' tg pc loc st w = _
    unfold ev_h_aload
    rw [hl]
    rfl) k
theorem go_dload (hc : M.2.2.2.2 pc = (8, (nx, (a, (b, (c', tg)))))) (hl : ev_lg loc a = some (some (sD x))) (k : Go Φ P f t X d M nx loc (sD x :: st) g c s) : Go Φ P f t X d M pc loc st g c s :=
  go_sl hc (fun w k cl _ _ => by
    show ev_h_dload Φ M k cl nx a b c' tg pc loc st w = _
    unfold ev_h_dload
    rw [hl]
    rfl) k
theorem go_istore {loc2 : ev_L} (hc : M.2.2.2.2 pc = (9, (nx, (a, (b, (c', tg)))))) (hn : ev_nw loc a = true) (h2 : ev_ls loc a (some (sI x)) = loc2) (k : Go Φ P f t X d M nx loc2 r g c s) : Go Φ P f t X d M pc loc (sI x :: r) g c s :=
  go_sl hc (fun w k cl _ _ => by
    subst h2
    show ev_if (ev_ii (sI x) && ev_nw loc a) _ _ = _
    rw [hn]
    rfl) k
theorem go_astore {loc2 : ev_L} (hc : M.2.2.2.2 pc = (10, (nx, (a, (b, (c', tg)))))) (hn : ev_nw loc a = true) (h2 : ev_ls loc a (some (sR x)) = loc2) (k : Go Φ P f t X d M nx loc2 r g c s) : Go Φ P f t X d M pc loc (sR x :: r) g c s :=
  go_sl hc (fun w k cl _ _ => by
    subst h2
    show ev_if (ev_ir (sR x) && ev_nw loc a) _ _ = _
    rw [hn]
    rfl) k
theorem go_dstore {loc2 : ev_L} (hc : M.2.2.2.2 pc = (11, (nx, (a, (b, (c', tg)))))) (hn : ev_nw loc a = true) (h2 : ev_ls (ev_ls loc a (some (sD x))) (a + 1) none = loc2) (k : Go Φ P f t X d M nx loc2 r g c s) : Go Φ P f t X d M pc loc (sD x :: r) g c s :=
  go_sl hc (fun w k cl _ _ => by
    subst h2
    show ev_if (ev_ik 2 (sD x) && ev_nw loc a) _ _ = _
    rw [hn]
    rfl) k
theorem go_iinc {loc2 : ev_L} (hc : M.2.2.2.2 pc = (12, (nx, (a, (b, (c', tg)))))) (hl : ev_lg loc a = some (some (sI x))) (hn : ev_nw loc a = true) (y : Int) (hy : (y % 4294967296).toNat = b) (h2 : ev_ls loc a (some (sI (w32 (x + y)))) = loc2) (k : Go Φ P f t X d M nx loc2 st g c s) : Go Φ P f t X d M pc loc st g c s :=
  go_sl hc (fun w kk cl _ _ => by
    subst h2
    show ev_h_iinc Φ M kk cl nx a b c' tg pc loc st w = _
    unfold ev_h_iinc
    rw [hl, sI_w32]
    show ev_if (ev_nw loc a) (kk nx (ev_ls loc a (some (.inl (((x % 4294967296).toNat + b) % 4294967296)))) st w) none = _
    rw [hn]
    show kk nx (ev_ls loc a (some (.inl (((x % 4294967296).toNat + b) % 4294967296)))) st w = kk nx (ev_ls loc a (some (.inl ((x + y) % 4294967296).toNat))) st w
    rw [show ((x % 4294967296).toNat + b) % 4294967296 = ((x + y) % 4294967296).toNat by omega]) k
theorem go_iadd (hc : M.2.2.2.2 pc = (13, (nx, (a, (b, (c', tg)))))) (k : Go Φ P f t X d M nx loc (sI (w32 (x + y)) :: r) g c s) : Go Φ P f t X d M pc loc (sI y :: sI x :: r) g c s :=
  go_sl hc (fun w k cl _ _ => by
    show k nx loc (.inl (((x % 4294967296).toNat + (y % 4294967296).toNat) % 4294967296) :: r) w = _
    rw [sI_w32]
    show _ = k nx loc (.inl ((x + y) % 4294967296).toNat :: r) w
    rw [show ((x % 4294967296).toNat + (y % 4294967296).toNat) % 4294967296 = ((x + y) % 4294967296).toNat by omega]) k
theorem go_isub (hc : M.2.2.2.2 pc = (14, (nx, (a, (b, (c', tg)))))) (k : Go Φ P f t X d M nx loc (sI (w32 (x - y)) :: r) g c s) : Go Φ P f t X d M pc loc (sI y :: sI x :: r) g c s :=
  go_sl hc (fun w k cl _ _ => by
    show k nx loc (.inl (((x % 4294967296).toNat + (4294967296 - (y % 4294967296).toNat % 4294967296)) % 4294967296) :: r) w = _
    rw [sI_w32]
    show _ = k nx loc (.inl ((x - y) % 4294967296).toNat :: r) w
    rw [show ((x % 4294967296).toNat + (4294967296 - (y % 4294967296).toNat % 4294967296)) % 4294967296 = ((x - y) % 4294967296).toNat by omega]) k
theorem go_ibin (hc : M.2.2.2.2 pc = (15, (nx, (a, (b, (c', tg)))))) (k : Go Φ P f t X d M nx loc (sI (opI a x y) :: r) g c s) : Go Φ P f t X d M pc loc (sI y :: sI x :: r) g c s :=
  go_sl hc (fun w k cl _ _ => by
    show k nx loc (.inl (ev_n (ev_opI a (nI (x % 4294967296).toNat) (nI (y % 4294967296).toNat))) :: r) w = _
    rw [ev_n_sI]
    rfl) k
theorem go_iand63 (hc : M.2.2.2.2 pc = (48, (nx, (1, (b, (c', tg)))))) (k : Go Φ P f t X d M nx loc (sI (opI 1 x 63) :: r) g c s) : Go Φ P f t X d M pc loc (sI 63 :: sI x :: r) g c s :=
  go_sl hc (fun w k cl _ _ => by
    show k nx loc (.inl (ev_n (ev_opI 1 (nI (x % 4294967296).toNat) (nI 63))) :: r) w = _
    rw [ev_n_sI]
    rfl) k
theorem go_div (hc : M.2.2.2.2 pc = (47, (nx, (0, (b, (c', tg)))))) (h : 1 ≤ y ∧ y < 2147483648 ∧ 0 ≤ x ∧ x < 2147483648) (k : Go Φ P f t X d M nx loc (sI (x / y) :: r) g c s) : Go Φ P f t X d M pc loc (sI y :: sI x :: r) g c s :=
  go_sl hc (fun w k cl _ _ => by
    obtain ⟨h1, h2, h3, h4⟩ := h
    obtain ⟨m, rfl⟩ := Int.eq_ofNat_of_zero_le h3
    obtain ⟨n, rfl⟩ := Int.eq_ofNat_of_zero_le (show 0 ≤ y by omega)
    have e1 : sI (m : Int) = .inl m := by unfold sI; congr 1; omega
    have e2 : sI (n : Int) = .inl n := by unfold sI; congr 1; omega
    have e4 : m / n ≤ m := Nat.div_le_self _ _
    have e3 : sI ((m : Int) / (n : Int)) = .inl (m / n) := by
      rw [show (m : Int) / (n : Int) = ((m / n : Nat) : Int) from rfl]
      generalize m / n = z at e4 ⊢
      unfold sI
      congr 1
      omega
    rw [e1, e2, e3]
    show ev_if (Nat.ble 1 n && (Nat.ble (n + 1) 2147483648 && Nat.ble (m + 1) 2147483648)) _ _ = _
    rw [Nat.ble_eq.mpr (show 1 ≤ n by omega), Nat.ble_eq.mpr (show n + 1 ≤ 2147483648 by omega), Nat.ble_eq.mpr (show m + 1 ≤ 2147483648 by omega)]
    rfl) k
theorem go_rem (hc : M.2.2.2.2 pc = (47, (nx, (1, (b, (c', tg)))))) (h : 1 ≤ y ∧ y < 2147483648 ∧ 0 ≤ x ∧ x < 2147483648) (k : Go Φ P f t X d M nx loc (sI (x % y) :: r) g c s) : Go Φ P f t X d M pc loc (sI y :: sI x :: r) g c s :=
  go_sl hc (fun w k cl _ _ => by
    obtain ⟨h1, h2, h3, h4⟩ := h
    obtain ⟨m, rfl⟩ := Int.eq_ofNat_of_zero_le h3
    obtain ⟨n, rfl⟩ := Int.eq_ofNat_of_zero_le (show 0 ≤ y by omega)
    have e1 : sI (m : Int) = .inl m := by unfold sI; congr 1; omega
    have e2 : sI (n : Int) = .inl n := by unfold sI; congr 1; omega
    have e4 : m % n ≤ m := Nat.mod_le _ _
    have e3 : sI ((m : Int) % (n : Int)) = .inl (m % n) := by
      rw [show (m : Int) % (n : Int) = ((m % n : Nat) : Int) from rfl]
      generalize m % n = z at e4 ⊢
      unfold sI
      congr 1
      omega
    rw [e1, e2, e3]
    show ev_if (Nat.ble 1 n && (Nat.ble (n + 1) 2147483648 && Nat.ble (m + 1) 2147483648)) _ _ = _
    rw [Nat.ble_eq.mpr (show 1 ≤ n by omega), Nat.ble_eq.mpr (show n + 1 ≤ 2147483648 by omega), Nat.ble_eq.mpr (show m + 1 ≤ 2147483648 by omega)]
    rfl) k
/-! branches -/
theorem go_br {op : Nat} {q : Prop} [Decidable q] {tp fp : Nat} (hc : M.2.2.2.2 pc = (op, (nx, (a, (b, (c', tg)))))) (h : ∀ (w : ev_W) (k : ev_N) (cl : ev_F), ev_sel op Φ M k cl nx a b c' tg pc loc st w = ev_br (some (decide q)) (k tp loc r w) (k fp loc r w))
    (k1 : q → Go Φ P f t A d M tp loc r g c s) (k2 : ¬ q → Go Φ P f t B d M fp loc r g c s) : Go Φ P f t (if q then A else B) d M pc loc st g c s := by
  split
  · next hq => exact go_sl hc (fun w k cl _ _ => by rw [h, decide_eq_true hq]; rfl) (k1 hq)
  · next hq => exact go_sl hc (fun w k cl _ _ => by rw [h, decide_eq_false hq]; rfl) (k2 hq)
theorem go_ifeq (hc : M.2.2.2.2 pc = (16, (nx, (0, (b, (c', tg)))))) (hx : InR x) (k1 : x = 0 → Go Φ P f t A d M b loc r g c s) (k2 : ¬ x = 0 → Go Φ P f t B d M c' loc r g c s) : Go Φ P f t (if x = 0 then A else B) d M pc loc (sI x :: r) g c s :=
  go_br (r := r) hc (fun w k cl => by rw [gq_16, gq_0, gq_c0 hx inR_0]) k1 k2
theorem go_iflt (hc : M.2.2.2.2 pc = (16, (nx, (1, (b, (c', tg)))))) (hx : InR x) (k1 : x < 0 → Go Φ P f t A d M b loc r g c s) (k2 : ¬ x < 0 → Go Φ P f t B d M c' loc r g c s) : Go Φ P f t (if x < 0 then A else B) d M pc loc (sI x :: r) g c s :=
  go_br (r := r) hc (fun w k cl => by rw [gq_16, gq_0, gq_c1 hx inR_0]) k1 k2
theorem go_ifgt (hc : M.2.2.2.2 pc = (16, (nx, (2, (b, (c', tg)))))) (hx : InR x) (k1 : 0 < x → Go Φ P f t A d M b loc r g c s) (k2 : ¬ 0 < x → Go Φ P f t B d M c' loc r g c s) : Go Φ P f t (if 0 < x then A else B) d M pc loc (sI x :: r) g c s :=
  go_br (r := r) hc (fun w k cl => by rw [gq_16, gq_0, gq_c2 hx inR_0]) k1 k2
theorem go_cmeq (hc : M.2.2.2.2 pc = (17, (nx, (0, (b, (c', tg)))))) (hx : InR x) (hy : InR y) (k1 : x = y → Go Φ P f t A d M b loc r g c s) (k2 : ¬ x = y → Go Φ P f t B d M c' loc r g c s) : Go Φ P f t (if x = y then A else B) d M pc loc (sI y :: sI x :: r) g c s :=
  go_br (r := r) hc (fun w k cl => by rw [gq_17, gq_c0 hx hy]) k1 k2
theorem go_cmlt (hc : M.2.2.2.2 pc = (17, (nx, (1, (b, (c', tg)))))) (hx : InR x) (hy : InR y) (k1 : x < y → Go Φ P f t A d M b loc r g c s) (k2 : ¬ x < y → Go Φ P f t B d M c' loc r g c s) : Go Φ P f t (if x < y then A else B) d M pc loc (sI y :: sI x :: r) g c s :=
  go_br (r := r) hc (fun w k cl => by rw [gq_17, gq_c1 hx hy]) k1 k2
theorem go_cmgt (hc : M.2.2.2.2 pc = (17, (nx, (2, (b, (c', tg)))))) (hx : InR x) (hy : InR y) (k1 : y < x → Go Φ P f t A d M b loc r g c s) (k2 : ¬ y < x → Go Φ P f t B d M c' loc r g c s) : Go Φ P f t (if y < x then A else B) d M pc loc (sI y :: sI x :: r) g c s :=
  go_br (r := r) hc (fun w k cl => by rw [gq_17, gq_c2 hx hy]) k1 k2
theorem go_acmp (hc : M.2.2.2.2 pc = (18, (nx, (a, (b, (c', tg)))))) (hx : RfR x) (hy : RfR y) (k1 : x = y → Go Φ P f t A d M b loc r g c s) (k2 : ¬ x = y → Go Φ P f t B d M c' loc r g c s) : Go Φ P f t (if x = y then A else B) d M pc loc (sR y :: sR x :: r) g c s :=
  go_br (r := r) hc (fun w k cl => by
    unfold RfR at hx hy
    show ev_if (ev_own (if x < 0 then none else some x.toNat) && ev_own (if y < 0 then none else some y.toNat)) (ev_if (ev_oeq (if x < 0 then none else some x.toNat) (if y < 0 then none else some y.toNat)) (k b loc r w) (k c' loc r w)) none = _
    have ow : ∀ z : Int, z < 1000000 → ev_own (if z < 0 then none else some z.toNat) = true := by
      intro z hz
      split
      · rfl
      · exact Nat.ble_eq.mpr (by omega)
    rw [ow x hx.2, ow y hy.2]
    have oe : ev_oeq (if x < 0 then none else some x.toNat) (if y < 0 then none else some y.toNat) = decide (x = y) := by
      by_cases h1 : x < 0
      · by_cases h2 : y < 0
        · rw [if_pos h1, if_pos h2, decide_eq_true (by omega)]
          rfl
        · rw [if_pos h1, if_neg h2, decide_eq_false (by omega)]
          rfl
      · by_cases h2 : y < 0
        · rw [if_neg h1, if_pos h2, decide_eq_false (by omega)]
          rfl
        · rw [if_neg h1, if_neg h2]
          show Nat.beq x.toNat y.toNat = _
          by_cases h3 : x = y
          · rw [h3, decide_eq_true rfl]
            exact Nat.beq_refl _
          · rw [decide_eq_false h3]
            exact Bool.eq_false_iff.mpr (fun z => h3 (by have := Nat.eq_of_beq_eq_true z; omega))
    rw [oe]
    cases decide (x = y) <;> rfl) k1 k2
theorem go_isnull (hc : M.2.2.2.2 pc = (19, (nx, (a, (b, (c', tg)))))) (k1 : x < 0 → Go Φ P f t A d M b loc r g c s) (k2 : ¬ x < 0 → Go Φ P f t B d M c' loc r g c s) : Go Φ P f t (if x < 0 then A else B) d M pc loc (sR x :: r) g c s :=
  go_br (r := r) hc (fun w k cl => by
    unfold sR
    by_cases h : x < 0
    · rw [if_pos h, decide_eq_true h]
      rfl
    · rw [if_neg h, decide_eq_false h]
      rfl) k1 k2
theorem go_goto (hc : M.2.2.2.2 pc = (20, (nx, (a, (b, (c', tg)))))) (k : Go Φ P f t X d M nx loc st g c s) : Go Φ P f t X d M pc loc st g c s := go_sl hc (fun w k cl _ _ => rfl) k
theorem go_dupI (hc : M.2.2.2.2 pc = (21, (nx, (a, (b, (c', tg)))))) (k : Go Φ P f t X d M nx loc (sI x :: sI x :: r) g c s) : Go Φ P f t X d M pc loc (sI x :: r) g c s := go_sl hc (fun w k cl _ _ => rfl) k
theorem go_dupR (hc : M.2.2.2.2 pc = (21, (nx, (a, (b, (c', tg)))))) (k : Go Φ P f t X d M nx loc (sR x :: sR x :: r) g c s) : Go Φ P f t X d M pc loc (sR x :: r) g c s := go_sl hc (fun w k cl _ _ => rfl) k
theorem go_dup2 (hc : M.2.2.2.2 pc = (22, (nx, (a, (b, (c', tg)))))) (k : Go Φ P f t X d M nx loc (sI x :: sR y :: sI x :: sR y :: r) g c s) : Go Φ P f t X d M pc loc (sI x :: sR y :: r) g c s := go_sl hc (fun w k cl _ _ => rfl) k
theorem go_popI (hc : M.2.2.2.2 pc = (23, (nx, (a, (b, (c', tg)))))) (k : Go Φ P f t X d M nx loc r g c s) : Go Φ P f t X d M pc loc (sI x :: r) g c s := go_sl hc (fun w k cl _ _ => rfl) k
theorem go_popR (hc : M.2.2.2.2 pc = (23, (nx, (a, (b, (c', tg)))))) (k : Go Φ P f t X d M nx loc r g c s) : Go Φ P f t X d M pc loc (sR x :: r) g c s := go_sl hc (fun w k cl _ _ => rfl) k
/-- a switch: a case, the default -/
theorem gq_sw {Φ : ev_P} {M : ev_M} {k : ev_N} {cl : ev_F} {nx a b c' pc u : Nat} {tg : List Nat} {loc : ev_L} {x : ev_V} {r : List ev_V} {w : ev_W} (h : ev_itv Φ x = some (u, u)) : ev_h_switch Φ M k cl nx a b c' tg pc loc (x :: r) w = ev_if (Nat.ble (u + 1) a || Nat.ble (b + 1) u) (k c' loc r w) (ev_if (Nat.beq u u && (Nat.ble a u && Nat.ble u b)) (match ev_lg tg (u - a) with
        | some t => k t loc r w
        | none => none) none) := by
  show (match ev_itv Φ x with
      | some p => ev_if (Nat.ble (p.2 + 1) a || Nat.ble (b + 1) p.1) (k c' loc r w) (ev_if (Nat.beq p.1 p.2 && (Nat.ble a p.1 && Nat.ble p.1 b)) (match ev_lg tg (p.1 - a) with
        | some t => k t loc r w
        | none => none) none)
      | none => none) = _
  rw [h]
theorem gq_bf {m n : Nat} (h : n < m) : Nat.ble m n = false := Bool.eq_false_iff.mpr (fun z => by have := Nat.ble_eq.mp z; omega)
theorem go_swh {lo hi : Int} {i tp : Nat} (hc : M.2.2.2.2 pc = (42, (nx, (a, (b, (c', tg)))))) (ha : (lo + 2147483648).toNat = a) (hb : (hi + 2147483648).toNat = b) (hx : x = lo + i) (hr : -2147483648 ≤ lo ∧ lo + i ≤ hi ∧ hi < 2147483648) (ht : ev_lg tg i = some tp) (k : Go Φ P f t X d M tp loc r g c s) : Go Φ P f t X d M pc loc (sI x :: r) g c s := by
  have hi' : InR x := by unfold InR; omega
  have hu := gq_itv (Φ := Φ) hi'
  have h1 : a ≤ (x + 2147483648).toNat := by omega
  have h2 : (x + 2147483648).toNat ≤ b := by omega
  have h3 : (x + 2147483648).toNat - a = i := by omega
  generalize (x + 2147483648).toNat = u at hu h1 h2 h3
  exact go_sl hc (fun w kk cl _ _ => by
    rw [gq_42, gq_sw hu, gq_bf (show a < u + 1 by omega), gq_bf (show u < b + 1 by omega), show Nat.beq u u = true from Nat.beq_refl _, Nat.ble_eq.mpr h1, Nat.ble_eq.mpr h2, h3, ht]
    rfl) k
theorem go_swd {lo hi : Int} (hc : M.2.2.2.2 pc = (42, (nx, (a, (b, (c', tg)))))) (ha : (lo + 2147483648).toNat = a) (hb : (hi + 2147483648).toNat = b) (hi' : InR x) (hr : x < lo ∨ hi < x) (hlo : -2147483648 ≤ lo ∧ -2147483648 ≤ hi) (k : Go Φ P f t X d M c' loc r g c s) : Go Φ P f t X d M pc loc (sI x :: r) g c s := by
  have hu := gq_itv (Φ := Φ) hi'
  unfold InR at hi'
  have h1 : (Nat.ble ((x + 2147483648).toNat + 1) a || Nat.ble (b + 1) (x + 2147483648).toNat) = true := by
    rw [Bool.or_eq_true, Nat.ble_eq, Nat.ble_eq]
    omega
  generalize (x + 2147483648).toNat = u at hu h1
  exact go_sl hc (fun w kk cl _ _ => by
    rw [gq_42, gq_sw hu, h1]
    rfl) k
end GO
/-! ===== rows of the heap, calls, ends (own work) ===== -/
def i2b (x : Int) : Int := ((toI x).toInt8.toInt32).toInt
def gi2d (x : Int) : Int := ((FP.i2d (toI x)).toNat : Int)
def gi2f (x : Int) : Int := ((FP.i2f (toI x)).toNat : Int)
def gf2d (x : Int) : Int := ((FP.f2d (UInt32.ofNat x.toNat)).toNat : Int)
def okf2d (x : Int) : Bool := ev_n64 (FP.f2d (UInt32.ofNat x.toNat))
def gddiv (x y : Int) : Int := ((FP.ddiv (UInt64.ofNat x.toNat) (UInt64.ofNat y.toNat)).toNat : Int)
def okddiv (x y : Int) : Bool := ev_n64 (FP.ddiv (UInt64.ofNat x.toNat) (UInt64.ofNat y.toNat))
def gfdiv (x y : Int) : Int := ((FP.fdiv (UInt32.ofNat x.toNat) (UInt32.ofNat y.toNat)).toNat : Int)
def okfdiv (x y : Int) : Bool := ev_n32 (FP.fdiv (UInt32.ofNat x.toNat) (UInt32.ofNat y.toNat))
def gdcmp (j : Nat) (x y : Int) : Int := (match j with
  | 2 => Op.cmpValue (FP.dcmp (UInt64.ofNat x.toNat) (UInt64.ofNat y.toNat)) .l
  | _ => Op.cmpValue (FP.dcmp (UInt64.ofNat x.toNat) (UInt64.ofNat y.toNat)) .g : Int32).toInt
def glcmp (x y : Int) : Int := (lg_cmp (toL x) (toL y)).toInt
def opL (j : Nat) (x y : Int) : Int := (ev_opL j (toL x) (toL y)).toInt
def opS (j : Nat) (x y : Int) : Int := (ev_opS j (toL x) (toI y)).toInt
noncomputable def gtx (p : Int) : List Nat := (ev_txt (p.toNat - ev_tb)).getD []
theorem inR_i2b (x : Int) : InR (i2b x) := inR_I32 _
theorem inR_glcmp (x y : Int) : InR (glcmp x y) := inR_I32 _
theorem inR_gdcmp (j : Nat) (x y : Int) : InR (gdcmp j x y) := inR_I32 _
theorem inL_I64 (x : Int64) : L64 x.toInt := ⟨by have := x.le_toInt; simpa using this, by have := x.toInt_lt; simpa using this⟩
theorem inL_opL (j : Nat) (x y : Int) : L64 (opL j x y) := inL_I64 _
theorem inL_opS (j : Nat) (x y : Int) : L64 (opS j x y) := inL_I64 _
theorem inL_R {x : Int} (h : InR x) : L64 x := by unfold InR at h; unfold L64; omega
theorem ev_nl_sL (x : Int64) : (.inr (.inr (.inr (0, ev_nl x))) : ev_V) = sL x.toInt := by
  have : (x.toBitVec.toNat : Int) = x.toInt % 18446744073709551616 := by
    have h2 : x.toInt = x.toBitVec.toInt := rfl
    rw [h2, BitVec.toInt_eq_toNat_cond]
    have := x.toBitVec.isLt
    split <;> omega
  unfold sL ev_nl
  rw [show x.toBitVec.toNat = (x.toInt % 18446744073709551616).toNat by omega]
/-! the handlers, at a stack of any values -/
section HAND
variable {Φ : ev_P} {M : ev_M} {k : ev_N} {cl : ev_F} {nx a b c' pc : Nat} {tg : List Nat} {loc : ev_L} {r : List ev_V} {w : ev_W} {u v z : ev_V}
theorem gh_24 {i : Nat} {q : ev_C} (h : ev_get w.1 i = some q) (hk : q.1 = a) (h2 : ev_get q.2.2 b = some v) : ev_sel 24 Φ M k cl nx a b c' tg pc loc (.inr (.inl (some i)) :: r) w = k nx loc (v :: r) w := by
  show (match ev_get w.1 i with
    | some q => ev_if (Nat.beq q.1 a) (match ev_get q.2.2 b with
      | some v => k nx loc (v :: r) w
      | none => none) none
    | none => none) = _
  rw [h]
  show ev_if (Nat.beq q.1 a) (match ev_get q.2.2 b with
      | some v => k nx loc (v :: r) w
      | none => none) none = _
  rw [hk, Nat.beq_refl, h2]
  rfl
theorem gh_25 {i : Nat} {q : ev_C} (h : ev_get w.1 i = some q) (hk : q.1 = a) (hf : ev_fits c' v = true) : ev_sel 25 Φ M k cl nx a b c' tg pc loc (v :: .inr (.inl (some i)) :: r) w = ev_upd w i q b v (k nx loc r) := by
  show (match ev_get w.1 i with
    | some q => ev_if (Nat.beq q.1 a && ev_fits c' v) (ev_upd w i q b v (k nx loc r)) none
    | none => none) = _
  rw [h]
  show ev_if (Nat.beq q.1 a && ev_fits c' v) (ev_upd w i q b v (k nx loc r)) none = _
  rw [hk, Nat.beq_refl, hf]
  rfl
theorem gh_26 {i : Nat} {q : ev_C} (h : ev_get w.1 i = some q) (hi : i < 1000000) (hk : 20 ≤ q.1 ∧ q.1 ≤ 25) : ev_sel 26 Φ M k cl nx a b c' tg pc loc (.inr (.inl (some i)) :: r) w = k nx loc (.inl q.2.1 :: r) w := by
  show ev_if (Nat.beq i 1000000) (ev_if (Nat.ble Φ.1 5000) (k nx loc (.inl Φ.1 :: r) w) none) (match ev_get w.1 i with
    | some q => ev_if (Nat.ble 20 q.1 && Nat.ble q.1 25) (k nx loc (.inl q.2.1 :: r) w) none
    | none => none) = _
  rw [Bool.eq_false_iff.mpr (fun z => by have := Nat.eq_of_beq_eq_true z; omega : ¬ Nat.beq i 1000000 = true), h]
  show ev_if (Nat.ble 20 q.1 && Nat.ble q.1 25) (k nx loc (.inl q.2.1 :: r) w) none = _
  rw [Nat.ble_eq.mpr hk.1, Nat.ble_eq.mpr hk.2]
  rfl
theorem gh_29 {i j : Nat} {q : ev_C} (h : ev_get w.1 i = some q) (hk : a ≤ q.1 ∧ q.1 ≤ b) (hj : j < q.2.1 ∧ q.2.1 ≤ 65536) (h2 : ev_get q.2.2 j = some v) : ev_sel 29 Φ M k cl nx a b c' tg pc loc (.inl j :: .inr (.inl (some i)) :: r) w = k nx loc (v :: r) w := by
  show (match ev_get w.1 i with
    | some q => ev_if (Nat.ble a q.1 && (Nat.ble q.1 b && (Nat.ble (j + 1) q.2.1 && Nat.ble q.2.1 65536))) (match ev_get q.2.2 j with
      | some v => k nx loc (v :: r) w
      | none => none) none
    | none => none) = _
  rw [h]
  show ev_if (Nat.ble a q.1 && (Nat.ble q.1 b && (Nat.ble (j + 1) q.2.1 && Nat.ble q.2.1 65536))) (match ev_get q.2.2 j with
      | some v => k nx loc (v :: r) w
      | none => none) none = _
  rw [Nat.ble_eq.mpr hk.1, Nat.ble_eq.mpr hk.2, Nat.ble_eq.mpr (show j + 1 ≤ q.2.1 by omega), Nat.ble_eq.mpr hj.2, h2]
  rfl
theorem gh_27 {i j : Nat} {q : ev_C} (h : ev_get w.1 i = some q) (hi : i < 1000000) (hk : a ≤ q.1 ∧ q.1 ≤ b) (hj : j < q.2.1 ∧ q.2.1 ≤ 65536) (h2 : ev_get q.2.2 j = some v) : ev_sel 27 Φ M k cl nx a b c' tg pc loc (.inl j :: .inr (.inl (some i)) :: r) w = k nx loc (v :: r) w := by
  show ev_if (Nat.beq i 1000000) _ (ev_h_ald Φ M k cl nx a b c' tg pc loc (.inl j :: .inr (.inl (some i)) :: r) w) = _
  rw [Bool.eq_false_iff.mpr (fun z => by have := Nat.eq_of_beq_eq_true z; omega : ¬ Nat.beq i 1000000 = true)]
  exact gh_29 (Φ := Φ) (M := M) (cl := cl) (c' := c') (tg := tg) (pc := pc) h hk hj h2
theorem gh_28 {i j : Nat} {q : ev_C} (h : ev_get w.1 i = some q) (hk : q.1 = 20) (hj : j < q.2.1 ∧ q.2.1 ≤ 65536) (hv : ev_ii v = true) : ev_sel 28 Φ M k cl nx a b c' tg pc loc (v :: .inl j :: .inr (.inl (some i)) :: r) w = ev_upd w i q j v (k nx loc r) := by
  show (match ev_get w.1 i with
    | some q => ev_if (Nat.beq q.1 20 && (ev_ii v && (Nat.ble (j + 1) q.2.1 && Nat.ble q.2.1 65536))) (ev_upd w i q j v (k nx loc r)) none
    | none => none) = _
  rw [h]
  show ev_if (Nat.beq q.1 20 && (ev_ii v && (Nat.ble (j + 1) q.2.1 && Nat.ble q.2.1 65536))) (ev_upd w i q j v (k nx loc r)) none = _
  rw [hk, Nat.beq_refl, hv, Nat.ble_eq.mpr (show j + 1 ≤ q.2.1 by omega), Nat.ble_eq.mpr hj.2]
  rfl
theorem gh_30b {i j : Nat} {q : ev_C} (h : ev_get w.1 i = some q) (hk : q.1 = 21) (hj : j < q.2.1 ∧ q.2.1 ≤ 65536) (hv : ev_nb v = some z) : ev_sel 30 Φ M k cl nx a b c' tg pc loc (v :: .inl j :: .inr (.inl (some i)) :: r) w = ev_upd w i q j z (k nx loc r) := by
  show (match ev_get w.1 i with
    | some q => ev_if (Nat.ble (j + 1) q.2.1 && Nat.ble q.2.1 65536)
      (ev_if (Nat.beq q.1 21) (match ev_nb v with
        | some z => ev_upd w i q j z (k nx loc r)
        | none => none) (ev_if (Nat.beq q.1 22 && ev_fits 1 v) (ev_upd w i q j v (k nx loc r)) none)) none
    | none => none) = _
  rw [h]
  show ev_if (Nat.ble (j + 1) q.2.1 && Nat.ble q.2.1 65536)
      (ev_if (Nat.beq q.1 21) (match ev_nb v with
        | some z => ev_upd w i q j z (k nx loc r)
        | none => none) (ev_if (Nat.beq q.1 22 && ev_fits 1 v) (ev_upd w i q j v (k nx loc r)) none)) none = _
  rw [hk, Nat.ble_eq.mpr (show j + 1 ≤ q.2.1 by omega), Nat.ble_eq.mpr hj.2, hv]
  rfl
theorem gh_30z {i j : Nat} {q : ev_C} (h : ev_get w.1 i = some q) (hk : q.1 = 22) (hj : j < q.2.1 ∧ q.2.1 ≤ 65536) (hv : ev_fits 1 v = true) : ev_sel 30 Φ M k cl nx a b c' tg pc loc (v :: .inl j :: .inr (.inl (some i)) :: r) w = ev_upd w i q j v (k nx loc r) := by
  show (match ev_get w.1 i with
    | some q => ev_if (Nat.ble (j + 1) q.2.1 && Nat.ble q.2.1 65536)
      (ev_if (Nat.beq q.1 21) (match ev_nb v with
        | some z => ev_upd w i q j z (k nx loc r)
        | none => none) (ev_if (Nat.beq q.1 22 && ev_fits 1 v) (ev_upd w i q j v (k nx loc r)) none)) none
    | none => none) = _
  rw [h]
  show ev_if (Nat.ble (j + 1) q.2.1 && Nat.ble q.2.1 65536)
      (ev_if (Nat.beq q.1 21) (match ev_nb v with
        | some z => ev_upd w i q j z (k nx loc r)
        | none => none) (ev_if (Nat.beq q.1 22 && ev_fits 1 v) (ev_upd w i q j v (k nx loc r)) none)) none = _
  rw [hk, Nat.ble_eq.mpr (show j + 1 ≤ q.2.1 by omega), Nat.ble_eq.mpr hj.2, hv]
  rfl
theorem gh_31 {i j : Nat} {q : ev_C} (h : ev_get w.1 i = some q) (hk : q.1 = 23) (hj : j < q.2.1 ∧ q.2.1 ≤ 65536) (hv : ev_ik 0 v = true) : ev_sel 31 Φ M k cl nx a b c' tg pc loc (v :: .inl j :: .inr (.inl (some i)) :: r) w = ev_upd w i q j v (k nx loc r) := by
  show (match ev_get w.1 i with
    | some q => ev_if (Nat.beq q.1 23 && (ev_ik 0 v && (Nat.ble (j + 1) q.2.1 && Nat.ble q.2.1 65536))) (ev_upd w i q j v (k nx loc r)) none
    | none => none) = _
  rw [h]
  show ev_if (Nat.beq q.1 23 && (ev_ik 0 v && (Nat.ble (j + 1) q.2.1 && Nat.ble q.2.1 65536))) (ev_upd w i q j v (k nx loc r)) none = _
  rw [hk, Nat.beq_refl, hv, Nat.ble_eq.mpr (show j + 1 ≤ q.2.1 by omega), Nat.ble_eq.mpr hj.2]
  rfl
theorem gh_43 (h : ev_cv a u = some z) : ev_sel 43 Φ M k cl nx a b c' tg pc loc (u :: r) w = k nx loc (z :: r) w := by
  show (match ev_cv a u with
    | some z => k nx loc (z :: r) w
    | none => none) = _
  rw [h]
theorem gh_44 (h : ev_w2 a u v = some z) (hs : Nat.ble (ev_cs r) 8 = true) (hm : ev_may M w 0 0 = true) : ev_sel 44 Φ M k cl nx a b c' tg pc loc (v :: u :: r) w = k nx loc (z :: r) w := by
  show (match ev_w2 a u v with
    | some z => ev_if (Nat.ble (ev_cs r) 8 && ev_may M w 0 0) (k nx loc (z :: r) w) none
    | none => none) = _
  rw [h]
  show ev_if (Nat.ble (ev_cs r) 8 && ev_may M w 0 0) (k nx loc (z :: r) w) none = _
  rw [hs, hm]
  rfl
theorem gh_may {c s mc ms : Nat} (hz : w.2.2.2 = (c, s)) (h : c + mc ≤ M.2.1 ∧ s + ms ≤ M.2.2.1) : ev_may M w mc ms = true := by
  show (Nat.ble (w.2.2.2.1 + mc) M.2.1 && Nat.ble (w.2.2.2.2 + ms) M.2.2.1) = true
  rw [hz]
  show (Nat.ble (c + mc) M.2.1 && Nat.ble (s + ms) M.2.2.1) = true
  rw [Nat.ble_eq.mpr h.1, Nat.ble_eq.mpr h.2]
  rfl
theorem gh_35 {As : List ev_V} {mc ms : Nat} {st : List ev_V} (hsp : ev_sp b [] st = some (As, r)) (hs : Nat.ble (ev_cs r) 8 = true) (hm : ev_may M w mc ms = true) (hw : As.all (fun v => !ev_wide v) = true) (hr : ev_rc c' As w = true) :
    ev_sel 35 Φ M k cl nx a b c' [mc, ms] pc loc st w = ev_cont M k nx pc loc r w mc ms (cl a As (w.1, (w.2.1, (w.2.2.1, (0, 0))))) := by
  show (match ev_sp b [] st with
  | some (As, r) => ev_if (Nat.ble (ev_cs r) 8 && (ev_may M w mc ms && As.all (fun v => !ev_wide v))) (ev_if (ev_rc c' As w) (ev_cont M k nx pc loc r w mc ms (cl a As (w.1, (w.2.1, (w.2.2.1, (0, 0)))))) none) none
  | none => none) = _
  rw [hsp]
  show ev_if (Nat.ble (ev_cs r) 8 && (ev_may M w mc ms && As.all (fun v => !ev_wide v))) (ev_if (ev_rc c' As w) (ev_cont M k nx pc loc r w mc ms (cl a As (w.1, (w.2.1, (w.2.2.1, (0, 0)))))) none) none = _
  rw [hs, hm, hw, hr]
  rfl
theorem gh_37 {st : List ev_V} (hm : ev_may M w 1 6 = true) (hs : Nat.ble (ev_cs st) 8 = true) : ev_sel 37 Φ M k cl nx a b c' tg pc loc st w = some (.inr (.inl (a, (w.1, (w.2.1, (false, (w.2.2.2.1 + 1, w.2.2.2.2 + 6))))))) := by
  show ev_if (ev_may M w 1 6 && Nat.ble (ev_cs st) 8) _ none = _
  rw [hm, hs]
  rfl
theorem gh_38 (hm : ev_may M w 0 0 = true) : ev_sel 38 Φ M k cl nx a b c' tg pc loc [] w = some (.inl (none, w)) := by
  show ev_if (ev_may M w 0 0) _ none = _
  rw [hm]
  rfl
theorem gh_39 (hm : ev_may M w 0 0 = true) (hf : ev_fits a v = true) : ev_sel 39 Φ M k cl nx a b c' tg pc loc [v] w = some (.inl (some v, w)) := by
  show ev_if (ev_fits a v && ev_may M w 0 0) _ none = _
  rw [hm, hf]
  rfl
theorem gh_40 (hm : ev_may M w 0 0 = true) (hf : ev_ir v = true) : ev_sel 40 Φ M k cl nx a b c' tg pc loc [v] w = some (.inl (some v, w)) := by
  show ev_if (ev_ir v && ev_may M w 0 0) _ none = _
  rw [hm, hf]
  rfl
theorem gh_41 (hm : ev_may M w 0 0 = true) (hf : ev_ik a v = true) : ev_sel 41 Φ M k cl nx a b c' tg pc loc [v] w = some (.inl (some v, w)) := by
  show ev_if (ev_ik a v && ev_may M w 0 0) _ none = _
  rw [hm, hf]
  rfl
end HAND
theorem sI_B01 {v : Int} (h : B01 v) : ev_fits 1 (sI v) = true := by
  rcases h with rfl | rfl
  · rw [show sI 0 = .inl 0 from rfl]
    rfl
  · rw [show sI 1 = .inl 1 from rfl]
    rfl
/-! ===== rows of the heap, calls, ends (own work) ===== -/
theorem go_lit {x : Int} (m : Nat) (h : (m : Int) = x) (hx : InR x) : sI x = .inl m := by
  subst h
  unfold InR at hx
  unfold sI
  congr 1
  omega
theorem toI_toInt (x : Int) : (toI x).toInt = w32 x := by
  show (BitVec.ofNat 32 (x % 4294967296).toNat).toInt = _
  rw [BitVec.toInt_ofNat']
  unfold w32
  simp only [Int.bmod_def]
  omega
theorem toL_toInt {x : Int} (h : L64 x) : (toL x).toInt = x := by
  show (BitVec.ofNat 64 (x % 18446744073709551616).toNat).toInt = _
  rw [BitVec.toInt_ofNat']
  unfold L64 at h
  simp only [Int.bmod_def]
  omega
section GO3
variable {β : Type} {Φ : ev_P} {P : Nat → ev_M} {f : β → Nat × (Int × gH)} {t : Nat} {X A B : Option β} {d : Nat} {M : ev_M} {pc nx : Nat} {loc : ev_L} {st r : List ev_V} {g : gH} {c s a b c' : Nat} {tg : List Nat} {x y p j bI : Int} {K : gH → Option β}
theorem typ_h {g : gH} {p bI : Int} {T : Nat} (hg : HR g) (hk : kd p = a) (hT : typ a bI = T) : VT T (g p bI) := by
  subst hk hT
  exact hg p bI
/-- a field read -/
theorem go_get {T : Nat} (hc : M.2.2.2.2 pc = (24, (nx, (a, (b, (c', tg)))))) (hk : kd p = a) (ha : a < 8 ∧ b < (ty_T.getD a []).length) (hb : (b : Int) = bI) (hT : typ a bI = T) (k : Go Φ P f t X d M nx loc (dec T (g p bI) :: r) g c s) : Go Φ P f t X d M pc loc (sR p :: r) g c s := by
  have hp := kd_lt hk (by omega)
  have hs := sz_of hk ha.1
  refine go_sl hc (fun w kk cl hw _ => ?_) k
  obtain ⟨q, h1, h2, h3, h4⟩ := wg_get (a := p) (b := bI) hw hp ⟨by omega, by omega⟩
  rw [sR_pos hp.1]
  rw [hk, hT, show bI.toNat = b by omega] at h4
  exact gh_24 h1 (h2.trans hk) h4
theorem go_getI (hc : M.2.2.2.2 pc = (24, (nx, (a, (b, (c', tg)))))) (hg : HR g) (hk : kd p = a) (ha : a < 8 ∧ b < (ty_T.getD a []).length) (hb : (b : Int) = bI) (hT : typ a bI = 0) (k : InR (g p bI) → Go Φ P f t X d M nx loc (sI (g p bI) :: r) g c s) : Go Φ P f t X d M pc loc (sR p :: r) g c s :=
  go_get (T := 0) hc hk ha hb hT (k (typ_h hg hk hT))
theorem go_getB (hc : M.2.2.2.2 pc = (24, (nx, (a, (b, (c', tg)))))) (hg : HR g) (hk : kd p = a) (ha : a < 8 ∧ b < (ty_T.getD a []).length) (hb : (b : Int) = bI) (hT : typ a bI = 1) (k : B01 (g p bI) → Go Φ P f t X d M nx loc (sI (g p bI) :: r) g c s) : Go Φ P f t X d M pc loc (sR p :: r) g c s :=
  go_get (T := 1) hc hk ha hb hT (k (typ_h hg hk hT))
theorem go_getR (hc : M.2.2.2.2 pc = (24, (nx, (a, (b, (c', tg)))))) (hg : HR g) (hk : kd p = a) (ha : a < 8 ∧ b < (ty_T.getD a []).length) (hb : (b : Int) = bI) (hT : typ a bI = 2) (k : RfR (g p bI) → Go Φ P f t X d M nx loc (sR (g p bI) :: r) g c s) : Go Φ P f t X d M pc loc (sR p :: r) g c s :=
  go_get (T := 2) hc hk ha hb hT (k (typ_h hg hk hT))
theorem go_getL (hc : M.2.2.2.2 pc = (24, (nx, (a, (b, (c', tg)))))) (hg : HR g) (hk : kd p = a) (ha : a < 8 ∧ b < (ty_T.getD a []).length) (hb : (b : Int) = bI) (hT : typ a bI = 3) (k : L64 (g p bI) → Go Φ P f t X d M nx loc (sL (g p bI) :: r) g c s) : Go Φ P f t X d M pc loc (sR p :: r) g c s :=
  go_get (T := 3) hc hk ha hb hT (k (typ_h hg hk hT))
/-- a field written -/
theorem go_put {T : Nat} {op : Nat} {st : List ev_V} (hc : M.2.2.2.2 pc = (op, (nx, (a, (b, (c', tg)))))) (hg : HR g) (hp : 0 ≤ p ∧ p < 636) (hb : 0 ≤ bI ∧ bI < sz p) (hT : typ (kd p) bI = T) (hv : VT T x) (h : ∀ (w : ev_W) (k : ev_N) (cl : ev_F) (q : ev_C), ev_get w.1 p.toNat = some q → q.1 = kd p → (q.2.1 : Int) = sz p → ev_sel op Φ M k cl nx a b c' tg pc loc st w = ev_upd w p.toNat q bI.toNat (dec T x) (k nx loc r))
    (k : ∀ g1, HR g1 → Go Φ P f t (K g1) d M nx loc r g1 c s) : Go Φ P f t (bnd (pU g p bI x) K) d M pc loc st g c s := by
  refine go_step hc (fun w hw hz => ?_) (k (pU g p bI x) (hr_pU hg (by rw [hT]; exact hv)))
  obtain ⟨q, x9, h1, h2, h3, h4, h5, h6⟩ := wg_pU (v := x) hw hp hb
  refine ⟨(x9, w.2), h5, hz, fun kk cl => ?_⟩
  rw [h w kk cl q h1 h2 h3, ← hT]
  exact h6 _
theorem go_putf {T : Nat} (hc : M.2.2.2.2 pc = (25, (nx, (a, (b, (c', tg)))))) (hg : HR g) (hk : kd p = a) (ha : a < 8 ∧ b < (ty_T.getD a []).length) (hb : (b : Int) = bI) (hT : typ a bI = T) (hv : VT T x) (hf : ev_fits c' (dec T x) = true)
    (k : ∀ g1, HR g1 → Go Φ P f t (K g1) d M nx loc r g1 c s) : Go Φ P f t (bnd (pU g p bI x) K) d M pc loc (dec T x :: sR p :: r) g c s := by
  have hp := kd_lt hk (by omega)
  have hs := sz_of hk ha.1
  refine go_put hc hg hp (by omega) (by rw [hk]; exact hT) hv (fun w kk cl q h1 h2 h3 => ?_) k
  rw [sR_pos hp.1, show bI.toNat = b by omega]
  exact gh_25 h1 (h2.trans hk) hf
theorem go_putI (hc : M.2.2.2.2 pc = (25, (nx, (a, (b, (0, tg)))))) (hg : HR g) (hk : kd p = a) (ha : a < 8 ∧ b < (ty_T.getD a []).length) (hb : (b : Int) = bI) (hT : typ a bI = 0) (hv : InR x)
    (k : ∀ g1, HR g1 → Go Φ P f t (K g1) d M nx loc r g1 c s) : Go Φ P f t (bnd (pU g p bI x) K) d M pc loc (sI x :: sR p :: r) g c s := go_putf (T := 0) hc hg hk ha hb hT hv rfl k
theorem go_putB (hc : M.2.2.2.2 pc = (25, (nx, (a, (b, (1, tg)))))) (hg : HR g) (hk : kd p = a) (ha : a < 8 ∧ b < (ty_T.getD a []).length) (hb : (b : Int) = bI) (hT : typ a bI = 1) (hv : B01 x)
    (k : ∀ g1, HR g1 → Go Φ P f t (K g1) d M nx loc r g1 c s) : Go Φ P f t (bnd (pU g p bI x) K) d M pc loc (sI x :: sR p :: r) g c s := go_putf (T := 1) hc hg hk ha hb hT hv (sI_B01 hv) k
theorem go_putR (hc : M.2.2.2.2 pc = (25, (nx, (a, (b, (2, tg)))))) (hg : HR g) (hk : kd p = a) (ha : a < 8 ∧ b < (ty_T.getD a []).length) (hb : (b : Int) = bI) (hT : typ a bI = 2) (hv : RfR x)
    (k : ∀ g1, HR g1 → Go Φ P f t (K g1) d M nx loc r g1 c s) : Go Φ P f t (bnd (pU g p bI x) K) d M pc loc (sR x :: sR p :: r) g c s := go_putf (T := 2) hc hg hk ha hb hT hv rfl k
theorem go_putL (hc : M.2.2.2.2 pc = (25, (nx, (a, (b, (3, tg)))))) (hg : HR g) (hk : kd p = a) (ha : a < 8 ∧ b < (ty_T.getD a []).length) (hb : (b : Int) = bI) (hT : typ a bI = 3) (hv : L64 x)
    (k : ∀ g1, HR g1 → Go Φ P f t (K g1) d M nx loc r g1 c s) : Go Φ P f t (bnd (pU g p bI x) K) d M pc loc (sL x :: sR p :: r) g c s := go_putf (T := 3) hc hg hk ha hb hT hv rfl k
/-! arrays -/
theorem go_alen (hc : M.2.2.2.2 pc = (26, (nx, (a, (b, (c', tg)))))) (hk : 20 ≤ kd p ∧ kd p ≤ 25) (k : InR (sz p) → Go Φ P f t X d M nx loc (sI (sz p) :: r) g c s) : Go Φ P f t X d M pc loc (sR p :: r) g c s := by
  have hp := kd_lt (a := p) rfl (by omega)
  refine go_sl hc (fun w kk cl hw _ => ?_) (k (inR_sz p))
  obtain ⟨q, h1, h2, h3⟩ := wg_cell (a := p) hw hp
  rw [sR_pos hp.1, go_lit (x := sz p) q.2.1 h3 (inR_sz p)]
  exact gh_26 h1 (by omega) (by omega)
theorem go_ldx {op T kk : Nat} (hop : op = 27 ∨ op = 29) (hc : M.2.2.2.2 pc = (op, (nx, (a, (b, (c', tg)))))) (h : kd p = kk ∧ 0 ≤ j ∧ j < sz p) (hk : a ≤ kk ∧ kk ≤ b ∧ kk < 99) (hT : typ kk j = T) (k : Go Φ P f t X d M nx loc (dec T (g p j) :: r) g c s) : Go Φ P f t X d M pc loc (sI j :: sR p :: r) g c s := by
  obtain ⟨h0, h1, h2⟩ := h
  have hp := kd_lt h0 (by omega)
  have hs := sz_bd p
  refine go_sl hc (fun w kk9 cl hw _ => ?_) k
  obtain ⟨q, e1, e2, e3, e4⟩ := wg_get (a := p) (b := j) hw hp ⟨h1, h2⟩
  rw [h0, hT] at e4
  rw [sR_pos hp.1, go_lit (x := j) j.toNat (by omega) (by unfold InR; omega)]
  rcases hop with rfl | rfl
  · exact gh_27 e1 (by omega) (by omega) (by omega) e4
  · exact gh_29 e1 (by omega) (by omega) e4
theorem go_iald (hc : M.2.2.2.2 pc = (27, (nx, (20, (20, (c', tg)))))) (hg : HR g) (h : kd p = 20 ∧ 0 ≤ j ∧ j < sz p) (k : InR (g p j) → Go Φ P f t X d M nx loc (sI (g p j) :: r) g c s) : Go Φ P f t X d M pc loc (sI j :: sR p :: r) g c s :=
  go_ldx (T := 0) (kk := 20) (Or.inl rfl) hc h (by omega) rfl (k (typ_h (T := 0) (bI := j) hg h.1 rfl))
theorem go_bald (hc : M.2.2.2.2 pc = (29, (nx, (21, (22, (c', tg)))))) (hg : HR g) (h : kd p = 21 ∧ 0 ≤ j ∧ j < sz p) (k : InR (g p j) → Go Φ P f t X d M nx loc (sI (g p j) :: r) g c s) : Go Φ P f t X d M pc loc (sI j :: sR p :: r) g c s :=
  go_ldx (T := 0) (kk := 21) (Or.inr rfl) hc h (by omega) rfl (k (typ_h (T := 0) (bI := j) hg h.1 rfl))
theorem go_zald (hc : M.2.2.2.2 pc = (29, (nx, (21, (22, (c', tg)))))) (hg : HR g) (h : kd p = 22 ∧ 0 ≤ j ∧ j < sz p) (k : B01 (g p j) → Go Φ P f t X d M nx loc (sI (g p j) :: r) g c s) : Go Φ P f t X d M pc loc (sI j :: sR p :: r) g c s :=
  go_ldx (T := 1) (kk := 22) (Or.inr rfl) hc h (by omega) rfl (k (typ_h (T := 1) (bI := j) hg h.1 rfl))
theorem go_lald (hc : M.2.2.2.2 pc = (29, (nx, (23, (23, (c', tg)))))) (hg : HR g) (h : kd p = 23 ∧ 0 ≤ j ∧ j < sz p) (k : L64 (g p j) → Go Φ P f t X d M nx loc (sL (g p j) :: r) g c s) : Go Φ P f t X d M pc loc (sI j :: sR p :: r) g c s :=
  go_ldx (T := 3) (kk := 23) (Or.inr rfl) hc h (by omega) rfl (k (typ_h (T := 3) (bI := j) hg h.1 rfl))
theorem go_pald (hc : M.2.2.2.2 pc = (29, (nx, (24, (25, (c', tg)))))) (hg : HR g) (h : kd p = 24 ∧ 0 ≤ j ∧ j < sz p) (k : RfR (g p j) → Go Φ P f t X d M nx loc (sR (g p j) :: r) g c s) : Go Φ P f t X d M pc loc (sI j :: sR p :: r) g c s :=
  go_ldx (T := 2) (kk := 24) (Or.inr rfl) hc h (by omega) rfl (k (typ_h (T := 2) (bI := j) hg h.1 rfl))
theorem go_tald (hc : M.2.2.2.2 pc = (29, (nx, (24, (25, (c', tg)))))) (hg : HR g) (h : kd p = 25 ∧ 0 ≤ j ∧ j < sz p) (k : RfR (g p j) → Go Φ P f t X d M nx loc (sR (g p j) :: r) g c s) : Go Φ P f t X d M pc loc (sI j :: sR p :: r) g c s :=
  go_ldx (T := 2) (kk := 25) (Or.inr rfl) hc h (by omega) rfl (k (typ_h (T := 2) (bI := j) hg h.1 rfl))
theorem go_iast (hc : M.2.2.2.2 pc = (28, (nx, (a, (b, (c', tg)))))) (hg : HR g) (h : kd p = 20 ∧ 0 ≤ j ∧ j < sz p) (hv : InR x) (k : ∀ g1, HR g1 → Go Φ P f t (K g1) d M nx loc r g1 c s) : Go Φ P f t (bnd (pU g p j x) K) d M pc loc (sI x :: sI j :: sR p :: r) g c s := by
  obtain ⟨h0, h1, h2⟩ := h
  have hp := kd_lt h0 (by omega)
  have hs := sz_bd p
  refine go_put (T := 0) hc hg hp ⟨h1, h2⟩ (by rw [h0]; rfl) hv (fun w kk cl q e1 e2 e3 => ?_) k
  rw [sR_pos hp.1, go_lit (x := j) j.toNat (by omega) (by unfold InR; omega)]
  exact gh_28 e1 (e2.trans h0) (by omega) rfl
theorem go_bast (hc : M.2.2.2.2 pc = (30, (nx, (a, (b, (c', tg)))))) (hg : HR g) (h : kd p = 21 ∧ 0 ≤ j ∧ j < sz p) (k : ∀ g1, HR g1 → Go Φ P f t (K g1) d M nx loc r g1 c s) : Go Φ P f t (bnd (pU g p j (i2b x)) K) d M pc loc (sI x :: sI j :: sR p :: r) g c s := by
  obtain ⟨h0, h1, h2⟩ := h
  have hp := kd_lt h0 (by omega)
  have hs := sz_bd p
  refine go_put (T := 0) hc hg hp ⟨h1, h2⟩ (by rw [h0]; rfl) (inR_i2b x) (fun w kk cl q e1 e2 e3 => ?_) k
  rw [sR_pos hp.1, go_lit (x := j) j.toNat (by omega) (by unfold InR; omega)]
  refine gh_30b e1 (e2.trans h0) (by omega) ?_
  show some (.inl (ev_n (nI (x % 4294967296).toNat).toInt8.toInt32)) = some (sI (i2b x))
  rw [ev_n_sI]
  rfl
theorem go_zast (hc : M.2.2.2.2 pc = (30, (nx, (a, (b, (c', tg)))))) (hg : HR g) (h : kd p = 22 ∧ 0 ≤ j ∧ j < sz p) (hv : B01 x) (k : ∀ g1, HR g1 → Go Φ P f t (K g1) d M nx loc r g1 c s) : Go Φ P f t (bnd (pU g p j x) K) d M pc loc (sI x :: sI j :: sR p :: r) g c s := by
  obtain ⟨h0, h1, h2⟩ := h
  have hp := kd_lt h0 (by omega)
  have hs := sz_bd p
  refine go_put (T := 1) hc hg hp ⟨h1, h2⟩ (by rw [h0]; rfl) hv (fun w kk cl q e1 e2 e3 => ?_) k
  rw [sR_pos hp.1, go_lit (x := j) j.toNat (by omega) (by unfold InR; omega)]
  exact gh_30z e1 (e2.trans h0) (by omega) (sI_B01 hv)
theorem go_last (hc : M.2.2.2.2 pc = (31, (nx, (a, (b, (c', tg)))))) (hg : HR g) (h : kd p = 23 ∧ 0 ≤ j ∧ j < sz p) (hv : L64 x) (k : ∀ g1, HR g1 → Go Φ P f t (K g1) d M nx loc r g1 c s) : Go Φ P f t (bnd (pU g p j x) K) d M pc loc (sL x :: sI j :: sR p :: r) g c s := by
  obtain ⟨h0, h1, h2⟩ := h
  have hp := kd_lt h0 (by omega)
  have hs := sz_bd p
  refine go_put (T := 3) hc hg hp ⟨h1, h2⟩ (by rw [h0]; rfl) hv (fun w kk cl q e1 e2 e3 => ?_) k
  rw [sR_pos hp.1, go_lit (x := j) j.toNat (by omega) (by unfold InR; omega)]
  exact gh_31 e1 (e2.trans h0) (by omega) rfl
/-! numbers of other kinds -/
theorem go_i2l (hc : M.2.2.2.2 pc = (43, (nx, (0, (b, (c', tg)))))) (hx : InR x) (k : Go Φ P f t X d M nx loc (sL x :: r) g c s) : Go Φ P f t X d M pc loc (sI x :: r) g c s :=
  go_sl hc (fun w kk cl _ _ => gh_43 (by
    show some (.inr (.inr (.inr (0, ev_nl (nI (x % 4294967296).toNat).toInt64)))) = some (sL x)
    rw [ev_nl_sL]
    congr 2
    rw [Int32.toInt_toInt64]
    exact (toI_toInt x).trans (w32_id hx))) k
theorem go_l2i (hc : M.2.2.2.2 pc = (43, (nx, (1, (b, (c', tg)))))) (k : Go Φ P f t X d M nx loc (sI (toL x).toInt32.toInt :: r) g c s) : Go Φ P f t X d M pc loc (sL x :: r) g c s :=
  go_sl hc (fun w kk cl _ _ => gh_43 (by
    show (some (.inl (ev_n (lN (x % 18446744073709551616).toNat).toInt32)) : Option ev_V) = _
    rw [ev_n_sI]
    rfl)) k
theorem go_i2d (hc : M.2.2.2.2 pc = (43, (nx, (2, (b, (c', tg)))))) (k : Go Φ P f t X d M nx loc (sD (gi2d x) :: r) g c s) : Go Φ P f t X d M pc loc (sI x :: r) g c s :=
  go_sl hc (fun w kk cl _ _ => gh_43 rfl) k
theorem go_i2f (hc : M.2.2.2.2 pc = (43, (nx, (3, (b, (c', tg)))))) (k : Go Φ P f t X d M nx loc (sF (gi2f x) :: r) g c s) : Go Φ P f t X d M pc loc (sI x :: r) g c s :=
  go_sl hc (fun w kk cl _ _ => gh_43 rfl) k
theorem go_f2d (hc : M.2.2.2.2 pc = (43, (nx, (4, (b, (c', tg)))))) (h : okf2d x = true) (k : Go Φ P f t X d M nx loc (sD (gf2d x) :: r) g c s) : Go Φ P f t X d M pc loc (sF x :: r) g c s :=
  go_sl hc (fun w kk cl _ _ => gh_43 (by
    show ev_if (okf2d x) (some (sD (gf2d x))) none = _
    rw [h]
    rfl)) k
theorem go_i2b (hc : M.2.2.2.2 pc = (43, (nx, (5, (b, (c', tg)))))) (k : Go Φ P f t X d M nx loc (sI (i2b x) :: r) g c s) : Go Φ P f t X d M pc loc (sI x :: r) g c s :=
  go_sl hc (fun w kk cl _ _ => gh_43 (by
    show (some (.inl (ev_n (nI (x % 4294967296).toNat).toInt8.toInt32)) : Option ev_V) = _
    rw [ev_n_sI]
    rfl)) k
theorem go_i2c (hc : M.2.2.2.2 pc = (43, (nx, (6, (b, (c', tg)))))) (k : Go Φ P f t X d M nx loc (sI (x % 65536) :: r) g c s) : Go Φ P f t X d M pc loc (sI x :: r) g c s :=
  go_sl hc (fun w kk cl _ _ => gh_43 (by
    show (some (.inl ((x % 4294967296).toNat % 65536)) : Option ev_V) = some (.inl ((x % 65536) % 4294967296).toNat)
    rw [show (x % 4294967296).toNat % 65536 = ((x % 65536) % 4294967296).toNat by omega])) k
theorem go_w2 {j : Nat} {u v z : ev_V} (hc : M.2.2.2.2 pc = (44, (nx, (j, (b, (c', tg)))))) (h : ev_w2 j u v = some z) (hs : Nat.ble (ev_cs r) 8 = true) (hm : c ≤ M.2.1 ∧ s ≤ M.2.2.1) (k : Go Φ P f t X d M nx loc (z :: r) g c s) : Go Φ P f t X d M pc loc (v :: u :: r) g c s :=
  go_sl hc (fun w kk cl _ hz => gh_44 h hs (gh_may hz hm)) k
theorem go_ddiv (hc : M.2.2.2.2 pc = (44, (nx, (0, (b, (c', tg)))))) (h : okddiv x y = true) (hs : Nat.ble (ev_cs r) 8 = true) (hm : c ≤ M.2.1 ∧ s ≤ M.2.2.1) (k : Go Φ P f t X d M nx loc (sD (gddiv x y) :: r) g c s) : Go Φ P f t X d M pc loc (sD y :: sD x :: r) g c s :=
  go_w2 hc (by
    show ev_if (okddiv x y) (some (sD (gddiv x y))) none = _
    rw [h]
    rfl) hs hm k
theorem go_fdiv (hc : M.2.2.2.2 pc = (44, (nx, (1, (b, (c', tg)))))) (h : okfdiv x y = true) (hs : Nat.ble (ev_cs r) 8 = true) (hm : c ≤ M.2.1 ∧ s ≤ M.2.2.1) (k : Go Φ P f t X d M nx loc (sF (gfdiv x y) :: r) g c s) : Go Φ P f t X d M pc loc (sF y :: sF x :: r) g c s :=
  go_w2 hc (by
    show ev_if (okfdiv x y) (some (sF (gfdiv x y))) none = _
    rw [h]
    rfl) hs hm k
theorem go_dcmpl (hc : M.2.2.2.2 pc = (44, (nx, (2, (b, (c', tg)))))) (hs : Nat.ble (ev_cs r) 8 = true) (hm : c ≤ M.2.1 ∧ s ≤ M.2.2.1) (k : Go Φ P f t X d M nx loc (sI (gdcmp 2 x y) :: r) g c s) : Go Φ P f t X d M pc loc (sD y :: sD x :: r) g c s :=
  go_w2 hc (by
    show (some (.inl (ev_n _)) : Option ev_V) = _
    rw [ev_n_sI]
    rfl) hs hm k
theorem go_dcmpg (hc : M.2.2.2.2 pc = (44, (nx, (3, (b, (c', tg)))))) (hs : Nat.ble (ev_cs r) 8 = true) (hm : c ≤ M.2.1 ∧ s ≤ M.2.2.1) (k : Go Φ P f t X d M nx loc (sI (gdcmp 3 x y) :: r) g c s) : Go Φ P f t X d M pc loc (sD y :: sD x :: r) g c s :=
  go_w2 hc (by
    show (some (.inl (ev_n _)) : Option ev_V) = _
    rw [ev_n_sI]
    rfl) hs hm k
theorem go_lcmp (hc : M.2.2.2.2 pc = (44, (nx, (4, (b, (c', tg)))))) (hs : Nat.ble (ev_cs r) 8 = true) (hm : c ≤ M.2.1 ∧ s ≤ M.2.2.1) (k : Go Φ P f t X d M nx loc (sI (glcmp x y) :: r) g c s) : Go Φ P f t X d M pc loc (sL y :: sL x :: r) g c s :=
  go_w2 hc (by
    show (some (.inl (ev_n _)) : Option ev_V) = _
    rw [ev_n_sI]
    rfl) hs hm k
theorem go_lshr (hc : M.2.2.2.2 pc = (44, (nx, (5, (b, (c', tg)))))) (hs : Nat.ble (ev_cs r) 8 = true) (hm : c ≤ M.2.1 ∧ s ≤ M.2.2.1) (k : Go Φ P f t X d M nx loc (sL (opS 0 x y) :: r) g c s) : Go Φ P f t X d M pc loc (sI y :: sL x :: r) g c s :=
  go_w2 hc (by
    show (some (.inr (.inr (.inr (0, ev_nl _)))) : Option ev_V) = _
    rw [ev_nl_sL]
    rfl) hs hm k
theorem go_lshl (hc : M.2.2.2.2 pc = (44, (nx, (6, (b, (c', tg)))))) (hs : Nat.ble (ev_cs r) 8 = true) (hm : c ≤ M.2.1 ∧ s ≤ M.2.2.1) (k : Go Φ P f t X d M nx loc (sL (opS 1 x y) :: r) g c s) : Go Φ P f t X d M pc loc (sI y :: sL x :: r) g c s :=
  go_w2 hc (by
    show (some (.inr (.inr (.inr (0, ev_nl _)))) : Option ev_V) = _
    rw [ev_nl_sL]
    rfl) hs hm k
theorem go_land (hc : M.2.2.2.2 pc = (44, (nx, (7, (b, (c', tg)))))) (hs : Nat.ble (ev_cs r) 8 = true) (hm : c ≤ M.2.1 ∧ s ≤ M.2.2.1) (k : Go Φ P f t X d M nx loc (sL (opL 0 x y) :: r) g c s) : Go Φ P f t X d M pc loc (sL y :: sL x :: r) g c s :=
  go_w2 hc (by
    show (some (.inr (.inr (.inr (0, ev_nl _)))) : Option ev_V) = _
    rw [ev_nl_sL]
    rfl) hs hm k
theorem go_lor (hc : M.2.2.2.2 pc = (44, (nx, (8, (b, (c', tg)))))) (hs : Nat.ble (ev_cs r) 8 = true) (hm : c ≤ M.2.1 ∧ s ≤ M.2.2.1) (k : Go Φ P f t X d M nx loc (sL (opL 1 x y) :: r) g c s) : Go Φ P f t X d M pc loc (sL y :: sL x :: r) g c s :=
  go_w2 hc (by
    show (some (.inr (.inr (.inr (0, ev_nl _)))) : Option ev_V) = _
    rw [ev_nl_sL]
    rfl) hs hm k
def gmax (x y : Int) : Int := if x < y then y else x
theorem inR_gmax {x y : Int} (hx : InR x) (hy : InR y) : InR (gmax x y) := by
  unfold gmax
  split
  · exact hy
  · exact hx
theorem gq_9 (m n : Nat) : ev_w2 9 (.inl m) (.inl n) = some (.inl (ev_if (Nat.ble (ev_bi m + 1) (ev_bi n)) n m)) := rfl
theorem go_max (hc : M.2.2.2.2 pc = (44, (nx, (9, (b, (c', tg)))))) (hx : InR x) (hy : InR y) (hs : Nat.ble (ev_cs r) 8 = true) (hm : c ≤ M.2.1 ∧ s ≤ M.2.2.1) (k : Go Φ P f t X d M nx loc (sI (gmax x y) :: r) g c s) : Go Φ P f t X d M pc loc (sI y :: sI x :: r) g c s :=
  go_w2 hc (by
    unfold sI
    rw [gq_9, gq_bi hx, gq_bi hy]
    unfold InR at hx hy
    unfold gmax
    by_cases h : x < y
    · rw [if_pos h, Nat.ble_eq.mpr (show (x + 2147483648).toNat + 1 ≤ (y + 2147483648).toNat by omega)]
      rfl
    · rw [if_neg h, gq_bf (show (y + 2147483648).toNat < (x + 2147483648).toNat + 1 by omega)]
      rfl) hs hm k
end GO3
/-! ===== calls and ends over a heap of whole numbers (own work) ===== -/
def bdP {β : Type} (x : Option Int) (k : Int → Option β) : Option β := match x with
  | some v => k v
  | none => none
def bdN {β : Type} (x : Option (Int × gH)) (k : Int → gH → Option β) : Option β := match x with
  | some (v, g) => k v g
  | none => none
def bdQ {β : Type} (x : Option (Nat × Int)) (k : Int → Option β) (h : Nat → Option β) : Option β := match x with
  | some (0, v) => k v
  | some (e + 1, _) => h e
  | none => none
def bdT {β : Type} (x : Option (Nat × (Int × gH))) (k : Int → gH → Option β) (h : Nat → gH → Option β) : Option β := match x with
  | some (0, (v, g)) => k v g
  | some (e + 1, (_, g)) => h e g
  | none => none
/-- an exception e over pc -/
def GoE {β : Type} (Φ : ev_P) (P : Nat → ev_M) (f : β → Nat × (Int × gH)) (t : Nat) (X : Option β) (d : Nat) (M : ev_M) (pc e : Nat) (loc : ev_L) (g : gH) (c s : Nat) : Prop :=
  ∀ r, X = some r → ((f r).1 = 0 → VRt t (f r).2.1) ∧ HR (f r).2.2 ∧ ∀ w, Wg w g → w.2.2.2 = (c, s) → ∃ n0 w', Wg w' (f r).2.2 ∧ ∀ n, n0 ≤ n → ev_exc M (ev_run Φ P n d M) pc e loc w = some (go_fin t (f r).1 (f r).2.1 w')
/-- a call's receiver -/
def Rcv (rc : Nat) (As : List ev_V) : Prop := match rc, As with
  | 0, _ => True
  | ci + 1, v :: _ => ci < 99 ∧ ∃ p, v = sR p ∧ kd p = ci
  | _, _ => False
theorem rcv_ok {rc : Nat} {As : List ev_V} {w : ev_W} {g : gH} (h : Rcv rc As) (hw : Wg w g) : ev_rc rc As w = true := by
  cases rc with
  | zero => rfl
  | succ ci =>
    cases As with
    | nil => exact h.elim
    | cons v r =>
      obtain ⟨h9, p, rfl, hk⟩ := h
      have hp := kd_lt hk (by omega)
      obtain ⟨q, h1, h2, h3⟩ := wg_cell (a := p) hw hp
      rw [sR_pos hp.1]
      show (match ev_get w.1 p.toNat with
        | some q => Nat.beq q.1 ci
        | none => false) = true
      rw [h1]
      show Nat.beq q.1 ci = true
      rw [h2, hk]
      exact Nat.beq_refl _
section GO4
variable {β : Type} {Φ : ev_P} {P : Nat → ev_M} {f : β → Nat × (Int × gH)} {t t' : Nat} {X A B : Option β} {d : Nat} {M : ev_M} {pc nx : Nat} {loc : ev_L} {st r As : List ev_V} {g : gH} {c s a b c' mi na rc mc ms e : Nat} {tg : List Nat} {x y p j v : Int} {rr : β}
theorem ge_none : GoE Φ P f t none d M pc e loc g c s := fun r h => by cases h
theorem ge_ite {q : Prop} [Decidable q] (k1 : q → GoE Φ P f t A d M pc e loc g c s) (k2 : ¬ q → GoE Φ P f t B d M pc e loc g c s) : GoE Φ P f t (if q then A else B) d M pc e loc g c s := by
  split
  · next h => exact k1 h
  · next h => exact k2 h
theorem ge_prop (hno : M.2.2.2.1 = []) (hm : c ≤ M.2.1 ∧ s ≤ M.2.2.1) (hg : HR g) (hf : f rr = (e + 1, (v, g))) : GoE Φ P f t (some rr) d M pc e loc g c s := by
  intro r hr
  cases hr
  rw [hf]
  show (e + 1 = 0 → VRt t v) ∧ HR g ∧ ∀ w, Wg w g → w.2.2.2 = (c, s) → ∃ n0 w', Wg w' g ∧ ∀ n, n0 ≤ n → ev_exc M (ev_run Φ P n d M) pc e loc w = some (go_fin t (e + 1) v w')
  refine ⟨fun z => absurd z (by omega), hg, fun w hw hz => ⟨0, w, hw, fun n _ => ?_⟩⟩
  unfold ev_exc
  rw [hno]
  show ev_if (ev_may M w 0 0) (some (.inr (.inl (e, w))) : ev_R) none = _
  rw [gh_may hz hm]
  rfl
theorem ge_catch {hp : Nat} {loc2 : ev_L} (hh : ev_hd M.2.2.2.1 pc e = some hp) (hc : M.2.2.2.2 hp = (10, (nx, (a, (b, (c', tg)))))) (hn : ev_nw loc a = true) (h2 : ev_ls loc a none = loc2) (k : Go Φ P f t X d M nx loc2 [] g c s) : GoE Φ P f t X d M pc e loc g c s := by
  intro r hr
  obtain ⟨k1, k2, k3⟩ := k r hr
  refine ⟨k1, k2, fun w hw hz => ?_⟩
  obtain ⟨n0, w', b1, b2⟩ := k3 w hw hz
  refine ⟨n0, w', b1, fun n h0 => ?_⟩
  unfold ev_exc
  rw [hh]
  show (match M.2.2.2.2 hp with
    | (op, (nx, (a, _))) => ev_if (Nat.beq op 10 && ev_nw loc a) (ev_run Φ P n d M nx (ev_ls loc a none) [] w) none) = _
  rw [hc]
  show ev_if (Nat.beq 10 10 && ev_nw loc a) (ev_run Φ P n d M nx (ev_ls loc a none) [] w) none = _
  rw [hn, h2]
  exact b2 n h0
theorem go_callG {γ : Type} {h : γ → Nat × (Int × gH)} {Y : Option γ} (hc : M.2.2.2.2 pc = (35, (nx, (mi, (na, (rc, [mc, ms])))))) (hsp : ev_sp na [] st = some (As, r)) (hcs : Nat.ble (ev_cs r) 8 = true) (hw : As.all (fun v => !ev_wide v) = true) (hrc : Rcv rc As) (hm : c + mc ≤ M.2.1 ∧ s + ms ≤ M.2.2.1) (hd : 1 ≤ d)
    (hcal : Go Φ P h t' Y (d - 1) (P mi) 0 (ev_loc (P mi).1 As) [] g 0 0)
    (hN : Y = none → X = none)
    (hK : ∀ y, Y = some y → (h y).1 = 0 → VRt t' (h y).2.1 → HR (h y).2.2 → Go Φ P f t X d M nx loc ((drv t' (h y).2.1).toList ++ r) (h y).2.2 (c + mc) (s + ms))
    (hE : ∀ y e, Y = some y → (h y).1 = e + 1 → HR (h y).2.2 → GoE Φ P f t X d M pc e loc (h y).2.2 (c + mc) (s + ms)) : Go Φ P f t X d M pc loc st g c s := by
  intro r9 hr
  cases hY : Y with
  | none => rw [hN hY] at hr; cases hr
  | some y =>
    obtain ⟨c1, c2, c3⟩ := hcal y hY
    obtain ⟨d', rfl⟩ : ∃ d', d = d' + 1 := ⟨d - 1, by omega⟩
    have hcl : ∀ n As w, go_cl Φ P n (d' + 1) mi As w = ev_run Φ P n d' (P mi) 0 (ev_loc (P mi).1 As) [] w := fun n As w => rfl
    cases hy : (h y).1 with
    | zero =>
      obtain ⟨k1, k2, k3⟩ := hK y hY hy (c1 hy) c2 r9 hr
      refine ⟨k1, k2, fun w hw0 hz => ?_⟩
      obtain ⟨n1, w1, d1, d2⟩ := c3 (w.1, (w.2.1, (w.2.2.1, (0, 0)))) hw0 rfl
      obtain ⟨n2, w2, e1, e2⟩ := k3 (ev_back w w1 mc ms) d1 (by show (w.2.2.2.1 + mc, w.2.2.2.2 + ms) = _; rw [hz])
      refine ⟨n1 + n2 + 1, w2, e1, fun n hn => ?_⟩
      cases n with
      | zero => exact absurd hn (by omega)
      | succ n =>
        rw [go_stp hc, gh_35 hsp hcs (gh_may hz hm) hw (rcv_ok hrc hw0), hcl, show d' = d' + 1 - 1 from rfl, d2 n (by omega), hy]
        show ev_cont M _ nx pc loc r w mc ms (some (.inl (drv t' (h y).2.1, w1))) = _
        rw [← e2 n (by omega)]
        cases drv t' (h y).2.1 <;> rfl
    | succ ee =>
      obtain ⟨k1, k2, k3⟩ := hE y ee hY hy c2 r9 hr
      refine ⟨k1, k2, fun w hw0 hz => ?_⟩
      obtain ⟨n1, w1, d1, d2⟩ := c3 (w.1, (w.2.1, (w.2.2.1, (0, 0)))) hw0 rfl
      obtain ⟨n2, w2, e1, e2⟩ := k3 (ev_back w w1 mc ms) d1 (by show (w.2.2.2.1 + mc, w.2.2.2.2 + ms) = _; rw [hz])
      refine ⟨n1 + n2 + 1, w2, e1, fun n hn => ?_⟩
      cases n with
      | zero => exact absurd hn (by omega)
      | succ n =>
        rw [go_stp hc, gh_35 hsp hcs (gh_may hz hm) hw (rcv_ok hrc hw0), hcl, show d' = d' + 1 - 1 from rfl, d2 n (by omega), hy]
        show ev_cont M _ nx pc loc r w mc ms (some (.inr (.inl (ee, w1)))) = _
        exact e2 n (by omega)
theorem go_callP {Y : Option Int} {K : Int → Option β} (hc : M.2.2.2.2 pc = (35, (nx, (mi, (na, (rc, [0, 0])))))) (hsp : ev_sp na [] st = some (As, r)) (hcs : Nat.ble (ev_cs r) 8 = true) (hw : As.all (fun v => !ev_wide v) = true) (hrc : Rcv rc As) (hm : c ≤ M.2.1 ∧ s ≤ M.2.2.1) (hd : 1 ≤ d)
    (hcal : Go Φ P (fP g) t' Y (d - 1) (P mi) 0 (ev_loc (P mi).1 As) [] g 0 0)
    (k : ∀ v, VRt t' v → Go Φ P f t (K v) d M nx loc ((drv t' v).toList ++ r) g c s) : Go Φ P f t (bdP Y K) d M pc loc st g c s := by
  refine go_callG (h := fP g) (Y := Y) hc hsp hcs hw hrc hm hd hcal (fun z => by rw [z]; rfl) (fun y hY _ hv hg => ?_) (fun y e hY he => by cases he)
  rw [hY]
  exact k y hv
theorem go_callN {Y : Option (Int × gH)} {K : Int → gH → Option β} (hc : M.2.2.2.2 pc = (35, (nx, (mi, (na, (rc, [0, 0])))))) (hsp : ev_sp na [] st = some (As, r)) (hcs : Nat.ble (ev_cs r) 8 = true) (hw : As.all (fun v => !ev_wide v) = true) (hrc : Rcv rc As) (hm : c ≤ M.2.1 ∧ s ≤ M.2.2.1) (hd : 1 ≤ d)
    (hcal : Go Φ P fN t' Y (d - 1) (P mi) 0 (ev_loc (P mi).1 As) [] g 0 0)
    (k : ∀ v g1, VRt t' v → HR g1 → Go Φ P f t (K v g1) d M nx loc ((drv t' v).toList ++ r) g1 c s) : Go Φ P f t (bdN Y K) d M pc loc st g c s := by
  refine go_callG (h := fN) (Y := Y) hc hsp hcs hw hrc hm hd hcal (fun z => by rw [z]; rfl) (fun y hY _ hv hg => ?_) (fun y e hY he => by cases he)
  rw [hY]
  exact k y.1 y.2 hv hg
/-- a method of fixed room that is called with room for more: nought is taken as it is -/
theorem go_callN' {Y : Option (Int × gH)} {K : Int → gH → Option β} (hc : M.2.2.2.2 pc = (35, (nx, (mi, (na, (rc, [mc, ms])))))) (hsp : ev_sp na [] st = some (As, r)) (hcs : Nat.ble (ev_cs r) 8 = true) (hw : As.all (fun v => !ev_wide v) = true) (hrc : Rcv rc As) (hm : c + mc ≤ M.2.1 ∧ s + ms ≤ M.2.2.1) (hd : 1 ≤ d)
    (hcal : Go Φ P fN t' Y (d - 1) (P mi) 0 (ev_loc (P mi).1 As) [] g 0 0)
    (k : ∀ v g1, VRt t' v → HR g1 → Go Φ P f t (K v g1) d M nx loc ((drv t' v).toList ++ r) g1 (c + mc) (s + ms)) : Go Φ P f t (bdN Y K) d M pc loc st g c s := by
  refine go_callG (h := fN) (Y := Y) hc hsp hcs hw hrc hm hd hcal (fun z => by rw [z]; rfl) (fun y hY _ hv hg => ?_) (fun y e hY he => by cases he)
  rw [hY]
  exact k y.1 y.2 hv hg
theorem go_callQ {Y : Option (Nat × Int)} {K : Int → Option β} {H : Nat → Option β} (hc : M.2.2.2.2 pc = (35, (nx, (mi, (na, (rc, [mc, ms])))))) (hsp : ev_sp na [] st = some (As, r)) (hcs : Nat.ble (ev_cs r) 8 = true) (hw : As.all (fun v => !ev_wide v) = true) (hrc : Rcv rc As) (hm : c + mc ≤ M.2.1 ∧ s + ms ≤ M.2.2.1) (hd : 1 ≤ d)
    (hcal : Go Φ P (fQ g) t' Y (d - 1) (P mi) 0 (ev_loc (P mi).1 As) [] g 0 0)
    (k : ∀ v, VRt t' v → Go Φ P f t (K v) d M nx loc ((drv t' v).toList ++ r) g (c + mc) (s + ms))
    (ke : HR g → ∀ e, GoE Φ P f t (H e) d M pc e loc g (c + mc) (s + ms)) : Go Φ P f t (bdQ Y K H) d M pc loc st g c s := by
  refine go_callG (h := fQ g) (Y := Y) hc hsp hcs hw hrc hm hd hcal (fun z => by rw [z]; rfl) (fun y hY h0 hv hg => ?_) (fun y e hY he hg => ?_)
  · rw [hY]
    obtain ⟨y1, y2⟩ := y
    have h0 : y1 = 0 := h0
    subst h0
    exact k y2 hv
  · rw [hY]
    obtain ⟨y1, y2⟩ := y
    have he : y1 = e + 1 := he
    subst he
    exact ke hg e
theorem go_callT {Y : Option (Nat × (Int × gH))} {K : Int → gH → Option β} {H : Nat → gH → Option β} (hc : M.2.2.2.2 pc = (35, (nx, (mi, (na, (rc, [mc, ms])))))) (hsp : ev_sp na [] st = some (As, r)) (hcs : Nat.ble (ev_cs r) 8 = true) (hw : As.all (fun v => !ev_wide v) = true) (hrc : Rcv rc As) (hm : c + mc ≤ M.2.1 ∧ s + ms ≤ M.2.2.1) (hd : 1 ≤ d)
    (hcal : Go Φ P fT t' Y (d - 1) (P mi) 0 (ev_loc (P mi).1 As) [] g 0 0)
    (k : ∀ v g1, VRt t' v → HR g1 → Go Φ P f t (K v g1) d M nx loc ((drv t' v).toList ++ r) g1 (c + mc) (s + ms))
    (ke : ∀ e g1, HR g1 → GoE Φ P f t (H e g1) d M pc e loc g1 (c + mc) (s + ms)) : Go Φ P f t (bdT Y K H) d M pc loc st g c s := by
  refine go_callG (h := fT) (Y := Y) hc hsp hcs hw hrc hm hd hcal (fun z => by rw [z]; rfl) (fun y hY h0 hv hg => ?_) (fun y e hY he hg => ?_)
  · rw [hY]
    obtain ⟨y1, y2, y3⟩ := y
    have h0 : y1 = 0 := h0
    subst h0
    exact k y2 y3 hv hg
  · rw [hY]
    obtain ⟨y1, y2, y3⟩ := y
    have he : y1 = e + 1 := he
    subst he
    exact ke e y3 hg
/-! ends -/
theorem go_end {op : Nat} (hc : M.2.2.2.2 pc = (op, (nx, (a, (b, (c', tg)))))) (hg : HR g) (hv : e = 0 → VRt t v) (hf : f rr = (e, (v, g))) (h : ∀ w, Wg w g → w.2.2.2 = (c, s) → ∃ w', Wg w' g ∧ ∀ (k : ev_N) (cl : ev_F), ev_sel op Φ M k cl nx a b c' tg pc loc st w = some (go_fin t e v w')) : Go Φ P f t (some rr) d M pc loc st g c s := by
  intro r hr
  cases hr
  rw [hf]
  show (e = 0 → VRt t v) ∧ HR g ∧ ∀ w, Wg w g → w.2.2.2 = (c, s) → ∃ n0 w', Wg w' g ∧ ∀ n, n0 ≤ n → ev_run Φ P n d M pc loc st w = some (go_fin t e v w')
  refine ⟨hv, hg, fun w hw hz => ?_⟩
  obtain ⟨w', h1, h2⟩ := h w hw hz
  refine ⟨1, w', h1, fun n hn => ?_⟩
  cases n with
  | zero => exact absurd hn (by omega)
  | succ n => rw [go_stp hc, h2]
theorem go_throw (hc : M.2.2.2.2 pc = (37, (nx, (a, (b, (c', tg)))))) (hg : HR g) (hm : c + 1 ≤ M.2.1 ∧ s + 6 ≤ M.2.2.1) (hs : Nat.ble (ev_cs st) 8 = true) (hf : f rr = (a + 1, (v, g))) : Go Φ P f t (some rr) d M pc loc st g c s :=
  go_end hc hg (fun z => absurd z (by omega)) hf (fun w hw hz => ⟨(w.1, (w.2.1, (false, (w.2.2.2.1 + 1, w.2.2.2.2 + 6)))), hw, fun k cl => gh_37 (gh_may hz hm) hs⟩)
theorem go_vret (hc : M.2.2.2.2 pc = (38, (nx, (a, (b, (c', tg)))))) (hg : HR g) (hm : c ≤ M.2.1 ∧ s ≤ M.2.2.1) (hf : f rr = (0, (v, g))) : Go Φ P f 0 (some rr) d M pc loc [] g c s :=
  go_end hc hg (fun _ => trivial) hf (fun w hw hz => ⟨w, hw, fun k cl => gh_38 (gh_may hz hm)⟩)
theorem go_iret (hc : M.2.2.2.2 pc = (39, (nx, (0, (b, (c', tg)))))) (hg : HR g) (hv : InR v) (hm : c ≤ M.2.1 ∧ s ≤ M.2.2.1) (hf : f rr = (0, (v, g))) : Go Φ P f 1 (some rr) d M pc loc [sI v] g c s :=
  go_end hc hg (fun _ => hv) hf (fun w hw hz => ⟨w, hw, fun k cl => gh_39 (gh_may hz hm) rfl⟩)
theorem go_bret (hc : M.2.2.2.2 pc = (39, (nx, (1, (b, (c', tg)))))) (hg : HR g) (hv : B01 v) (hm : c ≤ M.2.1 ∧ s ≤ M.2.2.1) (hf : f rr = (0, (v, g))) : Go Φ P f 3 (some rr) d M pc loc [sI v] g c s :=
  go_end hc hg (fun _ => hv) hf (fun w hw hz => ⟨w, hw, fun k cl => gh_39 (gh_may hz hm) (sI_B01 hv)⟩)
theorem go_aret (hc : M.2.2.2.2 pc = (40, (nx, (a, (b, (c', tg)))))) (hg : HR g) (hv : RfR v) (hm : c ≤ M.2.1 ∧ s ≤ M.2.2.1) (hf : f rr = (0, (v, g))) : Go Φ P f 2 (some rr) d M pc loc [sR v] g c s :=
  go_end hc hg (fun _ => hv) hf (fun w hw hz => ⟨w, hw, fun k cl => gh_40 (gh_may hz hm) rfl⟩)
theorem go_fret (hc : M.2.2.2.2 pc = (41, (nx, (1, (b, (c', tg)))))) (hg : HR g) (hm : c ≤ M.2.1 ∧ s ≤ M.2.2.1) (hf : f rr = (0, (v, g))) : Go Φ P f 4 (some rr) d M pc loc [sF v] g c s :=
  go_end hc hg (fun _ => trivial) hf (fun w hw hz => ⟨w, hw, fun k cl => gh_41 (gh_may hz hm) rfl⟩)
theorem go_dret (hc : M.2.2.2.2 pc = (41, (nx, (2, (b, (c', tg)))))) (hg : HR g) (hm : c ≤ M.2.1 ∧ s ≤ M.2.2.1) (hf : f rr = (0, (v, g))) : Go Φ P f 5 (some rr) d M pc loc [sD v] g c s :=
  go_end hc hg (fun _ => trivial) hf (fun w hw hz => ⟨w, hw, fun k cl => gh_41 (gh_may hz hm) rfl⟩)
/-! texts -/
theorem go_ldcs (hc : M.2.2.2.2 pc = (49, (nx, (a, (b, (c', tg)))))) (ha : a < 26) (hx : x = 2000000 + a) (k : Go Φ P f t X d M nx loc (sR x :: st) g c s) : Go Φ P f t X d M pc loc st g c s :=
  go_sl hc (fun w kk cl _ _ => by
    show ev_if (Nat.ble (a + 1) 26) (kk nx loc (.inr (.inl (some (ev_tb + a))) :: st) w) none = _
    have e : x.toNat = ev_tb + a := by unfold ev_tb; omega
    rw [Nat.ble_eq.mpr (show a + 1 ≤ 26 by omega), sR_pos (by omega), e]
    rfl) k
theorem gtx_some {p : Int} : ∃ l, ev_txt (p.toNat - ev_tb) = some l ∧ gtx p = l ∧ l.length < 9 ∧ ∀ j, l.getD j 0 < 128 := by
  have h : ∀ i, i < 13 → ∃ l, ev_lg ev_tx i = some l ∧ l.length < 9 ∧ ∀ z ∈ l, z < 128 := by
    intro i hi
    have h1 : ∀ i : Nat, i < 13 → (ev_tx.getD i []).length < 9 ∧ ∀ z ∈ ev_tx.getD i [], z < 128 := by decide +kernel
    have h2 : ev_tx.length = 13 := rfl
    refine ⟨ev_tx.getD i [], ?_, h1 i hi⟩
    rw [gb_lg, List.getD_eq_getElem?_getD, List.getElem?_eq_getElem (by omega)]
    rfl
  obtain ⟨l, h1, h2, h3⟩ := h ((p.toNat - ev_tb) % 13) (by omega)
  refine ⟨l, h1, ?_, h2, fun j => ?_⟩
  · unfold gtx
    rw [show ev_txt (p.toNat - ev_tb) = some l from h1]
    rfl
  · rw [List.getD_eq_getElem?_getD]
    cases hj : l[j]? with
    | none => exact (by decide : 0 < 128)
    | some z => exact h3 z (List.mem_of_getElem? hj)
noncomputable def gtl (p : Int) : Int := ((gtx p).length : Nat)
noncomputable def gch (p j : Int) : Int := ((gtx p).getD j.toNat 0 : Nat)
theorem inR_gtl (p : Int) : InR (gtl p) := by
  obtain ⟨l, h1, h2, h3, h4⟩ := gtx_some (p := p)
  unfold gtl InR
  rw [h2]
  omega
theorem inR_gch (p j : Int) : InR (gch p j) := by
  obtain ⟨l, h1, h2, h3, h4⟩ := gtx_some (p := p)
  unfold gch InR
  rw [h2]
  have := h4 j.toNat
  omega
theorem gh_50 {k : ev_N} {cl : ev_F} {w : ev_W} {i : Nat} {l : List Nat} (h1 : ev_tin i = true) (hs : Nat.ble (ev_cs r) 8 = true) (hm : ev_may M w 0 0 = true) (ht : ev_txt (i - ev_tb) = some l) : ev_sel 50 Φ M k cl nx a b c' tg pc loc (.inr (.inl (some i)) :: r) w = k nx loc (.inl l.length :: r) w := by
  have e : ∀ st, ev_sel 50 Φ M k cl nx a b c' tg pc loc st w = ev_h_slen Φ M k cl nx a b c' tg pc loc st w := fun _ => rfl
  rw [e]
  unfold ev_h_slen
  dsimp only
  rw [h1, hs, hm, ht]
  rfl
theorem gh_51 {k : ev_N} {cl : ev_F} {w : ev_W} {i j z : Nat} {l : List Nat} (h1 : ev_tin i = true) (hs : Nat.ble (ev_cs r) 8 = true) (hm : ev_may M w 0 0 = true) (ht : ev_txt (i - ev_tb) = some l) (hj : ev_lg l j = some z) : ev_sel 51 Φ M k cl nx a b c' tg pc loc (.inl j :: .inr (.inl (some i)) :: r) w = k nx loc (.inl z :: r) w := by
  have e : ∀ st, ev_sel 51 Φ M k cl nx a b c' tg pc loc st w = ev_h_chat Φ M k cl nx a b c' tg pc loc st w := fun _ => rfl
  rw [e]
  unfold ev_h_chat
  dsimp only
  rw [h1, hs, hm, ht]
  dsimp only
  rw [hj]
  rfl
theorem gh_tb {p : Int} (hp : 2000000 ≤ p ∧ p < 2000026) : ev_tin p.toNat = true := by
  have h : ev_tb ≤ p.toNat ∧ p.toNat + 1 ≤ ev_tb + 26 := by
    unfold ev_tb
    omega
  unfold ev_tin
  rw [Nat.ble_eq.mpr h.1, Nat.ble_eq.mpr h.2]
  rfl
theorem go_slen (hc : M.2.2.2.2 pc = (50, (nx, (a, (b, (c', tg)))))) (hp : 2000000 ≤ p ∧ p < 2000026) (hs : Nat.ble (ev_cs r) 8 = true) (hm : c ≤ M.2.1 ∧ s ≤ M.2.2.1) (k : Go Φ P f t X d M nx loc (sI (gtl p) :: r) g c s) : Go Φ P f t X d M pc loc (sR p :: r) g c s :=
  go_sl hc (fun w kk cl _ hz => by
    obtain ⟨l, h1, h2, h3, h4⟩ := gtx_some (p := p)
    rw [sR_pos (by omega), go_lit (x := gtl p) (gtx p).length rfl (inR_gtl p), h2]
    exact gh_50 (gh_tb hp) hs (gh_may hz hm) h1) k
theorem go_chat (hc : M.2.2.2.2 pc = (51, (nx, (a, (b, (c', tg)))))) (hp : (2000000 ≤ p ∧ p < 2000026) ∧ 0 ≤ j ∧ j < gtl p) (hs : Nat.ble (ev_cs r) 8 = true) (hm : c ≤ M.2.1 ∧ s ≤ M.2.2.1) (k : Go Φ P f t X d M nx loc (sI (gch p j) :: r) g c s) : Go Φ P f t X d M pc loc (sI j :: sR p :: r) g c s :=
  go_sl hc (fun w kk cl _ hz => by
    obtain ⟨l, h1, h2, h3, h4⟩ := gtx_some (p := p)
    obtain ⟨hp, hj0, hj1⟩ := hp
    have hjl : j.toNat < l.length := by
      unfold gtl at hj1
      rw [h2] at hj1
      omega
    rw [sR_pos (by omega), go_lit (x := gch p j) ((gtx p).getD j.toNat 0) rfl (inR_gch p j), h2, go_lit (x := j) j.toNat (by omega) (by unfold InR; omega)]
    refine gh_51 (gh_tb hp) hs (gh_may hz hm) h1 ?_
    rw [gb_lg, List.getD_eq_getElem?_getD, List.getElem?_eq_getElem hjl]
    rfl) k
/-! the script -/
def ScrOK (Φ : ev_P) (L : Int) (sc : Int → Int) : Prop := (Φ.1 : Int) = L ∧ Φ.1 ≤ 5000 ∧ ∀ j : Nat, j < Φ.1 → InR (sc j) ∧ ∃ lo, ev_fl Φ.2 j = (lo, lo) ∧ (lo + 2147483648) % 4294967296 = (sc j % 4294967296).toNat
theorem gh_26s {k : ev_N} {cl : ev_F} {w : ev_W} (h : Φ.1 ≤ 5000) : ev_sel 26 Φ M k cl nx a b c' tg pc loc (.inr (.inl (some 1000000)) :: r) w = k nx loc (.inl Φ.1 :: r) w := by
  have e : ∀ st, ev_sel 26 Φ M k cl nx a b c' tg pc loc st w = ev_h_alen Φ M k cl nx a b c' tg pc loc st w := fun _ => rfl
  rw [e]
  unfold ev_h_alen
  dsimp only
  rw [Nat.beq_refl, Nat.ble_eq.mpr h]
  rfl
theorem gh_27s {k : ev_N} {cl : ev_F} {w : ev_W} {j lo : Nat} (h : Φ.1 ≤ 5000) (hj : j < Φ.1) (hf : ev_fl Φ.2 j = (lo, lo)) : ev_sel 27 Φ M k cl nx a b c' tg pc loc (.inl j :: .inr (.inl (some 1000000)) :: r) w = k nx loc (.inl ((lo + 2147483648) % 4294967296) :: r) w := by
  have e : ∀ st, ev_sel 27 Φ M k cl nx a b c' tg pc loc st w = ev_h_iald Φ M k cl nx a b c' tg pc loc st w := fun _ => rfl
  rw [e]
  unfold ev_h_iald
  dsimp only
  rw [Nat.beq_refl, Nat.ble_eq.mpr (show j + 1 ≤ Φ.1 by omega), Nat.ble_eq.mpr h, hf]
  show ev_if (Nat.beq lo lo) _ _ = _
  rw [Nat.beq_refl]
  rfl
theorem sR_scr : sR 1000000 = .inr (.inl (some 1000000)) := by
  rw [sR_pos (by omega)]
  congr 3
theorem go_scrl {L : Int} {sc : Int → Int} (hc : M.2.2.2.2 pc = (26, (nx, (a, (b, (c', tg)))))) (hs : ScrOK Φ L sc) (k : InR L → Go Φ P f t X d M nx loc (sI L :: r) g c s) : Go Φ P f t X d M pc loc (sR 1000000 :: r) g c s := by
  have hL : InR L := by
    have h1 := hs.1
    have h2 := hs.2.1
    unfold InR
    omega
  exact go_sl hc (fun w kk cl _ hz => by
    rw [sR_scr, go_lit (x := L) Φ.1 hs.1 hL]
    exact gh_26s hs.2.1) (k hL)
theorem go_scrd {L : Int} {sc : Int → Int} (hc : M.2.2.2.2 pc = (27, (nx, (a, (b, (c', tg)))))) (hs : ScrOK Φ L sc) (hj : 0 ≤ j ∧ j < L) (k : InR (sc j) → Go Φ P f t X d M nx loc (sI (sc j) :: r) g c s) : Go Φ P f t X d M pc loc (sI j :: sR 1000000 :: r) g c s := by
  obtain ⟨h1, h2, h3⟩ := hs
  obtain ⟨m, rfl⟩ := Int.eq_ofNat_of_zero_le hj.1
  obtain ⟨h4, lo, h5, h6⟩ := h3 m (by omega)
  exact go_sl hc (fun w kk cl _ hz => by
    rw [sR_scr, go_lit (x := (m : Int)) m rfl (by unfold InR; omega)]
    rw [gh_27s h2 (by omega) h5, h6]
    rfl) (k h4)
/-! System.arraycopy from the beginnings -/
def cpyG (g : gH) (q p n : Int) : gH := fun x y => if x = p ∧ 0 ≤ y ∧ y < n then g q y else g x y
theorem gb_cpy {l0 l : List (List (List ev_V))} : ∀ n : Nat, (∀ i, i < n → ∃ v, ev_get l0 i = some v ∧ ev_ii v = true) → (∀ i, i < n → ∃ v, ev_get l i = some v) → ∃ z, ev_cpy n l0 l = some z ∧ ∀ j, ev_get z j = if j < n then ev_get l0 j else ev_get l j := by
  intro n
  induction n with
  | zero => intro _ _; exact ⟨l, rfl, fun j => by rw [if_neg (by omega)]⟩
  | succ n ih =>
    intro h0 h1
    obtain ⟨z, z1, z2⟩ := ih (fun i hi => h0 i (by omega)) (fun i hi => h1 i (by omega))
    obtain ⟨v, v1, v2⟩ := h0 n (by omega)
    obtain ⟨u, u1⟩ := h1 n (by omega)
    have : ev_get z n = some u := by rw [z2, if_neg (by omega)]; exact u1
    obtain ⟨y, y1, y2⟩ := gb_sto (v := v) this
    refine ⟨y, ?_, fun j => ?_⟩
    · show (match ev_cpy n l0 l, ev_get l0 n with
        | some h, some v => ev_if (ev_ii v) (ev_sto h n v) none
        | _, _ => none) = _
      rw [z1, v1]
      show ev_if (ev_ii v) (ev_sto z n v) none = _
      rw [v2]
      exact y1
    · rw [y2, z2]
      by_cases hj : j = n
      · subst hj
        rw [if_pos rfl, if_pos (by omega), v1]
      · rw [if_neg hj]
        by_cases h : j < n
        · rw [if_pos h, if_pos (by omega)]
        · rw [if_neg h, if_neg (by omega)]
theorem gh_45 {k : ev_N} {cl : ev_F} {w : ev_W} {n i i0 : Nat} {q q0 : ev_C} {z : List (List (List ev_V))} {x : List (List (List ev_C))} (h : ev_get w.1 i = some q) (h0 : ev_get w.1 i0 = some q0) (hk : q.1 = 20 ∧ q0.1 = 20) (hn : n ≤ q.2.1 ∧ n ≤ q0.2.1) (hs : q.2.1 ≤ 65536 ∧ q0.2.1 ≤ 65536) (hcs : Nat.ble (ev_cs r) 8 = true) (hz : ev_cpy n q0.2.2 q.2.2 = some z) (hx : ev_sto w.1 i (q.1, (q.2.1, z)) = some x) :
    ev_sel 45 Φ M k cl nx a b c' tg pc loc (.inl n :: .inl 0 :: .inr (.inl (some i)) :: .inl 0 :: .inr (.inl (some i0)) :: r) w = k nx loc r (x, w.2) := by
  show (match ev_get w.1 i, ev_get w.1 i0 with
    | some q, some q0 => ev_if (Nat.beq q.1 20 && (Nat.beq q0.1 20 && (Nat.ble n q.2.1 && (Nat.ble n q0.2.1 && (Nat.ble q.2.1 65536 && (Nat.ble q0.2.1 65536 && Nat.ble (ev_cs r) 8)))))) (match ev_cpy n q0.2.2 q.2.2 with
      | some z => match ev_sto w.1 i (q.1, (q.2.1, z)) with
        | some x => k nx loc r (x, w.2)
        | none => none
      | none => none) none
    | _, _ => none) = _
  rw [h, h0]
  show ev_if (Nat.beq q.1 20 && (Nat.beq q0.1 20 && (Nat.ble n q.2.1 && (Nat.ble n q0.2.1 && (Nat.ble q.2.1 65536 && (Nat.ble q0.2.1 65536 && Nat.ble (ev_cs r) 8)))))) (match ev_cpy n q0.2.2 q.2.2 with
      | some z => match ev_sto w.1 i (q.1, (q.2.1, z)) with
        | some x => k nx loc r (x, w.2)
        | none => none
      | none => none) none = _
  rw [hk.1, hk.2, Nat.beq_refl, Nat.ble_eq.mpr hn.1, Nat.ble_eq.mpr hn.2, Nat.ble_eq.mpr hs.1, Nat.ble_eq.mpr hs.2, hcs, hz, ← hk.1]
  show (match ev_sto w.1 i (q.1, (q.2.1, z)) with
        | some x => k nx loc r (x, w.2)
        | none => none) = _
  rw [hx]
theorem hr_cpy {g : gH} {q p n : Int} (hg : HR g) (h : kd q = 20 ∧ kd p = 20) : HR (cpyG g q p n) := by
  intro x y
  unfold cpyG
  split
  · next hh =>
    have := hg q y
    rw [hh.1, h.2]
    rw [h.1] at this
    exact this
  · exact hg x y
theorem go_copy {q n : Int} {K : gH → Option β} (hc : M.2.2.2.2 pc = (45, (nx, (a, (b, (c', tg)))))) (hg : HR g) (h : kd q = 20 ∧ kd p = 20) (hn : 0 ≤ n ∧ n ≤ sz q ∧ n ≤ sz p) (hcs : Nat.ble (ev_cs r) 8 = true) (k : ∀ g1, HR g1 → Go Φ P f t (K g1) d M nx loc r g1 c s) : Go Φ P f t (bnd (cpyG g q p n) K) d M pc loc (sI n :: sI 0 :: sR p :: sI 0 :: sR q :: r) g c s := by
  refine go_step hc (fun w hw hz => ?_) (k (cpyG g q p n) (hr_cpy hg h))
  have hp := kd_lt h.2 (by omega)
  have hq := kd_lt h.1 (by omega)
  have b1 := sz_bd p
  have b2 := sz_bd q
  have ep : ((p.toNat : Nat) : Int) = p := Int.toNat_of_nonneg hp.1
  have eq : ((q.toNat : Nat) : Int) = q := Int.toNat_of_nonneg hq.1
  obtain ⟨C, c1, c2, c3, c4⟩ := hw p.toNat (by omega)
  obtain ⟨C0, d1, d2, d3, d4⟩ := hw q.toNat (by omega)
  rw [ep] at c2 c3 c4
  rw [eq] at d2 d3 d4
  rw [h.2] at c2
  rw [h.1] at d2
  have t20 : ∀ j : Int, typ 20 j = 0 := fun j => rfl
  obtain ⟨z, z1, z2⟩ := gb_cpy (l0 := C0.2.2) (l := C.2.2) n.toNat (fun i hi => by
    refine ⟨_, d4 i (by omega), ?_⟩
    rw [h.1, t20]
    rfl) (fun i hi => ⟨_, c4 i (by omega)⟩)
  obtain ⟨x, x1, x2⟩ := gb_sto (v := (C.1, (C.2.1, z))) c1
  refine ⟨(x, w.2), ?_, hz, fun kk cl => ?_⟩
  · intro i hi
    by_cases hia : i = p.toNat
    · subst hia
      refine ⟨(C.1, (C.2.1, z)), by rw [x2, if_pos rfl], by rw [ep, h.2]; exact c2, by rw [ep]; exact c3, fun j hj => ?_⟩
      rw [ep] at hj ⊢
      show ev_get z j = _
      rw [z2]
      unfold cpyG
      by_cases hjn : j < n.toNat
      · rw [if_pos hjn, if_pos ⟨rfl, by omega, by omega⟩, d4 j (by omega), h.1, h.2]
      · rw [if_neg hjn, if_neg (fun z => hjn (by omega))]
        exact c4 j hj
    · obtain ⟨q9, e1, e2, e3, e4⟩ := hw i hi
      refine ⟨q9, by rw [x2, if_neg hia]; exact e1, e2, e3, fun j hj => ?_⟩
      unfold cpyG
      rw [if_neg (fun z => hia (by omega))]
      exact e4 j hj
  · rw [sR_pos hp.1, sR_pos hq.1, go_lit (x := n) n.toNat (by omega) (by unfold InR; omega), ← gq_0]
    exact gh_45 c1 d1 ⟨c2, d2⟩ (by omega) (by omega) hcs z1 x1
end GO4
/-! ===== beside the rows (own work; the rows for calls by program: wip/p2/gen_misc.py) ===== -/
def fu : Nat := 10000
def fr : Nat := 60
def dW : Nat := 200
def nwo (u : Option ev_V) : Prop := ev_nw [u] 1 = true
theorem inR_of {x : Int} (h : -2147483648 ≤ x ∧ x < 2147483648) : InR x := h
theorem inL_of {x : Int} (h : -9223372036854775808 ≤ x ∧ x < 9223372036854775808) : L64 x := h
theorem rfR_of {x : Int} (h : -1 ≤ x ∧ x < 1000000) : RfR x := h
theorem rfR_kd {p : Int} {k : Nat} (h : kd p = k) (hk : k ≠ 99) : RfR p := by
  have := kd_lt h hk
  unfold RfR
  omega
theorem ka_20 {p : Int} (h : kd p = 20) : 20 ≤ kd p ∧ kd p ≤ 25 := by omega
theorem ka_21 {p : Int} (h : kd p = 21) : 20 ≤ kd p ∧ kd p ≤ 25 := by omega
theorem ka_22 {p : Int} (h : kd p = 22) : 20 ≤ kd p ∧ kd p ≤ 25 := by omega
theorem ka_23 {p : Int} (h : kd p = 23) : 20 ≤ kd p ∧ kd p ≤ 25 := by omega
theorem ka_24 {p : Int} (h : kd p = 24) : 20 ≤ kd p ∧ kd p ≤ 25 := by omega
theorem ka_25 {p : Int} (h : kd p = 25) : 20 ≤ kd p ∧ kd p ≤ 25 := by omega
theorem inR_div {x y : Int} (h : 1 ≤ y ∧ y < 2147483648 ∧ 0 ≤ x ∧ x < 2147483648) : InR (x / y) := by
  have h1 : x / y ≤ x := Int.ediv_le_self _ h.2.2.1
  have h2 : 0 ≤ x / y := Int.ediv_nonneg h.2.2.1 (by omega)
  unfold InR
  omega
theorem inR_rem {x y : Int} (h : 1 ≤ y ∧ y < 2147483648 ∧ 0 ≤ x ∧ x < 2147483648) : InR (x % y) := by
  have h1 : x % y < y := Int.emod_lt_of_pos _ (by omega)
  have h2 : 0 ≤ x % y := Int.emod_nonneg _ (by omega)
  unfold InR
  omega
theorem inR_i2c (x : Int) : InR (x % 65536) := by unfold InR; omega
def gl2i (x : Int) : Int := (toL x).toInt32.toInt
theorem inR_l2i (x : Int) : InR (gl2i x) := inR_I32 _
theorem kd_c0 : kd 0 = 6 := by decide +kernel
theorem kd_c624 : kd 624 = 7 := by decide +kernel
theorem kd_c635 : kd 635 = 23 := by decide +kernel
theorem law_z {Φ : ev_P} {L v4 : Int} {sc : Int → Int} {c s n : Nat} (hs : ScrOK Φ L sc) (hz : 0 ≤ v4 ∧ (c : Int) ≤ 700 + v4 ∧ (s : Int) ≤ 23000 + 6 * v4) (hc : ¬ w32 (L - 6) < v4) (hn : n ≤ 6) : 0 ≤ w32 (v4 + 6) ∧ ((c + n : Nat) : Int) ≤ 700 + w32 (v4 + 6) ∧ ((s + 6 * n : Nat) : Int) ≤ 23000 + 6 * w32 (v4 + 6) := by
  obtain ⟨h1, h2, -⟩ := hs
  unfold w32 at *
  omega
section CALLV
variable {β : Type} {Φ : ev_P} {P : Nat → ev_M} {f : β → Nat × (Int × gH)} {t : Nat} {d : Nat} {M : ev_M} {pc nx : Nat} {loc : ev_L} {st r As : List ev_V} {g : gH} {c s mi na rc mc ms : Nat}
theorem go_callP0 {Y : Option Int} {K : Int → Option β} (hc : M.2.2.2.2 pc = (35, (nx, (mi, (na, (rc, [0, 0])))))) (hsp : ev_sp na [] st = some (As, r)) (hcs : Nat.ble (ev_cs r) 8 = true) (hw : As.all (fun v => !ev_wide v) = true) (hrc : Rcv rc As) (hm : c ≤ M.2.1 ∧ s ≤ M.2.2.1) (hd : 1 ≤ d) (hcal : Go Φ P (fP g) 0 Y (d - 1) (P mi) 0 (ev_loc (P mi).1 As) [] g 0 0) (k : ∀ v, Go Φ P f t (K v) d M nx loc r g c s) : Go Φ P f t (bdP Y K) d M pc loc st g c s := go_callP hc hsp hcs hw hrc hm hd hcal (fun v _ => k v)
theorem go_callN0 {Y : Option (Int × gH)} {K : Int → gH → Option β} (hc : M.2.2.2.2 pc = (35, (nx, (mi, (na, (rc, [0, 0])))))) (hsp : ev_sp na [] st = some (As, r)) (hcs : Nat.ble (ev_cs r) 8 = true) (hw : As.all (fun v => !ev_wide v) = true) (hrc : Rcv rc As) (hm : c ≤ M.2.1 ∧ s ≤ M.2.2.1) (hd : 1 ≤ d) (hcal : Go Φ P fN 0 Y (d - 1) (P mi) 0 (ev_loc (P mi).1 As) [] g 0 0) (k : ∀ v g1, HR g1 → Go Φ P f t (K v g1) d M nx loc r g1 c s) : Go Φ P f t (bdN Y K) d M pc loc st g c s := go_callN hc hsp hcs hw hrc hm hd hcal (fun v g1 _ h1 => k v g1 h1)
theorem go_callNx0 {Y : Option (Int × gH)} {K : Int → gH → Option β} (hc : M.2.2.2.2 pc = (35, (nx, (mi, (na, (rc, [mc, ms])))))) (hsp : ev_sp na [] st = some (As, r)) (hcs : Nat.ble (ev_cs r) 8 = true) (hw : As.all (fun v => !ev_wide v) = true) (hrc : Rcv rc As) (hm : c + mc ≤ M.2.1 ∧ s + ms ≤ M.2.2.1) (hd : 1 ≤ d) (hcal : Go Φ P fN 0 Y (d - 1) (P mi) 0 (ev_loc (P mi).1 As) [] g 0 0) (k : ∀ v g1, HR g1 → Go Φ P f t (K v g1) d M nx loc r g1 (c + mc) (s + ms)) : Go Φ P f t (bdN Y K) d M pc loc st g c s := go_callN' hc hsp hcs hw hrc hm hd hcal (fun v g1 _ h1 => k v g1 h1)
theorem go_callQ0 {Y : Option (Nat × Int)} {K : Int → Option β} {H : Nat → Option β} (hc : M.2.2.2.2 pc = (35, (nx, (mi, (na, (rc, [mc, ms])))))) (hsp : ev_sp na [] st = some (As, r)) (hcs : Nat.ble (ev_cs r) 8 = true) (hw : As.all (fun v => !ev_wide v) = true) (hrc : Rcv rc As) (hm : c + mc ≤ M.2.1 ∧ s + ms ≤ M.2.2.1) (hd : 1 ≤ d) (hcal : Go Φ P (fQ g) 0 Y (d - 1) (P mi) 0 (ev_loc (P mi).1 As) [] g 0 0) (k : ∀ v, Go Φ P f t (K v) d M nx loc r g (c + mc) (s + ms)) (ke : HR g → ∀ e, GoE Φ P f t (H e) d M pc e loc g (c + mc) (s + ms)) : Go Φ P f t (bdQ Y K H) d M pc loc st g c s := go_callQ hc hsp hcs hw hrc hm hd hcal (fun v _ => k v) ke
theorem go_callT0 {Y : Option (Nat × (Int × gH))} {K : Int → gH → Option β} {H : Nat → gH → Option β} (hc : M.2.2.2.2 pc = (35, (nx, (mi, (na, (rc, [mc, ms])))))) (hsp : ev_sp na [] st = some (As, r)) (hcs : Nat.ble (ev_cs r) 8 = true) (hw : As.all (fun v => !ev_wide v) = true) (hrc : Rcv rc As) (hm : c + mc ≤ M.2.1 ∧ s + ms ≤ M.2.2.1) (hd : 1 ≤ d) (hcal : Go Φ P fT 0 Y (d - 1) (P mi) 0 (ev_loc (P mi).1 As) [] g 0 0) (k : ∀ v g1, HR g1 → Go Φ P f t (K v g1) d M nx loc r g1 (c + mc) (s + ms)) (ke : ∀ e g1, HR g1 → GoE Φ P f t (H e g1) d M pc e loc g1 (c + mc) (s + ms)) : Go Φ P f t (bdT Y K H) d M pc loc st g c s := go_callT hc hsp hcs hw hrc hm hd hcal (fun v g1 _ h1 => k v g1 h1) ke
theorem go_callP1 {Y : Option Int} {K : Int → Option β} (hc : M.2.2.2.2 pc = (35, (nx, (mi, (na, (rc, [0, 0])))))) (hsp : ev_sp na [] st = some (As, r)) (hcs : Nat.ble (ev_cs r) 8 = true) (hw : As.all (fun v => !ev_wide v) = true) (hrc : Rcv rc As) (hm : c ≤ M.2.1 ∧ s ≤ M.2.2.1) (hd : 1 ≤ d) (hcal : Go Φ P (fP g) 1 Y (d - 1) (P mi) 0 (ev_loc (P mi).1 As) [] g 0 0) (k : ∀ v, InR v → Go Φ P f t (K v) d M nx loc (sI v :: r) g c s) : Go Φ P f t (bdP Y K) d M pc loc st g c s := go_callP hc hsp hcs hw hrc hm hd hcal (fun v hv => k v hv)
theorem go_callN1 {Y : Option (Int × gH)} {K : Int → gH → Option β} (hc : M.2.2.2.2 pc = (35, (nx, (mi, (na, (rc, [0, 0])))))) (hsp : ev_sp na [] st = some (As, r)) (hcs : Nat.ble (ev_cs r) 8 = true) (hw : As.all (fun v => !ev_wide v) = true) (hrc : Rcv rc As) (hm : c ≤ M.2.1 ∧ s ≤ M.2.2.1) (hd : 1 ≤ d) (hcal : Go Φ P fN 1 Y (d - 1) (P mi) 0 (ev_loc (P mi).1 As) [] g 0 0) (k : ∀ v g1, InR v → HR g1 → Go Φ P f t (K v g1) d M nx loc (sI v :: r) g1 c s) : Go Φ P f t (bdN Y K) d M pc loc st g c s := go_callN hc hsp hcs hw hrc hm hd hcal (fun v g1 hv h1 => k v g1 hv h1)
theorem go_callNx1 {Y : Option (Int × gH)} {K : Int → gH → Option β} (hc : M.2.2.2.2 pc = (35, (nx, (mi, (na, (rc, [mc, ms])))))) (hsp : ev_sp na [] st = some (As, r)) (hcs : Nat.ble (ev_cs r) 8 = true) (hw : As.all (fun v => !ev_wide v) = true) (hrc : Rcv rc As) (hm : c + mc ≤ M.2.1 ∧ s + ms ≤ M.2.2.1) (hd : 1 ≤ d) (hcal : Go Φ P fN 1 Y (d - 1) (P mi) 0 (ev_loc (P mi).1 As) [] g 0 0) (k : ∀ v g1, InR v → HR g1 → Go Φ P f t (K v g1) d M nx loc (sI v :: r) g1 (c + mc) (s + ms)) : Go Φ P f t (bdN Y K) d M pc loc st g c s := go_callN' hc hsp hcs hw hrc hm hd hcal (fun v g1 hv h1 => k v g1 hv h1)
theorem go_callQ1 {Y : Option (Nat × Int)} {K : Int → Option β} {H : Nat → Option β} (hc : M.2.2.2.2 pc = (35, (nx, (mi, (na, (rc, [mc, ms])))))) (hsp : ev_sp na [] st = some (As, r)) (hcs : Nat.ble (ev_cs r) 8 = true) (hw : As.all (fun v => !ev_wide v) = true) (hrc : Rcv rc As) (hm : c + mc ≤ M.2.1 ∧ s + ms ≤ M.2.2.1) (hd : 1 ≤ d) (hcal : Go Φ P (fQ g) 1 Y (d - 1) (P mi) 0 (ev_loc (P mi).1 As) [] g 0 0) (k : ∀ v, InR v → Go Φ P f t (K v) d M nx loc (sI v :: r) g (c + mc) (s + ms)) (ke : HR g → ∀ e, GoE Φ P f t (H e) d M pc e loc g (c + mc) (s + ms)) : Go Φ P f t (bdQ Y K H) d M pc loc st g c s := go_callQ hc hsp hcs hw hrc hm hd hcal (fun v hv => k v hv) ke
theorem go_callT1 {Y : Option (Nat × (Int × gH))} {K : Int → gH → Option β} {H : Nat → gH → Option β} (hc : M.2.2.2.2 pc = (35, (nx, (mi, (na, (rc, [mc, ms])))))) (hsp : ev_sp na [] st = some (As, r)) (hcs : Nat.ble (ev_cs r) 8 = true) (hw : As.all (fun v => !ev_wide v) = true) (hrc : Rcv rc As) (hm : c + mc ≤ M.2.1 ∧ s + ms ≤ M.2.2.1) (hd : 1 ≤ d) (hcal : Go Φ P fT 1 Y (d - 1) (P mi) 0 (ev_loc (P mi).1 As) [] g 0 0) (k : ∀ v g1, InR v → HR g1 → Go Φ P f t (K v g1) d M nx loc (sI v :: r) g1 (c + mc) (s + ms)) (ke : ∀ e g1, HR g1 → GoE Φ P f t (H e g1) d M pc e loc g1 (c + mc) (s + ms)) : Go Φ P f t (bdT Y K H) d M pc loc st g c s := go_callT hc hsp hcs hw hrc hm hd hcal (fun v g1 hv h1 => k v g1 hv h1) ke
theorem go_callP2 {Y : Option Int} {K : Int → Option β} (hc : M.2.2.2.2 pc = (35, (nx, (mi, (na, (rc, [0, 0])))))) (hsp : ev_sp na [] st = some (As, r)) (hcs : Nat.ble (ev_cs r) 8 = true) (hw : As.all (fun v => !ev_wide v) = true) (hrc : Rcv rc As) (hm : c ≤ M.2.1 ∧ s ≤ M.2.2.1) (hd : 1 ≤ d) (hcal : Go Φ P (fP g) 2 Y (d - 1) (P mi) 0 (ev_loc (P mi).1 As) [] g 0 0) (k : ∀ v, RfR v → Go Φ P f t (K v) d M nx loc (sR v :: r) g c s) : Go Φ P f t (bdP Y K) d M pc loc st g c s := go_callP hc hsp hcs hw hrc hm hd hcal (fun v hv => k v hv)
theorem go_callN2 {Y : Option (Int × gH)} {K : Int → gH → Option β} (hc : M.2.2.2.2 pc = (35, (nx, (mi, (na, (rc, [0, 0])))))) (hsp : ev_sp na [] st = some (As, r)) (hcs : Nat.ble (ev_cs r) 8 = true) (hw : As.all (fun v => !ev_wide v) = true) (hrc : Rcv rc As) (hm : c ≤ M.2.1 ∧ s ≤ M.2.2.1) (hd : 1 ≤ d) (hcal : Go Φ P fN 2 Y (d - 1) (P mi) 0 (ev_loc (P mi).1 As) [] g 0 0) (k : ∀ v g1, RfR v → HR g1 → Go Φ P f t (K v g1) d M nx loc (sR v :: r) g1 c s) : Go Φ P f t (bdN Y K) d M pc loc st g c s := go_callN hc hsp hcs hw hrc hm hd hcal (fun v g1 hv h1 => k v g1 hv h1)
theorem go_callNx2 {Y : Option (Int × gH)} {K : Int → gH → Option β} (hc : M.2.2.2.2 pc = (35, (nx, (mi, (na, (rc, [mc, ms])))))) (hsp : ev_sp na [] st = some (As, r)) (hcs : Nat.ble (ev_cs r) 8 = true) (hw : As.all (fun v => !ev_wide v) = true) (hrc : Rcv rc As) (hm : c + mc ≤ M.2.1 ∧ s + ms ≤ M.2.2.1) (hd : 1 ≤ d) (hcal : Go Φ P fN 2 Y (d - 1) (P mi) 0 (ev_loc (P mi).1 As) [] g 0 0) (k : ∀ v g1, RfR v → HR g1 → Go Φ P f t (K v g1) d M nx loc (sR v :: r) g1 (c + mc) (s + ms)) : Go Φ P f t (bdN Y K) d M pc loc st g c s := go_callN' hc hsp hcs hw hrc hm hd hcal (fun v g1 hv h1 => k v g1 hv h1)
theorem go_callQ2 {Y : Option (Nat × Int)} {K : Int → Option β} {H : Nat → Option β} (hc : M.2.2.2.2 pc = (35, (nx, (mi, (na, (rc, [mc, ms])))))) (hsp : ev_sp na [] st = some (As, r)) (hcs : Nat.ble (ev_cs r) 8 = true) (hw : As.all (fun v => !ev_wide v) = true) (hrc : Rcv rc As) (hm : c + mc ≤ M.2.1 ∧ s + ms ≤ M.2.2.1) (hd : 1 ≤ d) (hcal : Go Φ P (fQ g) 2 Y (d - 1) (P mi) 0 (ev_loc (P mi).1 As) [] g 0 0) (k : ∀ v, RfR v → Go Φ P f t (K v) d M nx loc (sR v :: r) g (c + mc) (s + ms)) (ke : HR g → ∀ e, GoE Φ P f t (H e) d M pc e loc g (c + mc) (s + ms)) : Go Φ P f t (bdQ Y K H) d M pc loc st g c s := go_callQ hc hsp hcs hw hrc hm hd hcal (fun v hv => k v hv) ke
theorem go_callT2 {Y : Option (Nat × (Int × gH))} {K : Int → gH → Option β} {H : Nat → gH → Option β} (hc : M.2.2.2.2 pc = (35, (nx, (mi, (na, (rc, [mc, ms])))))) (hsp : ev_sp na [] st = some (As, r)) (hcs : Nat.ble (ev_cs r) 8 = true) (hw : As.all (fun v => !ev_wide v) = true) (hrc : Rcv rc As) (hm : c + mc ≤ M.2.1 ∧ s + ms ≤ M.2.2.1) (hd : 1 ≤ d) (hcal : Go Φ P fT 2 Y (d - 1) (P mi) 0 (ev_loc (P mi).1 As) [] g 0 0) (k : ∀ v g1, RfR v → HR g1 → Go Φ P f t (K v g1) d M nx loc (sR v :: r) g1 (c + mc) (s + ms)) (ke : ∀ e g1, HR g1 → GoE Φ P f t (H e g1) d M pc e loc g1 (c + mc) (s + ms)) : Go Φ P f t (bdT Y K H) d M pc loc st g c s := go_callT hc hsp hcs hw hrc hm hd hcal (fun v g1 hv h1 => k v g1 hv h1) ke
theorem go_callP3 {Y : Option Int} {K : Int → Option β} (hc : M.2.2.2.2 pc = (35, (nx, (mi, (na, (rc, [0, 0])))))) (hsp : ev_sp na [] st = some (As, r)) (hcs : Nat.ble (ev_cs r) 8 = true) (hw : As.all (fun v => !ev_wide v) = true) (hrc : Rcv rc As) (hm : c ≤ M.2.1 ∧ s ≤ M.2.2.1) (hd : 1 ≤ d) (hcal : Go Φ P (fP g) 3 Y (d - 1) (P mi) 0 (ev_loc (P mi).1 As) [] g 0 0) (k : ∀ v, B01 v → Go Φ P f t (K v) d M nx loc (sI v :: r) g c s) : Go Φ P f t (bdP Y K) d M pc loc st g c s := go_callP hc hsp hcs hw hrc hm hd hcal (fun v hv => k v hv)
theorem go_callN3 {Y : Option (Int × gH)} {K : Int → gH → Option β} (hc : M.2.2.2.2 pc = (35, (nx, (mi, (na, (rc, [0, 0])))))) (hsp : ev_sp na [] st = some (As, r)) (hcs : Nat.ble (ev_cs r) 8 = true) (hw : As.all (fun v => !ev_wide v) = true) (hrc : Rcv rc As) (hm : c ≤ M.2.1 ∧ s ≤ M.2.2.1) (hd : 1 ≤ d) (hcal : Go Φ P fN 3 Y (d - 1) (P mi) 0 (ev_loc (P mi).1 As) [] g 0 0) (k : ∀ v g1, B01 v → HR g1 → Go Φ P f t (K v g1) d M nx loc (sI v :: r) g1 c s) : Go Φ P f t (bdN Y K) d M pc loc st g c s := go_callN hc hsp hcs hw hrc hm hd hcal (fun v g1 hv h1 => k v g1 hv h1)
theorem go_callNx3 {Y : Option (Int × gH)} {K : Int → gH → Option β} (hc : M.2.2.2.2 pc = (35, (nx, (mi, (na, (rc, [mc, ms])))))) (hsp : ev_sp na [] st = some (As, r)) (hcs : Nat.ble (ev_cs r) 8 = true) (hw : As.all (fun v => !ev_wide v) = true) (hrc : Rcv rc As) (hm : c + mc ≤ M.2.1 ∧ s + ms ≤ M.2.2.1) (hd : 1 ≤ d) (hcal : Go Φ P fN 3 Y (d - 1) (P mi) 0 (ev_loc (P mi).1 As) [] g 0 0) (k : ∀ v g1, B01 v → HR g1 → Go Φ P f t (K v g1) d M nx loc (sI v :: r) g1 (c + mc) (s + ms)) : Go Φ P f t (bdN Y K) d M pc loc st g c s := go_callN' hc hsp hcs hw hrc hm hd hcal (fun v g1 hv h1 => k v g1 hv h1)
theorem go_callQ3 {Y : Option (Nat × Int)} {K : Int → Option β} {H : Nat → Option β} (hc : M.2.2.2.2 pc = (35, (nx, (mi, (na, (rc, [mc, ms])))))) (hsp : ev_sp na [] st = some (As, r)) (hcs : Nat.ble (ev_cs r) 8 = true) (hw : As.all (fun v => !ev_wide v) = true) (hrc : Rcv rc As) (hm : c + mc ≤ M.2.1 ∧ s + ms ≤ M.2.2.1) (hd : 1 ≤ d) (hcal : Go Φ P (fQ g) 3 Y (d - 1) (P mi) 0 (ev_loc (P mi).1 As) [] g 0 0) (k : ∀ v, B01 v → Go Φ P f t (K v) d M nx loc (sI v :: r) g (c + mc) (s + ms)) (ke : HR g → ∀ e, GoE Φ P f t (H e) d M pc e loc g (c + mc) (s + ms)) : Go Φ P f t (bdQ Y K H) d M pc loc st g c s := go_callQ hc hsp hcs hw hrc hm hd hcal (fun v hv => k v hv) ke
theorem go_callT3 {Y : Option (Nat × (Int × gH))} {K : Int → gH → Option β} {H : Nat → gH → Option β} (hc : M.2.2.2.2 pc = (35, (nx, (mi, (na, (rc, [mc, ms])))))) (hsp : ev_sp na [] st = some (As, r)) (hcs : Nat.ble (ev_cs r) 8 = true) (hw : As.all (fun v => !ev_wide v) = true) (hrc : Rcv rc As) (hm : c + mc ≤ M.2.1 ∧ s + ms ≤ M.2.2.1) (hd : 1 ≤ d) (hcal : Go Φ P fT 3 Y (d - 1) (P mi) 0 (ev_loc (P mi).1 As) [] g 0 0) (k : ∀ v g1, B01 v → HR g1 → Go Φ P f t (K v g1) d M nx loc (sI v :: r) g1 (c + mc) (s + ms)) (ke : ∀ e g1, HR g1 → GoE Φ P f t (H e g1) d M pc e loc g1 (c + mc) (s + ms)) : Go Φ P f t (bdT Y K H) d M pc loc st g c s := go_callT hc hsp hcs hw hrc hm hd hcal (fun v g1 hv h1 => k v g1 hv h1) ke
theorem go_callP4 {Y : Option Int} {K : Int → Option β} (hc : M.2.2.2.2 pc = (35, (nx, (mi, (na, (rc, [0, 0])))))) (hsp : ev_sp na [] st = some (As, r)) (hcs : Nat.ble (ev_cs r) 8 = true) (hw : As.all (fun v => !ev_wide v) = true) (hrc : Rcv rc As) (hm : c ≤ M.2.1 ∧ s ≤ M.2.2.1) (hd : 1 ≤ d) (hcal : Go Φ P (fP g) 4 Y (d - 1) (P mi) 0 (ev_loc (P mi).1 As) [] g 0 0) (k : ∀ v, Go Φ P f t (K v) d M nx loc (sF v :: r) g c s) : Go Φ P f t (bdP Y K) d M pc loc st g c s := go_callP hc hsp hcs hw hrc hm hd hcal (fun v _ => k v)
theorem go_callN4 {Y : Option (Int × gH)} {K : Int → gH → Option β} (hc : M.2.2.2.2 pc = (35, (nx, (mi, (na, (rc, [0, 0])))))) (hsp : ev_sp na [] st = some (As, r)) (hcs : Nat.ble (ev_cs r) 8 = true) (hw : As.all (fun v => !ev_wide v) = true) (hrc : Rcv rc As) (hm : c ≤ M.2.1 ∧ s ≤ M.2.2.1) (hd : 1 ≤ d) (hcal : Go Φ P fN 4 Y (d - 1) (P mi) 0 (ev_loc (P mi).1 As) [] g 0 0) (k : ∀ v g1, HR g1 → Go Φ P f t (K v g1) d M nx loc (sF v :: r) g1 c s) : Go Φ P f t (bdN Y K) d M pc loc st g c s := go_callN hc hsp hcs hw hrc hm hd hcal (fun v g1 _ h1 => k v g1 h1)
theorem go_callNx4 {Y : Option (Int × gH)} {K : Int → gH → Option β} (hc : M.2.2.2.2 pc = (35, (nx, (mi, (na, (rc, [mc, ms])))))) (hsp : ev_sp na [] st = some (As, r)) (hcs : Nat.ble (ev_cs r) 8 = true) (hw : As.all (fun v => !ev_wide v) = true) (hrc : Rcv rc As) (hm : c + mc ≤ M.2.1 ∧ s + ms ≤ M.2.2.1) (hd : 1 ≤ d) (hcal : Go Φ P fN 4 Y (d - 1) (P mi) 0 (ev_loc (P mi).1 As) [] g 0 0) (k : ∀ v g1, HR g1 → Go Φ P f t (K v g1) d M nx loc (sF v :: r) g1 (c + mc) (s + ms)) : Go Φ P f t (bdN Y K) d M pc loc st g c s := go_callN' hc hsp hcs hw hrc hm hd hcal (fun v g1 _ h1 => k v g1 h1)
theorem go_callQ4 {Y : Option (Nat × Int)} {K : Int → Option β} {H : Nat → Option β} (hc : M.2.2.2.2 pc = (35, (nx, (mi, (na, (rc, [mc, ms])))))) (hsp : ev_sp na [] st = some (As, r)) (hcs : Nat.ble (ev_cs r) 8 = true) (hw : As.all (fun v => !ev_wide v) = true) (hrc : Rcv rc As) (hm : c + mc ≤ M.2.1 ∧ s + ms ≤ M.2.2.1) (hd : 1 ≤ d) (hcal : Go Φ P (fQ g) 4 Y (d - 1) (P mi) 0 (ev_loc (P mi).1 As) [] g 0 0) (k : ∀ v, Go Φ P f t (K v) d M nx loc (sF v :: r) g (c + mc) (s + ms)) (ke : HR g → ∀ e, GoE Φ P f t (H e) d M pc e loc g (c + mc) (s + ms)) : Go Φ P f t (bdQ Y K H) d M pc loc st g c s := go_callQ hc hsp hcs hw hrc hm hd hcal (fun v _ => k v) ke
theorem go_callT4 {Y : Option (Nat × (Int × gH))} {K : Int → gH → Option β} {H : Nat → gH → Option β} (hc : M.2.2.2.2 pc = (35, (nx, (mi, (na, (rc, [mc, ms])))))) (hsp : ev_sp na [] st = some (As, r)) (hcs : Nat.ble (ev_cs r) 8 = true) (hw : As.all (fun v => !ev_wide v) = true) (hrc : Rcv rc As) (hm : c + mc ≤ M.2.1 ∧ s + ms ≤ M.2.2.1) (hd : 1 ≤ d) (hcal : Go Φ P fT 4 Y (d - 1) (P mi) 0 (ev_loc (P mi).1 As) [] g 0 0) (k : ∀ v g1, HR g1 → Go Φ P f t (K v g1) d M nx loc (sF v :: r) g1 (c + mc) (s + ms)) (ke : ∀ e g1, HR g1 → GoE Φ P f t (H e g1) d M pc e loc g1 (c + mc) (s + ms)) : Go Φ P f t (bdT Y K H) d M pc loc st g c s := go_callT hc hsp hcs hw hrc hm hd hcal (fun v g1 _ h1 => k v g1 h1) ke
theorem go_callP5 {Y : Option Int} {K : Int → Option β} (hc : M.2.2.2.2 pc = (35, (nx, (mi, (na, (rc, [0, 0])))))) (hsp : ev_sp na [] st = some (As, r)) (hcs : Nat.ble (ev_cs r) 8 = true) (hw : As.all (fun v => !ev_wide v) = true) (hrc : Rcv rc As) (hm : c ≤ M.2.1 ∧ s ≤ M.2.2.1) (hd : 1 ≤ d) (hcal : Go Φ P (fP g) 5 Y (d - 1) (P mi) 0 (ev_loc (P mi).1 As) [] g 0 0) (k : ∀ v, Go Φ P f t (K v) d M nx loc (sD v :: r) g c s) : Go Φ P f t (bdP Y K) d M pc loc st g c s := go_callP hc hsp hcs hw hrc hm hd hcal (fun v _ => k v)
theorem go_callN5 {Y : Option (Int × gH)} {K : Int → gH → Option β} (hc : M.2.2.2.2 pc = (35, (nx, (mi, (na, (rc, [0, 0])))))) (hsp : ev_sp na [] st = some (As, r)) (hcs : Nat.ble (ev_cs r) 8 = true) (hw : As.all (fun v => !ev_wide v) = true) (hrc : Rcv rc As) (hm : c ≤ M.2.1 ∧ s ≤ M.2.2.1) (hd : 1 ≤ d) (hcal : Go Φ P fN 5 Y (d - 1) (P mi) 0 (ev_loc (P mi).1 As) [] g 0 0) (k : ∀ v g1, HR g1 → Go Φ P f t (K v g1) d M nx loc (sD v :: r) g1 c s) : Go Φ P f t (bdN Y K) d M pc loc st g c s := go_callN hc hsp hcs hw hrc hm hd hcal (fun v g1 _ h1 => k v g1 h1)
theorem go_callNx5 {Y : Option (Int × gH)} {K : Int → gH → Option β} (hc : M.2.2.2.2 pc = (35, (nx, (mi, (na, (rc, [mc, ms])))))) (hsp : ev_sp na [] st = some (As, r)) (hcs : Nat.ble (ev_cs r) 8 = true) (hw : As.all (fun v => !ev_wide v) = true) (hrc : Rcv rc As) (hm : c + mc ≤ M.2.1 ∧ s + ms ≤ M.2.2.1) (hd : 1 ≤ d) (hcal : Go Φ P fN 5 Y (d - 1) (P mi) 0 (ev_loc (P mi).1 As) [] g 0 0) (k : ∀ v g1, HR g1 → Go Φ P f t (K v g1) d M nx loc (sD v :: r) g1 (c + mc) (s + ms)) : Go Φ P f t (bdN Y K) d M pc loc st g c s := go_callN' hc hsp hcs hw hrc hm hd hcal (fun v g1 _ h1 => k v g1 h1)
theorem go_callQ5 {Y : Option (Nat × Int)} {K : Int → Option β} {H : Nat → Option β} (hc : M.2.2.2.2 pc = (35, (nx, (mi, (na, (rc, [mc, ms])))))) (hsp : ev_sp na [] st = some (As, r)) (hcs : Nat.ble (ev_cs r) 8 = true) (hw : As.all (fun v => !ev_wide v) = true) (hrc : Rcv rc As) (hm : c + mc ≤ M.2.1 ∧ s + ms ≤ M.2.2.1) (hd : 1 ≤ d) (hcal : Go Φ P (fQ g) 5 Y (d - 1) (P mi) 0 (ev_loc (P mi).1 As) [] g 0 0) (k : ∀ v, Go Φ P f t (K v) d M nx loc (sD v :: r) g (c + mc) (s + ms)) (ke : HR g → ∀ e, GoE Φ P f t (H e) d M pc e loc g (c + mc) (s + ms)) : Go Φ P f t (bdQ Y K H) d M pc loc st g c s := go_callQ hc hsp hcs hw hrc hm hd hcal (fun v _ => k v) ke
theorem go_callT5 {Y : Option (Nat × (Int × gH))} {K : Int → gH → Option β} {H : Nat → gH → Option β} (hc : M.2.2.2.2 pc = (35, (nx, (mi, (na, (rc, [mc, ms])))))) (hsp : ev_sp na [] st = some (As, r)) (hcs : Nat.ble (ev_cs r) 8 = true) (hw : As.all (fun v => !ev_wide v) = true) (hrc : Rcv rc As) (hm : c + mc ≤ M.2.1 ∧ s + ms ≤ M.2.2.1) (hd : 1 ≤ d) (hcal : Go Φ P fT 5 Y (d - 1) (P mi) 0 (ev_loc (P mi).1 As) [] g 0 0) (k : ∀ v g1, HR g1 → Go Φ P f t (K v g1) d M nx loc (sD v :: r) g1 (c + mc) (s + ms)) (ke : ∀ e g1, HR g1 → GoE Φ P f t (H e g1) d M pc e loc g1 (c + mc) (s + ms)) : Go Φ P f t (bdT Y K H) d M pc loc st g c s := go_callT hc hsp hcs hw hrc hm hd hcal (fun v g1 _ h1 => k v g1 h1) ke
end CALLV
