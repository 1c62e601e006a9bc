/-! ===== the law's own bytes by rows of 64, its commonest instructions decoded from them (own work, by program: wip/p7/gen_dk.py) ===== -/
def dk_R : List (List Nat) := [[187, 0, 8, 89, 183, 0, 164, 76, 187, 0, 165, 89, 183, 0, 167, 77, 4, 188, 11, 78, 3, 54, 4, 21, 4, 42, 190, 16, 6, 100, 163, 8, 233, 42, 21, 4, 46, 16, 63, 126, 170, 0, 0, 0, 0, 0, 8, 217, 0, 0, 0, 0, 0, 0, 0, 63, 0, 0, 1, 16, 0, 0, 1, 89], [0, 0, 1, 114, 0, 0, 1, 127, 0, 0, 1, 140, 0, 0, 1, 153, 0, 0, 1, 181, 0, 0, 1, 221, 0, 0, 1, 249, 0, 0, 2, 18, 0, 0, 2, 46, 0, 0, 2, 86, 0, 0, 2, 126, 0, 0, 2, 154, 0, 0, 2, 210, 0, 0, 2, 235, 0, 0, 2, 248, 0, 0, 3, 56], [0, 0, 3, 96, 0, 0, 3, 136, 0, 0, 3, 164, 0, 0, 3, 204, 0, 0, 3, 244, 0, 0, 4, 28, 0, 0, 4, 68, 0, 0, 4, 108, 0, 0, 4, 148, 0, 0, 4, 188, 0, 0, 4, 216, 0, 0, 4, 244, 0, 0, 5, 28, 0, 0, 5, 68, 0, 0, 5, 120, 0, 0, 5, 160], [0, 0, 5, 188, 0, 0, 5, 216, 0, 0, 5, 229, 0, 0, 5, 242, 0, 0, 6, 14, 0, 0, 6, 42, 0, 0, 6, 70, 0, 0, 6, 85, 0, 0, 6, 102, 0, 0, 6, 142, 0, 0, 6, 182, 0, 0, 6, 210, 0, 0, 6, 238, 0, 0, 7, 10, 0, 0, 7, 23, 0, 0, 7, 51], [0, 0, 7, 79, 0, 0, 7, 119, 0, 0, 7, 134, 0, 0, 7, 174, 0, 0, 7, 202, 0, 0, 7, 254, 0, 0, 8, 26, 0, 0, 8, 54, 0, 0, 8, 82, 0, 0, 8, 110, 0, 0, 8, 150, 0, 0, 8, 175, 0, 0, 8, 188, 0, 0, 8, 201, 43, 42, 21, 4, 4, 96, 46, 42], [21, 4, 5, 96, 46, 42, 21, 4, 6, 96, 46, 42, 21, 4, 7, 96, 46, 42, 21, 4, 8, 96, 46, 182, 0, 168, 87, 44, 42, 21, 4, 4, 96, 46, 42, 21, 4, 5, 96, 46, 42, 21, 4, 6, 96, 46, 42, 21, 4, 7, 96, 46, 42, 21, 4, 8, 96, 46, 182, 0, 172, 87, 167, 7], [131, 43, 42, 21, 4, 4, 96, 46, 182, 0, 173, 87, 44, 42, 21, 4, 4, 96, 46, 182, 0, 177, 87, 167, 7, 106, 43, 182, 0, 178, 87, 44, 182, 0, 181, 87, 167, 7, 93, 43, 182, 0, 182, 87, 44, 182, 0, 185, 87, 167, 7, 80, 43, 182, 0, 186, 87, 44, 182, 0, 189, 87, 167, 7], [67, 43, 42, 21, 4, 4, 96, 46, 45, 184, 0, 190, 54, 5, 44, 42, 21, 4, 4, 96, 46, 182, 0, 195, 54, 6, 167, 7, 39, 43, 42, 21, 4, 4, 96, 46, 42, 21, 4, 5, 96, 46, 45, 184, 0, 196, 54, 5, 44, 42, 21, 4, 4, 96, 46, 42, 21, 4, 5, 96, 46, 182, 0, 199], [54, 6, 167, 6, 255, 43, 42, 21, 4, 4, 96, 46, 45, 184, 0, 200, 54, 5, 44, 42, 21, 4, 4, 96, 46, 182, 0, 202, 54, 6, 167, 6, 227, 43, 42, 21, 4, 4, 96, 46, 182, 0, 203, 87, 44, 42, 21, 4, 4, 96, 46, 182, 0, 206, 87, 167, 6, 202, 43, 42, 21, 4, 4, 96], [46, 45, 184, 0, 207, 54, 5, 44, 42, 21, 4, 4, 96, 46, 182, 0, 209, 54, 6, 167, 6, 174, 43, 42, 21, 4, 4, 96, 46, 42, 21, 4, 5, 96, 46, 45, 184, 0, 210, 54, 5, 44, 42, 21, 4, 4, 96, 46, 42, 21, 4, 5, 96, 46, 182, 0, 212, 54, 6, 167, 6, 134, 43, 42], [21, 4, 4, 96, 46, 42, 21, 4, 5, 96, 46, 45, 184, 0, 213, 54, 5, 44, 42, 21, 4, 4, 96, 46, 42, 21, 4, 5, 96, 46, 182, 0, 215, 54, 6, 167, 6, 94, 43, 42, 21, 4, 4, 96, 46, 45, 184, 0, 216, 54, 5, 44, 42, 21, 4, 4, 96, 46, 182, 0, 218, 54, 6, 167], [6, 66, 43, 42, 21, 4, 4, 96, 46, 45, 184, 0, 219, 54, 5, 44, 42, 21, 4, 4, 96, 46, 182, 0, 221, 54, 6, 44, 182, 0, 222, 21, 5, 159, 0, 5, 3, 172, 21, 5, 154, 0, 15, 45, 3, 47, 21, 6, 133, 148, 153, 0, 5, 3, 172, 167, 6, 10, 43, 42, 21, 4, 4, 96], [46, 182, 0, 225, 87, 44, 42, 21, 4, 4, 96, 46, 182, 0, 228, 87, 167, 5, 241, 43, 182, 0, 229, 87, 44, 182, 0, 232, 87, 167, 5, 228, 43, 42, 21, 4, 4, 96, 46, 42, 21, 4, 5, 96, 46, 42, 21, 4, 6, 96, 46, 42, 21, 4, 7, 96, 46, 45, 184, 0, 233, 54, 5, 44], [42, 21, 4, 4, 96, 46, 42, 21, 4, 5, 96, 46, 42, 21, 4, 6, 96, 46, 42, 21, 4, 7, 96, 46, 182, 0, 236, 54, 6, 167, 5, 164, 43, 42, 21, 4, 4, 96, 46, 42, 21, 4, 5, 96, 46, 45, 184, 0, 237, 54, 5, 44, 42, 21, 4, 4, 96, 46, 42, 21, 4, 5, 96, 46], [182, 0, 239, 54, 6, 167, 5, 124, 43, 42, 21, 4, 4, 96, 46, 42, 21, 4, 5, 96, 46, 45, 184, 0, 240, 54, 5, 44, 42, 21, 4, 4, 96, 46, 42, 21, 4, 5, 96, 46, 182, 0, 242, 54, 6, 167, 5, 84, 43, 42, 21, 4, 4, 96, 46, 45, 184, 0, 243, 54, 5, 44, 42, 21], [4, 4, 96, 46, 182, 0, 245, 54, 6, 167, 5, 56, 43, 42, 21, 4, 4, 96, 46, 42, 21, 4, 5, 96, 46, 45, 184, 0, 246, 54, 5, 44, 42, 21, 4, 4, 96, 46, 42, 21, 4, 5, 96, 46, 182, 0, 248, 54, 6, 167, 5, 16, 43, 42, 21, 4, 4, 96, 46, 42, 21, 4, 5, 96], [46, 45, 184, 0, 249, 54, 5, 44, 42, 21, 4, 4, 96, 46, 42, 21, 4, 5, 96, 46, 182, 0, 251, 54, 6, 167, 4, 232, 43, 42, 21, 4, 4, 96, 46, 42, 21, 4, 5, 96, 46, 45, 184, 0, 252, 54, 5, 44, 42, 21, 4, 4, 96, 46, 42, 21, 4, 5, 96, 46, 182, 0, 254, 54], [6, 167, 4, 192, 43, 42, 21, 4, 4, 96, 46, 42, 21, 4, 5, 96, 46, 45, 184, 0, 255, 54, 5, 44, 42, 21, 4, 4, 96, 46, 42, 21, 4, 5, 96, 46, 182, 1, 1, 54, 6, 167, 4, 152, 43, 42, 21, 4, 4, 96, 46, 42, 21, 4, 5, 96, 46, 45, 184, 1, 2, 54, 5, 44], [42, 21, 4, 4, 96, 46, 42, 21, 4, 5, 96, 46, 182, 1, 4, 54, 6, 167, 4, 112, 43, 42, 21, 4, 4, 96, 46, 42, 21, 4, 5, 96, 46, 45, 184, 1, 5, 54, 5, 44, 42, 21, 4, 4, 96, 46, 42, 21, 4, 5, 96, 46, 182, 1, 7, 54, 6, 167, 4, 72, 43, 42, 21, 4], [4, 96, 46, 42, 21, 4, 5, 96, 46, 45, 184, 1, 8, 54, 5, 44, 42, 21, 4, 4, 96, 46, 42, 21, 4, 5, 96, 46, 182, 1, 10, 54, 6, 167, 4, 32, 43, 42, 21, 4, 4, 96, 46, 45, 184, 1, 11, 54, 5, 44, 42, 21, 4, 4, 96, 46, 182, 1, 13, 54, 6, 167, 4, 4], [43, 42, 21, 4, 4, 96, 46, 45, 184, 1, 14, 54, 5, 44, 42, 21, 4, 4, 96, 46, 182, 1, 16, 54, 6, 167, 3, 232, 43, 42, 21, 4, 4, 96, 46, 42, 21, 4, 5, 96, 46, 45, 184, 1, 17, 54, 5, 44, 42, 21, 4, 4, 96, 46, 42, 21, 4, 5, 96, 46, 182, 1, 19, 54], [6, 167, 3, 192, 43, 42, 21, 4, 4, 96, 46, 42, 21, 4, 5, 96, 46, 45, 184, 1, 20, 54, 5, 44, 42, 21, 4, 4, 96, 46, 42, 21, 4, 5, 96, 46, 182, 1, 22, 54, 6, 167, 3, 152, 43, 42, 21, 4, 4, 96, 46, 42, 21, 4, 5, 96, 46, 42, 21, 4, 6, 96, 46, 45], [184, 1, 23, 54, 5, 44, 42, 21, 4, 4, 96, 46, 42, 21, 4, 5, 96, 46, 42, 21, 4, 6, 96, 46, 182, 1, 26, 54, 6, 167, 3, 100, 43, 42, 21, 4, 4, 96, 46, 42, 21, 4, 5, 96, 46, 45, 184, 1, 27, 54, 5, 44, 42, 21, 4, 4, 96, 46, 42, 21, 4, 5, 96, 46], [182, 1, 29, 54, 6, 167, 3, 60, 43, 42, 21, 4, 4, 96, 46, 45, 184, 1, 30, 54, 5, 44, 42, 21, 4, 4, 96, 46, 182, 1, 32, 54, 6, 167, 3, 32, 43, 42, 21, 4, 4, 96, 46, 45, 184, 1, 33, 54, 5, 44, 42, 21, 4, 4, 96, 46, 182, 1, 35, 54, 6, 167, 3, 4], [43, 182, 1, 36, 87, 44, 182, 1, 39, 87, 167, 2, 247, 43, 182, 1, 40, 87, 44, 182, 1, 43, 87, 167, 2, 234, 43, 42, 21, 4, 4, 96, 46, 45, 184, 1, 44, 54, 5, 44, 42, 21, 4, 4, 96, 46, 182, 1, 46, 54, 6, 167, 2, 206, 43, 42, 21, 4, 4, 96, 46, 45, 184, 1], [47, 54, 5, 44, 42, 21, 4, 4, 96, 46, 182, 1, 49, 54, 6, 167, 2, 178, 43, 42, 21, 4, 4, 96, 46, 45, 184, 1, 50, 54, 5, 44, 42, 21, 4, 4, 96, 46, 182, 1, 52, 54, 6, 167, 2, 150, 43, 182, 1, 53, 57, 5, 44, 182, 1, 57, 57, 7, 167, 2, 135, 43, 182, 1], [58, 141, 57, 5, 44, 182, 1, 62, 141, 57, 7, 167, 2, 118, 43, 42, 21, 4, 4, 96, 46, 42, 21, 4, 5, 96, 46, 45, 184, 1, 63, 54, 5, 44, 42, 21, 4, 4, 96, 46, 42, 21, 4, 5, 96, 46, 182, 1, 65, 54, 6, 167, 2, 78, 43, 42, 21, 4, 4, 96, 46, 42, 21, 4], [5, 96, 46, 45, 184, 1, 66, 54, 5, 44, 42, 21, 4, 4, 96, 46, 42, 21, 4, 5, 96, 46, 182, 1, 68, 54, 6, 167, 2, 38, 43, 42, 21, 4, 4, 96, 46, 45, 184, 1, 69, 54, 5, 44, 42, 21, 4, 4, 96, 46, 182, 1, 71, 54, 6, 167, 2, 10, 43, 42, 21, 4, 4, 96], [46, 45, 184, 1, 72, 54, 5, 44, 42, 21, 4, 4, 96, 46, 182, 1, 74, 54, 6, 167, 1, 238, 43, 42, 21, 4, 4, 96, 46, 45, 184, 1, 75, 54, 5, 44, 42, 21, 4, 4, 96, 46, 182, 1, 77, 54, 6, 167, 1, 210, 43, 182, 1, 78, 87, 44, 182, 1, 81, 87, 167, 1, 197, 43], [42, 21, 4, 4, 96, 46, 45, 184, 1, 82, 54, 5, 44, 42, 21, 4, 4, 96, 46, 182, 1, 84, 54, 6, 167, 1, 169, 43, 42, 21, 4, 4, 96, 46, 45, 184, 1, 85, 54, 5, 44, 42, 21, 4, 4, 96, 46, 182, 1, 87, 54, 6, 167, 1, 141, 43, 42, 21, 4, 4, 96, 46, 42, 21], [4, 5, 96, 46, 45, 184, 1, 88, 54, 5, 44, 42, 21, 4, 4, 96, 46, 42, 21, 4, 5, 96, 46, 182, 1, 90, 54, 6, 167, 1, 101, 43, 182, 1, 91, 57, 5, 44, 182, 1, 94, 57, 7, 167, 1, 86, 43, 42, 21, 4, 4, 96, 46, 42, 21, 4, 5, 96, 46, 45, 184, 1, 95, 54], [5, 44, 42, 21, 4, 4, 96, 46, 42, 21, 4, 5, 96, 46, 182, 1, 97, 54, 6, 167, 1, 46, 43, 42, 21, 4, 4, 96, 46, 45, 184, 1, 98, 54, 5, 44, 42, 21, 4, 4, 96, 46, 182, 1, 100, 54, 6, 167, 1, 18, 43, 42, 21, 4, 4, 96, 46, 42, 21, 4, 5, 96, 46, 42], [21, 4, 6, 96, 46, 45, 184, 1, 101, 54, 5, 44, 42, 21, 4, 4, 96, 46, 42, 21, 4, 5, 96, 46, 42, 21, 4, 6, 96, 46, 182, 1, 103, 54, 6, 167, 0, 222, 43, 42, 21, 4, 4, 96, 46, 45, 184, 1, 104, 54, 5, 44, 42, 21, 4, 4, 96, 46, 182, 1, 106, 54, 6, 167], [0, 194, 43, 42, 21, 4, 4, 96, 46, 45, 184, 1, 107, 54, 5, 44, 42, 21, 4, 4, 96, 46, 182, 1, 109, 54, 6, 167, 0, 166, 43, 42, 21, 4, 4, 96, 46, 45, 184, 1, 110, 54, 5, 44, 42, 21, 4, 4, 96, 46, 182, 1, 112, 54, 6, 167, 0, 138, 43, 42, 21, 4, 4, 96], [46, 45, 184, 1, 113, 54, 5, 44, 42, 21, 4, 4, 96, 46, 182, 1, 115, 54, 6, 167, 0, 110, 43, 42, 21, 4, 4, 96, 46, 42, 21, 4, 5, 96, 46, 45, 184, 1, 116, 54, 5, 44, 42, 21, 4, 4, 96, 46, 42, 21, 4, 5, 96, 46, 182, 1, 118, 54, 6, 167, 0, 70, 43, 42], [21, 4, 4, 96, 46, 182, 1, 119, 87, 44, 42, 21, 4, 4, 96, 46, 182, 1, 122, 87, 167, 0, 45, 43, 182, 1, 123, 87, 44, 182, 1, 126, 87, 167, 0, 32, 43, 182, 1, 127, 87, 44, 182, 1, 130, 87, 167, 0, 19, 43, 45, 184, 1, 131, 54, 5, 44, 182, 1, 134, 54, 6, 167, 0], [3, 132, 4, 6, 167, 247, 19, 4, 172]]
/-- rows of 64 -/
def dk_ok : List (List Nat) → Bool
  | [] => true
  | [_] => true
  | r :: s :: t => decide (r.length = 64) && dk_ok (s :: t)
theorem dk_fl : ∀ (L : List (List Nat)) (a b x : Nat) (row : List Nat), dk_ok L = true → L[a]? = some row → row[b]? = some x → L.flatten[64 * a + b]? = some x := by
  intro L
  induction L with
  | nil => intro a b x row _ h _; cases h
  | cons r t ih =>
    intro a b x row hk h hx
    cases a with
    | zero =>
      cases h
      have hb : b < r.length := (List.getElem?_eq_some_iff.mp hx).1
      show (r ++ t.flatten)[64 * 0 + b]? = some x
      rw [show 64 * 0 + b = b by omega, List.getElem?_append_left hb]
      exact hx
    | succ a =>
      cases t with
      | nil => cases h
      | cons s t =>
        have hk : (decide (r.length = 64) && dk_ok (s :: t)) = true := hk
        rw [Bool.and_eq_true] at hk
        have hr := of_decide_eq_true hk.1
        show (r ++ (s :: t).flatten)[64 * (a + 1) + b]? = some x
        rw [List.getElem?_append_right (by omega), show 64 * (a + 1) + b - r.length = 64 * a + b by omega]
        exact ih a b x row hk.2 h hx
/-- the byte at a place -/
def DB (c : ByteArray) (i b : Nat) : Prop := ∃ h : i < c.size, (c[i]'h).toNat = b
theorem dk_bt {c : ByteArray} {L : List Nat} (hL : c.data.toList.map UInt8.toNat = L) {i b : Nat} (h : L[i]? = some b) : DB c i b := by
  rw [← hL, List.getElem?_map] at h
  cases hu : c.data.toList[i]? with
  | none => rw [hu] at h; cases h
  | some u =>
    rw [hu] at h
    cases h
    obtain ⟨hi, hv⟩ := List.getElem?_eq_some_iff.mp hu
    have hs : i < c.data.size := by rw [← Array.length_toList]; exact hi
    refine ⟨hs, ?_⟩
    show (c.data[i]'hs).toNat = u.toNat
    rw [← hv, Array.getElem_toList]
/-- two lists of numbers, compared from the front -/
def dk_eq : List Nat → List Nat → Bool
  | [], [] => true
  | a :: l, b :: m => Nat.beq a b && dk_eq l m
  | _, _ => false
theorem dk_eq_t : ∀ l m : List Nat, dk_eq l m = true → l = m := by
  intro l
  induction l with
  | nil =>
    intro m h
    cases m with
    | nil => rfl
    | cons b m => cases h
  | cons a l ih =>
    intro m h
    cases m with
    | nil => cases h
    | cons b m =>
      have h : (Nat.beq a b && dk_eq l m) = true := h
      rw [Bool.and_eq_true] at h
      rw [Nat.eq_of_beq_eq_true h.1, ih m h.2]
theorem dk_all : code.data.toList.map UInt8.toNat = dk_R.flatten := dk_eq_t _ _ (by decide +kernel)
theorem dk_k : dk_ok dk_R = true := by decide +kernel
theorem dk_at {i b : Nat} (a : Nat) {e : Nat} (h : (dk_R[a]?.bind (fun r => r[e]?)) = some b) (hi : 64 * a + e = i) : DB code i b := by
  cases hr : dk_R[a]? with
  | none => rw [hr] at h; cases h
  | some row =>
    rw [hr] at h
    subst hi
    exact dk_bt dk_all (dk_fl dk_R a e b row dk_k hr h)
section DKB
variable {c : ByteArray} {pc i j a b ix : Nat}
theorem dk_u1 (h : DB c i b) : (Jvm.ClassFile.Reader.u1 : Jvm.ClassFile.Decoder Nat) c i = .ok (b, i + 1) := by
  obtain ⟨h, e⟩ := h
  show (if h : i < c.size then (do set (i + 1); pure (c[i]'h).toNat : Jvm.ClassFile.Decoder Nat) else throw (Jvm.ClassFile.HasTruncated.truncated i)) c i = _
  rw [dif_pos h, e]
  rfl
theorem dk_bind {α β : Type} {x : α} {r : Jvm.ClassFile.Decoder α} {f : α → Jvm.ClassFile.Decoder β} (h : r c i = .ok (x, j)) : (r >>= f) c i = f x c j := by
  show Except.bind (r c i) (fun z => f z.1 c z.2) = _
  rw [h]
  rfl
theorem dk_u2 (h0 : DB c i a) (h1 : DB c (i + 1) b) : (Jvm.ClassFile.Reader.u2 : Jvm.ClassFile.Decoder Nat) c i = .ok (a * 256 + b, i + 2) := by
  unfold Jvm.ClassFile.Reader.u2
  rw [dk_bind (dk_u1 h0), dk_bind (dk_u1 h1)]
  rfl
theorem dk_s2 (h0 : DB c i a) (h1 : DB c (i + 1) b) : (Jvm.ClassFile.Reader.s2 : Jvm.ClassFile.Decoder Int) c i = .ok (Jvm.ClassFile.Reader.signed 16 (a * 256 + b), i + 2) := by
  show Except.bind ((Jvm.ClassFile.Reader.u2 : Jvm.ClassFile.Decoder Nat) c i) (fun z => Except.ok (Jvm.ClassFile.Reader.signed 16 z.1, z.2)) = _
  rw [dk_u2 h0 h1]
  rfl
theorem dk_dec {x : Jvm.ClassFile.Instr} {n : Nat} (h : Jvm.ClassFile.Decoder.instr pc c pc = .ok (x, n)) : decode c pc = .ok (x, n - pc) := by
  show Except.bind (Jvm.ClassFile.Decoder.instr pc c pc) (fun z => Except.ok (z.1, z.2 - pc)) = _
  rw [h]
  rfl
set_option maxRecDepth 100000 in
theorem dk_iconst_0 (h0 : DB c pc 3) : decode c pc = .ok (.iconst 0, 1) := by
  have e : Jvm.ClassFile.Decoder.instr pc c pc = .ok (.iconst 0, pc + 1) := by
    unfold Jvm.ClassFile.Decoder.instr
    refine (dk_bind (dk_u1 h0)).trans ?_
    rfl
  rw [dk_dec e, show pc + 1 - pc = 1 by omega]
set_option maxRecDepth 100000 in
theorem dk_iconst_1 (h0 : DB c pc 4) : decode c pc = .ok (.iconst 1, 1) := by
  have e : Jvm.ClassFile.Decoder.instr pc c pc = .ok (.iconst 1, pc + 1) := by
    unfold Jvm.ClassFile.Decoder.instr
    refine (dk_bind (dk_u1 h0)).trans ?_
    rfl
  rw [dk_dec e, show pc + 1 - pc = 1 by omega]
set_option maxRecDepth 100000 in
theorem dk_iconst_2 (h0 : DB c pc 5) : decode c pc = .ok (.iconst 2, 1) := by
  have e : Jvm.ClassFile.Decoder.instr pc c pc = .ok (.iconst 2, pc + 1) := by
    unfold Jvm.ClassFile.Decoder.instr
    refine (dk_bind (dk_u1 h0)).trans ?_
    rfl
  rw [dk_dec e, show pc + 1 - pc = 1 by omega]
set_option maxRecDepth 100000 in
theorem dk_iconst_3 (h0 : DB c pc 6) : decode c pc = .ok (.iconst 3, 1) := by
  have e : Jvm.ClassFile.Decoder.instr pc c pc = .ok (.iconst 3, pc + 1) := by
    unfold Jvm.ClassFile.Decoder.instr
    refine (dk_bind (dk_u1 h0)).trans ?_
    rfl
  rw [dk_dec e, show pc + 1 - pc = 1 by omega]
set_option maxRecDepth 100000 in
theorem dk_iconst_4 (h0 : DB c pc 7) : decode c pc = .ok (.iconst 4, 1) := by
  have e : Jvm.ClassFile.Decoder.instr pc c pc = .ok (.iconst 4, pc + 1) := by
    unfold Jvm.ClassFile.Decoder.instr
    refine (dk_bind (dk_u1 h0)).trans ?_
    rfl
  rw [dk_dec e, show pc + 1 - pc = 1 by omega]
set_option maxRecDepth 100000 in
theorem dk_iconst_5 (h0 : DB c pc 8) : decode c pc = .ok (.iconst 5, 1) := by
  have e : Jvm.ClassFile.Decoder.instr pc c pc = .ok (.iconst 5, pc + 1) := by
    unfold Jvm.ClassFile.Decoder.instr
    refine (dk_bind (dk_u1 h0)).trans ?_
    rfl
  rw [dk_dec e, show pc + 1 - pc = 1 by omega]
set_option maxRecDepth 100000 in
theorem dk_aload_0 (h0 : DB c pc 42) : decode c pc = .ok (.aload_n 0, 1) := by
  have e : Jvm.ClassFile.Decoder.instr pc c pc = .ok (.aload_n 0, pc + 1) := by
    unfold Jvm.ClassFile.Decoder.instr
    refine (dk_bind (dk_u1 h0)).trans ?_
    rfl
  rw [dk_dec e, show pc + 1 - pc = 1 by omega]
set_option maxRecDepth 100000 in
theorem dk_aload_1 (h0 : DB c pc 43) : decode c pc = .ok (.aload_n 1, 1) := by
  have e : Jvm.ClassFile.Decoder.instr pc c pc = .ok (.aload_n 1, pc + 1) := by
    unfold Jvm.ClassFile.Decoder.instr
    refine (dk_bind (dk_u1 h0)).trans ?_
    rfl
  rw [dk_dec e, show pc + 1 - pc = 1 by omega]
set_option maxRecDepth 100000 in
theorem dk_aload_2 (h0 : DB c pc 44) : decode c pc = .ok (.aload_n 2, 1) := by
  have e : Jvm.ClassFile.Decoder.instr pc c pc = .ok (.aload_n 2, pc + 1) := by
    unfold Jvm.ClassFile.Decoder.instr
    refine (dk_bind (dk_u1 h0)).trans ?_
    rfl
  rw [dk_dec e, show pc + 1 - pc = 1 by omega]
set_option maxRecDepth 100000 in
theorem dk_aload_3 (h0 : DB c pc 45) : decode c pc = .ok (.aload_n 3, 1) := by
  have e : Jvm.ClassFile.Decoder.instr pc c pc = .ok (.aload_n 3, pc + 1) := by
    unfold Jvm.ClassFile.Decoder.instr
    refine (dk_bind (dk_u1 h0)).trans ?_
    rfl
  rw [dk_dec e, show pc + 1 - pc = 1 by omega]
set_option maxRecDepth 100000 in
theorem dk_iaload (h0 : DB c pc 46) : decode c pc = .ok (.iaload, 1) := by
  have e : Jvm.ClassFile.Decoder.instr pc c pc = .ok (.iaload, pc + 1) := by
    unfold Jvm.ClassFile.Decoder.instr
    refine (dk_bind (dk_u1 h0)).trans ?_
    rfl
  rw [dk_dec e, show pc + 1 - pc = 1 by omega]
set_option maxRecDepth 100000 in
theorem dk_iadd (h0 : DB c pc 96) : decode c pc = .ok (.iadd, 1) := by
  have e : Jvm.ClassFile.Decoder.instr pc c pc = .ok (.iadd, pc + 1) := by
    unfold Jvm.ClassFile.Decoder.instr
    refine (dk_bind (dk_u1 h0)).trans ?_
    rfl
  rw [dk_dec e, show pc + 1 - pc = 1 by omega]
set_option maxRecDepth 100000 in
theorem dk_pop (h0 : DB c pc 87) : decode c pc = .ok (.pop, 1) := by
  have e : Jvm.ClassFile.Decoder.instr pc c pc = .ok (.pop, pc + 1) := by
    unfold Jvm.ClassFile.Decoder.instr
    refine (dk_bind (dk_u1 h0)).trans ?_
    rfl
  rw [dk_dec e, show pc + 1 - pc = 1 by omega]
set_option maxRecDepth 100000 in
theorem dk_iload (h0 : DB c pc 21) (h1 : DB c (pc + 1) a) : decode c pc = .ok (.iload a, 2) := by
  have e : Jvm.ClassFile.Decoder.instr pc c pc = .ok (.iload a, pc + 1 + 1) := by
    unfold Jvm.ClassFile.Decoder.instr
    refine (dk_bind (dk_u1 h0)).trans ?_
    show ((Jvm.ClassFile.Reader.u1 >>= fun x => pure (.iload x)) : Jvm.ClassFile.Decoder Jvm.ClassFile.Instr) c (pc + 1) = _
    rw [dk_bind (dk_u1 h1)]
    rfl
  rw [dk_dec e, show pc + 1 + 1 - pc = 2 by omega]
set_option maxRecDepth 100000 in
theorem dk_istore (h0 : DB c pc 54) (h1 : DB c (pc + 1) a) : decode c pc = .ok (.istore a, 2) := by
  have e : Jvm.ClassFile.Decoder.instr pc c pc = .ok (.istore a, pc + 1 + 1) := by
    unfold Jvm.ClassFile.Decoder.instr
    refine (dk_bind (dk_u1 h0)).trans ?_
    show ((Jvm.ClassFile.Reader.u1 >>= fun x => pure (.istore x)) : Jvm.ClassFile.Decoder Jvm.ClassFile.Instr) c (pc + 1) = _
    rw [dk_bind (dk_u1 h1)]
    rfl
  rw [dk_dec e, show pc + 1 + 1 - pc = 2 by omega]
set_option maxRecDepth 100000 in
theorem dk_dstore (h0 : DB c pc 57) (h1 : DB c (pc + 1) a) : decode c pc = .ok (.dstore a, 2) := by
  have e : Jvm.ClassFile.Decoder.instr pc c pc = .ok (.dstore a, pc + 1 + 1) := by
    unfold Jvm.ClassFile.Decoder.instr
    refine (dk_bind (dk_u1 h0)).trans ?_
    show ((Jvm.ClassFile.Reader.u1 >>= fun x => pure (.dstore x)) : Jvm.ClassFile.Decoder Jvm.ClassFile.Instr) c (pc + 1) = _
    rw [dk_bind (dk_u1 h1)]
    rfl
  rw [dk_dec e, show pc + 1 + 1 - pc = 2 by omega]
set_option maxRecDepth 100000 in
theorem dk_invokevirtual {ix : Nat} (h0 : DB c pc 182) (h1 : DB c (pc + 1) a) (h2 : DB c (pc + 1 + 1) b) (hx : a * 256 + b = ix) : decode c pc = .ok (.invokevirtual ix, 3) := by
  have e : Jvm.ClassFile.Decoder.instr pc c pc = .ok (.invokevirtual ix, pc + 1 + 2) := by
    unfold Jvm.ClassFile.Decoder.instr
    refine (dk_bind (dk_u1 h0)).trans ?_
    show ((Jvm.ClassFile.Reader.u2 >>= fun x => pure (.invokevirtual x)) : Jvm.ClassFile.Decoder Jvm.ClassFile.Instr) c (pc + 1) = _
    rw [dk_bind (dk_u2 h1 h2), hx]
    rfl
  rw [dk_dec e, show pc + 1 + 2 - pc = 3 by omega]
set_option maxRecDepth 100000 in
theorem dk_invokestatic {ix : Nat} (h0 : DB c pc 184) (h1 : DB c (pc + 1) a) (h2 : DB c (pc + 1 + 1) b) (hx : a * 256 + b = ix) : decode c pc = .ok (.invokestatic ix, 3) := by
  have e : Jvm.ClassFile.Decoder.instr pc c pc = .ok (.invokestatic ix, pc + 1 + 2) := by
    unfold Jvm.ClassFile.Decoder.instr
    refine (dk_bind (dk_u1 h0)).trans ?_
    show ((Jvm.ClassFile.Reader.u2 >>= fun x => pure (.invokestatic x)) : Jvm.ClassFile.Decoder Jvm.ClassFile.Instr) c (pc + 1) = _
    rw [dk_bind (dk_u2 h1 h2), hx]
    rfl
  rw [dk_dec e, show pc + 1 + 2 - pc = 3 by omega]
set_option maxRecDepth 100000 in
theorem dk_goto {ix : Int} (h0 : DB c pc 167) (h1 : DB c (pc + 1) a) (h2 : DB c (pc + 1 + 1) b) (hx : Jvm.ClassFile.Reader.signed 16 (a * 256 + b) = ix) : decode c pc = .ok (.goto ix, 3) := by
  have e : Jvm.ClassFile.Decoder.instr pc c pc = .ok (.goto ix, pc + 1 + 2) := by
    unfold Jvm.ClassFile.Decoder.instr
    refine (dk_bind (dk_u1 h0)).trans ?_
    show ((Jvm.ClassFile.Reader.s2 >>= fun x => pure (.goto x)) : Jvm.ClassFile.Decoder Jvm.ClassFile.Instr) c (pc + 1) = _
    rw [dk_bind (dk_s2 h1 h2), hx]
    rfl
  rw [dk_dec e, show pc + 1 + 2 - pc = 3 by omega]
end DKB
