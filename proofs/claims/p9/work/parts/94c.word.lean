/-! ===== words, of both readers (own work) ===== -/
section PAR3
variable {g g' G H K : gH} {B F : Int → Int} {a b c d e i j k l m n p q s t u v w x y z : Int} {r : Nat}
/-- the r-th word of the readers -/
def wd (r : Nat) : List Nat := ev_tx.getD r []
theorem gx : ∀ r : Nat, r < 13 → gtx (2000000 + (r : Int)) = wd r ∧ gtx (2000013 + (r : Int)) = wd r := by decide +kernel
theorem wd_ok : ∀ r : Nat, r < 13 → 0 < (wd r).length ∧ (wd r).length < 9 ∧ ∀ z ∈ wd r, 97 ≤ z ∧ z ≤ 122 := by decide +kernel
theorem wd_at (hr : r < 13) {j : Nat} (hj : j < (wd r).length) : 97 ≤ (wd r).getD j 0 ∧ (wd r).getD j 0 ≤ 122 := by
  rw [List.getD_eq_getElem?_getD, List.getElem?_eq_getElem hj]
  exact (wd_ok r hr).2.2 _ (List.getElem_mem hj)
/-- the token from s to t is the r-th word -/
def WM (F : Int → Int) (s t : Int) (r : Nat) : Prop := t - s = ((wd r).length : Nat) ∧ ∀ x : Int, 0 ≤ x → x < ((wd r).length : Nat) → F (s + x) = ((wd r).getD x.toNat 0 : Nat)
theorem WM_BF (hr : r < 13) (hb : BR B F n) (h0 : 0 ≤ s) (ht : t ≤ n) : WM B s t r ↔ WM F s t r := by
  constructor
  · rintro ⟨h1, h2⟩
    refine ⟨h1, fun x x0 x1 => ?_⟩
    have e := h2 x x0 x1
    have w1 := wd_at hr (j := x.toNat) (by omega)
    have k1 := (BR_k hb (k := s + x) (by omega) (by omega)).2.2
    omega
  · rintro ⟨h1, h2⟩
    refine ⟨h1, fun x x0 x1 => ?_⟩
    have e := h2 x x0 x1
    have w1 := wd_at hr (j := x.toNat) (by omega)
    have k1 := (BR_k hb (k := s + x) (by omega) (by omega)).2.2
    have k2 := (hb (s + x) (by omega) (by omega)).1
    omega
theorem WM_kind (hr : r < 13) (h : WM F s t r) (ht : IsT F n s k t) : k = 1 := by
  have hl := (wd_ok r hr).1
  have e := h.2 0 (by omega) (by omega)
  have w1 := wd_at hr (j := (0 : Int).toNat) hl
  rw [show s + 0 = s by omega] at e
  rcases ht with ⟨a1, a2, a3⟩ | ⟨a1, a2, a3⟩
  · have := h.1
    omega
  · have d1 := kO_d (c := F s)
    omega
/-- two words are two -/
theorem WM_two (h : WM F s t r) {q : Nat} (h' : WM F s t q) : (wd r).length = (wd q).length ∧ (0 < (wd r).length → (wd r).getD 0 0 = (wd q).getD 0 0) := by
  have h1 := h.1
  have h2 := h'.1
  refine ⟨by omega, fun z => ?_⟩
  have e1 := h.2 0 (by omega) (by omega)
  have e2 := h'.2 0 (by omega) (by omega)
  rw [e1] at e2
  exact Int.ofNat.inj e2
theorem aS_isWord (h : CR g G) (h5 : 0 ≤ G 575 5 ∧ G 575 5 ≤ G 575 6 ∧ G 575 6 ≤ G 576 1) (hr : r < 13) (hw : w = 2000000 + (r : Int)) : ∃ y, fS_isWord G 575 w = some y ∧ (y = 0 ∨ y = 1) ∧ (y = 1 ↔ WM (G 577) (G 575 5) (G 575 6) r) := by
  have hf := fu_ge
  have hl := rlen h
  have ew := (gx r hr).1
  rw [← hw] at ew
  have el : gtl w = ((wd r).length : Nat) := by unfold gtl; rw [ew]
  have ec : ∀ x : Int, gch w x = ((wd r).getD x.toNat 0 : Nat) := fun x => by unfold gch; rw [ew]
  have hlen := (wd_ok r hr).2.1
  have hv : (2000000 : Int) ≤ w ∧ w < 2000026 := by omega
  have key0 : ∀ (n : Nat) (x : Int), lS_isWord_24 G 575 w (n + 1) 0 x = some 0 := by
    intro n x
    show bS_isWord_24 G 575 w (lS_isWord_24 G 575 w n) 0 x = _
    rw [bS_isWord_24, if_pos rfl]
  have key : G 575 6 - G 575 5 = gtl w → ∀ (m n : Nat) (j : Int), (gtl w - j).toNat = m → m + 1 < n → 0 ≤ j → j ≤ gtl w → ∃ y, lS_isWord_24 G 575 w n 1 j = some y ∧ (y = 0 ∨ y = 1) ∧ (y = 1 ↔ ∀ x, j ≤ x → x < gtl w → G 577 (G 575 5 + x) = gch w x) := by
    intro hlen2 m
    induction m with
    | zero =>
      intro n j hm hn j0 j1
      obtain ⟨n, rfl⟩ : ∃ k, n = k + 1 := ⟨n - 1, by omega⟩
      show ∃ y, bS_isWord_24 G 575 w (lS_isWord_24 G 575 w n) 1 j = some y ∧ _
      rw [bS_isWord_24, if_neg f0, if_pos hv, if_neg (by omega)]
      exact ⟨1, rfl, Or.inr rfl, fun _ x a1 a2 => by omega, fun _ => rfl⟩
    | succ m ih =>
      intro n j hm hn j0 j1
      obtain ⟨n, rfl⟩ : ∃ k, n = k + 1 := ⟨n - 1, by omega⟩
      obtain ⟨n, rfl⟩ : ∃ k, n = k + 1 := ⟨n - 1, by omega⟩
      show ∃ y, bS_isWord_24 G 575 w (lS_isWord_24 G 575 w (n + 1)) 1 j = some y ∧ _
      have hlt : j < gtl w := by omega
      rw [bS_isWord_24, if_neg f0, if_pos hv, if_pos hlt, r576 h, if_pos kd_576, w32_r (by omega), aI_at h (by omega) (by omega), bdP_s, if_pos ⟨hv, j0, hlt⟩, w32_r (by omega)]
      by_cases he : G 577 (G 575 5 + j) = gch w j
      · rw [if_pos he]
        obtain ⟨y, y1, y2, y3⟩ := ih (n + 1) (j + 1) (by omega) (by omega) (by omega) (by omega)
        refine ⟨y, y1, y2, fun z x a1 a2 => ?_, fun z => y3.mpr (fun x a1 a2 => z x (by omega) a2)⟩
        by_cases ex : x = j
        · rw [ex]; exact he
        · exact y3.mp z x (by omega) a2
      · rw [if_neg he, key0]
        exact ⟨0, rfl, Or.inl rfl, fun z => absurd z (by omega), fun z => absurd (z j (by omega) hlt) he⟩
  rw [fS_isWord, if_pos hv, w32_r (by omega)]
  by_cases c : G 575 6 - G 575 5 = gtl w
  · rw [if_pos c]
    obtain ⟨y, y1, y2, y3⟩ := key c _ fu 0 rfl (by omega) (by omega) (by omega)
    refine ⟨y, y1, y2, fun z => ⟨by rw [← el]; exact c, fun x x0 x1 => ?_⟩, fun z => y3.mpr (fun x x0 x1 => ?_)⟩
    · rw [← ec]; exact y3.mp z x x0 (by rw [el]; exact x1)
    · rw [ec]; exact z.2 x x0 (by rw [← el]; exact x1)
  · rw [if_neg c]
    obtain ⟨n, hn⟩ : ∃ n, fu = n + 1 := ⟨fu - 1, by omega⟩
    rw [hn, key0]
    refine ⟨0, rfl, Or.inl rfl, fun z => absurd z (by omega), fun z => absurd ?_ c⟩
    rw [el]; exact z.1
theorem aM_isWord (h : MInv G) (hp : TK G) (hr : r < 13) (hw : w = 2000013 + (r : Int)) : ∃ y, fM_isWord G 624 w = some y ∧ (y = 0 ∨ y = 1) ∧ (y = 1 ↔ (G 624 18 = 1 ∧ WM (G 631) (G 624 16) (G 624 15) r)) := by
  have hf := fu_ge
  have h9 : G 624 9 = 631 := h.1.2.2.2.2.2.1
  have h10 := h.2.2.2.2.2.1
  have ew := (gx r hr).2
  rw [← hw] at ew
  have el : gtl w = ((wd r).length : Nat) := by unfold gtl; rw [ew]
  have ec : ∀ x : Int, gch w x = ((wd r).getD x.toNat 0 : Nat) := fun x => by unfold gch; rw [ew]
  have hlen := (wd_ok r hr).2.1
  have hv : (2000000 : Int) ≤ w ∧ w < 2000026 := by omega
  unfold TK at hp
  rw [fM_isWord]
  by_cases c1 : G 624 18 = 1
  · rw [if_pos c1, fM_tokenLength, bdP_s, if_pos hv, w32_r (by omega)]
    by_cases c2 : G 624 15 - G 624 16 = gtl w
    · rw [if_pos c2]
      have key : ∀ (m n : Nat) (j : Int), (gtl w - j).toNat = m → m < n → 0 ≤ j → j ≤ gtl w → ∃ y, lM_isWord_23 G 624 w n j = some y ∧ (y = 0 ∨ y = 1) ∧ (y = 1 ↔ ∀ x, j ≤ x → x < gtl w → G 631 (G 624 16 + x) = gch w x) := by
        intro m
        induction m with
        | zero =>
          intro n j hm hn j0 j1
          obtain ⟨n, rfl⟩ : ∃ k, n = k + 1 := ⟨n - 1, by omega⟩
          show ∃ y, bM_isWord_23 G 624 w (lM_isWord_23 G 624 w n) j = some y ∧ _
          rw [bM_isWord_23, if_pos hv, if_neg (by omega)]
          exact ⟨1, rfl, Or.inr rfl, fun _ x a1 a2 => by omega, fun _ => rfl⟩
        | succ m ih =>
          intro n j hm hn j0 j1
          obtain ⟨n, rfl⟩ : ∃ k, n = k + 1 := ⟨n - 1, by omega⟩
          have hlt : j < gtl w := by omega
          show ∃ y, bM_isWord_23 G 624 w (lM_isWord_23 G 624 w n) j = some y ∧ _
          rw [bM_isWord_23, if_pos hv, if_pos hlt, w32_r (show -2147483648 ≤ G 624 16 + j ∧ G 624 16 + j < 2147483648 by omega), h9, if_pos (show kd 631 = 20 ∧ (0 : Int) ≤ G 624 16 + j ∧ G 624 16 + j < sz 631 by rw [sz_631]; exact ⟨kd_631, by omega, by omega⟩), if_pos ⟨hv, j0, hlt⟩, w32_r (by omega)]
          by_cases he : G 631 (G 624 16 + j) = gch w j
          · rw [if_pos he]
            obtain ⟨y, y1, y2, y3⟩ := ih n (j + 1) (by omega) (by omega) (by omega) (by omega)
            refine ⟨y, y1, y2, fun z x a1 a2 => ?_, fun z => y3.mpr (fun x a1 a2 => z x (by omega) a2)⟩
            by_cases ex : x = j
            · rw [ex]; exact he
            · exact y3.mp z x (by omega) a2
          · rw [if_neg he]
            exact ⟨0, rfl, Or.inl rfl, fun z => absurd z (by omega), fun z => absurd (z j (by omega) hlt) he⟩
      have hlt9 : (gtl w).toNat < fu := by
        rw [el, Int.toNat_natCast]
        exact Nat.lt_trans hlen (Nat.lt_trans (by decide) hf)
      obtain ⟨y, y1, y2, y3⟩ := key (gtl w).toNat fu 0 (by rw [Int.sub_zero]) hlt9 (by omega) (by omega)
      refine ⟨y, y1, y2, fun z => ⟨c1, by rw [← el]; exact c2, fun x x0 x1 => ?_⟩, fun z => y3.mpr (fun x x0 x1 => ?_)⟩
      · rw [← ec]; exact y3.mp z x x0 (by rw [el]; exact x1)
      · rw [ec]; exact z.2.2 x x0 (by rw [← el]; exact x1)
    · rw [if_neg c2]
      refine ⟨0, rfl, Or.inl rfl, fun z => absurd z (by omega), fun z => absurd ?_ c2⟩
      rw [el]; exact z.2.1
  · rw [if_neg c1]
    exact ⟨0, rfl, Or.inl rfl, fun z => absurd z (by omega), fun z => absurd z.1 c1⟩
end PAR3
