/-! ===== the reference's output: the tree, print (own work) ===== -/
theorem cn_add {P Q R : Int → Bool} : ∀ (m : Nat) (k : Int), (∀ j, k ≤ j → j < k + m → P j = true → R j = true ∧ Q j = false) → (∀ j, k ≤ j → j < k + m → Q j = true → R j = true) → cn P m k + cn Q m k ≤ cn R m k := by
  intro m
  induction m with
  | zero => intro k _ _; exact Int.le_refl _
  | succ m ih =>
    intro k h1 h2
    rw [cn_s, cn_s, cn_s]
    have := ih (k + 1) (fun j j1 j2 => h1 j (by omega) (by omega)) (fun j j1 j2 => h2 j (by omega) (by omega))
    have a1 := h1 k (by omega) (by omega)
    have a2 := h2 k (by omega) (by omega)
    cases hp : P k with
    | true =>
      obtain ⟨b1, b2⟩ := a1 hp
      rw [b1, b2]
      simp only [Bool.false_eq_true, if_false, if_true]
      omega
    | false =>
      cases hq : Q k with
      | true => rw [a2 hq]; simp only [Bool.false_eq_true, if_false, if_true]; omega
      | false => simp only [Bool.false_eq_true, if_false]; split <;> omega
/-- the child of p on i's way to the root -/
def chd (f : Int → Int) : Nat → Int → Int → Int
  | 0, _, i => i
  | n + 1, p, i => if f i = p then i else chd f n p (f i)
def Bl (f : Int → Int) (p i : Int) : Bool := decide (i = p) || OV f p i
def Ql (f : Int → Int) (p k i : Int) : Bool := OV f p i && decide (chd f 40 p i < k)
section TREEB
variable {f : Int → Int} {p c i k m : Int}
theorem chd_c (hc : en f 40 c = true) (hc0 : c ≠ 0) (hf : f c = p) (hp : en f 40 p = true) : ∀ (n : Nat) (i : Int), en f n i = true → en f 40 i = true → Bl f c i = true → chd f n p i = c := by
  have hpc : OV f p c = true := by rw [OV_s hc hc0, if_pos hf]
  intro n
  induction n with
  | zero =>
    intro i hi hi4 hb
    have e : i = 0 := by simpa [en] using hi
    subst e
    have hb : (decide ((0 : Int) = c) || OV f c 0) = true := hb
    rw [OV_0, Bool.or_false] at hb
    exact absurd (of_decide_eq_true hb).symm hc0
  | succ n ih =>
    intro i hi hi4 hb
    have hb : (decide (i = c) || OV f c i) = true := hb
    rw [chd]
    by_cases e : i = c
    · subst e; rw [if_pos hf]
    · rw [decide_eq_false e, Bool.false_or] at hb
      have hi0 : i ≠ 0 := fun z => by rw [z, OV_0] at hb; cases hb
      have hup : en f n (f i) = true := by
        rcases en_s.mp hi with z | ⟨-, -, z⟩
        · exact absurd z hi0
        · exact z
      have hup4 := en_40 hup
      rw [OV_s hi4 hi0] at hb
      have hb' : Bl f c (f i) = true := by
        show (decide (f i = c) || OV f c (f i)) = true
        by_cases e2 : f i = c
        · rw [decide_eq_true e2, Bool.true_or]
        · rw [if_neg e2] at hb; rw [hb, Bool.or_true]
      have hne : ¬ f i = p := by
        intro e3
        rw [e3] at hb'
        have hb' : (decide (p = c) || OV f c p) = true := hb'
        by_cases e4 : p = c
        · rw [e4, OV_ir hc] at hpc; cases hpc
        · rw [decide_eq_false e4, Bool.false_or] at hb'
          have := OV_tr (p := c) (q := p) hc hp hpc hb'
          rw [OV_ir hc] at this; cases this
      rw [if_neg hne]
      exact ih _ hup hup4 hb'
/-- what stands below a child stands below p, and by that child -/
theorem Bl_Ql (hA : Acy f m) (hc : 0 < c ∧ c < m) (hf : f c = p) (hp : 0 ≤ p ∧ p < m) (hi : 0 ≤ i ∧ i < m) (hb : Bl f c i = true) : Ql f p (c + 1) i = true ∧ Ql f p c i = false := by
  have hce := hA c (by omega) hc.2
  have hpe := hA p hp.1 hp.2
  have hie := hA i hi.1 hi.2
  have hch := chd_c hce (by omega) hf hpe 40 i hie hie hb
  have hpc : OV f p c = true := by rw [OV_s hce (by omega), if_pos hf]
  have ho : OV f p i = true := by
    have hb : (decide (i = c) || OV f c i) = true := hb
    by_cases e : i = c
    · rw [e]; exact hpc
    · rw [decide_eq_false e, Bool.false_or] at hb
      exact OV_tr (p := p) (q := c) hie hce hb hpc
  constructor
  · show (OV f p i && decide (chd f 40 p i < c + 1)) = true
    rw [ho, hch, decide_eq_true (by omega)]; rfl
  · show (OV f p i && decide (chd f 40 p i < c)) = false
    rw [ho, hch, decide_eq_false (by omega)]; rfl
theorem Ql_mono {j : Int} (hkj : k ≤ j) (h : Ql f p k i = true) : Ql f p j i = true := by
  have h : (OV f p i && decide (chd f 40 p i < k)) = true := h
  show (OV f p i && decide (chd f 40 p i < j)) = true
  rw [Bool.and_eq_true] at h ⊢
  exact ⟨h.1, decide_eq_true (by have := of_decide_eq_true h.2; omega)⟩
theorem Nl_c (hA : Acy f m) (hm : m ≤ 40) (hc : 0 < c ∧ c < m) (hf : f c = p) (hp : 0 ≤ p ∧ p < m) {j : Int} (hcj : c < j) : cn (Ql f p c) m.toNat 0 + cn (Bl f c) m.toNat 0 ≤ cn (Ql f p j) m.toNat 0 := by
  have h1 := cn_add (P := Bl f c) (Q := Ql f p c) (R := Ql f p j) m.toNat 0 (fun i i0 i1 hb => by
    obtain ⟨a, b⟩ := Bl_Ql hA hc hf hp (i := i) (by omega) hb
    exact ⟨Ql_mono (by omega) a, b⟩) (fun i i0 i1 hq => Ql_mono (by omega) hq)
  omega
theorem Nl_p (hA : Acy f m) (hp : 0 ≤ p ∧ p < m) : cn (Ql f p k) m.toNat 0 + 1 ≤ cn (Bl f p) m.toNat 0 := by
  refine cn_lt (p := p) (fun j h => ?_) ?_ ?_ m.toNat 0 (by omega) (by omega)
  · have h : (OV f p j && decide (chd f 40 p j < k)) = true := h
    rw [Bool.and_eq_true] at h
    show (decide (j = p) || OV f p j) = true
    rw [h.1, Bool.or_true]
  · show (OV f p p && _) = false
    rw [OV_ir (hA p hp.1 hp.2), Bool.false_and]
  · show (decide (p = p) || _) = true
    rw [decide_eq_true rfl, Bool.true_or]
end TREEB
section MODEL23
variable {g G H K : gH} {p code t c a b k q gp d x y z w v n l : Int}
theorem vM_writeTree {r : Int → Int} (hW : WB r) : ∀ (n : Nat) (p : Int) (G : gH), MInv G → G 625 = r → (0 ≤ p ∧ p < r 0) → cn (Bl (up r) p) (r 0).toNat 0 ≤ n → G 624 23 + 6 * cn (Bl (up r) p) (r 0).toNat 0 ≤ 400 → ∃ H, fM_writeTree n G 624 p = some (0, H) ∧ WR G H (6 * cn (Bl (up r) p) (r 0).toNat 0 - 1) := by
  have hA := hW.2.2.1
  have hM := hW.1
  intro n
  induction n with
  | zero =>
    intro p G o e hp hn hg
    have := Nl_p (k := 0) hA hp
    have := (cn_bd (Ql (up r) p 0) (r 0).toNat 0).1
    omega
  | succ n ih =>
    intro p G o e hp hn hg
    generalize hN : cn (Bl (up r) p) (r 0).toNat 0 = N at *
    have hq : ∀ k, 0 ≤ cn (Ql (up r) p k) (r 0).toNat 0 ∧ cn (Ql (up r) p k) (r 0).toNat 0 + 1 ≤ N := fun k => ⟨(cn_bd _ _ _).1, by rw [← hN]; exact Nl_p hA hp⟩
    have loop : ∀ (m n' : Nat) (i c0 : Int) (G : gH), MInv G → G 625 = r → (i = -1 ∨ ((0 ≤ i ∧ i < r 0) ∧ ic r i p 0 = true ∧ 40 - i ≤ m)) → m < n' → G 624 23 + (if i = -1 then 0 else 6 * (N - 1 - cn (Ql (up r) p i) (r 0).toNat 0)) + 1 ≤ 400 → ∃ H, lM_writeTree_26 (fM_writeTree n) 624 p c0 n' i G = some (0, H) ∧ WR G H ((if i = -1 then 0 else 6 * (N - 1 - cn (Ql (up r) p i) (r 0).toNat 0)) + 1) := by
      intro m
      induction m with
      | zero =>
        intro n' i c0 G o e hi hn' hg
        obtain ⟨n', rfl⟩ : ∃ k, n' = k + 1 := ⟨n' - 1, by omega⟩
        have hi' : i = -1 := by omega
        rw [if_pos hi'] at hg ⊢
        obtain ⟨H, e1, w1⟩ := vM_write (c := 41) o (by omega)
        refine ⟨H, ?_, WR_l w1 (by omega)⟩
        show bM_writeTree_26 (fM_writeTree n) 624 p c0 (lM_writeTree_26 (fM_writeTree n) 624 p c0 n') i G = _
        rw [bM_writeTree_26, if_pos hi', e1, bdN_s]
      | succ m ihm =>
        intro n' i c0 G o e hi hn' hg
        obtain ⟨n', rfl⟩ : ∃ k, n' = k + 1 := ⟨n' - 1, by omega⟩
        by_cases hi1 : i = -1
        · rw [if_pos hi1] at hg ⊢
          obtain ⟨H, e1, w1⟩ := vM_write (c := 41) o (by omega)
          refine ⟨H, ?_, WR_l w1 (by omega)⟩
          show bM_writeTree_26 (fM_writeTree n) 624 p c0 (lM_writeTree_26 (fM_writeTree n) 624 p c0 n') i G = _
          rw [bM_writeTree_26, if_pos hi1, e1, bdN_s]
        · rw [if_neg hi1] at hg ⊢
          obtain ⟨i0, ii, i2⟩ : (0 ≤ i ∧ i < r 0) ∧ ic r i p 0 = true ∧ 40 - i ≤ (m + 1 : Nat) := by rcases hi with h | h; exact absurd h hi1; exact h
          obtain ⟨-, j2, j3⟩ := of_decide_eq_true ii
          have hc : 0 < i ∧ i < r 0 := by omega
          have hup : up r i = p := j2
          have hcn := fun j hj => Nl_c hA hM.2 hc hup hp (j := j) hj
          have hcn1 := hcn (i + 1) (by omega)
          have hq1 := hq (i + 1)
          have hqi := hq i
          -- the rest: the child, then the next
          have rest : ∀ K, MInv K → K 625 = r → K 624 23 + 6 * (N - 1 - cn (Ql (up r) p i) (r 0).toNat 0) ≤ 400 → ∃ H, jM_writeTree_42 (fM_writeTree n) (lM_writeTree_26 (fM_writeTree n) 624 p c0 n') K 624 p c0 i = some (0, H) ∧ WR K H (6 * (N - 1 - cn (Ql (up r) p i) (r 0).toNat 0)) := by
            intro K oK eK hK
            obtain ⟨K1, f1, w1⟩ := ih i K oK eK ⟨by omega, hc.2⟩ (by omega) (by omega)
            have b1 := w1.2.2.2.2.2
            have eK1 : K1 625 = r := w1.2.2.2.1.trans eK
            obtain ⟨c, f2, hc2⟩ := vM_nextChild (G := K1) (a := p) (k := i + 1) w1.1.1 (by rw [eK1]; exact hM) (by omega)
            rw [eK1] at hc2
            have hrem : (if c = -1 then 0 else 6 * (N - 1 - cn (Ql (up r) p c) (r 0).toNat 0)) + 6 * cn (Bl (up r) i) (r 0).toNat 0 ≤ 6 * (N - 1 - cn (Ql (up r) p i) (r 0).toNat 0) := by
              by_cases z : c = -1
              · rw [if_pos z]; omega
              · rw [if_neg z]
                rcases hc2 with ⟨z1, -⟩ | ⟨z1, -⟩
                · exact absurd z1 z
                · have := hcn c (by omega)
                  omega
            obtain ⟨L, f3, w2⟩ := ihm n' c c0 K1 w1.1 eK1 (by
              rcases hc2 with ⟨z1, -⟩ | ⟨z1, z2, -⟩
              · exact Or.inl z1
              · exact Or.inr ⟨by omega, z2, by omega⟩) (by omega) (by omega)
            refine ⟨L, ?_, WR_l (WR_t w1 w2) (by omega)⟩
            rw [jM_writeTree_42, f1, bdN_s, w32_r (by omega), f2, bdP_s, f3]
          show ∃ H, bM_writeTree_26 (fM_writeTree n) 624 p c0 (lM_writeTree_26 (fM_writeTree n) 624 p c0 n') i G = some (0, H) ∧ _
          rw [bM_writeTree_26, if_neg hi1]
          by_cases hc0 : i = c0
          · rw [if_pos hc0]
            obtain ⟨H, f1, w1⟩ := rest G o e (by omega)
            exact ⟨H, f1, WR_l w1 (by omega)⟩
          · rw [if_neg hc0]
            obtain ⟨K, f1, w1⟩ := vM_write (c := 32) o (by omega)
            have b1 := w1.2.2.2.2.2
            obtain ⟨H, f2, w2⟩ := rest K w1.1 (w1.2.2.2.1.trans e) (by omega)
            rw [f1, bdN_s, f2]
            exact ⟨H, rfl, WR_l (WR_t w1 w2) (by omega)⟩
    have hq0 := hq 0
    show ∃ H, fbM_writeTree (fM_writeTree n) G 624 p = some (0, H) ∧ _
    obtain ⟨G1, f1, w1⟩ := vM_writeNumber (x := p) o (by omega) (by omega)
    have b1 := w1.2.2.2.2.2
    have e1 : G1 625 = r := w1.2.2.2.1.trans e
    obtain ⟨c, f2, hc2⟩ := vM_nextChild (G := G1) (a := p) (k := 0) w1.1.1 (by rw [e1]; exact hM) (by omega)
    rw [e1] at hc2
    rw [fbM_writeTree, f1, bdN_s, f2, bdP_s]
    by_cases hc1 : c = -1
    · rw [if_pos hc1]
      exact ⟨G1, rfl, WR_l w1 (by omega)⟩
    · rw [if_neg hc1]
      rcases hc2 with ⟨z, -⟩ | ⟨z1, z2, -⟩
      · exact absurd z hc1
      · obtain ⟨G2, f3, w2⟩ := vM_write (c := 40) w1.1 (by omega)
        have b2 := w2.2.2.2.2.2
        have hqc := hq c
        have hf := fu_ge
        obtain ⟨H, f4, w3⟩ := loop 40 fu c c G2 w2.1 (w2.2.2.2.1.trans e1) (Or.inr ⟨z1, z2, by omega⟩) (by omega) (by rw [if_neg hc1]; omega)
        rw [if_neg hc1] at w3
        rw [f3, bdN_s, f4]
        exact ⟨H, rfl, WR_l (WR_t (WR_t w1 w2) w3) (by omega)⟩
end MODEL23
