/-! ===== the class's exit on a tree, as the row changes, more (own work) ===== -/
section PAR24
variable {g g' G H K : gH} {r r' dm κ κ' : Int → Int} {a b c d e i j k l m n o p q s t u v w wo x y z S code : Int}
/-- zombies -/
theorem aT_zombies : ∀ (m n : Nat) (c : Int) (G : gH) (r : Int → Int), (r 0 - c).toNat = m → (40 - c).toNat < n → 1 ≤ c → c ≤ 40 → QQ S G r dm → EP r p s q → HP r p 8 → NC r p 0 (r 0) → NC r p 1 c → ∃ G', lT_letExit_177 S (pc S p) (pc S s) b (S + 2) 40 n c G = jT_letExit_212 G' S (pc S s) b ∧ QQ S G' (fd (fun c r => zomS p s c r) m c r) dm ∧ TF S G G' := by
  have skip : ∀ (m n : Nat) (c : Int) (G : gH) (r : Int → Int), (40 - c).toNat = m → m < n → r 0 ≤ c → 1 ≤ c → QQ S G r dm → (0 ≤ p ∧ p < 40) → lT_letExit_177 S (pc S p) (pc S s) b (S + 2) 40 n c G = jT_letExit_212 G S (pc S s) b := by
    intro m
    induction m with
    | zero =>
      intro n c G r hm hn c0 c1 h hp
      obtain ⟨n, rfl⟩ : ∃ k, n = k + 1 := ⟨n - 1, by omega⟩
      show bT_letExit_177 S (pc S p) (pc S s) b (S + 2) 40 (lT_letExit_177 S (pc S p) (pc S s) b (S + 2) 40 n) c G = _
      rw [bT_letExit_177, if_neg (by omega)]
    | succ m ih =>
      intro n c G r hm hn c0 c1 h hp
      obtain ⟨n, rfl⟩ : ∃ k, n = k + 1 := ⟨n - 1, by omega⟩
      show bT_letExit_177 S (pc S p) (pc S s) b (S + 2) 40 (lT_letExit_177 S (pc S p) (pc S s) b (S + 2) 40 n) c G = _
      rw [bT_letExit_177, if_pos (by omega), if_pos ⟨kdT2 h.1, by omega, by rw [szT2 h.1]; omega⟩, TS_p h.2.1.1 (by omega), if_pos (kdp h.1 (by omega)), qP_zombie h (by omega) hp, if_neg (by omega), bdP_s, if_pos rfl, w32_r (by omega)]
      exact ih n (c + 1) G r (by omega) (by omega) (by omega) (by omega) h hp
  intro m
  induction m with
  | zero =>
    intro n c G r hm hn c0 c1 h he hh hn0 hn1
    have hb := QQ_b h
    have hp := he.2.1.2.2.1
    exact ⟨G, skip _ n c G r rfl hn (by omega) c0 h (by omega), h, TF_r⟩
  | succ m ih =>
    intro n c G r hm hn c0 c1 h he hh hn0 hn1
    obtain ⟨n, rfl⟩ : ∃ k, n = k + 1 := ⟨n - 1, by omega⟩
    have hb := QQ_b h
    have hp := he.2.1.2.2.1
    have ha4 := he.2.1.2.2.2.1
    have hc1 := he.2.2.2.2.1.1
    have hcr : 0 < c ∧ c < r 0 := by omega
    obtain ⟨o1, o2, o3, o4, o5⟩ := zom_step he hh hn0 hn1 hcr
    have ef : fd (fun c r => zomS p s c r) (m + 1) c r = fd (fun c r => zomS p s c r) m (c + 1) (zomS p s c r) := rfl
    have nx : ∀ G1, QQ S G1 (zomS p s c r) dm → TF S G G1 → ∃ G', lT_letExit_177 S (pc S p) (pc S s) b (S + 2) 40 n (w32 (c + 1)) G1 = jT_letExit_212 G' S (pc S s) b ∧ QQ S G' (fd (fun c r => zomS p s c r) (m + 1) c r) dm ∧ TF S G G' := by
      intro G1 h1 f1
      rw [w32_r (by omega), ef]
      obtain ⟨G', e1, e2, e3⟩ := ih n (c + 1) G1 _ (by rw [o5]; omega) (by omega) (by omega) (by omega) h1 o1 o2 (by rw [o5]; exact o3) o4
      exact ⟨G', e1, e2, TF_t f1 e3⟩
    show ∃ G', bT_letExit_177 S (pc S p) (pc S s) b (S + 2) 40 (lT_letExit_177 S (pc S p) (pc S s) b (S + 2) 40 n) c G = _ ∧ _
    rw [bT_letExit_177, if_pos (by omega), if_pos ⟨kdT2 h.1, by omega, by rw [szT2 h.1]; omega⟩, TS_p h.2.1.1 (by omega), if_pos (kdp h.1 (by omega)), qP_zombie h (by omega) (by omega), bdP_s]
    by_cases hi : ic r c p 1 = true
    · have eo : zomS p s c r = u1 r (60 + c) s := by unfold zomS; rw [if_pos hi]
      obtain ⟨i1, i2, i3⟩ := ic_t.mp hi
      have i1c := i1
      obtain ⟨d1, d2, -⟩ := EP_dp he hcr i2
      have bc := pc_b (T := S) (i := c) (by omega)
      rw [if_pos (show c < r 0 ∧ ic r c p 1 = true from ⟨hcr.2, hi⟩), if_neg f0, bnd_s]
      have hT : TI (pU G (pc S c) 2 (pc S s)) S := TI_sup h.2.1 (by rw [QQ_0 h]; exact hcr) (by rw [QQ_0 h]; exact ha4) d1 (by rw [QQ_OV h ha4]; exact d2)
      have K1 := CK_2 (p := c) (t := s) (CK_of h.2.2.2.1) (by omega) (by omega) hcr
      refine nx _ ?_ (TF_pU TF_r (by omega))
      rw [eo] at o1 o5 ⊢
      refine ⟨h.1, hT, o1.1, CK_to K1 (fun i i0 i1 => ?_), fun i i0 i1 => ?_, ?_⟩
      · have kk := kids_1 (r := r) (r' := u1 r (60 + c) s) (o := c) (i := i) (by omega) o5 hcr (fun j j0 j1 j2 => ⟨u1_n (by omega), u1_n (by omega)⟩)
        rw [u1_n (show ¬ 140 + c = 60 + c by omega), if_neg (show ¬ (r (140 + c) = 0 ∧ r (60 + c) = i) by rw [i1c]; omega), if_neg (show ¬ (r (140 + c) = 0 ∧ u1 r (60 + c) s (60 + c) = i) by rw [i1c]; omega)] at kk
        show kids r i 0 = _
        omega
      · rw [pU_y (by omega)]
        exact h.2.2.2.2.1 i i0 i1
      · exact LR_e h.2.2.2.2.2 (u1_n (by omega)) (u1_n (by omega)) (u1_n (by omega))
    · have eo : zomS p s c r = r := by unfold zomS; rw [if_neg hi]
      rw [if_neg (show ¬ (c < r 0 ∧ ic r c p 1 = true) from fun z => hi z.2), if_pos rfl]
      exact nx G (by rw [eo]; exact h) TF_r
end PAR24
