/-! ===== the class's exit on a tree, as the row changes, more (own work) ===== -/
section PAR24
variable {g g' G H K : gH} {r r' dm κ κ' : Int → Int} {a b c d e i j k l m n o p q s t u v w wo x y z S code : Int}
/-- orphans -/
theorem aT_orphans (hd : ∃ g : gH, MS g ∧ g 630 = dm) : ∀ (m n : Nat) (c : Int) (G : gH) (r : Int → Int), (r 0 - c).toNat = m → (40 - c).toNat < n → 1 ≤ c → c ≤ 40 → QQ S G r dm → EP r p s q → HP r p 8 → NC r p 0 c → ∃ G', lT_letExit_92 S (pc S p) (pc S s) b (pcx S q) (S + 2) 40 n c G = jT_letExit_163 G' S (pc S p) (pc S s) b ∧ QQ S G' (fd (fun c r => orpS dm p q c r) m c r) dm ∧ TF S G G' := by
  have skip : ∀ (m n : Nat) (c : Int) (G : gH) (r : Int → Int), (40 - c).toNat = m → m < n → r 0 ≤ c → 1 ≤ c → QQ S G r dm → (0 ≤ p ∧ p < 40) → lT_letExit_92 S (pc S p) (pc S s) b (pcx S q) (S + 2) 40 n c G = jT_letExit_163 G S (pc S p) (pc S s) b := by
    intro m
    induction m with
    | zero =>
      intro n c G r hm hn c0 c1 h hp
      obtain ⟨n, rfl⟩ : ∃ k, n = k + 1 := ⟨n - 1, by omega⟩
      show bT_letExit_92 S (pc S p) (pc S s) b (pcx S q) (S + 2) 40 (lT_letExit_92 S (pc S p) (pc S s) b (pcx S q) (S + 2) 40 n) c G = _
      rw [bT_letExit_92, if_neg (by omega)]
    | succ m ih =>
      intro n c G r hm hn c0 c1 h hp
      obtain ⟨n, rfl⟩ : ∃ k, n = k + 1 := ⟨n - 1, by omega⟩
      show bT_letExit_92 S (pc S p) (pc S s) b (pcx S q) (S + 2) 40 (lT_letExit_92 S (pc S p) (pc S s) b (pcx S q) (S + 2) 40 n) c G = _
      rw [bT_letExit_92, if_pos (by omega), if_pos ⟨kdT2 h.1, by omega, by rw [szT2 h.1]; omega⟩, TS_p h.2.1.1 (by omega), if_pos (kdp h.1 (by omega)), qP_child h (by omega) hp, if_neg (by omega), bdP_s, if_pos rfl, w32_r (by omega)]
      exact ih n (c + 1) G r (by omega) (by omega) (by omega) (by omega) h hp
  intro m
  induction m with
  | zero =>
    intro n c G r hm hn c0 c1 h he hh hn0
    have hb := QQ_b h
    have hp := he.2.1.2.2.1
    exact ⟨G, skip _ n c G r rfl hn (by omega) c0 h (by omega), h, TF_r⟩
  | succ m ih =>
    intro n c G r hm hn c0 c1 h he hh hn0
    obtain ⟨n, rfl⟩ : ∃ k, n = k + 1 := ⟨n - 1, by omega⟩
    have hb := QQ_b h
    have hp := he.2.1.2.2.1
    have hc1 := he.2.2.2.2.1.1
    have hcr : 0 < c ∧ c < r 0 := by omega
    have os : EP (orpS dm p q c r) p s q ∧ HP (orpS dm p q c r) p 8 ∧ NC (orpS dm p q c r) p 0 (c + 1) ∧ orpS dm p q c r 0 = r 0 := by
      obtain ⟨g, hs, rfl⟩ := hd
      exact orp_step hs he hh hn0 hcr
    obtain ⟨o1, o2, o3, o4⟩ := os
    have ef : fd (fun c r => orpS dm p q c r) (m + 1) c r = fd (fun c r => orpS dm p q c r) m (c + 1) (orpS dm p q c r) := rfl
    have nx : ∀ G1, QQ S G1 (orpS dm p q c r) dm → TF S G G1 → ∃ G', lT_letExit_92 S (pc S p) (pc S s) b (pcx S q) (S + 2) 40 n (w32 (c + 1)) G1 = jT_letExit_163 G' S (pc S p) (pc S s) b ∧ QQ S G' (fd (fun c r => orpS dm p q c r) (m + 1) c r) dm ∧ TF S G G' := by
      intro G1 h1 f1
      rw [w32_r (by omega), ef]
      obtain ⟨G', e1, e2, e3⟩ := ih n (c + 1) G1 _ (by rw [o4]; omega) (by omega) (by omega) (by omega) h1 o1 o2 o3
      exact ⟨G', e1, e2, TF_t f1 e3⟩
    show ∃ G', bT_letExit_92 S (pc S p) (pc S s) b (pcx S q) (S + 2) 40 (lT_letExit_92 S (pc S p) (pc S s) b (pcx S q) (S + 2) 40 n) c G = _ ∧ _
    rw [bT_letExit_92, if_pos (by omega), if_pos ⟨kdT2 h.1, by omega, by rw [szT2 h.1]; omega⟩, TS_p h.2.1.1 (by omega), if_pos (kdp h.1 (by omega)), qP_child h (by omega) (by omega), bdP_s]
    by_cases hi : ic r c p 0 = true
    · have eo : orpS dm p q c r = adR r (if ¬ q = -1 ∧ 0 < room r q then q else AD r dm c p) c := by unfold orpS; rw [if_pos hi]
      obtain ⟨t1, t2, t3⟩ := orp_t hd he hcr hi
      obtain ⟨i1, i2, i3⟩ := ic_t.mp hi
      have iu : up r c = p := i2
      have hq := he.2.2.2.2.2.2.2.2.2
      rw [if_pos (show c < r 0 ∧ ic r c p 0 = true from ⟨hcr.2, hi⟩), if_neg f0]
      obtain ⟨G1, eA, hA, fA⟩ := aT_adopt h (by omega) hcr i1 t1 t2 t3
      rw [← eo] at hA
      have e132 : ¬ (¬ q = -1 ∧ 0 < room r q) → jT_letExit_132 (lT_letExit_92 S (pc S p) (pc S s) b (pcx S q) (S + 2) 40 n) G S (pc S p) (pc S s) b (pcx S q) (S + 2) 40 c (pc S c) = lT_letExit_92 S (pc S p) (pc S s) b (pcx S q) (S + 2) 40 n (w32 (c + 1)) G1 := fun z => by
        have ea := qT_adopter h (MM_of hd) hcr
        rw [iu] at ea
        rw [if_neg z] at eA
        rw [jT_letExit_132, jT_letExit_133, if_pos rfl, ea, bdP_s, eA, bdN_s]
      by_cases c2 : q = -1
      · rw [if_pos (show pcx S q < 0 by rw [c2, pcx_n]; omega), e132 (fun z => z.1 c2)]
        exact nx G1 hA fA
      · have hq : 0 < q ∧ q < r 0 := by
          rcases hq with z | z
          · exact absurd z c2
          · exact ⟨z.1, z.2.1⟩
        have epq : pcx S q = pc S q := pcx_p (by omega)
        rw [if_neg (show ¬ pcx S q < 0 by rw [epq]; exact pc_pos h.1 (by omega)), if_pos (show kd (pcx S q) = 3 by rw [epq]; exact kdp h.1 (by omega)), show fP_room G (pcx S q) = some (room r q) by rw [epq]; exact qP_room h (by omega), bdP_s]
        by_cases c3 : 0 < room r q
        · rw [if_pos ⟨c2, c3⟩] at eA
          rw [if_pos c3, jT_letExit_133, if_neg f0]
          rw [show fT_adopt G S (pc S c) (pcx S q) = some (0, G1) by rw [epq]; exact eA, bdN_s]
          exact nx G1 hA fA
        · rw [if_neg c3, e132 (fun z => c3 z.2)]
          exact nx G1 hA fA
    · have eo : orpS dm p q c r = r := by unfold orpS; rw [if_neg hi]
      rw [if_neg (show ¬ (c < r 0 ∧ ic r c p 0 = true) from fun z => hi z.2), if_pos rfl]
      exact nx G (by rw [eo]; exact h) TF_r
end PAR24
