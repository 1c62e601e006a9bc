/-! ===== loops of both over one tree: refusing, relieving (own work) ===== -/
section PAR26
variable {g g' G H K : gH} {r r' dm κ κ' : Int → Int} {a b c d e i j k l m n o p q s t u v w wo x y z S gp code : Int}
theorem AD_t (hm : MM r dm) (hb : WB r) (hc : 0 < c ∧ c < r 0) (hw : 0 ≤ wo ∧ wo < r 0) : (0 ≤ AD r dm c wo ∧ AD r dm c wo < r 0) ∧ ¬ AD r dm c wo = c ∧ OV (up r) c (AD r dm c wo) = false := by
  obtain ⟨g, hs, rfl, rfl⟩ := hm
  rcases (vM_adopterOf (o := c) (wo := wo) hs hb (by omega) hw).2 with e2 | ⟨e2, e3, e4, e5⟩
  · rw [e2]
    exact ⟨by omega, by omega, OV_0⟩
  · obtain ⟨f1, f2, f3⟩ := canA_f e5
    exact ⟨⟨by omega, e3⟩, f2, f3⟩
/-- both find an adopter for a child of p, and it goes there -/
theorem lk_adopt (hs : MS H) (h : QQ S G r (H 630)) (hw : WBF r) (hc : 0 < c ∧ c < r 0) (hp : 0 ≤ p ∧ p < r 0) (hi : ic r c p 0 = true) : ∃ G', fT_adopterOf G S (pc S c) = some (pc S (AD r (H 630) c p)) ∧ fT_adopt G S (pc S c) (pc S (AD r (H 630) c p)) = some (0, G') ∧ fM_adopterOf (sw H r) 624 c p = some (AD r (H 630) c p) ∧ fM_adopts (sw H r) 624 (AD r (H 630) c p) c = some (0, sw H (adR r (AD r (H 630) c p) c)) ∧ QQ S G' (adR r (AD r (H 630) c p) c) (H 630) ∧ WBF (adR r (AD r (H 630) c p) c) ∧ TF S G G' ∧ adR r (AD r (H 630) c p) c 0 = r 0 := by
  have hb := QQ_b h
  obtain ⟨i1, i2, i3⟩ := ic_t.mp hi
  have iu : up r c = p := i2
  have hm : MM r (H 630) := MM_of ⟨H, hs, rfl⟩
  have hx := hw.2.2.2.1.1
  obtain ⟨t1, t2, t3⟩ := AD_t hm h.2.2.1 hc hp
  obtain ⟨G', e1, e2, e3⟩ := aT_adopt h hx.2 hc i1 t1 t2 t3
  have ea := qT_adopter h hm hc
  rw [iu] at ea
  have ma := (vM_adopterOf (g := sw H r) (o := c) (wo := p) (MS_sw hs) (by rw [sw_s]; exact h.2.2.1) (by rw [sw_s]; omega) (by rw [sw_s]; exact hp)).1
  rw [sw_s, sw_n (show ¬ (630 : Int) = 625 by omega)] at ma
  have mb := vM_adopts (g := sw H r) (p := AD r (H 630) c p) (o := c) (MS_sw hs) (by omega)
  rw [sw_s, sw_sw] at mb
  exact ⟨G', ea, e1, ma, mb, e2, WBF_ad hw hc hs hp, e3, adR_n (by omega)⟩
theorem mM_child (hs : MS H) (hi : 0 ≤ i ∧ i < 40) : fM_isChild (sw H r) 624 i a s = some (if ic r i a s = true then 1 else 0) := by
  have := vM_isChild (g := sw H r) (p := i) (a := a) (st := s) (MS_sw hs) hi
  rw [sw_s] at this
  exact this
theorem m0s (hs : MS H) : sw H r 624 0 = 625 := by rw [sw_n (by omega)]; exact hs.1
theorem gd25 (hs : MS H) (hk : 0 ≤ k ∧ k < 780) : kd (sw H r 624 0) = 20 ∧ (0 : Int) ≤ k ∧ k < sz (sw H r 624 0) := by rw [m0s hs]; exact g625 hk
/-- the children of a group that p refuses now -/
theorem lk_refuse (hs : MS H) : ∀ (m n1 n2 : Nat) (c v : Int) (G : gH) (r : Int → Int), (r 0 - c).toNat = m → (40 - c).toNat < n1 → m < n2 → 1 ≤ c → c ≤ 40 → (0 ≤ v ∧ v ≤ c) → QQ S G r (H 630) → WBF r → (0 < p ∧ p < r 0) → ∃ v' G' r', lT_loseGroup_16 S (pc S p) gp (S + 2) 40 n1 v c G = some (v', G') ∧ lM_refuse_80 624 p gp n2 v c (sw H r) = some (v', sw H r') ∧ QQ S G' r' (H 630) ∧ WBF r' ∧ TF S G G' := by
  have skip : ∀ (m n : Nat) (c v : Int) (G : gH) (r : Int → Int), (40 - c).toNat = m → m < n → r 0 ≤ c → 1 ≤ c → QQ S G r (H 630) → (0 ≤ p ∧ p < 40) → lT_loseGroup_16 S (pc S p) gp (S + 2) 40 n v c G = some (v, G) := by
    intro m
    induction m with
    | zero =>
      intro n c v G r hm hn c0 c1 h hp
      obtain ⟨n, rfl⟩ : ∃ k, n = k + 1 := ⟨n - 1, by omega⟩
      show bT_loseGroup_16 S (pc S p) gp (S + 2) 40 (lT_loseGroup_16 S (pc S p) gp (S + 2) 40 n) v c G = _
      rw [bT_loseGroup_16, if_neg (by omega)]
    | succ m ih =>
      intro n c v G r hm hn c0 c1 h hp
      obtain ⟨n, rfl⟩ : ∃ k, n = k + 1 := ⟨n - 1, by omega⟩
      show bT_loseGroup_16 S (pc S p) gp (S + 2) 40 (lT_loseGroup_16 S (pc S p) gp (S + 2) 40 n) v c G = _
      rw [bT_loseGroup_16, if_pos (by omega), if_pos ⟨kdT2 h.1, by omega, by rw [szT2 h.1]; omega⟩, TS_p h.2.1.1 (by omega), if_pos (kdp h.1 (by omega)), qP_child h (by omega) hp, if_neg (by omega), bdP_s, if_pos rfl, w32_r (by omega)]
      exact ih n (c + 1) v G r (by omega) (by omega) (by omega) (by omega) h hp
  intro m
  induction m with
  | zero =>
    intro n1 n2 c v G r hm hn1 hn2 c0 c1 hv h hw hp
    have hb := QQ_b h
    obtain ⟨n2, rfl⟩ : ∃ k, n2 = k + 1 := ⟨n2 - 1, by omega⟩
    refine ⟨v, G, r, skip _ n1 c v G r rfl hn1 (by omega) c0 h (by omega), ?_, h, hw, TF_r⟩
    show bM_refuse_80 624 p gp (lM_refuse_80 624 p gp n2) v c (sw H r) = _
    rw [bM_refuse_80, if_pos (gd25 hs (by omega)), m0s hs, sw_s, if_neg (by omega)]
  | succ m ih =>
    intro n1 n2 c v G r hm hn1 hn2 c0 c1 hv h hw hp
    have hb := QQ_b h
    obtain ⟨n1, rfl⟩ : ∃ k, n1 = k + 1 := ⟨n1 - 1, by omega⟩
    obtain ⟨n2, rfl⟩ : ∃ k, n2 = k + 1 := ⟨n2 - 1, by omega⟩
    have hcr : 0 < c ∧ c < r 0 := by omega
    have eC : lT_loseGroup_16 S (pc S p) gp (S + 2) 40 (n1 + 1) v c G = bT_loseGroup_16 S (pc S p) gp (S + 2) 40 (lT_loseGroup_16 S (pc S p) gp (S + 2) 40 n1) v c G := rfl
    have eM : lM_refuse_80 624 p gp (n2 + 1) v c (sw H r) = bM_refuse_80 624 p gp (lM_refuse_80 624 p gp n2) v c (sw H r) := rfl
    rw [eC, eM, bT_loseGroup_16, bM_refuse_80, if_pos (show c < 40 by omega), if_pos ⟨kdT2 h.1, by omega, by rw [szT2 h.1]; omega⟩, TS_p h.2.1.1 (by omega), if_pos (kdp h.1 (by omega)), qP_child h (by omega) (by omega), bdP_s, if_pos (gd25 hs (by omega)), m0s hs, sw_s, if_pos hcr.2, mM_child hs (by omega), bdP_s, (QQ_pe h (i := c) (by omega)).1.2.2.1, w32_r (x := c + 1) (by omega), w32_r (x := v + 1) (by omega), w32_r (x := 180 + c) (by omega)]
    by_cases hi : ic r c p 0 = true
    · rw [if_pos (show c < r 0 ∧ ic r c p 0 = true from ⟨hcr.2, hi⟩), if_pos hi, if_neg f0, if_neg f0, if_pos (g625 (by omega))]
      by_cases hg : r (180 + c) = gp
      · obtain ⟨G', a1, a2, a3, a4, a5, a6, a7, a8⟩ := lk_adopt hs h hw hcr (by omega) hi
        rw [if_pos hg, if_pos hg, a1, bdP_s, a2, bdN_s, a3, bdP_s, a4, bdN_s]
        obtain ⟨v', G2, r2, b1, b2, b3, b4, b5⟩ := ih n1 n2 (c + 1) (v + 1) G' _ (by rw [a8]; omega) (by omega) (by omega) (by omega) (by omega) (by omega) a5 a6 (by rw [a8]; exact hp)
        exact ⟨v', G2, r2, b1, b2, b3, b4, TF_t a7 b5⟩
      · rw [if_neg hg, if_neg hg]
        exact ih n1 n2 (c + 1) v G r (by omega) (by omega) (by omega) (by omega) (by omega) (by omega) h hw hp
    · rw [if_neg (show ¬ (c < r 0 ∧ ic r c p 0 = true) from fun z => hi z.2), if_neg hi, if_pos rfl, if_pos rfl]
      exact ih n1 n2 (c + 1) v G r (by omega) (by omega) (by omega) (by omega) (by omega) (by omega) h hw hp
/-- the surplus, from the youngest on -/
theorem lk_relieve (hs : MS H) : ∀ (m n1 n2 : Nat) (c v : Int) (G : gH) (r : Int → Int), c.toNat = m → m + 1 < n1 → m < n2 → 0 ≤ c → c < r 0 → (0 ≤ v ∧ v + c ≤ 40) → QQ S G r (H 630) → WBF r → (0 < p ∧ p < r 0) → ∃ v' G' r', lT_loseSurplus_5 S (pc S p) n1 v c G = some (v', G') ∧ lM_relieve_26 624 p n2 v c (sw H r) = some (v', sw H r') ∧ QQ S G' r' (H 630) ∧ WBF r' ∧ TF S G G' := by
  intro m
  induction m with
  | zero =>
    intro n1 n2 c v G r hm hn1 hn2 c0 c1 hv h hw hp
    have hb := QQ_b h
    obtain ⟨n1, rfl⟩ : ∃ k, n1 = k + 2 := ⟨n1 - 2, by omega⟩
    obtain ⟨n2, rfl⟩ : ∃ k, n2 = k + 1 := ⟨n2 - 1, by omega⟩
    have cz : c = 0 := by omega
    subst cz
    refine ⟨v, G, r, ?_, ?_, h, hw, TF_r⟩
    · have e1 : lT_loseSurplus_5 S (pc S p) (n1 + 1) v (-1) G = some (v, G) := by
        show bT_loseSurplus_5 S (pc S p) (lT_loseSurplus_5 S (pc S p) n1) v (-1) G = _
        rw [bT_loseSurplus_5, if_pos (by omega)]
      show bT_loseSurplus_5 S (pc S p) (lT_loseSurplus_5 S (pc S p) (n1 + 1)) v 0 G = _
      have g24 : kd (S + 2) = 24 ∧ (0 : Int) ≤ 0 ∧ 0 < sz (S + 2) := ⟨kdT2 h.1, by omega, by rw [szT2 h.1]; omega⟩
      have ch : fP_isRunningChildOf G (pc S 0) (pc S p) = some 0 := by rw [qP_child h (by omega) (by omega), if_neg (fun z => (ic_t.mp z.2).2.2 rfl)]
      rw [bT_loseSurplus_5, if_neg (by omega), if_pos (kdp h.1 (i := p) (by omega)), w32_r (x := 0 + -1) (by omega), TS_1 h.2.1.1, if_pos g24, TS_p h.2.1.1 (by omega), if_pos (kdp h.1 (i := 0) (by omega)), ch, bdP_s, if_pos (show (0 : Int) = 0 from rfl), show (0 : Int) + -1 = -1 by omega, e1]
      split <;> rfl
    · show bM_relieve_26 624 p (lM_relieve_26 624 p n2) v 0 (sw H r) = _
      rw [bM_relieve_26, if_neg (by omega)]
  | succ m ih =>
    intro n1 n2 c v G r hm hn1 hn2 c0 c1 hv h hw hp
    have hb := QQ_b h
    obtain ⟨n1, rfl⟩ : ∃ k, n1 = k + 1 := ⟨n1 - 1, by omega⟩
    obtain ⟨n2, rfl⟩ : ∃ k, n2 = k + 1 := ⟨n2 - 1, by omega⟩
    have hcr : 0 < c ∧ c < r 0 := by omega
    have eC : lT_loseSurplus_5 S (pc S p) (n1 + 1) v c G = bT_loseSurplus_5 S (pc S p) (lT_loseSurplus_5 S (pc S p) n1) v c G := rfl
    have eM : lM_relieve_26 624 p (n2 + 1) v c (sw H r) = bM_relieve_26 624 p (lM_relieve_26 624 p n2) v c (sw H r) := rfl
    have kc := vM_childrenOf (g := sw H r) (a := p) (st := 0) (MS_sw hs) (by rw [sw_s]; exact hb)
    rw [sw_s] at kc
    have pe := QQ_pe h (i := p) (by omega)
    have g24 : kd (S + 2) = 24 ∧ (0 : Int) ≤ c ∧ c < sz (S + 2) := ⟨kdT2 h.1, by omega, by rw [szT2 h.1]; omega⟩
    rw [eC, eM, bT_loseSurplus_5, bM_relieve_26, if_neg (show ¬ c < 0 by omega), if_pos (kdp h.1 (by omega)), TS_1 h.2.1.1, if_pos g24, if_pos g24, if_pos g24, TS_p h.2.1.1 (by omega), if_pos (kdp h.1 (by omega)), qP_child h (by omega) (by omega), bdP_s, pe.1.2.1, pe.2.2.1, if_pos hcr.1, mM_child hs (by omega), bdP_s, kc, bdP_s, w32_r (x := c + -1) (by omega), w32_r (x := v + 1) (by omega), w32_r (x := 100 + p) (by omega), if_pos (gd25 hs (by omega)), m0s hs, sw_s]
    have nx : ∃ v' G' r', lT_loseSurplus_5 S (pc S p) n1 v (c + -1) G = some (v', G') ∧ lM_relieve_26 624 p n2 v (c + -1) (sw H r) = some (v', sw H r') ∧ QQ S G' r' (H 630) ∧ WBF r' ∧ TF S G G' := ih n1 n2 (c + -1) v G r (by omega) (by omega) (by omega) (by omega) (by omega) (by omega) h hw hp
    by_cases hi : ic r c p 0 = true
    · rw [if_pos (show c < r 0 ∧ ic r c p 0 = true from ⟨hcr.2, hi⟩), if_pos hi, if_neg f0, if_neg f0]
      by_cases hg : r (100 + p) < kids r p 0
      · obtain ⟨G', a1, a2, a3, a4, a5, a6, a7, a8⟩ := lk_adopt hs h hw hcr (by omega) hi
        rw [if_pos hg, if_pos hg, a1, bdP_s, a2, bdN_s, a3, bdP_s, a4, bdN_s]
        obtain ⟨v', G2, r2, b1, b2, b3, b4, b5⟩ := ih n1 n2 (c + -1) (v + 1) G' _ (by omega) (by omega) (by omega) (by omega) (by rw [a8]; omega) (by omega) a5 a6 (by rw [a8]; exact hp)
        exact ⟨v', G2, r2, b1, b2, b3, b4, TF_t a7 b5⟩
      · rw [if_neg hg, if_neg hg]
        exact nx
    · rw [if_neg (show ¬ (c < r 0 ∧ ic r c p 0 = true) from fun z => hi z.2), if_neg hi, if_pos rfl, if_pos rfl]
      have e : (if r (100 + p) < kids r p 0 then lT_loseSurplus_5 S (pc S p) n1 v (c + -1) G else lT_loseSurplus_5 S (pc S p) n1 v (c + -1) G) = lT_loseSurplus_5 S (pc S p) n1 v (c + -1) G := by split <;> rfl
      rw [e]
      exact nx
end PAR26
