/-! ===== the class's exit on a tree, as the row changes, more (own work) ===== -/
section PAR24
variable {g g' G H K : gH} {r r' dm κ κ' : Int → Int} {a b c d e i j k l m n o p q s t u v w wo x y z S code : Int}
/-- testaments are read: the row, and what is summed -/
theorem aT_readZ (h : QQ S G r dm) (h1 : 0 ≤ r 1 ∧ r 1 ≤ 40) (hcd : CD r) (hp : 0 ≤ p ∧ p < r 0) (hwb : WB (rdR r p)) : ∃ G', fT_readZombiesOf G S (pc S p) = some (SZ r p, G') ∧ QQ S G' (rdR r p) dm ∧ TF S G G' := by
  have hf := fu_ge
  have hb := QQ_b h
  -- the row behind the first c
  have key : ∀ (m n : Nat) (c v : Int) (A : gH) (ρ : Int → Int), (40 - c).toNat = m → m < n → 0 ≤ c → c ≤ 40 → (0 ≤ v ∧ v ≤ 255 * c) → QQ S A ρ dm → (∀ k, ρ k = if 140 ≤ k ∧ k < 140 + r 0 ∧ k < 140 + c ∧ ic r (k - 140) p 1 = true then 2 else r k) → ∃ G', lT_readZombiesOf_14 (pc S p) (S + 2) 40 n v c A = some (v + sm (fun c => ic r c p 1) (fun c => r (300 + c)) (r 0 - c).toNat c, G') ∧ QQ S G' (rdR r p) dm ∧ TF S A G' := by
    intro m
    induction m with
    | zero =>
      intro n c v A ρ hm hn c0 c1 hv hA hρ
      obtain ⟨n, rfl⟩ : ∃ k, n = k + 1 := ⟨n - 1, by omega⟩
      have er : ρ = rdR r p := by
        funext k
        rw [hρ k]
        unfold rdR
        by_cases z : 140 ≤ k ∧ k < 140 + r 0 ∧ ic r (k - 140) p 1 = true
        · rw [if_pos z, if_pos ⟨z.1, z.2.1, by omega, z.2.2⟩]
        · rw [if_neg z, if_neg (fun y => z ⟨y.1, y.2.1, y.2.2.2⟩)]
      rw [er] at hA
      refine ⟨A, ?_, hA, TF_r⟩
      show bT_readZombiesOf_14 (pc S p) (S + 2) 40 (lT_readZombiesOf_14 (pc S p) (S + 2) 40 n) v c A = _
      rw [bT_readZombiesOf_14, if_neg (by omega), show (r 0 - c).toNat = 0 by omega]
      show some (v, A) = some (v + 0, A)
      rw [Int.add_zero]
    | succ m ih =>
      intro n c v A ρ hm hn c0 c1 hv hA hρ
      obtain ⟨n, rfl⟩ : ∃ k, n = k + 1 := ⟨n - 1, by omega⟩
      have e0 : ρ 0 = r 0 := by rw [hρ 0, if_neg (by omega)]
      have e1 : ρ 1 = r 1 := by rw [hρ 1, if_neg (by omega)]
      have bc := pc_b (T := S) (i := c) (by omega)
      have eic : ic ρ c p 1 = ic r c p 1 := by
        unfold ic
        rw [hρ (140 + c), if_neg (by omega), hρ (60 + c), if_neg (by omega)]
      show ∃ G', bT_readZombiesOf_14 (pc S p) (S + 2) 40 (lT_readZombiesOf_14 (pc S p) (S + 2) 40 n) v c A = _ ∧ _
      rw [bT_readZombiesOf_14, if_pos (by omega), if_pos ⟨kdT2 h.1, by omega, by rw [szT2 h.1]; omega⟩, TS_p hA.2.1.1 (by omega), if_pos (kdp h.1 (by omega)), qP_zombie hA (by omega) (by omega), bdP_s, e0, eic]
      by_cases z : c < r 0 ∧ ic r c p 1 = true
      · obtain ⟨i1, i2, i3⟩ := ic_t.mp z.2
        have cc := hcd c c0 z.1 i1
        have es : sm (fun c => ic r c p 1) (fun c => r (300 + c)) (r 0 - c).toNat c = r (300 + c) + sm (fun c => ic r c p 1) (fun c => r (300 + c)) (r 0 - (c + 1)).toNat (c + 1) := by
          rw [show (r 0 - c).toNat = (r 0 - (c + 1)).toNat + 1 by omega]
          show (if ic r c p 1 = true then r (300 + c) else 0) + _ = _
          rw [if_pos z.2]
        have f9 : pU A (pc S c) 1 2 (pc S c) 9 = r (300 + c) := by
          rw [pU_y (by omega), (QQ_pe hA (i := c) (by rw [e0]; omega)).1.2.2.2.2.2.2.1, hρ (300 + c), if_neg (by omega)]
        rw [if_pos z, if_neg f0, bnd_s, f9, w32_r (by omega), w32_r (by omega), es]
        have hρc : ρ (140 + c) = 1 := by rw [hρ (140 + c), if_neg (by omega)]; exact i1
        have K1 := CK_1 (p := c) (v := 2) (CK_of hA.2.2.2.1) (by omega) (by omega) (by rw [e0]; omega) (by rw [hρc]; omega) (by omega)
        have q0 : u1 ρ (140 + c) 2 0 = r 0 := by rw [u1_n (by omega)]; exact e0
        have hA' : QQ S (pU A (pc S c) 1 2) (u1 ρ (140 + c) 2) dm := by
          refine ⟨h.1, TI_st hA.2.1 ⟨c, by omega, rfl⟩ (by omega), WB_eq hA.2.2.1 (fun k hk => u1_n (by omega)), CK_to K1 (fun i i0 i1 => ?_), fun i i0 i1 => ?_, LR_e hA.2.2.2.2.2 (u1_n (by omega)) (u1_n (by omega)) (u1_n (by omega))⟩
          · have kk := kids_1 (r := ρ) (r' := u1 ρ (140 + c) 2) (o := c) (i := i) (by omega) (by rw [q0, e0]) (by rw [e0]; omega) (fun j j0 j1 j2 => ⟨u1_n (by omega), u1_n (by omega)⟩)
            rw [u1_s, if_neg (show ¬ (ρ (140 + c) = 0 ∧ ρ (60 + c) = i) by rw [hρc]; omega), if_neg (show ¬ ((2 : Int) = 0 ∧ u1 ρ (140 + c) 2 (60 + c) = i) by omega)] at kk
            show kids ρ i 0 = _
            omega
          · rw [pU_y (by omega)]
            exact hA.2.2.2.2.1 i i0 i1
        obtain ⟨G', g1, g2, g3⟩ := ih n (c + 1) (v + r (300 + c)) _ _ (by omega) (by omega) (by omega) (by omega) (by omega) hA' (fun k => by
          by_cases y : k = 140 + c
          · rw [y, u1_s, if_pos ⟨by omega, by omega, by omega, by rw [show 140 + c - 140 = c by omega]; exact z.2⟩]
          · rw [u1_n y, hρ k]
            by_cases y2 : 140 ≤ k ∧ k < 140 + r 0 ∧ k < 140 + c ∧ ic r (k - 140) p 1 = true
            · rw [if_pos y2, if_pos ⟨y2.1, y2.2.1, by omega, y2.2.2.2⟩]
            · rw [if_neg y2, if_neg (fun x => y2 ⟨x.1, x.2.1, by omega, x.2.2.2⟩)])
        refine ⟨G', ?_, g2, TF_t (TF_pU TF_r (by omega)) g3⟩
        rw [g1, show v + r (300 + c) + sm (fun c => ic r c p 1) (fun c => r (300 + c)) (r 0 - (c + 1)).toNat (c + 1) = v + (r (300 + c) + sm (fun c => ic r c p 1) (fun c => r (300 + c)) (r 0 - (c + 1)).toNat (c + 1)) by omega]
      · have es : sm (fun c => ic r c p 1) (fun c => r (300 + c)) (r 0 - c).toNat c = sm (fun c => ic r c p 1) (fun c => r (300 + c)) (r 0 - (c + 1)).toNat (c + 1) := by
          by_cases y : c < r 0
          · rw [show (r 0 - c).toNat = (r 0 - (c + 1)).toNat + 1 by omega]
            show (if ic r c p 1 = true then r (300 + c) else 0) + _ = _
            rw [if_neg (fun x => z ⟨y, x⟩), Int.zero_add]
          · rw [show (r 0 - c).toNat = 0 by omega, show (r 0 - (c + 1)).toNat = 0 by omega]
            rfl
        rw [if_neg z, if_pos rfl, w32_r (by omega), es]
        exact ih n (c + 1) v A ρ (by omega) (by omega) (by omega) (by omega) (by omega) hA (fun k => by
          rw [hρ k]
          by_cases y2 : 140 ≤ k ∧ k < 140 + r 0 ∧ k < 140 + c ∧ ic r (k - 140) p 1 = true
          · rw [if_pos y2, if_pos ⟨y2.1, y2.2.1, by omega, y2.2.2.2⟩]
          · rw [if_neg y2, if_neg (fun x => by
              by_cases y3 : k = 140 + c
              · rw [y3, show 140 + c - 140 = c by omega] at x
                exact z ⟨by omega, x.2.2.2⟩
              · exact y2 ⟨x.1, x.2.1, by omega, x.2.2.2⟩)])
  rw [fT_readZombiesOf, TS_1 h.2.1.1, if_pos (kdT2 h.1), szT2 h.1]
  obtain ⟨G', g1, g2, g3⟩ := key 40 fu 0 0 G r (by omega) (by omega) (by omega) (by omega) (by omega) h (fun k => by rw [if_neg (by omega)])
  refine ⟨G', ?_, g2, g3⟩
  rw [g1, show r 0 - 0 = r 0 by omega, Int.zero_add]
  rfl
end PAR24
