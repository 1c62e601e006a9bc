/-! ===== both readers in step: statements, the text (own work) ===== -/
theorem wd_7 : ∀ r : Nat, r < 7 → ¬ ((wd r).length = (wd 7).length ∧ (wd r).getD 0 0 = (wd 7).getD 0 0) := by decide +kernel
section PAR14
variable {C C' : gH → (Int → Int) → Prop} {g g' G H K M A : gH} {r r' : Int → Int} {a b c d e i j k l m n p q s t u v w x y z S : Int}
theorem rr_w {X : Option (Int × gH)} {Y : Option (Int × gH)} {Φ : Int → gH → Int → gH → Prop} (h : RR Φ X (bdN Y mt)) : RR Φ (bdN X (fun y g => some (y, g))) (bdN (bdN Y (fun y g => some (y, g))) mt) := by
  rw [bdN_id, bdN_id]
  exact h
theorem rr_statement (h : RT (CQ 578) g g' G H) (hk : ¬ H 624 18 = 0) (eK : fS_advance K 575 = some (y, G)) : RR (SE (CQ 578) g g') (fS_takeStatement K 575) (bdN (fM_readStatement H 624) mt) := by
  have hc := h.1.1.1
  have hm := h.1.2.1.1
  have tk := h.1.2.1.2.2.2.2.1
  have hb := h.1.2.2.1
  have hq := h.2
  obtain ⟨k1, k3, k0⟩ := TQ_k hq
  obtain ⟨y0, s0, m0, b0, w0⟩ := aWord (r := 0) (w := 2000000) (v := 2000013) hc hm tk hb hq (by omega) rfl rfl
  obtain ⟨y1, s1, m1, b1, w1⟩ := aWord (r := 1) (w := 2000001) (v := 2000014) hc hm tk hb hq (by omega) rfl rfl
  obtain ⟨y2, s2, m2, b2, w2⟩ := aWord (r := 2) (w := 2000002) (v := 2000015) hc hm tk hb hq (by omega) rfl rfl
  obtain ⟨y3, s3, m3, b3, w3⟩ := aWord (r := 3) (w := 2000003) (v := 2000016) hc hm tk hb hq (by omega) rfl rfl
  obtain ⟨y4, s4, m4, b4, w4⟩ := aWord (r := 4) (w := 2000004) (v := 2000017) hc hm tk hb hq (by omega) rfl rfl
  obtain ⟨y5, s5, m5, b5, w5⟩ := aWord (r := 5) (w := 2000005) (v := 2000018) hc hm tk hb hq (by omega) rfl rfl
  obtain ⟨y6, s6, m6, b6, w6⟩ := aWord (r := 6) (w := 2000006) (v := 2000019) hc hm tk hb hq (by omega) rfl rfl
  obtain ⟨y7, s7, m7, b7, w7⟩ := aWord (r := 7) (w := 2000007) (v := 2000020) hc hm tk hb hq (by omega) rfl rfl
  have one : ∀ (r : Nat) (y : Int), r < 7 → (y = 0 ∨ y = 1) → (y = 1 ↔ WM (H 631) (H 624 16) (H 624 15) r) → ¬ y7 = 0 → y = 0 := by
    intro r y hr hy hw h7
    rcases hy with hy | hy
    · exact hy
    · exfalso
      have h7 : y7 = 1 := by omega
      obtain ⟨t1, t2⟩ := WM_two (hw.mp hy) (w7.mp h7)
      exact wd_7 r hr ⟨t1, t2 (wd_ok r (by omega)).1⟩
  rw [fS_takeStatement, eK, bdN_s, if_neg (fun z => hk (k0.mp z)), s0, bdP_s, s1, bdP_s, s2, bdP_s, s3, bdP_s, s4, bdP_s, s5, bdP_s, s6, bdP_s, s7, bdP_s, fM_readStatement, m0, bdP_s, m1, bdP_s, m2, bdP_s, m7, bdP_s, m3, bdP_s, m4, bdP_s, m5, bdP_s, m6, bdP_s]
  by_cases c0 : y0 = 0
  · rw [if_pos c0, if_pos c0]
    by_cases c1 : y1 = 0
    · rw [if_pos c1, if_pos c1]
      by_cases c2 : y2 = 0
      · rw [if_pos c2, if_pos c2]
        by_cases c7 : y7 = 0
        · rw [if_pos c7, if_pos c7]
          by_cases c3 : y3 = 0
          · rw [if_pos c3, if_pos c3]
            by_cases c4 : y4 = 0
            · rw [if_pos c4, if_pos c4]
              by_cases c5 : y5 = 0
              · rw [if_pos c5, if_pos c5]
                by_cases c6 : y6 = 0
                · rw [if_pos c6, if_pos c6]
                  exact rr_failm h (by omega) (fun _ => rfl)
                · rw [if_neg c6, if_neg c6]
                  exact rr_w (rr_refusal h)
              · rw [if_neg c5, if_neg c5]
                exact rr_w (rr_duty h)
            · rw [if_neg c4, if_neg c4]
              exact rr_w (rr_heir h)
          · rw [if_neg c3, if_neg c3]
            exact rr_w (rr_process h)
        · have c3 := one 3 y3 (by omega) b3 w3 c7
          have c4 := one 4 y4 (by omega) b4 w4 c7
          have c5 := one 5 y5 (by omega) b5 w5 c7
          have c6 := one 6 y6 (by omega) b6 w6 c7
          rw [if_neg c7, if_neg c7, if_pos c3, if_pos c4, if_pos c5, if_pos c6]
          exact rr_w (rr_will h)
      · rw [if_neg c2, if_neg c2]
        exact rr_w (rr_root h)
    · rw [if_neg c1, if_neg c1]
      exact rr_w (rr_deep h)
  · rw [if_neg c0, if_neg c0]
    exact rr_w (rr_order h)
theorem vM_fails0 : ∃ H, fM_failsAt G 624 c = some (0, H) := by
  rw [fM_failsAt]
  by_cases h : G 624 13 = 0
  · rw [if_pos h, bnd_s, bnd_s]; exact ⟨_, rfl⟩
  · rw [if_neg h]; exact ⟨_, rfl⟩
theorem mt_text {X : Option (Int × gH)} {Y : gH → Option (Int × gH)} : bdN X (fun y4 g6 => if y4 = 0 then some (0, g6) else if g6 624 18 = 3 then bdN (fM_advanceToken g6 624) (fun y13 g15 => Y g15) else bdN (fM_failsAt g6 624 1) (fun y17 g19 => some (y17, g19))) = bdN (bdN X mt) (fun y g => if y = 0 then some (0, g) else bdN (fM_advanceToken g 624) (fun _ g => Y g)) := by
  cases X with
  | none => rfl
  | some z =>
    obtain ⟨y, K⟩ := z
    show (if y = 0 then some (0, K) else if K 624 18 = 3 then bdN (fM_advanceToken K 624) (fun y13 g15 => Y g15) else bdN (fM_failsAt K 624 1) (fun y17 g19 => some (y17, g19))) = bdN (mt y K) _
    unfold mt
    by_cases c : y = 0
    · rw [if_pos c, if_pos c, bdN_s, if_pos rfl]
    · rw [if_neg c, if_neg c]
      by_cases c3 : K 624 18 = 3
      · rw [if_pos c3, if_pos c3, bdN_s, if_neg f0]
      · obtain ⟨H, e⟩ := vM_fails0 (G := K) (c := 1)
        rw [if_neg c3, if_neg c3, e, bdN_s, bdN_s, if_pos rfl]
theorem mt_1 (h : bdN (some (y, K)) mt = some (1, H)) : H = K := by
  rw [bdN_s] at h
  unfold mt at h
  by_cases c : y = 0
  · rw [if_pos c] at h
    exact absurd (Prod.mk.inj (Option.some.inj h)).1 (by omega)
  · rw [if_neg c] at h
    by_cases c3 : K 624 18 = 3
    · rw [if_pos c3] at h
      exact (Prod.mk.inj (Option.some.inj h)).2.symm
    · obtain ⟨L, e⟩ := vM_fails0 (G := K) (c := 1)
      rw [if_neg c3, e, bdN_s] at h
      exact absurd (Prod.mk.inj (Option.some.inj h)).1 (by omega)
theorem IsT_gt {F : Int → Int} (h : IsT F n s k t) (hk : ¬ k = 0) : s < n ∧ s < t := by
  rcases h with ⟨a1, a2, a3⟩ | ⟨a1, a2, a3⟩
  · exact absurd a2 hk
  · refine ⟨a1, ?_⟩
    rcases a3 with ⟨c1, c2⟩ | ⟨c1, c2⟩
    · have b := c2.1
      by_cases e : t = s
      · exfalso
        rw [e] at c2
        exact c2.2.2 a1 a2.symm
      · omega
    · omega
theorem lC_0 {n : Nat} : lC_loadTree_11 0 (n + 1) 0 j G = jC_loadTree_36 G 0 := by
  show bC_loadTree_11 0 (lC_loadTree_11 0 n) 0 j G = _
  rw [bC_loadTree_11]
  by_cases c : j < 500
  · rw [if_pos c, if_pos rfl]
  · rw [if_neg c]
/-- both read to the end, or to one error -/
theorem rr_text : ∀ (m n1 n2 : Nat) (i : Int) (K M : gH), RA (CQ 578) g g' K M → (0 ≤ i ∧ i ≤ K 575 6) → (500 - K 575 6).toNat < m → m + 1 < n1 → m < n2 → ∃ G H y, lC_loadTree_11 0 n1 1 i K = jC_loadTree_36 G 0 ∧ lM_readText_0 624 n2 M = some (y, H) ∧ ((y = 1 ∧ RLs (CQ 578) g g' G H) ∨ (y = 0 ∧ RE g g' G H)) := by
  intro m
  induction m with
  | zero => intro n1 n2 i K M h hi hm; exact absurd hm (Nat.not_lt_zero _)
  | succ m ih =>
    intro n1 n2 i K M h hi hm hn1 hn2
    obtain ⟨n1, rfl⟩ : ∃ k, n1 = k + 2 := ⟨n1 - 2, by omega⟩
    obtain ⟨n2, rfl⟩ : ∃ k, n2 = k + 1 := ⟨n2 - 1, by omega⟩
    have hI := h.1.1
    have hl := rlen hI.1
    have h6 := hI.2
    have h10 := h.1.2.2.1.1
    obtain ⟨yk, K1, e1, hT, kJ, kF⟩ := ra_class h
    obtain ⟨k1, k3, k0⟩ := TQ_k hT.2
    have eC : lC_loadTree_11 0 (n1 + 2) 1 i K = bC_loadTree_11 0 (lC_loadTree_11 0 (n1 + 1)) 1 i K := rfl
    have eM : lM_readText_0 624 (n2 + 1) M = bM_readText_0 624 (lM_readText_0 624 n2) M := rfl
    rw [eC, eM, bC_loadTree_11, bM_readText_0]
    by_cases c : M 624 18 = 0
    · rw [if_pos c]
      by_cases ci : i < 500
      · rw [if_pos ci, if_neg f0, cr4 hI.1, if_pos kd_575, fS_takeStatement, e1, bdN_s, if_pos (k0.mpr c), bdN_s, lC_0]
        exact ⟨K1, M, 1, rfl, rfl, Or.inl ⟨rfl, hT.1⟩⟩
      · rw [if_neg ci]
        exact ⟨K, M, 1, rfl, rfl, Or.inl ⟨rfl, h.1⟩⟩
    · have ta := h.2
      have tg := IsT_gt ta.2.1 c
      have ti := ta.1.1
      rw [if_neg c, if_pos (show i < 500 by omega), if_neg f0, cr4 hI.1, if_pos kd_575, mt_text]
      obtain ⟨ys, Hs, es, -, ps⟩ := rs_statement hT.1.2.1
      obtain ⟨v, G1, w, H1, ec, em, z⟩ := rr_statement hT c e1
      rw [em, bdN_s, ec, bdN_s, w32_r (by omega)]
      rcases z with ⟨rfl, rfl, z⟩ | ⟨rfl, rfl, z⟩
      · rw [es] at em
        have eH := mt_1 em
        rw [← eH] at ps
        have q1 := z.2.1.2
        have q2 := hT.2.1.2
        obtain ⟨yl, L, el, hL, fL⟩ := rt_model z
        have g1 := rlen z.1.1.1
        have g2 := z.1.1.2
        rw [if_neg f0, el, bdN_s]
        exact ih (n1 + 1) n2 (i + 1) G1 L hL (by omega) (by omega) (by omega) (by omega)
      · rw [if_pos rfl, lC_0]
        exact ⟨G1, H1, 0, rfl, rfl, Or.inr ⟨rfl, z⟩⟩
end PAR14
