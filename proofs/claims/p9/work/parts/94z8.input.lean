/-! ===== the input's calls and loading, with the whole state (own work) ===== -/
section PAR35
variable {g g' G G' H H' K : gH} {r r' dm : Int → Int} {a b c d e i j k l m n o p q s t u v w x y z S T gp code : Int}
theorem jo_loadTree (h : JA G H) : JN True (fC_loadTree G 0) (fM_loadTree H 624) := by
  obtain ⟨v, K, N, e1, e2, ⟨a1, a2⟩, ⟨l1, l2⟩, ⟨n8, n28, n29⟩, hL, z⟩ := ld_both h.1 h.2.1 h.2.2.2.2.2.1
  obtain ⟨v', N', m1, m2, -⟩ := oM_loadTree h.2.1
  rw [e2] at m1
  cases m1
  have q := jaQ h
  have ie : IE K N := ⟨⟨by rw [l1, l2], fun k k0 k1 => absurd k1 (by rw [l1]; omega)⟩, a1, a2⟩
  rcases z with ⟨s6, s7, t1, t2, t3, cp, cd, r3, r60, r380⟩ | ⟨f1, f2, f6, f7⟩
  · exact ⟨v, v, K, N, e1, e2, ⟨hL.1, m2, ⟨T1, hL.1.2.1 1 T1, m2.2.1.1, cp, cd, ⟨by rw [r3]; unfold InR; omega, r380⟩, r60⟩, ⟨by rw [t1, s6], by rw [s6]; omega, by rw [t3]; exact h.2.2.2.1.2.2.1, fun j j0 j1 => absurd j1 (by rw [s6]; omega)⟩, ⟨by rw [t2, s7], fun z => absurd s7 z⟩, ie⟩, n8, fun _ => rfl⟩
  · exact ⟨v, v, K, N, e1, e2, ⟨hL.1, m2, QQ_ext (QQ_eq q (fun x x0 x1 => f1 x (by omega))) (ja40 h) f2, RG_e h.2.2.2.1 (fun x _ x1 => f1 x x1) f6 n29, SV_e h.2.2.2.2.1 (fun x _ x1 => f1 x (by omega)) (by rw [f1 0 (by omega)]) f7 n28, ie⟩, n8, fun _ => rfl⟩
/-- input alone differs -/
theorem JA_in (h : JA G H) (hc : CInv G') (hm : MInv H') (hb : BB G' H') (e : ∀ x, ¬ x = 576 → ¬ x = 577 → G' x = G x) (ek : ∀ k, ¬ k = 10 → ¬ k = 8 → H' 624 k = H 624 k) (ex : ∀ x, ¬ x = 624 → ¬ x = 631 → H' x = H x) : JA G' H' := by
  obtain ⟨h1, h2, h3, h4, h5, h6⟩ := h
  refine ⟨hc, hm, by rw [ex 625 (by omega) (by omega)]; exact QQ_eq h3 (fun x x0 x1 => e x (by omega) (by omega)), RG_e h4 (fun x x0 x1 => e x (by omega) (by omega)) (ek 6 (by omega) (by omega)) (ex 629 (by omega) (by omega)), SV_e h5 (fun x x0 x1 => e x (by omega) (by omega)) (by rw [e 0 (by omega) (by omega)]) (ek 7 (by omega) (by omega)) (ex 628 (by omega) (by omega)), hb, ?_⟩
  rw [e 575 (by omega) (by omega), ek 11 (by omega) (by omega), ek 12 (by omega) (by omega)]
  exact h6.2
theorem jo_appendInput (h : JA G H) : JN True (fC_appendInput G 0 a b c d k) (fM_appendInput H 624 a b c d k) := by
  obtain ⟨v, G', H', e1, e2, hb, f1, f2, f3, f8⟩ := ap_input (a := a) (b := b) (c := c) (d := d) (k := k) h.1 h.2.1 h.2.2.2.2.2.1
  obtain ⟨X, c1, c2⟩ := tC_appendInput (a := a) (b := b) (c := c) (d := d) (k := k) h.1
  obtain ⟨Y, m1, m2, -⟩ := oM_appendInput (a := a) (b := b) (c := c) (d := d) (k := k) h.2.1
  have eX : X = G' := by rw [e1] at c1; exact (Prod.mk.inj (Option.some.inj c1)).2.symm
  have eY : Y = H' := by rw [e2] at m1; exact (Prod.mk.inj (Option.some.inj m1)).2.symm
  subst eX eY
  exact ⟨v, v, X, Y, e1, e2, JA_in h c2.1 m2 hb f1 f2 f3, f8, fun _ => rfl⟩
theorem jo_truncateInput (h : JA G H) : JN True (fC_truncateInput G 0 a) (fM_truncateInput H 624 a) := by
  obtain ⟨v, G', H', e1, e2, hb, f1, f2, f3, f8⟩ := tr_input (a := a) h.1 h.2.1 h.2.2.2.2.2.1
  obtain ⟨X, c1, c2⟩ := tC_truncateInput (v := a) h.1
  obtain ⟨Y, m1, m2, -⟩ := oM_truncateInput (a := a) h.2.1
  have eX : X = G' := by rw [e1] at c1; exact (Prod.mk.inj (Option.some.inj c1)).2.symm
  have eY : Y = H' := by rw [e2] at m1; exact (Prod.mk.inj (Option.some.inj m1)).2.symm
  subst eX eY
  exact ⟨v, v, X, Y, e1, e2, JA_in h c2.1 m2 hb f1 f2 f3, f8, fun _ => rfl⟩
end PAR35
