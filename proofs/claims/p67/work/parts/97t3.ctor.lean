/-! ===== the law's layer: new OrphanTree() (own work) ===== -/
/-- the class's 624 cells behind the law's own -/
noncomputable def mS (S : sS) : sS := (S.1 + 624, (S.2.1 + 10117, ((fun x => if S.1 ≤ x ∧ x < S.1 + 624 then 98 else S.2.2.1 x), (S.2.2.2.1, (S.2.2.2.2.1, (S.1, g0))))))
theorem sn_mS {S : sS} : sn (mS S) = sn S + 624 := rfl
theorem ss_mS {S : sS} : ss (mS S) = ss S + 10117 := rfl
theorem sK_mS {S : sS} {x : Int} : sK (mS S) x = if sn S ≤ x ∧ x < sn S + 624 then 98 else sK S x := rfl
theorem sb_mS {S : sS} : sb (mS S) = sn S := rfl
theorem sc_mS {S : sS} : sc (mS S) = g0 := rfl
theorem ext_mS {S : sS} (h : SF S) (h1 : sn S + 624 ≤ 1000000) : EXT S (mS S) := fun x hx => by
  have e : ¬ (sn S ≤ x ∧ x < sn S + 624) := fun e => hx (h.2.2.2.2.2 x (Or.inr ⟨e.1, by omega, by omega⟩))
  exact ⟨if_neg e, rfl⟩
theorem wf_mS {κ : CX} {S : sS} (h : WF2 κ S) (hb : sb S = -1) (h1 : sn S + 624 ≤ 1000000) : WF2 κ (mS S) := by
  obtain ⟨⟨a1, a2⟩, ⟨f1, f2, f3, f4, f5, f6⟩, c1, c2, c3, c4⟩ := h
  refine ⟨⟨fun x y => ?_, g0_H⟩, ⟨by rw [sn_mS]; omega, fun x h0 h9 => ?_, ?_, fun hb x h0 h9 => ?_, fun x hx => ?_, fun x hx => ?_⟩, ?_, c2, c3, c4⟩
  · rw [sK_mS]
    show VT2 _ (sg S x y)
    by_cases e : sn S ≤ x ∧ x < sn S + 624
    · rw [if_pos e]
      have := a1 x y
      rw [f6 x (Or.inr ⟨e.1, by omega, by omega⟩)] at this
      exact this
    · rw [if_neg e]
      exact a1 x y
  · rw [sn_mS] at h9
    rw [sK_mS, sb_mS]
    show _ ∨ (_ ∧ sZ S x = _) ∨ (_ ∧ 0 ≤ sZ S x ∧ sZ S x ≤ 65536)
    by_cases e : sn S ≤ x ∧ x < sn S + 624
    · rw [if_pos e]
      exact Or.inl ⟨rfl, f1, e.1, e.2⟩
    · rw [if_neg e]
      rcases f2 x h0 (by omega) with g | g | g
      · omega
      · exact Or.inr (Or.inl g)
      · exact Or.inr (Or.inr g)
  · rw [sb_mS, sn_mS]
    exact Or.inr ⟨f1, by omega⟩
  · rw [sb_mS] at h0 h9
    rw [sK_mS, if_pos ⟨h0, h9⟩]
  · obtain ⟨g1, g2, g3⟩ := f5 x hx
    exact ⟨by rw [sK_mS, if_neg (by omega)]; exact g1, g2, g3⟩
  · rw [sn_mS] at hx
    rw [sK_mS, if_neg (by omega)]
    exact f6 x (by omega)
  · show sK (mS S) 1000000 = 20
    rw [sK_mS, if_neg (by omega)]
    exact c1
theorem w0_get {i : Nat} : ev_get pr_w0.1 i = if i < 624 then some (if i = 0 then ((6, (7, [ev_ch8 [vN, vN, vN, vN, vN, vN, (vI 0)]])) : ev_C) else pr_e9) else none := by
  rw [gb_get]
  unfold pr_w0
  dsimp only
  by_cases h0 : i / 64 = 0
  · rw [h0, if_pos (by omega)]
    show ((((6, (7, [ev_ch8 [vN, vN, vN, vN, vN, vN, (vI 0)]])) : ev_C) :: List.replicate 7 pr_e9) :: List.replicate 7 (List.replicate 8 pr_e9))[i / 8 % 8]?.bind (fun d => d[i % 8]?) = _
    by_cases h1 : i / 8 % 8 = 0
    · rw [h1]
      show (((6, (7, [ev_ch8 [vN, vN, vN, vN, vN, vN, (vI 0)]])) : ev_C) :: List.replicate 7 pr_e9)[i % 8]? = _
      by_cases h2 : i % 8 = 0
      · rw [h2, if_pos (by omega)]
        rfl
      · rw [if_neg (by omega), show i % 8 = (i % 8 - 1) + 1 by omega, List.getElem?_cons_succ, List.getElem?_replicate, if_pos (by omega)]
    · rw [if_neg (by omega), show i / 8 % 8 = (i / 8 % 8 - 1) + 1 by omega, List.getElem?_cons_succ, List.getElem?_replicate, if_pos (by omega)]
      show (List.replicate 8 pr_e9)[i % 8]? = _
      rw [List.getElem?_replicate, if_pos (by omega)]
  · rw [show i / 64 = (i / 64 - 1) + 1 by omega, List.getElem?_cons_succ, List.getElem?_append, List.length_replicate]
    by_cases h1 : i / 64 - 1 < 8
    · rw [if_pos h1, List.getElem?_replicate, if_pos h1, if_pos (by omega), if_neg (by omega)]
      show (List.replicate 8 (List.replicate 8 pr_e9))[i / 8 % 8]?.bind (fun d => d[i % 8]?) = _
      rw [List.getElem?_replicate, if_pos (by omega)]
      show (List.replicate 8 pr_e9)[i % 8]? = _
      rw [List.getElem?_replicate, if_pos (by omega)]
    · rw [if_neg h1]
      by_cases h2 : i / 64 - 1 - 8 = 0
      · rw [h2]
        show (List.replicate 6 (List.replicate 8 pr_e9))[i / 8 % 8]?.bind (fun d => d[i % 8]?) = _
        rw [List.getElem?_replicate]
        by_cases h3 : i / 8 % 8 < 6
        · rw [if_pos h3, if_pos (by omega), if_neg (by omega)]
          show (List.replicate 8 pr_e9)[i % 8]? = _
          rw [List.getElem?_replicate, if_pos (by omega)]
        · rw [if_neg h3, if_neg (by omega)]
          rfl
      · rw [show i / 64 - 1 - 8 = (i / 64 - 1 - 8 - 1) + 1 by omega, List.getElem?_cons_succ, if_neg (by omega)]
        rfl
