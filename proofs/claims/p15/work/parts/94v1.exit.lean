/-! ===== the class's exit on a tree, as the row changes, more (own work) ===== -/
section PAR24
variable {g g' G H K : gH} {r r' dm κ κ' : Int → Int} {a b c d e i j k l m n o p q s t u v w wo x y z S code : Int}
/-- duties pass on -/
theorem aT_duties (hp : 0 < p) : ∀ (m n : Nat) (k : Int) (G : gH) (r : Int → Int), (8 - k).toNat = m → m < n → 0 ≤ k → k ≤ 8 → QQ S G r dm → EP r p s q → HP r p k → ∃ G', lT_passDuties_2 S (pc S p) (pcx S q) n k G = some (0, G') ∧ QQ S G' (fd (fun k r => dutS dm p q k r) m k r) dm ∧ TF S G G' := by
  intro m
  induction m with
  | zero =>
    intro n k G r hm hn k0 k1 h he hh
    obtain ⟨n, rfl⟩ : ∃ k, n = k + 1 := ⟨n - 1, by omega⟩
    refine ⟨G, ?_, h, TF_r⟩
    show bT_passDuties_2 S (pc S p) (pcx S q) (lT_passDuties_2 S (pc S p) (pcx S q) n) k G = _
    rw [bT_passDuties_2, if_neg (by omega)]
  | succ m ih =>
    intro n k G r hm hn k0 k1 h he hh
    obtain ⟨n, rfl⟩ : ∃ k, n = k + 1 := ⟨n - 1, by omega⟩
    have hb := QQ_b h
    have hpr := he.2.1.2.2.1
    have hc1 := he.2.2.2.2.1.1
    have hq := he.2.2.2.2.2.2.2.2.2
    obtain ⟨d1, d2, d3⟩ := dut_step (dm := dm) he hh ⟨k0, by omega⟩
    have g3 : kd (S + 3) = 20 ∧ (0 : Int) ≤ k ∧ k < sz (S + 3) := ⟨kdT3 h.1, k0, by rw [szT3 h.1]; omega⟩
    have ef : fd (fun k r => dutS dm p q k r) (m + 1) k r = fd (fun k r => dutS dm p q k r) m (k + 1) (dutS dm p q k r) := rfl
    -- a holder is written
    have wr : ∀ v, 0 ≤ v → v < r 0 → dutS dm p q k r = u1 r (11 + k) v → ∃ G', lT_passDuties_2 S (pc S p) (pcx S q) n (w32 (k + 1)) (pU G (S + 3) k (G (pc S v) 0)) = some (0, G') ∧ QQ S G' (fd (fun k r => dutS dm p q k r) (m + 1) k r) dm ∧ TF S G G' := by
      intro v v0 v1 ev
      rw [TS_n h.2.1.1 ⟨v0, by omega⟩, w32_r (by omega), ef]
      have hI := IT_w (a := S + 3) (b := k) (v := v) (IT_r h.2.1) (by omega)
      have h' : QQ S (pU G (S + 3) k v) (dutS dm p q k r) dm := by
        rw [ev] at d1 d3 ⊢
        refine ⟨h.1, hI.1, d1.1, CP_d h.2.2.2.1 (by omega) (by omega) ⟨k0, by omega⟩, fun i i0 i1 => ?_, ?_⟩
        · have bi := pc_b (T := S) (i := i) (by omega)
          rw [pU_n (by omega)]
          exact h.2.2.2.2.1 i i0 i1
        · exact LR_e h.2.2.2.2.2 (u1_n (by omega)) (u1_n (by omega)) (u1_n (by omega))
      obtain ⟨G', e1, e2, e3⟩ := ih n (k + 1) _ _ (by omega) (by omega) (by omega) (by omega) h' d1 d2
      exact ⟨G', e1, e2, TF_t hI.2 e3⟩
    show ∃ G', bT_passDuties_2 S (pc S p) (pcx S q) (lT_passDuties_2 S (pc S p) (pcx S q) n) k G = some (0, G') ∧ _
    rw [bT_passDuties_2, if_pos (by omega), TS_2 h.2.1.1, if_pos g3, if_pos (kdp h.1 (by omega)), h.2.2.2.1.2.2.1 k k0 (by omega), TS_n h.2.1.1 (by omega)]
    by_cases c : r (11 + k) = p
    · rw [if_pos c]
      by_cases c2 : q = -1
      · rw [c2, pcx_n, if_pos (show (-1 : Int) < 0 by omega), qT_inherit h (by omega) (by omega), bdP_s]
        have hv : 0 ≤ HO r dm p k ∧ HO r dm p k < r 0 := by
          rcases HO_f (dm := dm) he.1 (p := p) (by omega) ⟨k0, by omega⟩ with z | z
          · rw [z]; exact QQ_rg h (by omega)
          · exact ⟨z.1, z.2.1⟩
        rw [if_pos (kdp h.1 (by omega)), if_pos g3, bnd_s]
        have := wr (HO r dm p k) hv.1 hv.2 (by unfold dutS; rw [if_pos c, if_pos c2])
        rw [c2, pcx_n] at this
        exact this
      · have hq : 0 < q ∧ q < r 0 := by
          rcases hq with z | z
          · exact absurd z c2
          · exact ⟨z.1, z.2.1⟩
        rw [pcx_p (by omega), if_neg (pc_pos h.1 (by omega)), if_pos (kdp h.1 (by omega)), if_pos g3, bnd_s]
        have := wr q (by omega) hq.2 (by unfold dutS; rw [if_pos c, if_neg c2])
        rw [pcx_p (by omega)] at this
        exact this
    · rw [if_neg c, w32_r (by omega), ef]
      have e1 : dutS dm p q k r = r := by unfold dutS; rw [if_neg c]
      rw [e1] at d2 ⊢
      exact ih n (k + 1) G r (by omega) (by omega) (by omega) (by omega) h he d2
end PAR24
