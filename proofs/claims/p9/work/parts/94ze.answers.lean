/-! ===== answers to questions, in both: what all of them need (own work) ===== -/
section PAR42
variable {g g' G G' H H' K : gH} {r r' dm : Int → Int} {a b c d e i j k l m n o p q s t u v w x y z S T gp code : Int}
/-! marks of throws -/
def tp (e : Nat) : Int := if e = 2 then 1 else if e = 0 then 2 else 0
def tq (e : Nat) : Int := if e = 2 then 1 else 0
def tn (e : Nat) : Int := if e = 3 then 1 else 0
/-- what a question that never throws answers -/
def JV (G : gH) (X : Option Int) (Y : Option (Int × gH)) : Prop := ∃ v H, X = some v ∧ Y = some (v, H) ∧ JA G H ∧ H 624 8 = 0
theorem JV_i (h : JA G H) (e : H 624 8 = 0) : JV G (some v) (some (v, H)) := ⟨v, H, rfl, rfl, h, e⟩
theorem gone_ (h : JA G H) (a : 0 ≤ p ∧ p < H 625 0) : fM_isGone H 624 p = some (if H 625 (140 + p) = 2 then 1 else 0) := by
  have hb := jaM h
  exact vM_isGone h.2.1.1 (by omega)
/-- who has one below that isn't gone runs -/
theorem over_run {r : Int → Int} (hw : WBF r) (hk : 0 ≤ k ∧ k < r 0) (hs : ¬ r (140 + k) = 2) (ho : OV (up r) p k = true) : r (140 + p) = 0 := by
  have hA := hw.1.2.2.1
  have k0 : k ≠ 0 := fun z => by rw [z, OV_0] at ho; cases ho
  have hs1 := hw.2.2.1 k (by omega) hk.2 hs
  have rg := hw.1.2.1 k (by omega) hk.2
  rw [OV_s (hA k hk.1 hk.2) k0] at ho
  by_cases c : up r k = p
  · rw [← c]; exact hs1
  · rw [if_neg c] at ho
    exact Bl_run hw 40 (up r k) (hA _ rg.1 rg.2) ⟨rg.1, rg.2⟩ hs1 (Bl_ov ho)
theorem vM_belowOf (hs : MS H) (hb : WB (H 625)) : fM_belowOf H 624 p = some (cn (fun k => decide (H 625 (140 + k) = 0) && OV (up (H 625)) p k) (H 625 0).toNat 0) := by
  have h0 := hs.1
  have hM := hb.1
  have hfu := fu_ge
  have l : lM_belowOf_4 H 624 p fu 0 1 = some (0 + cn (fun k => decide (H 625 (140 + k) = 0) && OV (up (H 625)) p k) (H 625 0 - 1).toNat 1) := cnt_loop (L := fun n k x => lM_belowOf_4 H 624 p n x k) (E := some) (fun k => decide (H 625 (140 + k) = 0) && OV (up (H 625)) p k) (H 625 0) 1 (by omega) (fun n k x h1 h2 h3 h4 => by
    show bM_belowOf_4 H 624 p (lM_belowOf_4 H 624 p n) x k = _
    rw [bM_belowOf_4, h0, if_pos (g625 (by omega)), if_pos h2, vM_runs hs (by omega), bdP_s, vM_isOver hs (hb.2.2.1 k (by omega) h2), bdP_s, w32_r (x := k + 1) (by omega), w32_r (x := x + 1) (by omega), w32_r (x := x + 0) (by omega)]
    by_cases c : H 625 (140 + k) = 0
    · rw [if_pos c, if_neg f0, decide_eq_true c, Bool.true_and]
      by_cases c2 : OV (up (H 625)) p k = true
      · rw [if_pos c2, if_neg f0]
      · rw [if_neg c2, if_pos rfl]
    · rw [if_neg c, if_pos rfl, decide_eq_false c, Bool.false_and]
      rfl) (fun n k x h1 h2 => by
    show bM_belowOf_4 H 624 p (lM_belowOf_4 H 624 p n) x k = _
    rw [bM_belowOf_4, h0, if_pos (g625 (by omega)), if_neg h2]) (H 625 0 - 1).toNat 1 0 fu (by omega) (by omega) (by omega) (by omega) (by omega)
  rw [fM_belowOf, l, Int.zero_add, show (H 625 0).toNat = (H 625 0 - 1).toNat + 1 by omega, cn_s, OV_0, Bool.and_false]
  show some _ = some ((if false = true then 1 else 0) + _)
  rw [if_neg (by decide), Int.zero_add]
  rfl
theorem g24_ (h : QQ S G r dm) (hk : 0 ≤ k ∧ k < 40) : kd (S + 2) = 24 ∧ (0 : Int) ≤ k ∧ k < sz (S + 2) := ⟨kdT2 h.1, hk.1, by rw [szT2 h.1]; exact hk.2⟩
end PAR42
