/-! ===== both readers' tokens are one (own work) ===== -/
section PAR4
variable {g g' G H K A : gH} {B F : Int → Int} {a b c d e i j k l m n p q s t u v w x y z : Int} {r : Nat}
/-- one input in both -/
def BB (G H : gH) : Prop := G 576 1 = H 624 10 ∧ BR (G 577) (H 631) (G 576 1)
theorem BB_0 (h : BB G H) : ∀ k, 0 ≤ k → k < H 624 10 → 0 ≤ H 631 k := fun k k0 k1 => (h.2 k k0 (by rw [h.1]; exact k1)).1.1
/-- the reference's token is the one behind e -/
def TA (e : Int) (H : gH) : Prop := IsR (H 631) isBl (H 624 10) e (H 624 16) ∧ IsT (H 631) (H 624 10) (H 624 16) (H 624 18) (H 624 15) ∧ (H 624 18 = 2 → H 624 15 - H 624 16 ≤ 2 → H 624 17 = numV (H 631) (H 624 16) (H 624 15))
/-- both stand at one token -/
def TQ (G H : gH) : Prop := (G 575 5 = H 624 16 ∧ G 575 6 = H 624 15) ∧ IsT (H 631) (H 624 10) (H 624 16) (H 624 18) (H 624 15) ∧ G 575 4 = (if H 624 18 = 2 ∧ 2 < H 624 15 - H 624 16 then 4 else H 624 18) ∧ (H 624 18 = 2 → H 624 15 - H 624 16 ≤ 2 → G 575 7 = H 624 17 ∧ 0 ≤ H 624 17 ∧ H 624 17 ≤ 99)
theorem TQ_of (hb : BB G H) (h0 : 0 ≤ e) (ha : TA e H) (hj : TJ e A G) : TQ G H := by
  obtain ⟨k, j1, j2, j3, j4, -⟩ := hj
  obtain ⟨a1, a2, a3⟩ := ha
  obtain ⟨b1, b2⟩ := hb
  have s1 := IsS_BF b2 h0 j1
  have s0 : 0 ≤ G 575 5 := by have := s1.1; omega
  have t1 := IsT_BF b2 s0 j2
  rw [b1] at s1 t1
  have es : G 575 5 = H 624 16 := IsR_u s1 a1
  rw [es] at t1
  obtain ⟨ek, et⟩ := IsT_u t1 a2
  refine ⟨⟨es, et⟩, a2, ?_, fun z1 z2 => ?_⟩
  · rw [j3, ek, es, et]
  · have hk : k = 2 := by omega
    rw [hk] at j2
    have nv := numV_BF b2 s0 j2 (by omega)
    rw [j4 hk (by omega), a3 z1 z2, ← es, ← et]
    exact ⟨nv.1, nv.2⟩
/-- a word is one in both, or in none -/
theorem aWord (hc : CR g G) (hm : MInv H) (tk : TK H) (hb : BB G H) (hq : TQ G H) (hr : r < 13) (hw : w = 2000000 + (r : Int)) (hv : v = 2000013 + (r : Int)) : ∃ y, fS_isWord G 575 w = some y ∧ fM_isWord H 624 v = some y ∧ (y = 0 ∨ y = 1) ∧ (y = 1 ↔ WM (H 631) (H 624 16) (H 624 15) r) := by
  have t0 := tk
  unfold TK at t0
  obtain ⟨⟨q1, q2⟩, q3, -⟩ := hq
  have b1 := hb.1
  obtain ⟨y, y1, y2, y3⟩ := aS_isWord hc (by rw [q1, q2, b1]; exact t0) hr hw
  obtain ⟨z, z1, z2, z3⟩ := aM_isWord hm tk hr hv
  rw [q1, q2] at y3
  have e1 : y = 1 ↔ WM (H 631) (H 624 16) (H 624 15) r := y3.trans (WM_BF hr hb.2 t0.1 (by rw [b1]; exact t0.2.2))
  have e2 : z = 1 ↔ WM (H 631) (H 624 16) (H 624 15) r := z3.trans ⟨fun x => x.2, fun x => ⟨WM_kind hr x q3, x⟩⟩
  have e : y = z := by
    rcases y2 with y2 | y2
    · rcases z2 with z2 | z2
      · rw [y2, z2]
      · exact absurd (e1.mpr (e2.mp z2)) (by omega)
    · exact y2.trans (e2.mpr (e1.mp y2)).symm
  exact ⟨y, y1, by rw [e]; exact z1, y2, e1⟩
/-- two steps that end alike -/
def RR (Φ : Int → gH → Int → gH → Prop) (X Y : Option (Int × gH)) : Prop := ∃ v G w H, X = some (v, G) ∧ Y = some (w, H) ∧ Φ v G w H
theorem RR_i {Φ : Int → gH → Int → gH → Prop} (h : Φ v G w H) : RR Φ (some (v, G)) (some (w, H)) := ⟨v, G, w, H, rfl, rfl, h⟩
theorem RR_b {Φ Ψ : Int → gH → Int → gH → Prop} {X Y : Option (Int × gH)} {A C : Int → gH → Option (Int × gH)} (h : RR Φ X Y) (hk : ∀ v G w H, Φ v G w H → RR Ψ (A v G) (C w H)) : RR Ψ (bdN X A) (bdN Y C) := by
  obtain ⟨v, G, w, H, rfl, rfl, z⟩ := h
  exact hk v G w H z
theorem RR_l {Ψ : Int → gH → Int → gH → Prop} {Q : Int → gH → Prop} {X Y : Option (Int × gH)} {A : Int → gH → Option (Int × gH)} (h : WN Q X) (hk : ∀ v G, Q v G → RR Ψ (A v G) Y) : RR Ψ (bdN X A) Y := by
  obtain ⟨v, G, rfl, z⟩ := h
  exact hk v G z
theorem RR_r {Ψ : Int → gH → Int → gH → Prop} {Q : Int → gH → Prop} {X Y : Option (Int × gH)} {A : Int → gH → Option (Int × gH)} (h : WN Q Y) (hk : ∀ v G, Q v G → RR Ψ X (A v G)) : RR Ψ X (bdN Y A) := by
  obtain ⟨v, G, rfl, z⟩ := h
  exact hk v G z
end PAR4
