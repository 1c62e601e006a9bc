/-! ===== the reference's changes of its row (own work) ===== -/
theorem le_t {a b : Int} (h : a ≤ b) : (a ≤ b) = True := eq_true h
theorem lt_t {a b : Int} (h : a < b) : (a < b) = True := eq_true h
theorem lt_f {a b : Int} (h : ¬ a < b) : (a < b) = False := eq_false h
theorem le_f {a b : Int} (h : ¬ a ≤ b) : (a ≤ b) = False := eq_false h
theorem eq_t {a b : Int} (h : a = b) : (a = b) = True := eq_true h
theorem eq_f {a b : Int} (h : ¬ a = b) : (a = b) = False := eq_false h
def adR (r : Int → Int) (p o : Int) : Int → Int := u1 (u1 (u1 (u1 r (60 + o) p) (380 + o) (w32 (r (380 + o) + 1))) 2 (w32 (r 2 + 1))) 3 (w32 (r 3 + if p = 0 then 1 else 0))
theorem adR_n {r : Int → Int} {p o k : Int} (h : ¬ k = 3 ∧ ¬ k = 2 ∧ ¬ k = 380 + o ∧ ¬ k = 60 + o) : adR r p o k = r k := by
  unfold adR
  rw [u1_n h.1, u1_n h.2.1, u1_n h.2.2.1, u1_n h.2.2.2]
theorem adR_s {r : Int → Int} {p o : Int} (h : 0 ≤ o ∧ o < 40) : adR r p o (60 + o) = p := by
  unfold adR
  rw [u1_n (by omega), u1_n (by omega), u1_n (by omega), u1_s]
/-- a new one's row -/
def cmR (r : Int → Int) (a c gp b : Int) : Int → Int := fun k =>
  if k = 0 then r 0 + 1 else if 460 + 8 * r 0 ≤ k ∧ k < 468 + 8 * r 0 then -1 else if k = 420 + r 0 then -1 else if k = 380 + r 0 then 0 else if k = 340 + r 0 then 0 else if k = 300 + r 0 then -1 else if k = 260 + r 0 then -1 else if k = 220 + r 0 then b else if k = 180 + r 0 then gp else if k = 140 + r 0 then 0 else if k = 100 + r 0 then c else if k = 60 + r 0 then a else r k
section MODEL3
variable {g : gH} {p a st o wo k x d c gp b : Int}
theorem vM_adopts (hs : MS g) (ho : 0 ≤ o ∧ o < 40) : fM_adopts g 624 p o = some (0, sw g (adR (g 625) p o)) := by
  have h0 := hs.1
  simp (disch := omega) only [fM_adopts, h0, kd_625, sz_625, w32_r, true_and, le_t, lt_t, and_true, ↓bnd_s, pU_625, pU_sw, sw_sw, sw_s, sw_n, u1_n, u1_s, adR, if_true, ↓reduceIte]
  by_cases hp : p = 0
  · simp (disch := omega) only [hp, if_true, if_pos]
  · simp (disch := omega) only [hp, if_false, if_pos]
theorem MS_sw {r : Int → Int} (hs : MS g) : MS (sw g r) := by
  unfold MS at hs ⊢
  rw [sw_n (by omega)]
  exact hs
theorem MS_pU {v : Int} (hs : MS g) (ha : ¬ (624 : Int) = a) : MS (pU g a k v) := by
  unfold MS at hs ⊢
  rw [pU_n ha]
  exact hs
theorem vM_comes (hs : MS g) (hM : 0 ≤ g 625 0 ∧ g 625 0 < 40) : fM_comes g 624 a c gp b = some (g 625 0, sw g (cmR (g 625) a c gp b)) := by
  have h0 := hs.1
  simp (disch := omega) only [fM_comes, h0, kd_625, sz_625, w32_r, true_and, le_t, lt_t, and_true, ↓bnd_s, pU_625, pU_sw, sw_sw, sw_s, sw_n, u1_n, u1_s, ↓reduceIte]
  generalize hr : u1 (u1 (u1 (u1 (u1 (u1 (u1 (u1 (u1 (u1 (g 625) (60 + g 625 0) a) (100 + g 625 0) c) (140 + g 625 0) 0) (180 + g 625 0) gp) (220 + g 625 0) b) (260 + g 625 0) (-1)) (300 + g 625 0) (-1)) (340 + g 625 0) 0) (380 + g 625 0) 0) (420 + g 625 0) (-1) = r1
  have hr0 : r1 0 = g 625 0 := by
    rw [← hr]
    simp (disch := omega) only [u1_n]
  obtain ⟨s', e1, e2⟩ := for_some (L := fun n k r => lM_comes_130 624 (g 625 0) n k (sw g r)) (E := fun r => jM_comes_161 (sw g r) 624 (g 625 0)) 8 (fun k r => (0 ≤ k ∧ k ≤ 8) ∧ r = fun j => if 460 + 8 * g 625 0 ≤ j ∧ j < 460 + 8 * g 625 0 + k then -1 else r1 j) (fun n k r hk hI => by
    obtain ⟨hI, hI2⟩ := hI
    refine ⟨u1 r (460 + 8 * g 625 0 + k) (-1), ?_, by omega, ?_⟩
    · show bM_comes_130 624 (g 625 0) (lM_comes_130 624 (g 625 0) n) k (sw g r) = _
      rw [bM_comes_130]
      simp (disch := omega) only [opI_mul, sw_n, h0, kd_625, sz_625, w32_r, true_and, le_t, lt_t, and_true, ↓reduceIte, ↓bnd_s, pU_sw]
    · rw [hI2]
      funext j
      show (if j = 460 + 8 * g 625 0 + k then -1 else if 460 + 8 * g 625 0 ≤ j ∧ j < 460 + 8 * g 625 0 + k then -1 else r1 j) = _
      split
      · next h => rw [if_pos (by omega)]
      · next h =>
        by_cases h2 : 460 + 8 * g 625 0 ≤ j ∧ j < 460 + 8 * g 625 0 + k
        · rw [if_pos h2, if_pos (by omega)]
        · rw [if_neg h2, if_neg (by omega)]) (fun n k r hk hI => by
    show bM_comes_130 624 (g 625 0) (lM_comes_130 624 (g 625 0) n) k (sw g r) = _
    rw [bM_comes_130]
    simp (disch := omega) only [if_neg]) 8 0 r1 fu (by omega) (by have := fu_ge; omega) ⟨by omega, by
      funext j
      rw [if_neg (by omega)]⟩
  obtain ⟨e2, e3⟩ := e2
  have e4 : s' 0 = g 625 0 := by
    rw [e3]
    show (if 460 + 8 * g 625 0 ≤ 0 ∧ (0 : Int) < 460 + 8 * g 625 0 + max 0 8 then -1 else r1 0) = _
    rw [if_neg (by omega), hr0]
  rw [e1, jM_comes_161]
  simp (disch := omega) only [sw_n, h0, kd_625, sz_625, w32_r, true_and, le_t, lt_t, and_true, ↓reduceIte, ↓bnd_s, pU_sw, sw_s, e4]
  congr 3
  funext j
  rw [e3, ← hr]
  unfold cmR u1
  by_cases j0 : j = 0
  · rw [if_pos j0, if_pos j0]
  · rw [if_neg j0, if_neg j0]
    show (if 460 + 8 * g 625 0 ≤ j ∧ j < 460 + 8 * g 625 0 + max 0 8 then -1 else _) = _
    by_cases j1 : 460 + 8 * g 625 0 ≤ j ∧ j < 468 + 8 * g 625 0
    · rw [if_pos j1, if_pos (by omega)]
    · rw [if_neg j1, if_neg (by omega)]
/-- whether there is a replacement, and the row behind it -/
abbrev RPc (r dm : Int → Int) (p code : Int) : Prop := ¬ code = 0 ∧ dm (r (60 + p)) = 0 ∧ ¬ r (220 + r (60 + p)) = 0 ∧ ¬ r 0 = 40
def rpA (r : Int → Int) (p : Int) : Int → Int := u1 (u1 r (220 + r (60 + p)) (w32 (r (220 + r (60 + p)) - 1))) 4 (w32 (r 4 + 1))
def rpR (r : Int → Int) (p : Int) : Int → Int := u1 (cmR (rpA r p) (r (60 + p)) (rpA r p (100 + p)) (rpA r p (180 + p)) (rpA r p (220 + p))) (420 + p) (r 0)
theorem vM_replaces (hs : MS g) (hM : 1 ≤ g 625 0 ∧ g 625 0 ≤ 40) (hp : 0 ≤ p ∧ p < g 625 0) (hu : 0 ≤ g 625 (60 + p) ∧ g 625 (60 + p) < g 625 0) :
    (RPc (g 625) (g 630) p c → fM_replaces g 624 p c = some (g 625 0, sw (pU g 630 (g 625 0) 0) (rpR (g 625) p))) ∧ (¬ RPc (g 625) (g 630) p c → fM_replaces g 624 p c = some (-1, g)) := by
  have h0 := hs.1
  have h5 := hs.2.2.2.2.1
  rw [fM_replaces]
  unfold RPc
  by_cases c1 : c = 0
  · refine ⟨fun h => absurd c1 h.1, fun _ => ?_⟩
    simp (disch := omega) only [c1, h0, kd_625, sz_625, w32_r, true_and, le_t, lt_t, and_true, ↓reduceIte]
  · by_cases c2 : g 630 (g 625 (60 + p)) = 0
    · by_cases c3 : g 625 (220 + g 625 (60 + p)) = 0
      · refine ⟨fun h => absurd c3 h.2.2.1, fun _ => ?_⟩
        simp (disch := omega) only [c1, c2, c3, h0, h5, kd_625, sz_625, kd_630, sz_630, w32_r, true_and, le_t, lt_t, and_true, ↓reduceIte]
      · by_cases c4 : g 625 0 = 40
        · refine ⟨fun h => absurd c4 h.2.2.2, fun _ => ?_⟩
          simp (disch := omega) only [c1, c2, c3, h0, h5, kd_625, sz_625, kd_630, sz_630, w32_r, true_and, le_t, lt_t, and_true, ↓reduceIte]
          rw [if_pos c4]
        · refine ⟨fun _ => ?_, fun h => absurd ⟨c1, c2, c3, c4⟩ h⟩
          have hc := vM_comes (g := sw g (rpA (g 625) p)) (a := g 625 (60 + p)) (c := rpA (g 625) p (100 + p)) (gp := rpA (g 625) p (180 + p)) (b := rpA (g 625) p (220 + p)) (MS_sw hs) (by rw [sw_s, rpA, u1_n (by omega), u1_n (by omega)]; omega)
          rw [sw_s] at hc
          have e0 : rpA (g 625) p 0 = g 625 0 := by
            unfold rpA
            rw [u1_n (by omega), u1_n (by omega)]
          rw [e0, sw_sw] at hc
          simp (disch := omega) only [c1, c2, c3, c4, h0, h5, kd_625, sz_625, kd_630, sz_630, w32_r, true_and, le_t, lt_t, and_true, ↓reduceIte, ↓bnd_s, pU_625, pU_sw, sw_sw, sw_s, sw_n, u1_n]
          simp (disch := omega) only [rpA, u1_n] at hc
          rw [hc]
          simp (disch := omega) only [bdN_s, sw_n, h0, h5, kd_625, sz_625, kd_630, sz_630, w32_r, true_and, le_t, lt_t, and_true, ↓reduceIte, ↓bnd_s, pU_sw', pU_n, pU_sw, rpR, rpA, u1_n]
    · refine ⟨fun h => absurd h.2.1 c2, fun _ => ?_⟩
      simp (disch := omega) only [c1, c2, h0, h5, kd_625, sz_625, kd_630, sz_630, w32_r, true_and, le_t, lt_t, and_true, ↓reduceIte]
end MODEL3
