/-! ===== calls that change the tree, in both: exit to give (own work) ===== -/
section PAR30
variable {g g' G G' H H' K : gH} {r r' d d' dm : Int → Int} {a b c e i j k l m n o p q s t u v w x y z S T gp code : Int}
/-- what a call of both answers: where the class throws its e-th, the reference marks tm e; P: the answers are compared -/
def JO (tm : Nat → Int) (P : Prop) (X : Option (Nat × (Int × gH))) (Y : Option (Int × gH)) : Prop := (∃ v w G H, X = some (0, (v, G)) ∧ Y = some (w, H) ∧ JA G H ∧ H 624 8 = 0 ∧ (P → v = w)) ∨ ∃ e v w G H, X = some (e + 1, (v, G)) ∧ Y = some (w, H) ∧ JA G H ∧ H 624 8 = tm e ∧ ¬ tm e = 0
theorem JO_i {tm : Nat → Int} {P : Prop} (h : JA G H) (e : H 624 8 = 0) (hv : P → v = w) : JO tm P (some (0, (v, G))) (some (w, H)) := Or.inl ⟨v, w, G, H, rfl, rfl, h, e, hv⟩
theorem JO_e {tm : Nat → Int} {P : Prop} {k : Nat} (h : JA G H) (e : H 624 8 = tm k) (hn : ¬ tm k = 0) : JO tm P (some (k + 1, (v, G))) (some (w, H)) := Or.inr ⟨k, v, w, G, H, rfl, rfl, h, e, hn⟩
/-! the marks of throws, by the order in which the document lists them -/
def t3 (e : Nat) : Int := if e = 2 then 1 else if e = 0 then 2 else if e = 1 then 3 else 0
def t2 (e : Nat) : Int := if e = 2 then 1 else if e = 1 then 2 else 0
def t0 (e : Nat) : Int := if e = 0 then 1 else 0
def tv (e : Nat) : Int := if e = 0 then 1 else if e = 2 then 2 else if e = 1 then 3 else 0
def tr (e : Nat) : Int := if e = 2 then 1 else if e = 1 then 2 else if e = 3 then 3 else 0
def t1 (e : Nat) : Int := if e = 1 then 1 else 0
theorem th8 : th g t 624 8 = t := by unfold th; rw [pU_s, u1_s]
theorem ja0 (h : JA G H) : G 0 0 = 1 := h.1.1.1.1
theorem ja1 (h : JA G H) : G 0 1 = 45 := h.1.1.1.2.1
theorem ja2 (h : JA G H) : G 0 2 = 89 := h.1.1.1.2.2.1
theorem ja3 (h : JA G H) : G 0 3 = 133 := h.1.1.1.2.2.2.1
theorem ja5 (h : JA G H) : G 0 5 = 622 := h.1.1.1.2.2.2.2.2
theorem jaM (h : JA G H) : 1 ≤ H 625 0 ∧ H 625 0 ≤ 40 := h.2.1.2.1.1.1
theorem jaQ (h : JA G H) : QQ 1 G (H 625) (fun _ => 0) := h.2.2.1
theorem ja40 (h : JA G H) : H 625 1 ≤ 40 := by have := WBF_1 h.2.1.2.1; omega
theorem qe1 {β : Type} {v : Int} {k : Int → Option β} {l : Nat → Option β} : bdQ (some (1, v)) k l = l 0 := rfl
theorem qe2 {β : Type} {v : Int} {k : Int → Option β} {l : Nat → Option β} : bdQ (some (2, v)) k l = l 1 := rfl
theorem qe3 {β : Type} {v : Int} {k : Int → Option β} {l : Nat → Option β} : bdQ (some (3, v)) k l = l 2 := rfl
theorem qe4 {β : Type} {v : Int} {k : Int → Option β} {l : Nat → Option β} : bdQ (some (4, v)) k l = l 3 := rfl
theorem jn_y (h : JA G H) (hp : 0 ≤ p ∧ p < H 625 0) : fC_named G 0 p = some (0, pc 1 p) := by
  have hb := jaM h
  rw [fC_named, ja0 h, if_pos (kdT T1), qT_at (jaQ h), if_pos hp, bdP_s, if_neg (pc_pos T1 (by omega))]
theorem jn_n (h : JA G H) (hp : ¬ (0 ≤ p ∧ p < H 625 0)) : fC_named G 0 p = some (3, 0) := by
  rw [fC_named, ja0 h, if_pos (kdT T1), qT_at (jaQ h), if_neg hp, bdP_s, if_pos (by omega)]
theorem rg_y (h : 0 ≤ v ∧ v ≤ w) : fC_checkRange g v w = some (0, 0) := by rw [fC_checkRange, if_neg (by omega), if_neg (by omega)]
theorem rg_n (h : ¬ (0 ≤ v ∧ v ≤ w)) : fC_checkRange g v w = some (1, 0) := by
  rw [fC_checkRange]
  by_cases c : v < 0
  · rw [if_pos c]
  · rw [if_neg c, if_pos (by omega)]
theorem st_n : fC_checkState g 0 = some (2, 0) := by rw [fC_checkState, if_pos rfl]
theorem st_1 : fC_checkState g 1 = some (0, 0) := by rw [fC_checkState, if_neg f0]
theorem fl0 : fM_fails g 624 0 code = some (0, g) := by rw [vM_fails (Or.inl rfl), if_pos rfl]
theorem fl1 : fM_fails g 624 1 code = some (1, th g code) := by rw [vM_fails (Or.inr rfl), if_neg f0]
theorem qP_run (h : QQ S G r d) (hi : 0 ≤ i ∧ i < r 0) : fP_isRunning G (pc S i) = some (if r (140 + i) = 0 then 1 else 0) := by
  rw [fP_isRunning, QQ_st h hi]
  split <;> rfl
/-- the tree goes into the past, then an act on it -/
theorem jo_act {tm : Nat → Int} {P : Prop} {A : Int → gH → Option (Nat × (Int × gH))} {B : Int → gH → Option (Int × gH)} (h : JA G H) (h8 : H 624 8 = 0) (hk : ∀ G1 H1, JA G1 H1 → QQ 1 G1 (H1 625) (H1 630) → (∀ x, x < 133 → G1 x = G x) → H1 625 = H 625 → ∃ v w G' r' d', A 0 G1 = some (0, (v, G')) ∧ B 0 H1 = some (w, sw (md H1 d') r') ∧ (P → v = w) ∧ QQ 1 G' r' d' ∧ WBF r' ∧ TF 1 G1 G' ∧ ∀ i, 0 ≤ i → i < 40 → d' i = 0) : JO tm P (if kd (G 0 3) = 0 then bdN (fH_push G (G 0 3) (G 0 0)) A else none) (bdN (fM_remembers H 624) B) := by
  obtain ⟨G1, H1, x1, x2, x3, x4, x5, x6⟩ := JA_push h
  rw [ja3 h, if_pos kd_133, ja0 h, x1, bdN_s, x2, bdN_s]
  obtain ⟨v, w, G', r', d', y1, y2, y3, y4, y5, y6, y7⟩ := hk G1 H1 x3 (QQ_d (jaQ x3) (fun i i0 i1 => x3.2.1.2.2.1 i i0 i1)) x4 (x5 625 (by omega) (by omega))
  rw [y1, y2]
  refine JO_i (JA_act x3 y6 y4 y7 y5) ?_ y3
  rw [sw_n (by omega), md_n (by omega), x6 8 (by omega)]
  exact h8
/-- an act that leaves the marks -/
theorem jo_act0 {tm : Nat → Int} {P : Prop} {A : Int → gH → Option (Nat × (Int × gH))} {B : Int → gH → Option (Int × gH)} (h : JA G H) (h8 : H 624 8 = 0) (hk : ∀ G1 H1, JA G1 H1 → QQ 1 G1 (H1 625) (H1 630) → (∀ x, x < 133 → G1 x = G x) → H1 625 = H 625 → ∃ v w G' r', A 0 G1 = some (0, (v, G')) ∧ B 0 H1 = some (w, sw H1 r') ∧ (P → v = w) ∧ QQ 1 G' r' (H1 630) ∧ WBF r' ∧ TF 1 G1 G') : JO tm P (if kd (G 0 3) = 0 then bdN (fH_push G (G 0 3) (G 0 0)) A else none) (bdN (fM_remembers H 624) B) :=
  jo_act h h8 (fun G1 H1 j q1 eG e25 => by
    obtain ⟨v, w, G', r', y1, y2, y3, y4, y5, y6⟩ := hk G1 H1 j q1 eG e25
    exact ⟨v, w, G', r', H1 630, y1, by rw [md_id]; exact y2, y3, y4, y5, y6, fun i i0 i1 => j.2.1.2.2.1 i i0 i1⟩)
theorem jo_exit (h : JA G H) : JO t3 True (fC_exit G 0 p code) (fM_exit H 624 p code) := by
  have hb := jaM h
  have q := jaQ h
  rw [fC_exit, fC_namedForExit, fM_exit]
  rcases vM_noExit (p := p) (code := code) h.2.1 with ⟨a, e⟩ | ⟨a, b, e⟩ | ⟨a, b, c, e⟩ | ⟨a, b, c, e⟩
  · rw [e, bdN_s, if_neg f0, jn_n h a, qe3, bdQ_e]
    exact JO_e (JA_th h) (th8.trans rfl) (by decide)
  · rw [e, bdN_s, if_neg f0, jn_y h a, bdQ_0, rg_n b, qe1, bdQ_e]
    exact JO_e (JA_th h) (th8.trans rfl) (by decide)
  · rw [e, bdN_s, if_neg f0, jn_y h a, bdQ_0, rg_y b, bdQ_0, if_pos (kdp T1 (by omega)), qP_mortal q (by omega), bdP_s, if_neg (fun z => c ⟨by omega, z.2⟩), st_n, qe2, bdQ_e]
    exact JO_e (JA_th h) (th8.trans rfl) (by decide)
  · rw [e, bdN_s, if_pos rfl, jn_y h ⟨by omega, a.2⟩, bdQ_0, rg_y b, bdQ_0, if_pos (kdp T1 (by omega)), qP_mortal q (by omega), bdP_s, if_pos ⟨a, c⟩, st_1, bdQ_0, bdQ_0]
    refine jo_act (JA_th h) th8 (fun G1 H1 j q1 eG e25 => ?_)
    have e1 : H1 625 = H 625 := e25.trans (th_n (by omega))
    obtain ⟨G2, v, d2, x1, x2, x3, x4, x5, -, -, -, -, -, x11⟩ := lk_exit (p := p) (code := code) j.2.1.1 q1 j.2.1.2.1 (by rw [e1]; exact a) (by rw [e1]; exact c) b
    rw [md_id, sw_id] at x2
    rw [ja0 j, if_pos (kdT T1), x1, bdN_s, x2, bdN_s]
    exact ⟨v, v, G2, _, d2, rfl, rfl, fun _ => rfl, x3, x4, x5, fun i i0 i1 => x11 i (j.2.1.2.2.1 i i0 i1)⟩
theorem jo_kill (h : JA G H) : JO t0 True (fC_kill G 0 gp code) (fM_kill H 624 gp code) := by
  rw [fC_kill, fC_checkKill, fM_kill]
  rcases vM_noKill (g := H) (a := gp) (code := code) with ⟨a, e⟩ | ⟨a, e⟩
  · rw [e, bdN_s, if_neg f0]
    by_cases c1 : 0 ≤ gp ∧ gp ≤ 9
    · rw [rg_y c1, bdQ_0, rg_n (fun z => a ⟨c1, z⟩), qe1, bdQ_e]
      exact JO_e (JA_th h) (th8.trans rfl) (by decide)
    · rw [rg_n c1, qe1, bdQ_e]
      exact JO_e (JA_th h) (th8.trans rfl) (by decide)
  · rw [e, bdN_s, if_pos rfl, rg_y a.1, bdQ_0, rg_y a.2, bdQ_0, bdQ_0]
    refine jo_act (JA_th h) th8 (fun G1 H1 j q1 eG e25 => ?_)
    obtain ⟨v, G2, r2, d2, x1, x2, x3, x4, x5, x6, -⟩ := lk_kill (gp := gp) (code := code) j.2.1.1 q1 j.2.1.2.1 a.2
    rw [md_id, sw_id] at x2
    rw [ja0 j, if_pos (kdT T1), x1, bdN_s, x2, bdN_s]
    exact ⟨v, v, G2, _, d2, rfl, rfl, fun _ => rfl, x3, x4, x6, x5⟩
end PAR30
