/-! ===== calls that change the tree, in both: exit to give (own work) ===== -/
section PAR30
variable {g g' G G' H H' K : gH} {r r' d d' dm : Int → Int} {a b c e i j k l m n o p q s t u v w x y z S T gp code : Int}
/-- what a call of both answers: where the class throws its e-th, the reference marks tm e; P: the answers are compared -/
def JO (tm : Nat → Int) (P : Prop) (X : Option (Nat × (Int × gH))) (Y : Option (Int × gH)) : Prop := (∃ v w G H, X = some (0, (v, G)) ∧ Y = some (w, H) ∧ JA G H ∧ H 624 8 = 0 ∧ (P → v = w)) ∨ ∃ e v w G H, X = some (e + 1, (v, G)) ∧ Y = some (w, H) ∧ JA G H ∧ H 624 8 = tm e ∧ ¬ tm e = 0
theorem JO_i {tm : Nat → Int} {P : Prop} (h : JA G H) (e : H 624 8 = 0) (hv : P → v = w) : JO tm P (some (0, (v, G))) (some (w, H)) := Or.inl ⟨v, w, G, H, rfl, rfl, h, e, hv⟩
theorem JO_e {tm : Nat → Int} {P : Prop} {k : Nat} (h : JA G H) (e : H 624 8 = tm k) (hn : ¬ tm k = 0) : JO tm P (some (k + 1, (v, G))) (some (w, H)) := Or.inr ⟨k, v, w, G, H, rfl, rfl, h, e, hn⟩
/-! the marks of throws, by the order in which the document lists them -/
def t3 (e : Nat) : Int := if e = 2 then 1 else if e = 0 then 2 else if e = 1 then 3 else 0
def t2 (e : Nat) : Int := if e = 2 then 1 else if e = 1 then 2 else 0
def t0 (e : Nat) : Int := if e = 0 then 1 else 0
def tv (e : Nat) : Int := if e = 0 then 1 else if e = 2 then 2 else if e = 1 then 3 else 0
def tr (e : Nat) : Int := if e = 2 then 1 else if e = 1 then 2 else if e = 3 then 3 else 0
def t1 (e : Nat) : Int := if e = 1 then 1 else 0
theorem th8 : th g t 624 8 = t := by unfold th; rw [pU_s, u1_s]
theorem ja0 (h : JA G H) : G 0 0 = 1 := h.1.1.1.1
theorem ja1 (h : JA G H) : G 0 1 = 45 := h.1.1.1.2.1
theorem ja2 (h : JA G H) : G 0 2 = 89 := h.1.1.1.2.2.1
theorem ja3 (h : JA G H) : G 0 3 = 133 := h.1.1.1.2.2.2.1
theorem ja5 (h : JA G H) : G 0 5 = 622 := h.1.1.1.2.2.2.2.2
theorem jaM (h : JA G H) : 1 ≤ H 625 0 ∧ H 625 0 ≤ 40 := h.2.1.2.1.1.1
theorem jaQ (h : JA G H) : QQ 1 G (H 625) (fun _ => 0) := h.2.2.1
theorem ja40 (h : JA G H) : H 625 1 ≤ 40 := by have := WBF_1 h.2.1.2.1; omega
theorem qe1 {β : Type} {v : Int} {k : Int → Option β} {l : Nat → Option β} : bdQ (some (1, v)) k l = l 0 := rfl
theorem qe2 {β : Type} {v : Int} {k : Int → Option β} {l : Nat → Option β} : bdQ (some (2, v)) k l = l 1 := rfl
theorem qe3 {β : Type} {v : Int} {k : Int → Option β} {l : Nat → Option β} : bdQ (some (3, v)) k l = l 2 := rfl
theorem qe4 {β : Type} {v : Int} {k : Int → Option β} {l : Nat → Option β} : bdQ (some (4, v)) k l = l 3 := rfl
theorem jn_y (h : JA G H) (hp : 0 ≤ p ∧ p < H 625 0) : fC_named G 0 p = some (0, pc 1 p) := by
  have hb := jaM h
  rw [fC_named, ja0 h, if_pos (kdT T1), qT_at (jaQ h), if_pos hp, bdP_s, if_neg (pc_pos T1 (by omega))]
theorem jn_n (h : JA G H) (hp : ¬ (0 ≤ p ∧ p < H 625 0)) : fC_named G 0 p = some (3, 0) := by
  rw [fC_named, ja0 h, if_pos (kdT T1), qT_at (jaQ h), if_neg hp, bdP_s, if_pos (by omega)]
theorem rg_y (h : 0 ≤ v ∧ v ≤ w) : fC_checkRange g v w = some (0, 0) := by rw [fC_checkRange, if_neg (by omega), if_neg (by omega)]
theorem rg_n (h : ¬ (0 ≤ v ∧ v ≤ w)) : fC_checkRange g v w = some (1, 0) := by
  rw [fC_checkRange]
  by_cases c : v < 0
  · rw [if_pos c]
  · rw [if_neg c, if_pos (by omega)]
theorem st_n : fC_checkState g 0 = some (2, 0) := by rw [fC_checkState, if_pos rfl]
theorem st_1 : fC_checkState g 1 = some (0, 0) := by rw [fC_checkState, if_neg f0]
theorem fl0 : fM_fails g 624 0 code = some (0, g) := by rw [vM_fails (Or.inl rfl), if_pos rfl]
theorem fl1 : fM_fails g 624 1 code = some (1, th g code) := by rw [vM_fails (Or.inr rfl), if_neg f0]
theorem qP_run (h : QQ S G r d) (hi : 0 ≤ i ∧ i < r 0) : fP_isRunning G (pc S i) = some (if r (140 + i) = 0 then 1 else 0) := by
  rw [fP_isRunning, QQ_st h hi]
  split <;> rfl
/-- the tree goes into the past, then an act on it -/
theorem jo_act {tm : Nat → Int} {P : Prop} {A : Int → gH → Option (Nat × (Int × gH))} {B : Int → gH → Option (Int × gH)} (h : JA G H) (h8 : H 624 8 = 0) (hk : ∀ G1 H1, JA G1 H1 → QQ 1 G1 (H1 625) (H1 630) → (∀ x, x < 133 → G1 x = G x) → H1 625 = H 625 → ∃ v w G' r' d', A 0 G1 = some (0, (v, G')) ∧ B 0 H1 = some (w, sw (md H1 d') r') ∧ (P → v = w) ∧ QQ 1 G' r' d' ∧ WBF r' ∧ TF 1 G1 G' ∧ ∀ i, 0 ≤ i → i < 40 → d' i = 0) : JO tm P (if kd (G 0 3) = 0 then bdN (fH_push G (G 0 3) (G 0 0)) A else none) (bdN (fM_remembers H 624) B) := by
  obtain ⟨G1, H1, x1, x2, x3, x4, x5, x6⟩ := JA_push h
  rw [ja3 h, if_pos kd_133, ja0 h, x1, bdN_s, x2, bdN_s]
  obtain ⟨v, w, G', r', d', y1, y2, y3, y4, y5, y6, y7⟩ := hk G1 H1 x3 (QQ_d (jaQ x3) (fun i i0 i1 => x3.2.1.2.2.1 i i0 i1)) x4 (x5 625 (by omega) (by omega))
  rw [y1, y2]
  refine JO_i (JA_act x3 y6 y4 y7 y5) ?_ y3
  rw [sw_n (by omega), md_n (by omega), x6 8 (by omega)]
  exact h8
/-- an act that leaves the marks -/
theorem jo_act0 {tm : Nat → Int} {P : Prop} {A : Int → gH → Option (Nat × (Int × gH))} {B : Int → gH → Option (Int × gH)} (h : JA G H) (h8 : H 624 8 = 0) (hk : ∀ G1 H1, JA G1 H1 → QQ 1 G1 (H1 625) (H1 630) → (∀ x, x < 133 → G1 x = G x) → H1 625 = H 625 → ∃ v w G' r', A 0 G1 = some (0, (v, G')) ∧ B 0 H1 = some (w, sw H1 r') ∧ (P → v = w) ∧ QQ 1 G' r' (H1 630) ∧ WBF r' ∧ TF 1 G1 G') : JO tm P (if kd (G 0 3) = 0 then bdN (fH_push G (G 0 3) (G 0 0)) A else none) (bdN (fM_remembers H 624) B) :=
  jo_act h h8 (fun G1 H1 j q1 eG e25 => by
    obtain ⟨v, w, G', r', y1, y2, y3, y4, y5, y6⟩ := hk G1 H1 j q1 eG e25
    exact ⟨v, w, G', r', H1 630, y1, by rw [md_id]; exact y2, y3, y4, y5, y6, fun i i0 i1 => j.2.1.2.2.1 i i0 i1⟩)
theorem jo_exit (h : JA G H) : JO t3 True (fC_exit G 0 p code) (fM_exit H 624 p code) := by
  have hb := jaM h
  have q := jaQ h
  rw [fC_exit, fC_namedForExit, fM_exit]
  rcases vM_noExit (p := p) (code := code) h.2.1 with ⟨a, e⟩ | ⟨a, b, e⟩ | ⟨a, b, c, e⟩ | ⟨a, b, c, e⟩
  · rw [e, bdN_s, if_neg f0, jn_n h a, qe3, bdQ_e]
    exact JO_e (JA_th h) (th8.trans rfl) (by decide)
  · rw [e, bdN_s, if_neg f0, jn_y h a, bdQ_0, rg_n b, qe1, bdQ_e]
    exact JO_e (JA_th h) (th8.trans rfl) (by decide)
  · rw [e, bdN_s, if_neg f0, jn_y h a, bdQ_0, rg_y b, bdQ_0, if_pos (kdp T1 (by omega)), qP_mortal q (by omega), bdP_s, if_neg (fun z => c ⟨by omega, z.2⟩), st_n, qe2, bdQ_e]
    exact JO_e (JA_th h) (th8.trans rfl) (by decide)
  · rw [e, bdN_s, if_pos rfl, jn_y h ⟨by omega, a.2⟩, bdQ_0, rg_y b, bdQ_0, if_pos (kdp T1 (by omega)), qP_mortal q (by omega), bdP_s, if_pos ⟨a, c⟩, st_1, bdQ_0, bdQ_0]
    refine jo_act (JA_th h) th8 (fun G1 H1 j q1 eG e25 => ?_)
    have e1 : H1 625 = H 625 := e25.trans (th_n (by omega))
    obtain ⟨G2, v, d2, x1, x2, x3, x4, x5, -, -, -, -, -, x11⟩ := lk_exit (p := p) (code := code) j.2.1.1 q1 j.2.1.2.1 (by rw [e1]; exact a) (by rw [e1]; exact c) b
    rw [md_id, sw_id] at x2
    rw [ja0 j, if_pos (kdT T1), x1, bdN_s, x2, bdN_s]
    exact ⟨v, v, G2, _, d2, rfl, rfl, fun _ => rfl, x3, x4, x5, fun i i0 i1 => x11 i (j.2.1.2.2.1 i i0 i1)⟩
theorem jo_kill (h : JA G H) : JO t0 True (fC_kill G 0 gp code) (fM_kill H 624 gp code) := by
  rw [fC_kill, fC_checkKill, fM_kill]
  rcases vM_noKill (g := H) (a := gp) (code := code) with ⟨a, e⟩ | ⟨a, e⟩
  · rw [e, bdN_s, if_neg f0]
    by_cases c1 : 0 ≤ gp ∧ gp ≤ 9
    · rw [rg_y c1, bdQ_0, rg_n (fun z => a ⟨c1, z⟩), qe1, bdQ_e]
      exact JO_e (JA_th h) (th8.trans rfl) (by decide)
    · rw [rg_n c1, qe1, bdQ_e]
      exact JO_e (JA_th h) (th8.trans rfl) (by decide)
  · rw [e, bdN_s, if_pos rfl, rg_y a.1, bdQ_0, rg_y a.2, bdQ_0, bdQ_0]
    refine jo_act (JA_th h) th8 (fun G1 H1 j q1 eG e25 => ?_)
    obtain ⟨v, G2, r2, d2, x1, x2, x3, x4, x5, x6, -⟩ := lk_kill (gp := gp) (code := code) j.2.1.1 q1 j.2.1.2.1 a.2
    rw [md_id, sw_id] at x2
    rw [ja0 j, if_pos (kdT T1), x1, bdN_s, x2, bdN_s]
    exact ⟨v, v, G2, _, d2, rfl, rfl, fun _ => rfl, x3, x4, x6, x5⟩
/-- a field of a process, in both -/
theorem QQ_f (h : QQ S G r d) (h1 : r 1 ≤ 40) (hp : 0 ≤ p ∧ p < r 0) (hab : (a = 4 ∧ b = 100) ∨ (a = 6 ∧ b = 220) ∨ (a = 7 ∧ b = 260) ∨ (a = 8 ∧ b = 340)) (hw : WB (u1 r (b + p) v)) : QQ S (pU G (pc S p) a v) (u1 r (b + p) v) d ∧ TF S G (pU G (pc S p) a v) := by
  have hb := QQ_b h
  have bp := pc_b (T := S) (i := p) (by omega)
  have hI : IT S G (pU G (pc S p) a v) := IT_w (IT_r h.2.1) (by omega)
  refine ⟨⟨h.1, hI.1, hw, CP_pf h.2.2.2.1 (by omega) h1 hp (by omega), fun i i0 i1 => ?_, ?_⟩, hI.2⟩
  · rw [pU_y (by omega)]; exact h.2.2.2.2.1 i i0 i1
  · exact LR_e h.2.2.2.2.2 (u1_n (by omega)) (u1_n (by omega))
theorem jo_refuse (h : JA G H) : JO t3 True (fC_refuse G 0 p gp) (fM_refuse H 624 p gp) := by
  have hb := jaM h
  have q := jaQ h
  have o1 := JA_th (t := 0) h
  have e625 : th H 0 625 = H 625 := th_n (by omega)
  rw [fC_refuse, fM_refuse, vM_noProcess h.2.1]
  by_cases a : 0 ≤ p ∧ p < H 625 0
  · rw [if_pos a, if_pos a, bdN_s, if_pos rfl, vM_isSmall, bdP_s, jn_y h a, bdQ_0]
    by_cases b : 0 ≤ gp ∧ gp ≤ 9
    · rw [if_pos b, if_neg f0, jM_refuse_21, if_pos kd_c624, fl0, bdN_s, if_pos rfl, rg_y b, bdQ_0, if_pos (kdp T1 (by omega)), qP_mortal q (by omega), bdP_s, vM_runs o1.2.1.1 (by omega), bdP_s, e625]
      by_cases c : (0 < p ∧ p < H 625 0) ∧ H 625 (140 + p) = 0
      · rw [if_pos c, if_pos c.2, if_neg (show ¬ p = 0 by omega), if_neg f0, jM_refuse_46, if_pos kd_c624, fl0, bdN_s, if_pos rfl, st_1, bdQ_0]
        refine jo_act0 o1 th8 (fun G1 H1 j q1 eG e25 => ?_)
        have e1 : H1 625 = H 625 := e25.trans e625
        have w := j.2.1.2.1
        have hp : 0 < p ∧ p < H1 625 0 := by rw [e1]; exact c.1
        have m4 := j.2.1.1.1
        have hM := jaM j
        have f8 : G1 (pc 1 p) 8 = H1 625 (340 + p) := (QQ_pe q1 (i := p) (by omega)).1.2.2.2.2.2.1
        obtain ⟨q2, t2⟩ := QQ_f (a := 8) (b := 340) (p := p) (v := opI 2 (H1 625 (340 + p)) (opI 4 1 gp)) q1 (ja40 j) (by omega) (by omega) (WBF_rf w (by omega)).1
        have w2 := WBF_rf (p := p) (v := opI 2 (H1 625 (340 + p)) (opI 4 1 gp)) w (by omega)
        have n0 : u1 (H1 625) (340 + p) (opI 2 (H1 625 (340 + p)) (opI 4 1 gp)) 0 = H1 625 0 := u1_n (by omega)
        obtain ⟨f, ef⟩ : ∃ f, fu = f + 1 := ⟨fu - 1, by have := fu_ge; omega⟩
        obtain ⟨v, G2, r2, y1, y2, y3, y4, y5⟩ := lk_refuse (p := p) (gp := gp) j.2.1.1 _ f fu 1 0 _ _ rfl (by have := fu_ge; omega) (by rw [n0]; have := fu_ge; omega) (by omega) (by omega) (by omega) q2 w2 (by rw [n0]; exact hp)
        rw [bnd_s, f8, m4, w32_r (x := 340 + p) (by omega), if_pos (g625 (by omega)), if_pos (g625 (by omega)), bnd_s, pU_625, y2]
        have e0 : pU G1 (pc 1 p) 8 (opI 2 (H1 625 (340 + p)) (opI 4 1 gp)) 0 0 = 1 := by rw [t2 0 (by omega)]; exact ja0 j
        have s0 : lT_loseGroup_16 1 (pc 1 p) gp (1 + 2) 40 fu 0 0 (pU G1 (pc 1 p) 8 (opI 2 (H1 625 (340 + p)) (opI 4 1 gp))) = lT_loseGroup_16 1 (pc 1 p) gp (1 + 2) 40 f 0 1 (pU G1 (pc 1 p) 8 (opI 2 (H1 625 (340 + p)) (opI 4 1 gp))) := by
          rw [ef]
          show bT_loseGroup_16 1 (pc 1 p) gp (1 + 2) 40 (lT_loseGroup_16 1 (pc 1 p) gp (1 + 2) 40 f) 0 0 _ = _
          rw [bT_loseGroup_16, if_pos (by omega), if_pos ⟨kdT2 T1, by omega, by rw [szT2 T1]; omega⟩, TS_p q2.2.1.1 (by omega), if_pos (kdp T1 (by omega)), qP_child q2 (by omega) (by omega), if_neg (fun z => (ic_t.mp z.2).2.2 rfl), bdP_s, if_pos rfl, w32_r (by omega)]
          rfl
        rw [e0, if_pos (kdT T1), fT_loseGroup, TS_1 q2.2.1.1, if_pos (kdT2 T1), szT2 T1, s0, y1, bdN_s]
        exact ⟨v, v, G2, r2, rfl, rfl, fun _ => rfl, y3, y4, TF_t t2 y5⟩
      · have bad : ∀ X : Option (Int × gH), X = jM_refuse_46 (th H 0) 624 p gp 624 1 → JO t3 True (some (1 + 1, (0, G))) X := by
          intro X hX
          rw [hX, jM_refuse_46, if_pos kd_c624, fl1, bdN_s, if_neg f0]
          exact JO_e (JA_th o1) (th8.trans rfl) (by decide)
        rw [if_neg c, st_n, qe2]
        by_cases c0 : p = 0
        · rw [if_pos c0, jM_refuse_41]; exact bad _ rfl
        · rw [if_neg c0, if_neg (fun z => c ⟨by omega, z⟩), if_pos rfl, jM_refuse_41]; exact bad _ rfl
    · rw [if_neg b, if_pos rfl, jM_refuse_21, if_pos kd_c624, fl1, bdN_s, if_neg f0, rg_n b, qe1]
      exact JO_e (JA_th o1) (th8.trans rfl) (by decide)
  · rw [if_neg a, if_neg a, bdN_s, if_neg f0, jn_n h a, qe3]
    exact JO_e (JA_th h) (th8.trans rfl) (by decide)
theorem jo_accept (h : JA G H) : JO t3 True (fC_accept G 0 p gp) (fM_accept H 624 p gp) := by
  have hb := jaM h
  have q := jaQ h
  have o1 := JA_th (t := 0) h
  have e625 : th H 0 625 = H 625 := th_n (by omega)
  rw [fC_accept, fM_accept, vM_noProcess h.2.1]
  by_cases a : 0 ≤ p ∧ p < H 625 0
  · rw [if_pos a, if_pos a, bdN_s, if_pos rfl, vM_isSmall, bdP_s, jn_y h a, bdQ_0]
    by_cases b : 0 ≤ gp ∧ gp ≤ 9
    · rw [if_pos b, if_neg f0, jM_accept_21, if_pos kd_c624, fl0, bdN_s, if_pos rfl, rg_y b, bdQ_0, if_pos (kdp T1 (by omega)), qP_run q a, bdP_s, vM_runs o1.2.1.1 (by omega), bdP_s, e625]
      by_cases c : H 625 (140 + p) = 0
      · rw [if_pos c, if_neg f0, jM_accept_42, if_pos kd_c624, fl0, bdN_s, if_pos rfl, st_1, bdQ_0]
        refine jo_act0 o1 th8 (fun G1 H1 j q1 eG e25 => ?_)
        have e1 : H1 625 = H 625 := e25.trans e625
        have w := j.2.1.2.1
        have hp : 0 ≤ p ∧ p < H1 625 0 := by rw [e1]; exact a
        have m4 := j.2.1.1.1
        have hM := jaM j
        have f8 : G1 (pc 1 p) 8 = H1 625 (340 + p) := (QQ_pe q1 hp).1.2.2.2.2.2.1
        obtain ⟨q2, t2⟩ := QQ_f (a := 8) (b := 340) (p := p) (v := opI 1 (H1 625 (340 + p)) (opI 3 (opI 4 1 gp) (-1))) q1 (ja40 j) hp (by omega) (WBF_rf w hp).1
        have w2 := WBF_rf (p := p) (v := opI 1 (H1 625 (340 + p)) (opI 3 (opI 4 1 gp) (-1))) w hp
        rw [qP_refuses q1 hp, bdP_s, bnd_s, f8, vM_refuses j.2.1.1 (by omega), bdP_s, m4, w32_r (x := 340 + p) (by omega), if_pos (g625 (by omega)), if_pos (g625 (by omega)), bnd_s, pU_625]
        exact ⟨_, _, _, _, rfl, rfl, fun _ => rfl, q2, w2, t2⟩
      · rw [if_neg c, if_pos rfl, jM_accept_42, if_pos kd_c624, fl1, bdN_s, if_neg f0, st_n, qe2]
        exact JO_e (JA_th o1) (th8.trans rfl) (by decide)
    · rw [if_neg b, if_pos rfl, jM_accept_21, if_pos kd_c624, fl1, bdN_s, if_neg f0, rg_n b, qe1]
      exact JO_e (JA_th o1) (th8.trans rfl) (by decide)
  · rw [if_neg a, if_neg a, bdN_s, if_neg f0, jn_n h a, qe3]
    exact JO_e (JA_th h) (th8.trans rfl) (by decide)
/-! which rows are rows still -/
theorem WBF_c1 (w : WBF r) (hp : 0 ≤ p ∧ p < r 0) (h1 : 0 ≤ c ∧ c ≤ 9) : WBF (u1 r (100 + p) c) := by
  have hM := w.1.1
  refine WBF_eq w ?_ (fun k hk => u1_n (by omega))
  obtain ⟨b1, b2, b3, b4, b5, b6, b7⟩ := w.1
  have e0 : u1 r (100 + p) c 0 = r 0 := u1_n (by omega)
  refine ⟨by rw [e0]; exact b1, ?_, ?_, by rw [u1_n (by omega)]; exact b4, ?_, ?_, ?_⟩
  · intro i i0 i1
    rw [e0] at i1 ⊢
    rw [u1_n (by omega)]
    exact b2 i i0 i1
  · rw [e0]
    exact acy_ext b3 b2 (fun i i0 i1 => u1_n (by omega))
  · intro i i0 i1
    rw [e0] at i1 ⊢
    rw [u1_n (by omega)]
    exact b5 i i0 i1
  · intro i d i0 i1 d0 d1
    rw [e0] at i1 ⊢
    rw [u1_n (by omega)]
    exact b6 i d i0 i1 d0 d1
  · intro i i0 i1
    rw [e0] at i1
    by_cases e : i = p
    · rw [e, u1_s]; exact h1
    · rw [u1_n (by omega)]; exact b7 i i0 i1
theorem WBF_h1 (w : WBF r) (hp : 0 ≤ p ∧ p < r 0) (h1 : -1 ≤ c ∧ c < r 0) : WBF (u1 r (260 + p) c) := by
  have hM := w.1.1
  refine WBF_eq w ?_ (fun k hk => u1_n (by omega))
  obtain ⟨b1, b2, b3, b4, b5, b6, b7⟩ := w.1
  have e0 : u1 r (260 + p) c 0 = r 0 := u1_n (by omega)
  refine ⟨by rw [e0]; exact b1, ?_, ?_, by rw [u1_n (by omega)]; exact b4, ?_, ?_, ?_⟩
  · intro i i0 i1
    rw [e0] at i1 ⊢
    rw [u1_n (by omega)]
    exact b2 i i0 i1
  · rw [e0]
    exact acy_ext b3 b2 (fun i i0 i1 => u1_n (by omega))
  · intro i i0 i1
    rw [e0] at i1 ⊢
    by_cases e : i = p
    · rw [e, u1_s]; exact h1
    · rw [u1_n (by omega)]; exact b5 i i0 i1
  · intro i d i0 i1 d0 d1
    rw [e0] at i1 ⊢
    rw [u1_n (by omega)]
    exact b6 i d i0 i1 d0 d1
  · intro i i0 i1
    rw [e0] at i1
    rw [u1_n (by omega)]; exact b7 i i0 i1
theorem WBF_b1 (w : WBF r) (hp : 0 ≤ p ∧ p < r 0) (h1 : 0 ≤ c ∧ c ≤ 9) : WBF (u1 r (220 + p) c) := by
  have hM1 := w.1.1
  obtain ⟨hb0, hS, hSR, hX, hL, hN, hH, hC, hB⟩ := w
  have e0 : u1 r (220 + p) c 0 = r 0 := u1_n (by omega)
  have hb1 : WB (u1 r (220 + p) c) := WB_eq hb0 (fun k hk => u1_n (by omega))
  refine ⟨hb1, ⟨?_, ?_⟩, ?_, ⟨?_, ?_⟩, ?_, ?_, ?_, ?_, ?_⟩
  · intro i i0 i1
    rw [e0] at i1
    rw [u1_n (by omega)]; exact hS.1 i i0 i1
  · rw [u1_n (by omega)]; exact hS.2
  · intro i i0 i1 i2
    rw [e0] at i1
    have := hb0.2.1 i i0 i1
    rw [u1_n (by omega)] at i2
    rw [u1_n (show ¬ 60 + i = 220 + p by omega), u1_n (by omega)]
    exact hSR i i0 i1 i2
  · rw [u1_n (by omega)]; exact hX.1
  · intro k k0 k1
    rw [u1_n (by omega)] at k1
    have := hX.1
    rw [u1_n (by omega), e0]
    exact hX.2 k k0 k1
  · intro i i0 i1 i2
    rw [e0] at i1
    rw [u1_n (by omega)] at i2
    obtain ⟨k, k0, k1, k2⟩ := hL i i0 i1 i2
    have := hX.1
    exact ⟨k, k0, by rw [u1_n (by omega)]; exact k1, by rw [u1_n (by omega)]; exact k2⟩
  · show u1 r (220 + p) c 1 = _
    rw [u1_n (by omega), cn_eq_st e0 hM1.2 (fun k k0 k1 => u1_n (by omega))]
    exact hN
  · intro d d0 d1
    have := hH d d0 d1
    rw [u1_n (show ¬ 11 + d = 220 + p by omega), e0, u1_n (by omega)]
    exact this
  · intro i i0 i1 i2
    rw [e0] at i1
    rw [u1_n (by omega)] at i2
    rw [u1_n (by omega)]
    exact hC i i0 i1 i2
  · intro i i0 i1
    rw [e0] at i1
    by_cases e : i = p
    · rw [e, u1_s]; exact h1
    · rw [u1_n (by omega)]; exact hB i i0 i1
theorem WBF_d1 (w : WBF r) (hp : 0 ≤ p ∧ p < r 0) (hst : r (140 + p) = 0) (ha : 0 ≤ a ∧ a < 8) : WBF (u1 r (11 + a) p) := by
  have hM1 := w.1.1
  have e0 : u1 r (11 + a) p 0 = r 0 := u1_n (by omega)
  obtain ⟨hb0, hS, hSR, hX, hL, hN, hH, hC, hB⟩ := w
  refine ⟨WB_eq hb0 (fun k hk => u1_n (by omega)), ⟨?_, ?_⟩, ?_, ⟨?_, ?_⟩, ?_, ?_, ?_, ?_, ?_⟩
  · intro i i0 i1
    rw [e0] at i1
    rw [u1_n (by omega)]; exact hS.1 i i0 i1
  · rw [u1_n (by omega)]; exact hS.2
  · intro i i0 i1 i2
    rw [e0] at i1
    have := hb0.2.1 i i0 i1
    rw [u1_n (by omega)] at i2
    rw [u1_n (show ¬ 60 + i = 11 + a by omega), u1_n (by omega)]
    exact hSR i i0 i1 i2
  · rw [u1_n (by omega)]; exact hX.1
  · intro k k0 k1
    rw [u1_n (by omega)] at k1
    rw [u1_n (by omega), e0]
    exact hX.2 k k0 k1
  · intro i i0 i1 i2
    rw [e0] at i1
    rw [u1_n (by omega)] at i2
    obtain ⟨k, k0, k1, k2⟩ := hL i i0 i1 i2
    exact ⟨k, k0, by rw [u1_n (by omega)]; exact k1, by rw [u1_n (by omega)]; exact k2⟩
  · show u1 r (11 + a) p 1 = _
    rw [u1_n (by omega), cn_eq_st e0 hM1.2 (fun k k0 k1 => u1_n (by omega))]
    exact hN
  · intro d d0 d1
    by_cases e : d = a
    · rw [e, u1_s, e0, u1_n (by omega)]
      exact ⟨hp.1, hp.2, hst⟩
    · have := hH d d0 d1
      rw [u1_n (show ¬ 11 + d = 11 + a by omega), e0, u1_n (by omega)]
      exact this
  · intro i i0 i1 i2
    rw [e0] at i1
    rw [u1_n (by omega)] at i2
    rw [u1_n (by omega)]
    exact hC i i0 i1 i2
  · intro i i0 i1
    rw [e0] at i1
    rw [u1_n (by omega)]; exact hB i i0 i1
/-- a capacity or a budget, the class told by its field -/
theorem jo_sets {X : Option (Nat × (Int × gH))} {f : Int} (h : JA G H) (hf : (f = 4 ∧ k = 100) ∨ (f = 6 ∧ k = 220)) (hX : X = bdQ (fC_named G 0 p) (fun y1 => bdQ (fC_checkRange G c 9) (fun _ => if kd y1 = 3 then bdP (fP_isRunning G y1) (fun y14 => bdQ (fC_checkState G y14) (fun _ => if kd (G 0 3) = 0 then bdN (fH_push G (G 0 3) (G 0 0)) (fun _ g29 => bnd (pU g29 y1 f c) (fun g32 => some (0, ((g29 y1 f), g32)))) else none) (fun E23 => some (E23 + 1, (0, G)))) else none) (fun E12 => some (E12 + 1, (0, G)))) (fun E6 => some (E6 + 1, (0, G)))) : JO t3 True X (bdN (fM_sets H 624 k p c) (fun y1 g3 => some (y1, g3))) := by
  have hb := jaM h
  have q := jaQ h
  have o1 := JA_th (t := 0) h
  have e625 : th H 0 625 = H 625 := th_n (by omega)
  rw [hX, fM_sets, vM_noProcess h.2.1]
  by_cases a : 0 ≤ p ∧ p < H 625 0
  · rw [if_pos a, if_pos a, bdN_s, if_pos rfl, vM_isSmall, bdP_s, jn_y h a, bdQ_0]
    by_cases b : 0 ≤ c ∧ c ≤ 9
    · rw [if_pos b, if_neg f0, jM_sets_21, if_pos kd_c624, fl0, bdN_s, if_pos rfl, rg_y b, bdQ_0, if_pos (kdp T1 (by omega)), qP_run q a, bdP_s, vM_runs o1.2.1.1 (by omega), bdP_s, e625]
      by_cases c1 : H 625 (140 + p) = 0
      · rw [if_pos c1, if_neg f0, jM_sets_42, if_pos kd_c624, fl0, bdN_s, if_pos rfl, st_1, bdQ_0]
        have assoc : ∀ {Z : Option (Int × gH)} {B : Int → gH → Option (Int × gH)}, bdN (bdN Z B) (fun y1 g3 => some (y1, g3)) = bdN Z (fun y g => bdN (B y g) (fun y1 g3 => some (y1, g3))) := by
          intro Z B
          cases Z <;> rfl
        rw [assoc]
        refine jo_act0 o1 th8 (fun G1 H1 j q1 eG e25 => ?_)
        have e1 : H1 625 = H 625 := e25.trans e625
        have w := j.2.1.2.1
        have hp : 0 ≤ p ∧ p < H1 625 0 := by rw [e1]; exact a
        have m4 := j.2.1.1.1
        have hM := jaM j
        have w2 : WBF (u1 (H1 625) (k + p) c) := by
          rcases hf with ⟨-, rfl⟩ | ⟨-, rfl⟩
          · exact WBF_c1 w hp b
          · exact WBF_b1 w hp b
        obtain ⟨q2, t2⟩ := QQ_f (a := f) (b := k) (p := p) (v := c) q1 (ja40 j) hp (by omega) w2.1
        have fv : G1 (pc 1 p) f = H1 625 (k + p) := by
          have pe := (QQ_pe q1 hp).1
          rcases hf with ⟨rfl, rfl⟩ | ⟨rfl, rfl⟩
          · exact pe.2.1
          · exact pe.2.2.2.1
        rw [bnd_s, fv, m4, w32_r (x := k + p) (by omega), if_pos (g625 (by omega)), if_pos (g625 (by omega)), bnd_s, pU_625, bdN_s]
        exact ⟨_, _, _, _, rfl, rfl, fun _ => rfl, q2, w2, t2⟩
      · rw [if_neg c1, if_pos rfl, jM_sets_42, if_pos kd_c624, fl1, bdN_s, if_neg f0, st_n, qe2, bdN_s]
        exact JO_e (JA_th o1) (th8.trans rfl) (by decide)
    · rw [if_neg b, if_pos rfl, jM_sets_21, if_pos kd_c624, fl1, bdN_s, if_neg f0, rg_n b, qe1, bdN_s]
      exact JO_e (JA_th o1) (th8.trans rfl) (by decide)
  · rw [if_neg a, if_neg a, bdN_s, if_neg f0, jn_n h a, qe3, bdN_s]
    exact JO_e (JA_th h) (th8.trans rfl) (by decide)
theorem jo_setCapacity (h : JA G H) : JO t3 True (fC_setCapacity G 0 p c) (fM_setCapacity H 624 p c) := jo_sets (f := 4) (k := 100) h (Or.inl ⟨rfl, rfl⟩) rfl
theorem jo_setBudget (h : JA G H) : JO t3 True (fC_setBudget G 0 p c) (fM_setBudget H 624 p c) := jo_sets (f := 6) (k := 220) h (Or.inr ⟨rfl, rfl⟩) rfl
end PAR30
