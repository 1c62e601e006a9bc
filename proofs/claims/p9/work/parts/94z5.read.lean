/-! ===== the order of exits; reading one testament, exchanging, in both (own work) ===== -/
section PAR32
variable {g g' G G' H H' K : gH} {r r' d d' dm : Int → Int} {a b c e i j k l m n o p q s t u v w x y z S T gp code : Int}
/-- one to one into n places: at most n -/
theorem pg_cn (f : Int → Int) : ∀ (n : Nat) (A : Int → Bool), (∀ x, 0 ≤ x → x < m → A x = true → 0 ≤ f x ∧ f x < n) → (∀ x y, 0 ≤ x → x < m → 0 ≤ y → y < m → A x = true → A y = true → f x = f y → x = y) → cn A m.toNat 0 ≤ n := by
  intro n
  induction n with
  | zero =>
    intro A h1 h2
    rw [cn_z m.toNat 0 (fun j j0 j1 => by
      cases hA : A j with
      | false => rfl
      | true => have := h1 j j0 (by omega) hA; omega)]
    omega
  | succ n ih =>
    intro A h1 h2
    by_cases hj : ∃ j, 0 ≤ j ∧ j < m ∧ A j = true ∧ f j = n
    · obtain ⟨j, j0, j1, j2, j3⟩ := hj
      have := cn_or1 (P := A) (Q := fun x => A x && !decide (x = j)) (j := j) m.toNat 0 (fun x x0 x1 x2 => by
        by_cases z : x = j
        · exact Or.inr z
        · exact Or.inl (by simp [x2, z]))
      have h3 := ih (fun x => A x && !decide (x = j)) (fun x x0 x1 x2 => by
        simp only [Bool.and_eq_true, Bool.not_eq_true', decide_eq_false_iff_not] at x2
        have b := h1 x x0 x1 x2.1
        have : ¬ f x = n := fun z => x2.2 (h2 x j x0 x1 j0 j1 x2.1 j2 (z.trans j3.symm))
        omega) (fun x y x0 x1 y0 y1 hx hy e => by
        simp only [Bool.and_eq_true] at hx hy
        exact h2 x y x0 x1 y0 y1 hx.1 hy.1 e)
      rw [if_pos j0] at this
      omega
    · have h3 := ih A (fun x x0 x1 x2 => by
        have b := h1 x x0 x1 x2
        have : ¬ f x = n := fun z => hj ⟨x, x0, x1, x2, z⟩
        omega) h2
      omega
/-- who exited at a place says so -/
theorem ord_k (h : QQ S G r d) (hn : NX r) (hk : 0 ≤ k ∧ k < r 1) : 0 ≤ r (19 + k) ∧ r (19 + k) < r 0 ∧ ¬ r (140 + r (19 + k)) = 0 ∧ G (pc S (r (19 + k))) 10 = k := by
  have hb := QQ_b h
  have key : ∃ i, 0 ≤ i ∧ i < r 0 ∧ ¬ r (140 + i) = 0 ∧ G (pc S i) 10 = k := by
    apply Classical.byContradiction
    intro hno
    have hA : ∀ x, 0 ≤ x → x < r 0 → (!decide (r (140 + x) = 0)) = true → ¬ r (140 + x) = 0 := fun x _ _ hx => by simpa using hx
    have h3 := pg_cn (m := r 0) (fun i => if k < G (pc S i) 10 then G (pc S i) 10 - 1 else G (pc S i) 10) (r 1 - 1).toNat (fun i => !decide (r (140 + i) = 0)) (fun x x0 x1 hx => by
      have hx := hA x x0 x1 hx
      have pe := (QQ_pe h ⟨x0, x1⟩).2.2.2 hx
      have nk : ¬ G (pc S x) 10 = k := fun z => hno ⟨x, x0, x1, hx, z⟩
      show 0 ≤ (if k < G (pc S x) 10 then G (pc S x) 10 - 1 else G (pc S x) 10) ∧ (if k < G (pc S x) 10 then G (pc S x) 10 - 1 else G (pc S x) 10) < ((r 1 - 1).toNat : Int)
      have := pe.1
      split <;> omega) (fun x y x0 x1 y0 y1 hx hy e => by
      have hx := hA x x0 x1 hx
      have hy := hA y y0 y1 hy
      have px := (QQ_pe h ⟨x0, x1⟩).2.2.2 hx
      have py := (QQ_pe h ⟨y0, y1⟩).2.2.2 hy
      have nx : ¬ G (pc S x) 10 = k := fun z => hno ⟨x, x0, x1, hx, z⟩
      have ny : ¬ G (pc S y) 10 = k := fun z => hno ⟨y, y0, y1, hy, z⟩
      have ee : G (pc S x) 10 = G (pc S y) 10 := by
        revert e
        show (if k < G (pc S x) 10 then G (pc S x) 10 - 1 else G (pc S x) 10) = (if k < G (pc S y) 10 then G (pc S y) 10 - 1 else G (pc S y) 10) → _
        split <;> split <;> omega
      rw [← px.2, ee, py.2])
    unfold NX at hn
    rw [← hn] at h3
    omega
  obtain ⟨i, i0, i1, i2, i3⟩ := key
  have pe := ((QQ_pe h ⟨i0, i1⟩).2.2.2 i2).2
  rw [i3] at pe
  rw [pe]
  exact ⟨i0, i1, i2, i3⟩
/-- the first zombie of p that exited at the place o or behind -/
def FZn (r : Int → Int) (p o : Int) : Int := if ff (fun k => ic r (r (19 + k)) p 1) (r 1 - o).toNat o = -1 then -1 else r (19 + ff (fun k => ic r (r (19 + k)) p 1) (r 1 - o).toNat o)
theorem FZn_0 : FZn r p 0 = FZ r p := by unfold FZn FZ; rw [Int.sub_zero]
theorem qT_zombie (h : QQ S G r d) (hn : NX r) (hp : 0 ≤ p ∧ p < r 0) (ho : -1 ≤ o) : fT_zombieBehind G S (pc S p) o = some (pcx S (FZn r p (o + 1))) := by
  have hb := QQ_b h
  have hfu := fu_ge
  -- the least place so far
  have key : ∀ (m n : Nat) (i c : Int), (40 - i).toNat = m → m < n → 0 ≤ i → i ≤ 40 → (c = -1 ∨ ((0 ≤ c ∧ c < r 0) ∧ ic r c p 1 = true ∧ o < G (pc S c) 10)) → (∀ j, 0 ≤ j → j < i → j < r 0 → ic r j p 1 = true → o < G (pc S j) 10 → ¬ c = -1 ∧ G (pc S c) 10 ≤ G (pc S j) 10) → ∃ c', lT_zombieBehind_16 G (pc S p) o (S + 2) 40 n (pcx S c) i = some (pcx S c') ∧ (c' = -1 ∨ ((0 ≤ c' ∧ c' < r 0) ∧ ic r c' p 1 = true ∧ o < G (pc S c') 10)) ∧ ∀ j, 0 ≤ j → j < r 0 → ic r j p 1 = true → o < G (pc S j) 10 → ¬ c' = -1 ∧ G (pc S c') 10 ≤ G (pc S j) 10 := by
    intro m
    induction m with
    | zero =>
      intro n i c hm hn i0 i1 hc hl
      obtain ⟨n, rfl⟩ : ∃ k, n = k + 1 := ⟨n - 1, by omega⟩
      refine ⟨c, ?_, hc, fun j j0 j1 => hl j j0 (by omega) j1⟩
      show bT_zombieBehind_16 G (pc S p) o (S + 2) 40 (lT_zombieBehind_16 G (pc S p) o (S + 2) 40 n) (pcx S c) i = _
      rw [bT_zombieBehind_16, if_neg (by omega)]
    | succ m ih =>
      intro n i c hm hn i0 i1 hc hl
      obtain ⟨n, rfl⟩ : ∃ k, n = k + 1 := ⟨n - 1, by omega⟩
      have stay : (i < r 0 → ic r i p 1 = true → o < G (pc S i) 10 → ¬ c = -1 ∧ G (pc S c) 10 ≤ G (pc S i) 10) → (∃ c', lT_zombieBehind_16 G (pc S p) o (S + 2) 40 n (pcx S c) (i + 1) = some (pcx S c') ∧ (c' = -1 ∨ ((0 ≤ c' ∧ c' < r 0) ∧ ic r c' p 1 = true ∧ o < G (pc S c') 10)) ∧ ∀ j, 0 ≤ j → j < r 0 → ic r j p 1 = true → o < G (pc S j) 10 → ¬ c' = -1 ∧ G (pc S c') 10 ≤ G (pc S j) 10) := fun hs => ih n (i + 1) c (by omega) (by omega) (by omega) (by omega) hc (fun j j0 j1 j2 j3 j4 => by
        by_cases z : j = i
        · rw [z] at j2 j3 j4 ⊢; exact hs j2 j3 j4
        · exact hl j j0 (by omega) j2 j3 j4)
      show ∃ c', bT_zombieBehind_16 G (pc S p) o (S + 2) 40 (lT_zombieBehind_16 G (pc S p) o (S + 2) 40 n) (pcx S c) i = _ ∧ _
      rw [bT_zombieBehind_16, if_pos (by omega), if_pos ⟨kdT2 h.1, i0, by rw [szT2 h.1]; omega⟩, TS_p h.2.1.1 (by omega), if_pos (kdp h.1 (by omega)), qP_zombie h (by omega) (by omega), bdP_s, w32_r (x := i + 1) (by omega)]
      by_cases z : i < r 0 ∧ ic r i p 1 = true
      · rw [if_pos z, if_neg f0]
        by_cases z2 : o < G (pc S i) 10
        · have take : (∀ j, 0 ≤ j → j < i → j < r 0 → ic r j p 1 = true → o < G (pc S j) 10 → G (pc S i) 10 ≤ G (pc S j) 10) → ∃ c', lT_zombieBehind_16 G (pc S p) o (S + 2) 40 n (pcx S i) (i + 1) = some (pcx S c') ∧ (c' = -1 ∨ ((0 ≤ c' ∧ c' < r 0) ∧ ic r c' p 1 = true ∧ o < G (pc S c') 10)) ∧ ∀ j, 0 ≤ j → j < r 0 → ic r j p 1 = true → o < G (pc S j) 10 → ¬ c' = -1 ∧ G (pc S c') 10 ≤ G (pc S j) 10 := fun hs => ih n (i + 1) i (by clear stay; omega) (by clear stay; omega) (by clear stay; omega) (by clear stay; omega) (Or.inr ⟨⟨i0, z.1⟩, z.2, z2⟩) (fun j j0 j1 j2 j3 j4 => by
            by_cases y : j = i
            · rw [y]; exact ⟨by clear stay; omega, Int.le_refl _⟩
            · exact ⟨by clear stay; omega, hs j j0 (by clear stay; omega) j2 j3 j4⟩)
          rw [if_pos z2]
          rcases hc with e | ⟨c1, c2, c3⟩
          · rw [e, pcx_n, if_pos (by omega)]
            have := take (fun j j0 j1 j2 j3 j4 => absurd e (hl j j0 j1 j2 j3 j4).1)
            rw [pcx_p i0] at this
            exact this
          · have nc : ¬ c = -1 := by omega
            by_cases z3 : G (pc S i) 10 < G (pc S c) 10
            · have := take (fun j j0 j1 j2 j3 j4 => by have := (hl j j0 j1 j2 j3 j4).2; omega)
              rw [pcx_p i0] at this
              rw [pcx_p c1.1, if_neg (pc_pos h.1 (by omega)), if_pos (kdp h.1 (by omega)), if_pos z3]
              exact this
            · have := stay (fun _ _ _ => ⟨nc, by omega⟩)
              rw [pcx_p c1.1] at this ⊢
              rw [if_neg (pc_pos h.1 (by omega)), if_pos (kdp h.1 (by omega)), if_neg z3]
              exact this
        · rw [if_neg z2]
          exact stay (fun _ _ y => absurd y z2)
      · rw [if_neg z, if_pos rfl]
        exact stay (fun y1 y2 _ => absurd ⟨y1, y2⟩ z)
  obtain ⟨c, e1, e2, e3⟩ := key 40 fu 0 (-1) (by omega) (by omega) (by omega) (by omega) (Or.inl rfl) (fun j j0 j1 => absurd j1 (by omega))
  rw [pcx_n] at e1
  rw [fT_zombieBehind, TS_1 h.2.1.1, if_pos (kdT2 h.1), szT2 h.1, e1]
  have pl : ∀ i, 0 ≤ i → i < r 0 → ic r i p 1 = true → (0 ≤ G (pc S i) 10 ∧ G (pc S i) 10 < r 1) ∧ r (19 + G (pc S i) 10) = i := fun i i0 i1 i2 => (QQ_pe h ⟨i0, i1⟩).2.2.2 (by rw [(ic_t.mp i2).1]; omega)
  have ec : c = FZn r p (o + 1) := by
    unfold FZn
    rcases ff_spec (fun k => ic r (r (19 + k)) p 1) (r 1 - (o + 1)).toNat (o + 1) with ⟨f1, f2⟩ | ⟨f1, f2, f3, f4⟩
    · rw [if_pos f1]
      rcases e2 with e | ⟨c1, c2, c3⟩
      · exact e
      · have q := pl c c1.1 c1.2 c2
        have := f2 (G (pc S c) 10) (by omega) (by omega)
        rw [q.2, c2] at this
        cases this
    · rw [if_neg (by omega)]
      generalize ff (fun k => ic r (r (19 + k)) p 1) (r 1 - (o + 1)).toNat (o + 1) = k0 at *
      have f3 : ic r (r (19 + k0)) p 1 = true := f3
      obtain ⟨o1, o2, o3, o4⟩ := ord_k h hn (k := k0) (by omega)
      have m1 := e3 _ o1 o2 f3 (by rw [o4]; omega)
      rcases e2 with e | ⟨c1, c2, c3⟩
      · exact absurd e m1.1
      · have q := pl c c1.1 c1.2 c2
        have le := m1.2
        rw [o4] at le
        by_cases z : G (pc S c) 10 = k0
        · rw [← z]; exact q.2.symm
        · have := f4 (G (pc S c) 10) (by omega) (by omega)
          rw [q.2, c2] at this
          cases this
  rw [ec]
theorem jo_read (h : JA G H) : JO tr True (fC_read G 0 p) (fM_read H 624 p) := by
  have hb := jaM h
  have q := jaQ h
  have o1 := JA_th (t := 0) h
  have e625 : th H 0 625 = H 625 := th_n (by omega)
  have w0 := h.2.1.2.1
  rw [fC_read, fM_read]
  rcases vM_notRunning (p := p) (c := 2) h.2.1 with ⟨a, e⟩ | ⟨a, c, e⟩ | ⟨a, c, e⟩
  · rw [e, bdN_s, if_neg f0, jn_n h a, qe3]
    exact JO_e (JA_th h) (th8.trans rfl) (by decide)
  · rw [e, bdN_s, if_neg f0, jn_y h a, bdQ_0, if_pos (kdp T1 (by omega)), qP_run q a, bdP_s, if_neg c, st_n, qe2]
    exact JO_e (JA_th h) (th8.trans rfl) (by decide)
  · have hz := vM_firstZombie (g := th H 0) (p := p) o1.2.1.1 (by rw [e625]; exact hb.2) (by rw [e625]; exact w0.2.2.2.1)
    rw [e625] at hz
    rw [e, bdN_s, if_pos rfl, jn_y h a, bdQ_0, if_pos (kdp T1 (by omega)), qP_run q a, bdP_s, if_pos c, st_1, bdQ_0, ja0 h, if_pos (kdT T1), qT_zombie q w0.2.2.2.2.2.1 a (by omega), bdP_s, show (-1 : Int) + 1 = 0 from rfl, FZn_0, hz, bdP_s]
    rcases FZ_f (p := p) w0.2.2.2.1 with hz1 | ⟨z0, z1, z2⟩
    · rw [hz1, pcx_n, if_pos (by omega), if_pos rfl, jM_read_28, if_pos kd_c624, fl1, bdN_s, if_neg f0]
      exact JO_e (k := 3) (JA_th o1) (th8.trans rfl) (by decide)
    · generalize FZ (H 625) p = z at *
      obtain ⟨i1, i2, i3⟩ := ic_t.mp z2
      rw [pcx_p z0, if_neg (pc_pos T1 (by omega)), if_neg (show ¬ z = -1 by omega), jM_read_28, if_pos kd_c624, fl0, bdN_s, if_pos rfl]
      have act := jo_act0 (tm := tr) (P := True) (A := fun _ g31 => if kd (pc 1 z) = 3 then bnd (pU g31 (pc 1 z) 1 2) (fun g34 => some (0, ((w32 ((opI 0 1000 (g34 (pc 1 z) 0)) + (g34 (pc 1 z) 9))), g34))) else none) (B := fun _ g22 => if kd (g22 624 0) = 20 ∧ (0 : Int) ≤ (w32 (140 + z)) ∧ (w32 (140 + z)) < sz (g22 624 0) then bnd (pU g22 (g22 624 0) (w32 (140 + z)) 2) (fun g26 => if kd (g26 624 0) = 20 ∧ (0 : Int) ≤ (w32 (300 + z)) ∧ (w32 (300 + z)) < sz (g26 624 0) then some ((w32 ((opI 0 1000 z) + (g26 (g26 624 0) (w32 (300 + z))))), g26) else none) else none) o1 th8 (fun G1 H1 j q1 eG e25 => ?_)
      · rw [ja0 h] at act
        exact act
      · have e1 : H1 625 = H 625 := e25.trans e625
        have w := j.2.1.2.1
        have m4 := j.2.1.1.1
        have hM := jaM j
        have hp : 0 ≤ z ∧ z < H1 625 0 := by rw [e1]; exact ⟨z0, z1⟩
        have y1 : H1 625 (140 + z) = 1 := by rw [e1]; exact i1
        have w2 := WF_one w.1 w.2 hp y1
        have K1 := CK_1 (p := z) (v := 2) (CK_of q1.2.2.2.1) (by omega) (ja40 j) hp (by rw [y1]; omega) (by omega)
        have bz := pc_b (T := 1) (i := z) (by omega)
        have n0 : u1 (H1 625) (140 + z) 2 0 = H1 625 0 := u1_n (by omega)
        have q2 : QQ 1 (pU G1 (pc 1 z) 1 2) (u1 (H1 625) (140 + z) 2) (H1 630) := by
          refine ⟨T1, TI_st q1.2.1 ⟨z, by omega, rfl⟩ (by omega), w2.1, CK_to K1 (fun i i0 i1 => ?_), fun i i0 i1 => ?_, LR_e q1.2.2.2.2.2 (u1_n (by omega)) (u1_n (by omega)) (u1_n (by omega))⟩
          · have kk := kids_1 (r := H1 625) (r' := u1 (H1 625) (140 + z) 2) (o := z) (i := i) (by omega) n0 (by omega) (fun j j0 j1 j2 => ⟨u1_n (by omega), u1_n (by omega)⟩)
            rw [u1_s, if_neg (show ¬ (H1 625 (140 + z) = 0 ∧ H1 625 (60 + z) = i) by rw [y1]; omega), if_neg (show ¬ ((2 : Int) = 0 ∧ u1 (H1 625) (140 + z) 2 (60 + z) = i) by omega)] at kk
            show kids (H1 625) i 0 = _
            omega
          · rw [pU_y (by omega)]; exact q1.2.2.2.2.1 i i0 i1
        have v0 : pU G1 (pc 1 z) 1 2 (pc 1 z) 0 = z := by rw [pU_y (by omega)]; exact TS_n q1.2.1.1 (by omega)
        have v9 : pU G1 (pc 1 z) 1 2 (pc 1 z) 9 = H1 625 (300 + z) := by rw [pU_y (by omega)]; exact (QQ_pe q1 hp).1.2.2.2.2.2.2.1
        rw [if_pos (kdp T1 (by omega)), bnd_s, v0, v9, m4, w32_r (x := 140 + z) (by omega), if_pos (g625 (by omega)), bnd_s, pU_625, w32_r (x := 300 + z) (by omega), sw_n (show ¬ (624 : Int) = 625 by omega), m4, if_pos (g625 (by omega)), sw_s, u1_n (by omega)]
        exact ⟨_, _, _, _, rfl, rfl, fun _ => rfl, q2, w2, TF_pU TF_r (by omega)⟩
end PAR32
