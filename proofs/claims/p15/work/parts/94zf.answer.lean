/-! ===== the answer to a question, in both (own work) ===== -/
section PAR43
variable {g g' G G' H H' K : gH} {r r' dm : Int → Int} {a b c d e i j k l m n o p q s t u v w x y z S T gp code : Int}
theorem Bl_tr {f : Int → Int} (hA : Acy f m) (hx : 0 ≤ x ∧ x < m) (hs : 0 ≤ s ∧ s < m) (h1 : Bl f u s = true) (h2 : Bl f s x = true) : Bl f u x = true := by
  rcases Bl_or h2 with e | e
  · rw [e]; exact h1
  · rcases Bl_or h1 with e2 | e2
    · rw [← e2]; exact h2
    · exact Bl_ov (OV_tr (p := u) (q := s) (hA x hx.1 hx.2) (hA s hs.1 hs.2) e e2)
/-- two that are over one, or it, stand one over the other -/
theorem Bl_cmp {f : Int → Int} : ∀ (n : Nat) (i : Int), en f n i = true → Bl f c i = true → Bl f d i = true → Bl f c d = true ∨ Bl f d c = true := by
  intro n
  induction n with
  | zero =>
    intro i hi h1 h2
    have e : i = 0 := by simpa [en] using hi
    have hc : i = c := by
      rcases Bl_or h1 with z | z
      · exact z
      · rw [e, OV_0] at z; cases z
    rw [← hc]
    exact Or.inr h2
  | succ n ih =>
    intro i hi h1 h2
    by_cases e : i = 0
    · have hc : i = c := by
        rcases Bl_or h1 with z | z
        · exact z
        · rw [e, OV_0] at z; cases z
      rw [← hc]
      exact Or.inr h2
    · rcases Bl_up (en_40 hi) e h1 with z | z
      · rw [← z]; exact Or.inr h2
      · rcases Bl_up (en_40 hi) e h2 with y | y
        · rw [← y]; exact Or.inl h1
        · rcases en_s.mp hi with w | ⟨-, -, w⟩
          · exact absurd w e
          · exact ih (f i) w z y
/-- a depth is told by a chain -/
theorem Bl_dp {f : Int → Int} (hi : en f 40 i = true) (h : Bl f c i = true) : DP f c ≤ DP f i := by
  rcases Bl_or h with e | e
  · rw [e]; exact Int.le_refl _
  · exact Int.le_of_lt (OV_dp hi e)
theorem Bl_eq {f : Int → Int} (hA : Acy f m) (hi : 0 ≤ i ∧ i < m) (hc : 0 < c ∧ c < m) (hd : 0 < d ∧ d < m) (h1 : Bl f c i = true) (h2 : Bl f d i = true) (hf : f c = f d) : c = d := by
  have ec := hA c (by omega) hc.2
  have ed := hA d (by omega) hd.2
  have dc := DP_s ec (by omega)
  have dd := DP_s ed (by omega)
  rw [hf] at dc
  rcases Bl_cmp 40 i (hA i hi.1 hi.2) h1 h2 with z | z
  · rcases Bl_or z with e | e
    · exact e.symm
    · have := OV_dp ed e
      omega
  · rcases Bl_or z with e | e
    · exact e
    · have := OV_dp ec e
      omega
/-- where a walk goes on from i: to a child of i, or to a younger sibling of one that is over i, or i -/
def WS (r : Int → Int) (i j : Int) : Prop := (up r j = i ∧ ¬ j = 0) ∨ ∃ u, Bl (up r) u i = true ∧ 0 < u ∧ u < j ∧ up r u = up r j
theorem WS_up (hw : WBF r) (hi : 0 ≤ i ∧ i < r 0) (hj : 0 ≤ j ∧ j < r 0) (h : WS r i j) : (∀ x, VP r i x → VP r j x) ∧ ¬ VP r i j := by
  have hA := hw.1.2.2.1
  have hcl := hw.1.2.1
  have ei := hA i hi.1 hi.2
  have ej := hA j hj.1 hj.2
  rcases h with ⟨h1, j0⟩ | ⟨u, h1, h2, h3, h4⟩
  · have dj := DP_s ej j0
    rw [h1] at dj
    refine ⟨fun x hx => ?_, fun hx => ?_⟩
    · obtain ⟨x0, x1, x2⟩ := hx
      refine ⟨x0, x1, ?_⟩
      rcases x2 with y | ⟨c, s, y1, y2, y3, y4, y5⟩
      · exact Or.inl (Bl_s ej j0 (by rw [h1]; exact y))
      · exact Or.inr ⟨c, s, Bl_s ej j0 (by rw [h1]; exact y1), y2, y3, y4, y5⟩
    · obtain ⟨x0, x1, x2⟩ := hx
      rcases x2 with y | ⟨c, s, y1, y2, y3, y4, y5⟩
      · have := Bl_dp ei y
        omega
      · have hs : 0 < s ∧ s < r 0 := by omega
        rcases Bl_up ej j0 y5 with z | z
        · have dc := DP_s (hA c (by omega) y2.2) (by omega)
          have := Bl_dp ei y1
          rw [← y4, ← z, h1] at dc
          omega
        · rw [h1] at z
          have := Bl_eq hA hi hs y2 z y1 y4
          omega
  · have hu : 0 < u ∧ u < r 0 := by omega
    have eu := hA u (by omega) hu.2
    have j0 : ¬ j = 0 := by omega
    have upu := hcl u hu.1 hu.2
    refine ⟨fun x hx => ?_, fun hx => ?_⟩
    · obtain ⟨x0, x1, x2⟩ := hx
      refine ⟨x0, x1, ?_⟩
      have by_u : Bl (up r) u x = true → Bl (up r) x j = true ∨ ∃ c s, Bl (up r) c j = true ∧ (0 < c ∧ c < r 0) ∧ (0 < s ∧ s < c) ∧ up r s = up r c ∧ Bl (up r) s x = true := fun z => Or.inr ⟨j, u, Bl_i, by omega, ⟨h2, h3⟩, h4, z⟩
      rcases x2 with y | ⟨c, s, y1, y2, y3, y4, y5⟩
      · rcases Bl_cmp 40 i ei y h1 with z | z
        · rcases Bl_up eu (by omega) z with w | w
          · exact by_u (by rw [w]; exact Bl_i)
          · exact Or.inl (Bl_s ej j0 (by rw [← h4]; exact w))
        · exact by_u z
      · have hs : 0 ≤ s ∧ s < r 0 := by omega
        rcases Bl_cmp 40 i ei y1 h1 with z | z
        · rcases Bl_up eu (by omega) z with w | w
          · exact Or.inr ⟨j, s, Bl_i, by omega, by omega, by rw [y4, ← w]; exact h4, y5⟩
          · exact Or.inr ⟨c, s, Bl_s ej j0 (by rw [← h4]; exact w), y2, y3, y4, y5⟩
        · rcases Bl_up (hA c (by omega) y2.2) (by omega) z with w | w
          · exact Or.inr ⟨j, s, Bl_i, by omega, by omega, by rw [y4, w]; exact h4, y5⟩
          · have w2 : Bl (up r) u s = true := Bl_s (hA s hs.1 hs.2) (by omega) (by rw [y4]; exact w)
            exact by_u (Bl_tr hA x0 hs w2 y5)
    · obtain ⟨x0, x1, x2⟩ := hx
      rcases x2 with y | ⟨c, s, y1, y2, y3, y4, y5⟩
      · have := Bl_eq hA hi (show 0 < j ∧ j < r 0 by omega) hu y h1 h4.symm
        omega
      · have hs : 0 < s ∧ s < r 0 := by omega
        rcases Bl_up ej j0 y5 with z | z
        · have := Bl_eq hA hi y2 hu y1 h1 (by rw [← y4, ← z]; exact h4.symm)
          omega
        · rw [← h4] at z
          have z2 := Bl_tr hA hi (show 0 ≤ u ∧ u < r 0 by omega) (Bl_s eu (by omega) z) h1
          have := Bl_eq hA hi hs y2 z2 y1 y4
          omega
/-- the next running child, in both -/
theorem lk_next (hs : MS H) (h : QQ S G r dm) (ha : 0 ≤ a ∧ a < r 0) (hk : -1 ≤ k ∧ k ≤ 39) : ∃ c, fT_childBehind G S (pc S a) k = some (pcx S c) ∧ fM_nextChild (sw H r) 624 a (k + 1) = some c ∧ (c = -1 ∨ ((k < c ∧ c < r 0) ∧ ic r c a 0 = true)) := by
  have hb := QQ_b h
  have hfu := fu_ge
  obtain ⟨c, e2, hc⟩ := vM_nextChild (G := sw H r) (a := a) (k := k + 1) (MS_sw hs) (by rw [sw_s]; exact hb) (by omega)
  rw [sw_s] at hc
  have key := find_loop (L := fun n i => lT_childBehind_12 G (pc S a) k (S + 2) 40 n i) (E := fun x => some (pcx S x)) (fun i => decide (k < i) && (decide (i < r 0) && ic r i a 0)) 40 0 (fun n i i0 i1 => by
    show bT_childBehind_12 G (pc S a) k (S + 2) 40 (lT_childBehind_12 G (pc S a) k (S + 2) 40 n) i = _
    rw [bT_childBehind_12, if_pos i1, if_pos (g24_ h (by omega)), TS_p h.2.1.1 (by omega), if_pos (kdp h.1 (by omega)), TS_n h.2.1.1 (by omega), qP_child h (by omega) (by omega), bdP_s, w32_r (x := i + 1) (by omega)]
    by_cases c1 : k < i
    · rw [if_pos c1, decide_eq_true c1, Bool.true_and]
      by_cases c2 : i < r 0 ∧ ic r i a 0 = true
      · rw [if_pos c2, if_neg f0, decide_eq_true c2.1, Bool.true_and, if_pos c2.2, pcx_p i0]
      · rw [if_neg c2, if_pos rfl, if_neg (fun z => by
          rw [Bool.and_eq_true] at z
          exact c2 ⟨of_decide_eq_true z.1, z.2⟩)]
    · rw [if_neg c1, decide_eq_false c1, Bool.false_and, if_neg (by decide)]) (fun n i i0 i1 => by
    show bT_childBehind_12 G (pc S a) k (S + 2) 40 (lT_childBehind_12 G (pc S a) k (S + 2) 40 n) i = _
    rw [bT_childBehind_12, if_neg i1, pcx_n]) 40 0 fu (by omega) (by omega) (by omega)
  have key : lT_childBehind_12 G (pc S a) k (S + 2) 40 fu 0 = some (pcx S (ff (fun i => decide (k < i) && (decide (i < r 0) && ic r i a 0)) 40 0)) := key
  have ec : ff (fun i => decide (k < i) && (decide (i < r 0) && ic r i a 0)) 40 0 = c := by
    have e40 : ((40 : Nat) : Int) = 40 := rfl
    have s1 := ff_spec (fun i => decide (k < i) && (decide (i < r 0) && ic r i a 0)) 40 0
    rw [e40] at s1
    generalize ff (fun i => decide (k < i) && (decide (i < r 0) && ic r i a 0)) 40 0 = x at *
    rcases s1 with ⟨a1, a2⟩ | ⟨a1, a2, a3, a4⟩
    · rcases hc with ⟨b1, b2⟩ | ⟨b1, b2, b3⟩
      · omega
      · have := a2 c (by omega) (by omega)
        have this : (decide (k < c) && (decide (c < r 0) && ic r c a 0)) = false := this
        rw [decide_eq_true (by omega), decide_eq_true (by omega), b2] at this
        cases this
    · have a3 : (decide (k < x) && (decide (x < r 0) && ic r x a 0)) = true := a3
      rw [Bool.and_eq_true, Bool.and_eq_true] at a3
      have x1 := of_decide_eq_true a3.1
      have x2 := of_decide_eq_true a3.2.1
      rcases hc with ⟨b1, b2⟩ | ⟨b1, b2, b3⟩
      · have := b2 x (by omega) x2
        rw [a3.2.2] at this
        cases this
      · by_cases z : x = c
        · exact z
        · exfalso
          by_cases z2 : x < c
          · have := b3 x (by omega) z2
            rw [a3.2.2] at this
            cases this
          · have := a4 c (by omega) (by omega)
            have this : (decide (k < c) && (decide (c < r 0) && ic r c a 0)) = false := this
            rw [decide_eq_true (by omega), decide_eq_true (by omega), b2] at this
            cases this
  refine ⟨c, ?_, e2, ?_⟩
  · rw [fT_childBehind, TS_1 h.2.1.1, if_pos (kdT2 h.1), szT2 h.1, key, ec]
  · rcases hc with ⟨b1, -⟩ | ⟨b1, b2, -⟩
    · exact Or.inl b1
    · exact Or.inr ⟨by omega, b2⟩
/-- a walk's next step, in both -/
theorem lk_walk (hs : MS H) (h : QQ S G r dm) (hi : 0 ≤ i ∧ i < r 0) : ∃ j, fT_nextOfWalk G S (pc S i) = some (pcx S j) ∧ fM_walkOn (sw H r) 624 i = some j ∧ (j = -1 ∨ ((0 ≤ j ∧ j < r 0) ∧ r (140 + j) = 0 ∧ WS r i j)) := by
  have hb := QQ_b h
  have hfu := fu_ge
  have hA := h.2.2.1.2.2.1
  have key : ∀ (m : Nat) (u c : Int) (n1 n2 : Nat), en (up r) m u = true → (0 ≤ u ∧ u < r 0) → m + 1 < n1 → m + 1 < n2 → Bl (up r) u i = true → (c = -1 ∨ ((0 ≤ c ∧ c < r 0) ∧ r (140 + c) = 0 ∧ WS r i c)) → ∃ j, lT_nextOfWalk_9 G S n1 (pcx S c) (pc S u) = some (pcx S j) ∧ lM_walkOn_9 (sw H r) 624 n2 c u = some j ∧ (j = -1 ∨ ((0 ≤ j ∧ j < r 0) ∧ r (140 + j) = 0 ∧ WS r i j)) := by
    intro m
    induction m with
    | zero =>
      intro u c n1 n2 hu hur hn1 hn2 hbl hc
      obtain ⟨n1, rfl⟩ : ∃ k, n1 = k + 1 := ⟨n1 - 1, by omega⟩
      obtain ⟨n2, rfl⟩ : ∃ k, n2 = k + 1 := ⟨n2 - 1, by omega⟩
      have e : u = 0 := by simpa [en] using hu
      have eC : lT_nextOfWalk_9 G S (n1 + 1) (pcx S c) (pc S u) = bT_nextOfWalk_9 G S (lT_nextOfWalk_9 G S n1) (pcx S c) (pc S u) := rfl
      have eM : lM_walkOn_9 (sw H r) 624 (n2 + 1) c u = bM_walkOn_9 (sw H r) 624 (lM_walkOn_9 (sw H r) 624 n2) c u := rfl
      refine ⟨c, ?_, ?_, hc⟩
      · rw [eC, bT_nextOfWalk_9]
        rcases hc with z | z
        · rw [z, pcx_n, if_pos (show (-1 : Int) < 0 by omega), if_pos (kdp h.1 (by omega)), e, QQ_top h, if_pos (show (-1 : Int) < 0 by omega)]
        · rw [pcx_p z.1.1, if_neg (pc_pos h.1 (by omega))]
      · rw [eM, bM_walkOn_9]
        by_cases z : c = -1
        · rw [if_pos z, if_pos e]
        · rw [if_neg z]
    | succ m ih =>
      intro u c n1 n2 hu hur hn1 hn2 hbl hc
      obtain ⟨n1, rfl⟩ : ∃ k, n1 = k + 1 := ⟨n1 - 1, by omega⟩
      obtain ⟨n2, rfl⟩ : ∃ k, n2 = k + 1 := ⟨n2 - 1, by omega⟩
      have eC : lT_nextOfWalk_9 G S (n1 + 1) (pcx S c) (pc S u) = bT_nextOfWalk_9 G S (lT_nextOfWalk_9 G S n1) (pcx S c) (pc S u) := rfl
      have eM : lM_walkOn_9 (sw H r) 624 (n2 + 1) c u = bM_walkOn_9 (sw H r) 624 (lM_walkOn_9 (sw H r) 624 n2) c u := rfl
      rw [eC, eM, bT_nextOfWalk_9, bM_walkOn_9]
      rcases hc with z | z
      · rw [z, pcx_n, if_pos (show (-1 : Int) < 0 by omega), if_pos (kdp h.1 (by omega)), if_pos (show (-1 : Int) = -1 from rfl)]
        by_cases e : u = 0
        · rw [if_pos e, e, QQ_top h, if_pos (show (-1 : Int) < 0 by omega)]
          exact ⟨-1, by rw [pcx_n], rfl, Or.inl rfl⟩
        · have hru := QQ_rg h (i := u) (by omega)
          obtain ⟨c', n1_, n2_, n3_⟩ := lk_next (a := up r u) (k := u) hs h hru (by omega)
          have eu : r (60 + u) = up r u := rfl
          rw [if_neg e, QQ_up h (by omega), if_neg (pc_pos h.1 (by omega)), TS_n h.2.1.1 (by omega), n1_, bdP_s, w32_r (x := 60 + u) (by omega), if_pos (gd25 hs (k := 60 + u) (by omega)), m0s hs, sw_s, eu, w32_r (x := u + 1) (by omega), n2_, bdP_s, if_pos (g625 (k := 60 + u) (by omega))]
          rcases en_s.mp hu with w | ⟨-, -, w⟩
          · exact absurd w e
          · refine ih (up r u) c' n1 n2 w hru (by omega) (by omega) (Bl_ov (Bl_par hA (by omega) hi hbl)) ?_
            rcases n3_ with y | ⟨y1, y2⟩
            · exact Or.inl y
            · obtain ⟨q1, q2, q3⟩ := ic_t.mp y2
              exact Or.inr ⟨by omega, q1, Or.inr ⟨u, hbl, by omega, y1.1, q2.symm⟩⟩
      · rw [pcx_p z.1.1, if_neg (pc_pos h.1 (by omega)), if_neg (show ¬ c = -1 by omega)]
        exact ⟨c, by rw [pcx_p z.1.1], rfl, Or.inr z⟩
  obtain ⟨c, e1, e2, hc⟩ := lk_next (a := i) (k := -1) hs h hi (by omega)
  rw [show (-1 : Int) + 1 = 0 from rfl] at e2
  rw [fT_nextOfWalk, e1, bdP_s, fM_walkOn, e2, bdP_s]
  refine key 40 i c fu fu (hA i hi.1 hi.2) hi (by omega) (by omega) Bl_i ?_
  rcases hc with z | ⟨z1, z2⟩
  · exact Or.inl z
  · obtain ⟨q1, q2, q3⟩ := ic_t.mp z2
    exact Or.inr ⟨by omega, q1, Or.inl ⟨q2, q3⟩⟩
theorem jq_walked (h : JA G H) : JQ tn G (fC_walked G 0 a) (fM_walked H 624 a) := by
  have q := jaQ h
  have hb := jaM h
  have hfu := fu_ge
  have o1 := JA_th (t := 0) h
  have e25 : th H 0 625 = H 625 := th_n (by omega)
  have e8 : pU H 624 8 0 = th H 0 := rfl
  have hw := h.2.1.2.1
  have rm := vM_runningMany (g := th H 0) o1.2.1.1 (by rw [e25]; exact hb)
  rw [e25] at rm
  have nb := cn_bd (fun c => decide (H 625 (140 + c) = 0)) (H 625 0).toNat 0
  have key : ∀ (m : Nat) (k v : Int) (n1 n2 : Nat), (a - k).toNat = m → m < n1 → m < n2 → 0 ≤ k → k ≤ a → a < 40 → (0 ≤ v ∧ v < H 625 0) → H 625 (140 + v) = 0 → cn (VB (H 625) v) (H 625 0).toNat 0 = k + 1 → (a < cn (fun c => decide (H 625 (140 + c) = 0)) (H 625 0).toNat 0 ∧ ∃ w, lC_walked_24 G 0 a n1 (pc 1 v) k = some (0, w) ∧ lM_walked_38 (th H 0) 624 a n2 v k = some (w, th H 0)) ∨ (cn (fun c => decide (H 625 (140 + c) = 0)) (H 625 0).toNat 0 ≤ a ∧ lC_walked_24 G 0 a n1 (pc 1 v) k = some (4, 0)) := by
    intro m
    induction m with
    | zero =>
      intro k v n1 n2 hm hn1 hn2 k0 ka a4 hv hst hc
      obtain ⟨n1, rfl⟩ : ∃ k, n1 = k + 1 := ⟨n1 - 1, by omega⟩
      obtain ⟨n2, rfl⟩ : ∃ k, n2 = k + 1 := ⟨n2 - 1, by omega⟩
      have le := cn_le (P := VB (H 625) v) (Q := fun c => decide (H 625 (140 + c) = 0)) (fun j hj => decide_eq_true (VB_t.mp hj).2.1) (H 625 0).toNat 0
      refine Or.inl ⟨by omega, v, ?_, ?_⟩
      · show bC_walked_24 G 0 a (lC_walked_24 G 0 a n1) (pc 1 v) k = _
        rw [bC_walked_24, if_neg (by omega), jC_walked_48, if_neg (pc_pos T1 (by omega)), if_pos (kdp T1 (by omega)), TS_n q.2.1.1 (by omega)]
      · show bM_walked_38 (th H 0) 624 a (lM_walked_38 (th H 0) 624 a n2) v k = _
        rw [bM_walked_38, if_neg (by omega)]
    | succ m ih =>
      intro k v n1 n2 hm hn1 hn2 k0 ka a4 hv hst hc
      obtain ⟨n1, rfl⟩ : ∃ k, n1 = k + 2 := ⟨n1 - 2, by omega⟩
      obtain ⟨n2, rfl⟩ : ∃ k, n2 = k + 1 := ⟨n2 - 1, by omega⟩
      obtain ⟨j, s1, s2, s3⟩ := lk_walk (i := v) o1.2.1.1 (jaQ o1) (by rw [e25]; exact hv)
      rw [sw_id] at s2
      rw [e25] at s3
      obtain ⟨j', t1, t2⟩ := vM_walkOn (G := th H 0) (i := v) o1.2.1 (by rw [e25]; exact hv) (by rw [e25]; exact hst)
      rw [s2] at t1
      cases t1
      rw [e25] at t2
      have eC : lC_walked_24 G 0 a (n1 + 2) (pc 1 v) k = lC_walked_24 G 0 a (n1 + 1) (pcx 1 j) (k + 1) := by
        show bC_walked_24 G 0 a (lC_walked_24 G 0 a (n1 + 1)) (pc 1 v) k = _
        rw [bC_walked_24, if_pos (by omega), if_neg (pc_pos T1 (by omega)), ja0 h, if_pos (kdT T1), s1, bdP_s, w32_r (by omega)]
      have eM : lM_walked_38 (th H 0) 624 a (n2 + 1) v k = lM_walked_38 (th H 0) 624 a n2 j (k + 1) := by
        show bM_walked_38 (th H 0) 624 a (lM_walked_38 (th H 0) 624 a n2) v k = _
        rw [bM_walked_38, if_pos (by omega), s2, bdP_s, w32_r (by omega)]
      rw [eC, eM]
      rcases t2 with ⟨j1, j2⟩ | ⟨j1, j2, j3⟩
      · have le : cn (fun c => decide (H 625 (140 + c) = 0)) (H 625 0).toNat 0 ≤ cn (VB (H 625) v) (H 625 0).toNat 0 := by
          have := cn_add (P := fun c => decide (H 625 (140 + c) = 0)) (Q := fun _ => false) (R := VB (H 625) v) (H 625 0).toNat 0 (fun x x1 x2 hx => ⟨VB_t.mpr (j2 x ⟨by omega, by omega⟩ (of_decide_eq_true hx)), rfl⟩) (fun x x1 x2 hx => by cases hx)
          have := (cn_bd (fun _ => false) (H 625 0).toNat 0).1
          omega
        refine Or.inr ⟨by omega, ?_⟩
        rw [j1, pcx_n]
        show bC_walked_24 G 0 a (lC_walked_24 G 0 a n1) (-1) (k + 1) = _
        rw [bC_walked_24]
        by_cases z : k + 1 < a
        · rw [if_pos z, if_pos (show (-1 : Int) < 0 by omega), jC_walked_48, if_pos (show (-1 : Int) < 0 by omega)]
        · rw [if_neg z, jC_walked_48, if_pos (show (-1 : Int) < 0 by omega)]
      · rcases s3 with z | ⟨z1, z2, z3⟩
        · omega
        · obtain ⟨g1_, g2_⟩ := WS_up hw hv z1 z3
          have up_ := cn_or1 (P := VB (H 625) j) (Q := VB (H 625) v) (j := j) (H 625 0).toNat 0 (fun x x1 x2 hx => by
            rcases j3 x (VB_t.mp hx) with e | e
            · exact Or.inl (VB_t.mpr e)
            · exact Or.inr e)
          rw [if_pos z1.1] at up_
          have dn := cn_lt (P := VB (H 625) v) (Q := VB (H 625) j) (fun x hx => VB_t.mpr (g1_ x (VB_t.mp hx))) (p := j) (by
            cases hV : VB (H 625) v j with
            | false => rfl
            | true => exact absurd (VB_t.mp hV) g2_) (VB_t.mpr ⟨z1, z2, Or.inl Bl_i⟩) (H 625 0).toNat 0 z1.1 (by omega)
          rw [pcx_p z1.1]
          exact ih (k + 1) j (n1 + 1) n2 (by omega) (by omega) (by omega) (by omega) (by omega) a4 z1 z2 (by omega)
  have c1_ : cn (VB (H 625) 0) (H 625 0).toNat 0 = 0 + 1 := by
    have h1 := cn_or1 (P := VB (H 625) 0) (Q := fun _ => false) (j := 0) (H 625 0).toNat 0 (fun x x1 x2 hx => by
      right
      obtain ⟨hx1, -, hx2⟩ := VB_t.mp hx
      rcases hx2 with e | ⟨c, s, e, hc, -⟩
      · rcases Bl_or e with e | e
        · exact e.symm
        · rw [OV_0] at e; cases e
      · rcases Bl_or e with e | e
        · omega
        · rw [OV_0] at e; cases e)
    rw [if_pos (by omega), cn_z (P := fun _ => false) (H 625 0).toNat 0 (fun _ _ _ => rfl)] at h1
    have h2 := cn_lt (P := fun _ => false) (Q := VB (H 625) 0) (fun x hx => by cases hx) (p := 0) rfl (VB_t.mpr ⟨⟨by omega, by omega⟩, hw.2.1.2, Or.inl Bl_i⟩) (H 625 0).toNat 0 (by omega) (by omega)
    rw [cn_z (P := fun _ => false) (H 625 0).toNat 0 (fun _ _ _ => rfl)] at h2
    omega
  have out : ∀ n, ¬ (0 ≤ a ∧ a < 40) → lC_walked_24 G 0 a (n + 1) (-1) 0 = some (4, 0) := by
    intro n ha
    show bC_walked_24 G 0 a (lC_walked_24 G 0 a n) (-1) 0 = _
    rw [bC_walked_24]
    by_cases z : 0 < a
    · rw [if_pos z, if_pos (show (-1 : Int) < 0 by omega), jC_walked_48, if_pos (show (-1 : Int) < 0 by omega)]
    · rw [if_neg z, jC_walked_48, if_pos (show (-1 : Int) < 0 by omega)]
  obtain ⟨f, ef⟩ : ∃ f, fu = f + 1 := ⟨fu - 1, by omega⟩
  have bad : ∀ X, X = some ((4 : Nat), (0 : Int)) → ¬ (0 ≤ a ∧ a ≤ cn (fun c => decide (H 625 (140 + c) = 0)) (H 625 0).toNat 0 - 1) → JQ tn G X (fM_walked H 624 a) := by
    intro X hX hn
    rw [hX, fM_walked, bnd_s, e8, rm, bdP_s, w32_r (by omega), vM_inRange, bdP_s, if_neg hn, if_pos rfl, jM_walked_25, if_pos kd_c624, fl1, bdN_s, if_neg f0]
    exact JQ_e (k := 3) (JA_th o1) (th8.trans rfl) (by decide)
  by_cases a0 : a < 0
  · exact bad _ (by rw [fC_walked, if_pos a0, ef, out f (by omega)]) (by omega)
  · by_cases a4 : a < 40
    · have r0_ : H 625 (140 + 0) = 0 := hw.2.1.2
      rcases key a.toNat 0 0 fu fu (by omega) (by omega) (by omega) (by omega) (by omega) a4 (by omega) r0_ c1_ with ⟨b1, w, b2, b3⟩ | ⟨b1, b2⟩
      · rw [pc_0] at b2
        rw [fC_walked, if_neg a0, if_pos a4, ja0 h, if_pos (kdT T1), TS_0 q.2.1.1, b2, fM_walked, bnd_s, e8, rm, bdP_s, w32_r (by omega), vM_inRange, bdP_s, if_pos (show 0 ≤ a ∧ a ≤ cn (fun c => decide (H 625 (140 + c) = 0)) (H 625 0).toNat 0 - 1 by omega), if_neg f0, jM_walked_25, if_pos kd_c624, fl0, bdN_s, if_pos rfl, b3]
        exact JQ_i o1 th8
      · rw [pc_0] at b2
        exact bad _ (by rw [fC_walked, if_neg a0, if_pos a4, ja0 h, if_pos (kdT T1), TS_0 q.2.1.1, b2]) (by omega)
    · exact bad _ (by rw [fC_walked, if_neg a0, if_neg a4, ef, out f (by omega)]) (by omega)
end PAR43
