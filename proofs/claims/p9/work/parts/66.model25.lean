/-! ===== the reference's walk: it reaches whatever runs (own work) ===== -/
theorem cn_or1 {P Q : Int → Bool} {j : Int} : ∀ (m : Nat) (k : Int), (∀ x, k ≤ x → x < k + m → P x = true → Q x = true ∨ x = j) → cn P m k ≤ cn Q m k + (if k ≤ j then 1 else 0) := by
  intro m
  induction m with
  | zero => intro k _; unfold cn; split <;> omega
  | succ m ih =>
    intro k h
    rw [cn_s, cn_s]
    have h1 := ih (k + 1) (fun x x1 x2 => h x (by omega) (by omega))
    cases hp : P k with
    | false =>
      simp only [Bool.false_eq_true, if_false]
      split at h1 <;> split <;> split <;> omega
    | true =>
      rcases h k (by omega) (by omega) hp with hq | hq
      · rw [hq]; simp only [if_true]
        split at h1 <;> split <;> omega
      · subst hq
        simp only [if_true]
        split at h1 <;> split <;> split <;> omega
section WALKB
variable {f : Int → Int} {p q c i k m x s : Int}
theorem Bl_i : Bl f i i = true := by
  show (decide (i = i) || _) = true
  rw [decide_eq_true rfl, Bool.true_or]
theorem Bl_ov (h : OV f p i = true) : Bl f p i = true := by
  show (_ || OV f p i) = true
  rw [h, Bool.or_true]
theorem Bl_or (h : Bl f p i = true) : i = p ∨ OV f p i = true := by
  have h : (decide (i = p) || OV f p i) = true := h
  rw [Bool.or_eq_true] at h
  rcases h with h | h
  · exact Or.inl (of_decide_eq_true h)
  · exact Or.inr h
/-- one step further down -/
theorem Bl_s (hx : en f 40 x = true) (h0 : x ≠ 0) (h : Bl f c (f x) = true) : Bl f c x = true := by
  apply Bl_ov
  rw [OV_s hx h0]
  rcases Bl_or h with e | e
  · rw [if_pos e]
  · rw [e]; split <;> rfl
theorem Bl_up (hx : en f 40 x = true) (h0 : x ≠ 0) (h : Bl f c x = true) : x = c ∨ Bl f c (f x) = true := by
  rcases Bl_or h with e | e
  · exact Or.inl e
  · right
    rw [OV_s hx h0] at e
    by_cases e2 : f x = c
    · rw [e2]; exact Bl_i
    · rw [if_neg e2] at e; exact Bl_ov e
theorem Bl_par (hA : Acy f m) (hc : 0 < c ∧ c < m) (hx : 0 ≤ x ∧ x < m) (h : Bl f c x = true) : OV f (f c) x = true := by
  have hcf : OV f (f c) c = true := by rw [OV_s (hA c (by omega) hc.2) (by omega), if_pos rfl]
  rcases Bl_or h with e | e
  · rw [e]; exact hcf
  · exact OV_tr (p := f c) (q := c) (hA x hx.1 hx.2) (hA c (by omega) hc.2) e hcf
/-- the child by which p is over x -/
theorem OV_ch (hcl : ∀ i, 0 < i → i < m → 0 ≤ f i ∧ f i < m) (hA : Acy f m) : ∀ (n : Nat) (x : Int), en f n x = true → 0 ≤ x ∧ x < m → OV f p x = true → ∃ c, (0 < c ∧ c < m) ∧ f c = p ∧ Bl f c x = true := by
  intro n
  induction n with
  | zero =>
    intro x hx hr ho
    have e : x = 0 := by simpa [en] using hx
    rw [e, OV_0] at ho; cases ho
  | succ n ih =>
    intro x hx hr ho
    have h0 : x ≠ 0 := fun z => by rw [z, OV_0] at ho; cases ho
    have hx4 := hA x hr.1 hr.2
    rw [OV_s hx4 h0] at ho
    by_cases e : f x = p
    · exact ⟨x, ⟨by omega, hr.2⟩, e, Bl_i⟩
    · rw [if_neg e] at ho
      have hup : en f n (f x) = true := by
        rcases en_s.mp hx with z | ⟨-, -, z⟩
        · exact absurd z h0
        · exact z
      have hf := hcl x (by omega) hr.2
      obtain ⟨c, hc, h1, h2⟩ := ih (f x) hup hf ho
      exact ⟨c, hc, h1, Bl_s hx4 h0 h2⟩
theorem Bl_0 (hcl : ∀ i, 0 < i → i < m → 0 ≤ f i ∧ f i < m) : ∀ (n : Nat) (x : Int), en f n x = true → 0 ≤ x ∧ x < m → Bl f 0 x = true := by
  intro n
  induction n with
  | zero =>
    intro x hx hr
    have e : x = 0 := by simpa [en] using hx
    rw [e]; exact Bl_i
  | succ n ih =>
    intro x hx hr
    by_cases h0 : x = 0
    · rw [h0]; exact Bl_i
    · have hup : en f n (f x) = true := by
        rcases en_s.mp hx with z | ⟨-, -, z⟩
        · exact absurd z h0
        · exact z
      exact Bl_s (en_40 hx) h0 (ih _ hup (hcl x (by omega) hr.2))
end WALKB
/-- whatever is over a running process runs -/
theorem Bl_run {r : Int → Int} {c : Int} (hW : WBF r) : ∀ (n : Nat) (x : Int), en (up r) n x = true → 0 ≤ x ∧ x < r 0 → r (140 + x) = 0 → Bl (up r) c x = true → r (140 + c) = 0 := by
  intro n
  induction n with
  | zero =>
    intro x hx hr hs hb
    have e : x = 0 := by simpa [en] using hx
    rcases Bl_or hb with h | h
    · rw [← h]; exact hs
    · rw [e, OV_0] at h; cases h
  | succ n ih =>
    intro x hx hr hs hb
    by_cases h0 : x = 0
    · rcases Bl_or hb with h | h
      · rw [← h]; exact hs
      · rw [h0, OV_0] at h; cases h
    · rcases Bl_up (en_40 hx) h0 hb with e | e
      · rw [← e]; exact hs
      · have hup : en (up r) n (up r x) = true := by
          rcases en_s.mp hx with z | ⟨-, -, z⟩
          · exact absurd z h0
          · exact z
        have hf := hW.1.2.1 x (by omega) hr.2
        exact ih (up r x) hup hf (hW.2.2.1 x (by omega) hr.2 (by omega)) e
/-- what was met when the walk stands at i -/
def VP (r : Int → Int) (i x : Int) : Prop := (0 ≤ x ∧ x < r 0) ∧ r (140 + x) = 0 ∧ (Bl (up r) x i = true ∨ ∃ c s, Bl (up r) c i = true ∧ (0 < c ∧ c < r 0) ∧ (0 < s ∧ s < c) ∧ up r s = up r c ∧ Bl (up r) s x = true)
section MODEL25
variable {g G H K : gH} {p code t c a b k q gp d x y z w v n l i : Int}
theorem ic_w {r : Int → Int} (h : ic r c a t = true) : r (140 + c) = t ∧ up r c = a ∧ c ≠ 0 := of_decide_eq_true h
theorem ic_f {r : Int → Int} (h : ic r c a t = false) (h1 : r (140 + c) = t) (h2 : up r c = a) (h3 : c ≠ 0) : False := by
  have : ic r c a t = true := decide_eq_true ⟨h1, h2, h3⟩
  rw [this] at h; cases h
theorem vM_walkOn (o : MInv G) (hi : 0 ≤ i ∧ i < G 625 0) (hst : G 625 (140 + i) = 0) : ∃ j, fM_walkOn G 624 i = some j ∧ ((j = -1 ∧ ∀ x, 0 ≤ x ∧ x < G 625 0 → G 625 (140 + x) = 0 → VP (G 625) i x) ∨ ((0 ≤ j ∧ j < G 625 0) ∧ G 625 (140 + j) = 0 ∧ ∀ x, VP (G 625) j x → VP (G 625) i x ∨ x = j)) := by
  have hs := o.1
  have h0 := hs.1
  have hW := o.2.1
  have hcl := hW.1.2.1
  have hA := hW.1.2.2.1
  have hM := hW.1.1
  generalize hr : G 625 = r at *
  have run : ∀ c x, 0 ≤ x ∧ x < r 0 → r (140 + x) = 0 → Bl (up r) c x = true → r (140 + c) = 0 := fun c x hx hs hb => Bl_run hW 40 x (hA x hx.1 hx.2) hx hs hb
  have nc : ∀ a k, (0 ≤ k ∧ k ≤ 40) → ∃ c, fM_nextChild G 624 a k = some c ∧ ((c = -1 ∧ ∀ j, k ≤ j → j < r 0 → ic r j a 0 = false) ∨ ((k ≤ c ∧ c < r 0) ∧ ic r c a 0 = true ∧ ∀ j, k ≤ j → j < c → ic r j a 0 = false)) := by
    intro a k hk
    have := vM_nextChild (G := G) (a := a) (k := k) hs (by rw [hr]; exact hM) hk
    rw [hr] at this
    exact this
  have key : ∀ (m n : Nat) (u : Int), en (up r) m u = true → (0 ≤ u ∧ u < r 0) → m + 1 < n → Bl (up r) u i = true → (∀ x, 0 ≤ x ∧ x < r 0 → r (140 + x) = 0 → Bl (up r) u x = true → VP r i x) → ∃ j, lM_walkOn_9 G 624 n (-1) u = some j ∧ ((j = -1 ∧ ∀ x, 0 ≤ x ∧ x < r 0 → r (140 + x) = 0 → VP r i x) ∨ ((0 ≤ j ∧ j < r 0) ∧ r (140 + j) = 0 ∧ ∀ x, VP r j x → VP r i x ∨ x = j)) := by
    intro m
    induction m with
    | zero =>
      intro n u hu hur hn hb hI
      obtain ⟨n, rfl⟩ : ∃ k, n = k + 1 := ⟨n - 1, by omega⟩
      have e : u = 0 := by simpa [en] using hu
      refine ⟨-1, ?_, Or.inl ⟨rfl, fun x hx hsx => hI x hx hsx (by rw [e]; exact Bl_0 hcl 40 x (hA x hx.1 hx.2) hx)⟩⟩
      show bM_walkOn_9 G 624 (lM_walkOn_9 G 624 n) (-1) u = _
      rw [bM_walkOn_9, if_pos rfl, if_pos e]
    | succ m ih =>
      intro n u hu hur hn hb hI
      obtain ⟨n, rfl⟩ : ∃ k, n = k + 2 := ⟨n - 2, by omega⟩
      by_cases e : u = 0
      · refine ⟨-1, ?_, Or.inl ⟨rfl, fun x hx hsx => hI x hx hsx (by rw [e]; exact Bl_0 hcl 40 x (hA x hx.1 hx.2) hx)⟩⟩
        show bM_walkOn_9 G 624 (lM_walkOn_9 G 624 (n + 1)) (-1) u = _
        rw [bM_walkOn_9, if_pos rfl, if_pos e]
      · have hup : en (up r) m (up r u) = true := by
          rcases en_s.mp hu with z | ⟨-, -, z⟩
          · exact absurd z e
          · exact z
        have hur' := hcl u (by omega) hur.2
        have hue : en (up r) 40 u = true := hA u hur.1 hur.2
        obtain ⟨c, f1, hc⟩ := nc (up r u) (u + 1) (by omega)
        have f1 : fM_nextChild G 624 (r (60 + u)) (u + 1) = some c := f1
        have st : lM_walkOn_9 G 624 (n + 2) (-1) u = lM_walkOn_9 G 624 (n + 1) c (up r u) := by
          show bM_walkOn_9 G 624 (lM_walkOn_9 G 624 (n + 1)) (-1) u = _
          rw [bM_walkOn_9, if_pos rfl, if_neg e]
          simp (disch := omega) only [h0, hr, kd_625, sz_625, w32_r, true_and, le_t, lt_t, and_true, ↓reduceIte, f1, bdP_s]
          rfl
        have hbu : Bl (up r) (up r u) i = true := Bl_ov (Bl_par hA ⟨by omega, hur.2⟩ hi hb)
        rw [st]
        rcases hc with ⟨hc1, hc2⟩ | ⟨hc1, hc2, hc3⟩
        · rw [hc1]
          refine ih (n + 1) (up r u) hup hur' (by omega) hbu (fun x hx hsx hbx => ?_)
          rcases Bl_or hbx with e2 | e2
          · exact ⟨hx, hsx, Or.inl (by rw [e2]; exact hbu)⟩
          · obtain ⟨d, d1, d2, d3⟩ := OV_ch hcl hA 40 x (hA x hx.1 hx.2) hx e2
            have dr := run d x hx hsx d3
            by_cases l1 : d = u
            · rw [l1] at d3; exact hI x hx hsx d3
            · by_cases l2 : d < u
              · exact ⟨hx, hsx, Or.inr ⟨u, d, hb, ⟨by omega, hur.2⟩, ⟨d1.1, l2⟩, d2, d3⟩⟩
              · exact (ic_f (hc2 d (by omega) d1.2) dr d2 (by omega)).elim
        · obtain ⟨k1, k2, k3⟩ := ic_w hc2
          refine ⟨c, ?_, Or.inr ⟨by omega, k1, fun x hv => ?_⟩⟩
          · show bM_walkOn_9 G 624 (lM_walkOn_9 G 624 n) c (up r u) = _
            rw [bM_walkOn_9, if_neg (by omega)]
          · obtain ⟨hx, hsx, hv⟩ := hv
            have hce := hA c (by omega) hc1.2
            rcases hv with hv | ⟨d, s, d1, d2, d3, d4, d5⟩
            · rcases Bl_up hce k3 hv with e2 | e2
              · exact Or.inr e2.symm
              · rw [k2] at e2
                left
                refine ⟨hx, hsx, Or.inl ?_⟩
                -- x is over u's supervisor, so over i
                rcases Bl_or hbu with e3 | e3
                · rw [e3]; exact e2
                · rcases Bl_or e2 with e4 | e4
                  · rw [← e4]; exact hbu
                  · exact Bl_ov (OV_tr (p := x) (q := up r u) (hA i hi.1 hi.2) (hA _ hur'.1 hur'.2) e3 e4)
            · left
              rcases Bl_up hce k3 d1 with e2 | e2
              · -- d is c itself: its left siblings
                subst e2
                have sr := run s x hx hsx d5
                by_cases l1 : s = u
                · rw [l1] at d5; exact hI x hx hsx d5
                · by_cases l2 : s < u
                  · exact ⟨hx, hsx, Or.inr ⟨u, s, hb, ⟨by omega, hur.2⟩, ⟨d3.1, l2⟩, by rw [d4, k2], d5⟩⟩
                  · exact (ic_f (hc3 s (by omega) d3.2) sr (by rw [d4, k2]) (by omega)).elim
              · rw [k2] at e2
                refine ⟨hx, hsx, Or.inr ⟨d, s, ?_, d2, d3, d4, d5⟩⟩
                rcases Bl_or hbu with e3 | e3
                · rw [e3]; exact e2
                · rcases Bl_or e2 with e4 | e4
                  · rw [← e4]; exact hbu
                  · exact Bl_ov (OV_tr (p := d) (q := up r u) (hA i hi.1 hi.2) (hA _ hur'.1 hur'.2) e3 e4)
  have hf := fu_ge
  obtain ⟨c, f1, hc⟩ := nc i 0 (by omega)
  rw [fM_walkOn, f1, bdP_s]
  rcases hc with ⟨hc1, hc2⟩ | ⟨hc1, hc2, hc3⟩
  · rw [hc1]
    refine key 40 fu i (hA i hi.1 hi.2) hi (by omega) Bl_i (fun x hx hsx hbx => ?_)
    rcases Bl_or hbx with e2 | e2
    · exact ⟨hx, hsx, Or.inl (by rw [e2]; exact Bl_i)⟩
    · obtain ⟨d, d1, d2, d3⟩ := OV_ch hcl hA 40 x (hA x hx.1 hx.2) hx e2
      exact (ic_f (hc2 d (by omega) d1.2) (run d x hx hsx d3) d2 (by omega)).elim
  · obtain ⟨k1, k2, k3⟩ := ic_w hc2
    obtain ⟨n, hn⟩ : ∃ n, fu = n + 1 := ⟨fu - 1, by omega⟩
    refine ⟨c, ?_, Or.inr ⟨by omega, k1, fun x hv => ?_⟩⟩
    · rw [hn]
      show bM_walkOn_9 G 624 (lM_walkOn_9 G 624 n) c i = _
      rw [bM_walkOn_9, if_neg (by omega)]
    · obtain ⟨hx, hsx, hv⟩ := hv
      have hce := hA c (by omega) hc1.2
      rcases hv with hv | ⟨d, s, d1, d2, d3, d4, d5⟩
      · rcases Bl_up hce k3 hv with e2 | e2
        · exact Or.inr e2.symm
        · rw [k2] at e2; exact Or.inl ⟨hx, hsx, Or.inl e2⟩
      · left
        rcases Bl_up hce k3 d1 with e2 | e2
        · subst e2
          have sr := run s x hx hsx d5
          exact (ic_f (hc3 s (by omega) d3.2) sr (by rw [d4, k2]) (by omega)).elim
        · rw [k2] at e2
          exact ⟨hx, hsx, Or.inr ⟨d, s, e2, d2, d3, d4, d5⟩⟩
noncomputable def VB (r : Int → Int) (i x : Int) : Bool := @decide (VP r i x) (Classical.propDecidable _)
theorem VB_t {r : Int → Int} : VB r i x = true ↔ VP r i x := @decide_eq_true_iff _ (Classical.propDecidable _)
theorem oM_walked (hi : MInv g) : PO g (fM_walked g 624 a) := by
  have hf := fu_ge
  have o1 := o0 hi
  have hW := o1.1.2.1
  have hM := hW.1.1
  rw [fM_walked, bnd_s, o8 hi, vM_runningMany o1.1.1 hM, bdP_s, vM_inRange, bdP_s]
  generalize th g 0 = G at *
  have hn := cn_bd (fun c => decide (G 625 (140 + c) = 0)) (G 625 0).toNat 0
  rw [w32_r (by omega)]
  by_cases h : 0 ≤ a ∧ a ≤ cn (fun c => decide (G 625 (140 + c) = 0)) (G 625 0).toNat 0 - 1
  · simp only [if_pos h, f0, if_false, jM_walked_25, kd_c624, if_true, vM_fails (Or.inl rfl), bdN_s]
    have key : ∀ (m n : Nat) (v k : Int), (a - k).toNat = m → m < n → 0 ≤ k → (0 ≤ v ∧ v < G 625 0) → G 625 (140 + v) = 0 → cn (VB (G 625) v) (G 625 0).toNat 0 ≤ k + 1 → PO g (lM_walked_38 G 624 a n v k) := by
      intro m
      induction m with
      | zero =>
        intro n v k hm hn hk hv hsv hc
        obtain ⟨n, rfl⟩ : ∃ k, n = k + 1 := ⟨n - 1, by omega⟩
        show PO g (bM_walked_38 G 624 a (lM_walked_38 G 624 a n) v k)
        rw [bM_walked_38, if_neg (by omega)]
        exact PO_i rfl o1
      | succ m ih =>
        intro n v k hm hn' hk hv hsv hc
        obtain ⟨n, rfl⟩ : ∃ k, n = k + 1 := ⟨n - 1, by omega⟩
        show PO g (bM_walked_38 G 624 a (lM_walked_38 G 624 a n) v k)
        obtain ⟨j, f1, hj⟩ := vM_walkOn o1.1 hv hsv
        rw [bM_walked_38, if_pos (by omega), f1, bdP_s, w32_r (by omega)]
        rcases hj with ⟨j1, j2⟩ | ⟨j1, j2, j3⟩
        · exfalso
          have : cn (fun c => decide (G 625 (140 + c) = 0)) (G 625 0).toNat 0 ≤ cn (VB (G 625) v) (G 625 0).toNat 0 := by
            have := cn_add (P := fun c => decide (G 625 (140 + c) = 0)) (Q := fun _ => false) (R := VB (G 625) v) (G 625 0).toNat 0 (fun x x1 x2 hx => ⟨VB_t.mpr (j2 x ⟨by omega, by omega⟩ (of_decide_eq_true hx)), rfl⟩) (fun x x1 x2 hx => by cases hx)
            have := (cn_bd (fun _ => false) (G 625 0).toNat 0).1
            omega
          omega
        · refine ih n j (k + 1) (by omega) (by omega) (by omega) j1 j2 ?_
          have := cn_or1 (P := VB (G 625) j) (Q := VB (G 625) v) (j := j) (G 625 0).toNat 0 (fun x x1 x2 hx => by
            rcases j3 x (VB_t.mp hx) with e | e
            · exact Or.inl (VB_t.mpr e)
            · exact Or.inr e)
          rw [if_pos j1.1] at this
          omega
    refine key a.toNat fu 0 0 (by omega) (by omega) (by omega) (by omega) hW.2.1.2 ?_
    have := cn_or1 (P := VB (G 625) 0) (Q := fun _ => false) (j := 0) (G 625 0).toNat 0 (fun x x1 x2 hx => by
      right
      obtain ⟨hx1, -, hx2⟩ := VB_t.mp hx
      rcases hx2 with e | ⟨c, s, e, hc, -⟩
      · rcases Bl_or e with e | e
        · exact e.symm
        · rw [OV_0] at e; cases e
      · rcases Bl_or e with e | e
        · omega
        · rw [OV_0] at e; cases e)
    rw [if_pos (by omega)] at this
    have h2 : cn (fun _ => false) (G 625 0).toNat 0 ≤ 0 := by
      have : ∀ (m : Nat) (k : Int), cn (fun _ => false) m k ≤ 0 := by
        intro m
        induction m with
        | zero => intro k; exact Int.le_refl _
        | succ m ih => intro k; rw [cn_s]; have := ih (k + 1); simp only [Bool.false_eq_true, if_false]; omega
      exact this _ _
    omega
  · simp only [if_neg h, if_true, jM_walked_25, kd_c624, vM_fails (Or.inr rfl), bdN_s, f0, if_false]
    exact PO_i rfl (OK_th o1)
end MODEL25
