/-! ===== the reference's print (own work) ===== -/
section MODEL24
variable {g G H K : gH} {p code t c a b k q gp d x y z w v n l : Int}
theorem MInv_ol (h : MInv g) (hn : 0 ≤ n ∧ n ≤ 400) : MInv (pU g 624 23 n) := by
  obtain ⟨h1, h2, h3, ⟨h4, h5⟩, h6, h7, h8⟩ := h
  unfold MInv MS
  simp (disch := omega) only [pU_n, pU_s, u1_n, u1_s]
  exact ⟨h1, h2, h3, ⟨h4, h5⟩, h6, h7, hn⟩
theorem OK_WR (h : OKg g G) (w : WR G H k) : OKg g H := ⟨w.1, fun x hx => (w.2.1 x hx).trans (h.2.1 x hx), KI_t h.2.2 w.2.2.1⟩
theorem p_126 (o : OKg g G) (h : G 624 23 < 400) : PO g (jM_print_126 G 624) := by
  rw [jM_print_126]
  refine po_ite (fun _ => ?_) (fun _ => PO_i rfl o)
  obtain ⟨H, e, w⟩ := vM_write (c := 45) o.1 h
  rw [e, bdN_s]
  exact PO_i rfl (OK_WR o w)
theorem p_81 (o : OKg g G) (ha : ¬ a = 3) (ha' : ¬ a = 4) (h : G 624 23 < 400) : PO g (lM_print_81 624 p a fu 0 G) := by
  have hf := fu_ge
  obtain ⟨n, hn⟩ : ∃ n, fu = n + 1 := ⟨fu - 1, by omega⟩
  rw [hn]
  show PO g (bM_print_81 624 p a (lM_print_81 624 p a n) 0 G)
  rw [bM_print_81, if_pos (by omega), if_neg ha, jM_print_116, if_neg ha']
  exact p_126 o h
theorem p_81z (o : OKg g G) (h : G 624 23 = 0) : PO g (lM_print_81 624 p 4 fu 0 G) := by
  have hf := fu_ge
  obtain ⟨n, hn⟩ : ∃ n, fu = n + 1 := ⟨fu - 1, by omega⟩
  rw [hn]
  show PO g (bM_print_81 624 p 4 (lM_print_81 624 p 4 n) 0 G)
  rw [bM_print_81, if_pos (by omega), if_neg (by omega), jM_print_116, if_pos rfl]
  obtain ⟨H, e, w⟩ := vM_writeZombies (p := p) o.1 h
  rw [e, bdN_s]
  have := w.2.2.2.2.2
  exact p_126 (OK_WR o w) (by omega)
theorem p_81d : ∀ (m n : Nat) (i : Int) (G : gH), OKg g G → (8 - i).toNat = m → m < n → 0 ≤ i → G 624 23 + 3 * m < 400 → PO g (lM_print_81 624 p 3 n i G) := by
  intro m
  induction m with
  | zero =>
    intro n i G o hm hn hi hg
    obtain ⟨n, rfl⟩ : ∃ k, n = k + 1 := ⟨n - 1, by omega⟩
    show PO g (bM_print_81 624 p 3 (lM_print_81 624 p 3 n) i G)
    rw [bM_print_81, if_neg (by omega), jM_print_116, if_neg (by omega)]
    exact p_126 o (by omega)
  | succ m ih =>
    intro n i G o hm hn hi hg
    obtain ⟨n, rfl⟩ : ∃ k, n = k + 1 := ⟨n - 1, by omega⟩
    have h0 := o.1.1.1
    have hi8 : i < 8 := by omega
    show PO g (bM_print_81 624 p 3 (lM_print_81 624 p 3 n) i G)
    rw [bM_print_81, if_pos hi8, if_pos rfl]
    refine po_t (by (simp (disch := omega) only [h0, kd_625, sz_625, w32_r, true_and, le_t, lt_t, and_true])) ?_
    refine po_ite (fun _ => ?_) (fun _ => ?_)
    · obtain ⟨H, e, w⟩ := vM_writeNumber (x := i) o.1 (by omega) (by omega)
      have := w.2.2.2.2.2
      rw [e, bdN_s, w32_r (by omega)]
      exact ih n (i + 1) H (OK_WR o w) (by omega) (by omega) (by omega) (by omega)
    · rw [w32_r (by omega)]
      exact ih n (i + 1) G o (by omega) (by omega) (by omega) (by omega)
theorem oM_print (hi : MInv g) : PO g (fM_print g 624 p a) := by
  refine po_np hi (fun hp => ?_)
  have o1 := o0 hi
  have hM := hi.2.1.1.1
  have hf := fu_ge
  have e25 : (th g 0) 625 = g 625 := th_n (by omega)
  rw [vM_inRange, bdP_s]
  by_cases h : 0 ≤ a ∧ a ≤ 4
  · simp only [if_pos h, f0, if_false, jM_print_23, kd_c624, if_true, vM_fails (Or.inl rfl), bdN_s, vM_isGone o1.1.1 (show 0 ≤ p ∧ p < 40 by omega), bdP_s]
    by_cases hg : (th g 0) 625 (140 + p) = 2
    · simp only [if_pos hg, vM_fails (Or.inr rfl), bdN_s, f0, if_false]
      exact PO_i rfl (OK_th o1)
    · simp only [if_neg hg, vM_fails (Or.inl rfl), bdN_s, if_true, bnd_s]
      have o2 : OKg g (pU (th g 0) 624 23 0) := ⟨MInv_ol o1.1 (by omega), MF_pU o1.2.1 (by omega), KI_e o1.2.2 (fun k k0 k1 => by rw [pU_s, u1_n (by omega)]) (pU_n (by omega))⟩
      have z : pU (th g 0) 624 23 0 624 23 = 0 := by rw [pU_s, u1_s]
      have e26 : pU (th g 0) 624 23 0 625 = g 625 := by rw [pU_n (by omega), e25]
      generalize pU (th g 0) 624 23 0 = G at *
      have hp' : 0 ≤ p ∧ p < G 625 0 := by rw [e26]; exact hp
      rcases (show a = 0 ∨ a = 1 ∨ a = 2 ∨ a = 3 ∨ a = 4 by omega) with e | e | e | e | e
      · subst e
        obtain ⟨H, e, w⟩ := vM_writePath o2.1 hp' z
        have := w.2.2.2.2.2
        rw [if_pos rfl, e, bdN_s, jM_print_59, if_neg (by omega), jM_print_69, if_neg (by omega)]
        exact p_81 (OK_WR o2 w) (by omega) (by omega) (by omega)
      · subst e
        obtain ⟨H, e, w⟩ := vM_writeChildren (p := p) o2.1 z
        have := w.2.2.2.2.2
        rw [if_neg (by omega), jM_print_59, if_pos rfl, e, bdN_s, jM_print_69, if_neg (by omega)]
        exact p_81 (OK_WR o2 w) (by omega) (by omega) (by omega)
      · subst e
        have hN : cn (Bl (up (G 625)) p) (G 625 0).toNat 0 ≤ 40 := by
          have := (cn_bd (Bl (up (G 625)) p) (G 625 0).toNat 0).2
          rw [e26] at this ⊢
          omega
        obtain ⟨H, e, w⟩ := vM_writeTree o2.1.2.1.1 fr p G o2.1 rfl hp' (by unfold fr; omega) (by omega)
        have := w.2.2.2.2.2
        rw [if_neg (by omega), jM_print_59, if_neg (by omega), jM_print_69, if_pos rfl, e, bdN_s]
        exact p_81 (OK_WR o2 w) (by omega) (by omega) (by omega)
      · subst e
        rw [if_neg (by omega), jM_print_59, if_neg (by omega), jM_print_69, if_neg (by omega)]
        exact p_81d 8 fu 0 G o2 (by omega) (by omega) (by omega) (by omega)
      · subst e
        rw [if_neg (by omega), jM_print_59, if_neg (by omega), jM_print_69, if_neg (by omega)]
        exact p_81z o2 z
  · simp only [if_neg h, if_true, jM_print_23, kd_c624, vM_fails (Or.inr rfl), bdN_s, f0, if_false]
    exact PO_i rfl (OK_th o1)
end MODEL24
/-! ===== the reference's walk: it reaches whatever runs (own work) ===== -/
theorem cn_or1 {P Q : Int → Bool} {j : Int} : ∀ (m : Nat) (k : Int), (∀ x, k ≤ x → x < k + m → P x = true → Q x = true ∨ x = j) → cn P m k ≤ cn Q m k + (if k ≤ j then 1 else 0) := by
  intro m
  induction m with
  | zero => intro k _; unfold cn; split <;> omega
  | succ m ih =>
    intro k h
    rw [cn_s, cn_s]
    have h1 := ih (k + 1) (fun x x1 x2 => h x (by omega) (by omega))
    cases hp : P k with
    | false =>
      simp only [Bool.false_eq_true, if_false]
      split at h1 <;> split <;> split <;> omega
    | true =>
      rcases h k (by omega) (by omega) hp with hq | hq
      · rw [hq]; simp only [if_true]
        split at h1 <;> split <;> omega
      · subst hq
        simp only [if_true]
        split at h1 <;> split <;> split <;> omega
section WALKB
variable {f : Int → Int} {p q c i k m x s : Int}
theorem Bl_i : Bl f i i = true := by
  show (decide (i = i) || _) = true
  rw [decide_eq_true rfl, Bool.true_or]
theorem Bl_ov (h : OV f p i = true) : Bl f p i = true := by
  show (_ || OV f p i) = true
  rw [h, Bool.or_true]
theorem Bl_or (h : Bl f p i = true) : i = p ∨ OV f p i = true := by
  have h : (decide (i = p) || OV f p i) = true := h
  rw [Bool.or_eq_true] at h
  rcases h with h | h
  · exact Or.inl (of_decide_eq_true h)
  · exact Or.inr h
/-- one step further down -/
theorem Bl_s (hx : en f 40 x = true) (h0 : x ≠ 0) (h : Bl f c (f x) = true) : Bl f c x = true := by
  apply Bl_ov
  rw [OV_s hx h0]
  rcases Bl_or h with e | e
  · rw [if_pos e]
  · rw [e]; split <;> rfl
theorem Bl_up (hx : en f 40 x = true) (h0 : x ≠ 0) (h : Bl f c x = true) : x = c ∨ Bl f c (f x) = true := by
  rcases Bl_or h with e | e
  · exact Or.inl e
  · right
    rw [OV_s hx h0] at e
    by_cases e2 : f x = c
    · rw [e2]; exact Bl_i
    · rw [if_neg e2] at e; exact Bl_ov e
theorem Bl_par (hA : Acy f m) (hc : 0 < c ∧ c < m) (hx : 0 ≤ x ∧ x < m) (h : Bl f c x = true) : OV f (f c) x = true := by
  have hcf : OV f (f c) c = true := by rw [OV_s (hA c (by omega) hc.2) (by omega), if_pos rfl]
  rcases Bl_or h with e | e
  · rw [e]; exact hcf
  · exact OV_tr (p := f c) (q := c) (hA x hx.1 hx.2) (hA c (by omega) hc.2) e hcf
/-- the child by which p is over x -/
theorem OV_ch (hcl : ∀ i, 0 < i → i < m → 0 ≤ f i ∧ f i < m) (hA : Acy f m) : ∀ (n : Nat) (x : Int), en f n x = true → 0 ≤ x ∧ x < m → OV f p x = true → ∃ c, (0 < c ∧ c < m) ∧ f c = p ∧ Bl f c x = true := by
  intro n
  induction n with
  | zero =>
    intro x hx hr ho
    have e : x = 0 := by simpa [en] using hx
    rw [e, OV_0] at ho; cases ho
  | succ n ih =>
    intro x hx hr ho
    have h0 : x ≠ 0 := fun z => by rw [z, OV_0] at ho; cases ho
    have hx4 := hA x hr.1 hr.2
    rw [OV_s hx4 h0] at ho
    by_cases e : f x = p
    · exact ⟨x, ⟨by omega, hr.2⟩, e, Bl_i⟩
    · rw [if_neg e] at ho
      have hup : en f n (f x) = true := by
        rcases en_s.mp hx with z | ⟨-, -, z⟩
        · exact absurd z h0
        · exact z
      have hf := hcl x (by omega) hr.2
      obtain ⟨c, hc, h1, h2⟩ := ih (f x) hup hf ho
      exact ⟨c, hc, h1, Bl_s hx4 h0 h2⟩
theorem Bl_0 (hcl : ∀ i, 0 < i → i < m → 0 ≤ f i ∧ f i < m) : ∀ (n : Nat) (x : Int), en f n x = true → 0 ≤ x ∧ x < m → Bl f 0 x = true := by
  intro n
  induction n with
  | zero =>
    intro x hx hr
    have e : x = 0 := by simpa [en] using hx
    rw [e]; exact Bl_i
  | succ n ih =>
    intro x hx hr
    by_cases h0 : x = 0
    · rw [h0]; exact Bl_i
    · have hup : en f n (f x) = true := by
        rcases en_s.mp hx with z | ⟨-, -, z⟩
        · exact absurd z h0
        · exact z
      exact Bl_s (en_40 hx) h0 (ih _ hup (hcl x (by omega) hr.2))
end WALKB
/-- whatever is over a running process runs -/
theorem Bl_run {r : Int → Int} {c : Int} (hW : WBF r) : ∀ (n : Nat) (x : Int), en (up r) n x = true → 0 ≤ x ∧ x < r 0 → r (140 + x) = 0 → Bl (up r) c x = true → r (140 + c) = 0 := by
  intro n
  induction n with
  | zero =>
    intro x hx hr hs hb
    have e : x = 0 := by simpa [en] using hx
    rcases Bl_or hb with h | h
    · rw [← h]; exact hs
    · rw [e, OV_0] at h; cases h
  | succ n ih =>
    intro x hx hr hs hb
    by_cases h0 : x = 0
    · rcases Bl_or hb with h | h
      · rw [← h]; exact hs
      · rw [h0, OV_0] at h; cases h
    · rcases Bl_up (en_40 hx) h0 hb with e | e
      · rw [← e]; exact hs
      · have hup : en (up r) n (up r x) = true := by
          rcases en_s.mp hx with z | ⟨-, -, z⟩
          · exact absurd z h0
          · exact z
        have hf := hW.1.2.1 x (by omega) hr.2
        exact ih (up r x) hup hf (hW.2.2.1 x (by omega) hr.2 (by omega)) e
/-- what was met when the walk stands at i -/
def VP (r : Int → Int) (i x : Int) : Prop := (0 ≤ x ∧ x < r 0) ∧ r (140 + x) = 0 ∧ (Bl (up r) x i = true ∨ ∃ c s, Bl (up r) c i = true ∧ (0 < c ∧ c < r 0) ∧ (0 < s ∧ s < c) ∧ up r s = up r c ∧ Bl (up r) s x = true)
section MODEL25
variable {g G H K : gH} {p code t c a b k q gp d x y z w v n l i : Int}
theorem ic_w {r : Int → Int} (h : ic r c a t = true) : r (140 + c) = t ∧ up r c = a ∧ c ≠ 0 := of_decide_eq_true h
theorem ic_f {r : Int → Int} (h : ic r c a t = false) (h1 : r (140 + c) = t) (h2 : up r c = a) (h3 : c ≠ 0) : False := by
  have : ic r c a t = true := decide_eq_true ⟨h1, h2, h3⟩
  rw [this] at h; cases h
theorem vM_walkOn (o : MInv G) (hi : 0 ≤ i ∧ i < G 625 0) (hst : G 625 (140 + i) = 0) : ∃ j, fM_walkOn G 624 i = some j ∧ ((j = -1 ∧ ∀ x, 0 ≤ x ∧ x < G 625 0 → G 625 (140 + x) = 0 → VP (G 625) i x) ∨ ((0 ≤ j ∧ j < G 625 0) ∧ G 625 (140 + j) = 0 ∧ ∀ x, VP (G 625) j x → VP (G 625) i x ∨ x = j)) := by
  have hs := o.1
  have h0 := hs.1
  have hW := o.2.1
  have hcl := hW.1.2.1
  have hA := hW.1.2.2.1
  have hM := hW.1.1
  generalize hr : G 625 = r at *
  have run : ∀ c x, 0 ≤ x ∧ x < r 0 → r (140 + x) = 0 → Bl (up r) c x = true → r (140 + c) = 0 := fun c x hx hs hb => Bl_run hW 40 x (hA x hx.1 hx.2) hx hs hb
  have nc : ∀ a k, (0 ≤ k ∧ k ≤ 40) → ∃ c, fM_nextChild G 624 a k = some c ∧ ((c = -1 ∧ ∀ j, k ≤ j → j < r 0 → ic r j a 0 = false) ∨ ((k ≤ c ∧ c < r 0) ∧ ic r c a 0 = true ∧ ∀ j, k ≤ j → j < c → ic r j a 0 = false)) := by
    intro a k hk
    have := vM_nextChild (G := G) (a := a) (k := k) hs (by rw [hr]; exact hM) hk
    rw [hr] at this
    exact this
  have key : ∀ (m n : Nat) (u : Int), en (up r) m u = true → (0 ≤ u ∧ u < r 0) → m + 1 < n → Bl (up r) u i = true → (∀ x, 0 ≤ x ∧ x < r 0 → r (140 + x) = 0 → Bl (up r) u x = true → VP r i x) → ∃ j, lM_walkOn_9 G 624 n (-1) u = some j ∧ ((j = -1 ∧ ∀ x, 0 ≤ x ∧ x < r 0 → r (140 + x) = 0 → VP r i x) ∨ ((0 ≤ j ∧ j < r 0) ∧ r (140 + j) = 0 ∧ ∀ x, VP r j x → VP r i x ∨ x = j)) := by
    intro m
    induction m with
    | zero =>
      intro n u hu hur hn hb hI
      obtain ⟨n, rfl⟩ : ∃ k, n = k + 1 := ⟨n - 1, by omega⟩
      have e : u = 0 := by simpa [en] using hu
      refine ⟨-1, ?_, Or.inl ⟨rfl, fun x hx hsx => hI x hx hsx (by rw [e]; exact Bl_0 hcl 40 x (hA x hx.1 hx.2) hx)⟩⟩
      show bM_walkOn_9 G 624 (lM_walkOn_9 G 624 n) (-1) u = _
      rw [bM_walkOn_9, if_pos rfl, if_pos e]
    | succ m ih =>
      intro n u hu hur hn hb hI
      obtain ⟨n, rfl⟩ : ∃ k, n = k + 2 := ⟨n - 2, by omega⟩
      by_cases e : u = 0
      · refine ⟨-1, ?_, Or.inl ⟨rfl, fun x hx hsx => hI x hx hsx (by rw [e]; exact Bl_0 hcl 40 x (hA x hx.1 hx.2) hx)⟩⟩
        show bM_walkOn_9 G 624 (lM_walkOn_9 G 624 (n + 1)) (-1) u = _
        rw [bM_walkOn_9, if_pos rfl, if_pos e]
      · have hup : en (up r) m (up r u) = true := by
          rcases en_s.mp hu with z | ⟨-, -, z⟩
          · exact absurd z e
          · exact z
        have hur' := hcl u (by omega) hur.2
        have hue : en (up r) 40 u = true := hA u hur.1 hur.2
        obtain ⟨c, f1, hc⟩ := nc (up r u) (u + 1) (by omega)
        have f1 : fM_nextChild G 624 (r (60 + u)) (u + 1) = some c := f1
        have st : lM_walkOn_9 G 624 (n + 2) (-1) u = lM_walkOn_9 G 624 (n + 1) c (up r u) := by
          show bM_walkOn_9 G 624 (lM_walkOn_9 G 624 (n + 1)) (-1) u = _
          rw [bM_walkOn_9, if_pos rfl, if_neg e]
          simp (disch := omega) only [h0, hr, kd_625, sz_625, w32_r, true_and, le_t, lt_t, and_true, ↓reduceIte, f1, bdP_s]
          rfl
        have hbu : Bl (up r) (up r u) i = true := Bl_ov (Bl_par hA ⟨by omega, hur.2⟩ hi hb)
        rw [st]
        rcases hc with ⟨hc1, hc2⟩ | ⟨hc1, hc2, hc3⟩
        · rw [hc1]
          refine ih (n + 1) (up r u) hup hur' (by omega) hbu (fun x hx hsx hbx => ?_)
          rcases Bl_or hbx with e2 | e2
          · exact ⟨hx, hsx, Or.inl (by rw [e2]; exact hbu)⟩
          · obtain ⟨d, d1, d2, d3⟩ := OV_ch hcl hA 40 x (hA x hx.1 hx.2) hx e2
            have dr := run d x hx hsx d3
            by_cases l1 : d = u
            · rw [l1] at d3; exact hI x hx hsx d3
            · by_cases l2 : d < u
              · exact ⟨hx, hsx, Or.inr ⟨u, d, hb, ⟨by omega, hur.2⟩, ⟨d1.1, l2⟩, d2, d3⟩⟩
              · exact (ic_f (hc2 d (by omega) d1.2) dr d2 (by omega)).elim
        · obtain ⟨k1, k2, k3⟩ := ic_w hc2
          refine ⟨c, ?_, Or.inr ⟨by omega, k1, fun x hv => ?_⟩⟩
          · show bM_walkOn_9 G 624 (lM_walkOn_9 G 624 n) c (up r u) = _
            rw [bM_walkOn_9, if_neg (by omega)]
          · obtain ⟨hx, hsx, hv⟩ := hv
            have hce := hA c (by omega) hc1.2
            rcases hv with hv | ⟨d, s, d1, d2, d3, d4, d5⟩
            · rcases Bl_up hce k3 hv with e2 | e2
              · exact Or.inr e2.symm
              · rw [k2] at e2
                left
                refine ⟨hx, hsx, Or.inl ?_⟩
                -- x is over u's supervisor, so over i
                rcases Bl_or hbu with e3 | e3
                · rw [e3]; exact e2
                · rcases Bl_or e2 with e4 | e4
                  · rw [← e4]; exact hbu
                  · exact Bl_ov (OV_tr (p := x) (q := up r u) (hA i hi.1 hi.2) (hA _ hur'.1 hur'.2) e3 e4)
            · left
              rcases Bl_up hce k3 d1 with e2 | e2
              · -- d is c itself: its left siblings
                subst e2
                have sr := run s x hx hsx d5
                by_cases l1 : s = u
                · rw [l1] at d5; exact hI x hx hsx d5
                · by_cases l2 : s < u
                  · exact ⟨hx, hsx, Or.inr ⟨u, s, hb, ⟨by omega, hur.2⟩, ⟨d3.1, l2⟩, by rw [d4, k2], d5⟩⟩
                  · exact (ic_f (hc3 s (by omega) d3.2) sr (by rw [d4, k2]) (by omega)).elim
              · rw [k2] at e2
                refine ⟨hx, hsx, Or.inr ⟨d, s, ?_, d2, d3, d4, d5⟩⟩
                rcases Bl_or hbu with e3 | e3
                · rw [e3]; exact e2
                · rcases Bl_or e2 with e4 | e4
                  · rw [← e4]; exact hbu
                  · exact Bl_ov (OV_tr (p := d) (q := up r u) (hA i hi.1 hi.2) (hA _ hur'.1 hur'.2) e3 e4)
  have hf := fu_ge
  obtain ⟨c, f1, hc⟩ := nc i 0 (by omega)
  rw [fM_walkOn, f1, bdP_s]
  rcases hc with ⟨hc1, hc2⟩ | ⟨hc1, hc2, hc3⟩
  · rw [hc1]
    refine key 40 fu i (hA i hi.1 hi.2) hi (by omega) Bl_i (fun x hx hsx hbx => ?_)
    rcases Bl_or hbx with e2 | e2
    · exact ⟨hx, hsx, Or.inl (by rw [e2]; exact Bl_i)⟩
    · obtain ⟨d, d1, d2, d3⟩ := OV_ch hcl hA 40 x (hA x hx.1 hx.2) hx e2
      exact (ic_f (hc2 d (by omega) d1.2) (run d x hx hsx d3) d2 (by omega)).elim
  · obtain ⟨k1, k2, k3⟩ := ic_w hc2
    obtain ⟨n, hn⟩ : ∃ n, fu = n + 1 := ⟨fu - 1, by omega⟩
    refine ⟨c, ?_, Or.inr ⟨by omega, k1, fun x hv => ?_⟩⟩
    · rw [hn]
      show bM_walkOn_9 G 624 (lM_walkOn_9 G 624 n) c i = _
      rw [bM_walkOn_9, if_neg (by omega)]
    · obtain ⟨hx, hsx, hv⟩ := hv
      have hce := hA c (by omega) hc1.2
      rcases hv with hv | ⟨d, s, d1, d2, d3, d4, d5⟩
      · rcases Bl_up hce k3 hv with e2 | e2
        · exact Or.inr e2.symm
        · rw [k2] at e2; exact Or.inl ⟨hx, hsx, Or.inl e2⟩
      · left
        rcases Bl_up hce k3 d1 with e2 | e2
        · subst e2
          have sr := run s x hx hsx d5
          exact (ic_f (hc3 s (by omega) d3.2) sr (by rw [d4, k2]) (by omega)).elim
        · rw [k2] at e2
          exact ⟨hx, hsx, Or.inr ⟨d, s, e2, d2, d3, d4, d5⟩⟩
noncomputable def VB (r : Int → Int) (i x : Int) : Bool := @decide (VP r i x) (Classical.propDecidable _)
theorem VB_t {r : Int → Int} : VB r i x = true ↔ VP r i x := @decide_eq_true_iff _ (Classical.propDecidable _)
theorem oM_walked (hi : MInv g) : PO g (fM_walked g 624 a) := by
  have hf := fu_ge
  have o1 := o0 hi
  have hW := o1.1.2.1
  have hM := hW.1.1
  rw [fM_walked, bnd_s, o8 hi, vM_runningMany o1.1.1 hM, bdP_s, vM_inRange, bdP_s]
  generalize th g 0 = G at *
  have hn := cn_bd (fun c => decide (G 625 (140 + c) = 0)) (G 625 0).toNat 0
  rw [w32_r (by omega)]
  by_cases h : 0 ≤ a ∧ a ≤ cn (fun c => decide (G 625 (140 + c) = 0)) (G 625 0).toNat 0 - 1
  · simp only [if_pos h, f0, if_false, jM_walked_25, kd_c624, if_true, vM_fails (Or.inl rfl), bdN_s]
    have key : ∀ (m n : Nat) (v k : Int), (a - k).toNat = m → m < n → 0 ≤ k → (0 ≤ v ∧ v < G 625 0) → G 625 (140 + v) = 0 → cn (VB (G 625) v) (G 625 0).toNat 0 ≤ k + 1 → PO g (lM_walked_38 G 624 a n v k) := by
      intro m
      induction m with
      | zero =>
        intro n v k hm hn hk hv hsv hc
        obtain ⟨n, rfl⟩ : ∃ k, n = k + 1 := ⟨n - 1, by omega⟩
        show PO g (bM_walked_38 G 624 a (lM_walked_38 G 624 a n) v k)
        rw [bM_walked_38, if_neg (by omega)]
        exact PO_i rfl o1
      | succ m ih =>
        intro n v k hm hn' hk hv hsv hc
        obtain ⟨n, rfl⟩ : ∃ k, n = k + 1 := ⟨n - 1, by omega⟩
        show PO g (bM_walked_38 G 624 a (lM_walked_38 G 624 a n) v k)
        obtain ⟨j, f1, hj⟩ := vM_walkOn o1.1 hv hsv
        rw [bM_walked_38, if_pos (by omega), f1, bdP_s, w32_r (by omega)]
        rcases hj with ⟨j1, j2⟩ | ⟨j1, j2, j3⟩
        · exfalso
          have : cn (fun c => decide (G 625 (140 + c) = 0)) (G 625 0).toNat 0 ≤ cn (VB (G 625) v) (G 625 0).toNat 0 := by
            have := cn_add (P := fun c => decide (G 625 (140 + c) = 0)) (Q := fun _ => false) (R := VB (G 625) v) (G 625 0).toNat 0 (fun x x1 x2 hx => ⟨VB_t.mpr (j2 x ⟨by omega, by omega⟩ (of_decide_eq_true hx)), rfl⟩) (fun x x1 x2 hx => by cases hx)
            have := (cn_bd (fun _ => false) (G 625 0).toNat 0).1
            omega
          omega
        · refine ih n j (k + 1) (by omega) (by omega) (by omega) j1 j2 ?_
          have := cn_or1 (P := VB (G 625) j) (Q := VB (G 625) v) (j := j) (G 625 0).toNat 0 (fun x x1 x2 hx => by
            rcases j3 x (VB_t.mp hx) with e | e
            · exact Or.inl (VB_t.mpr e)
            · exact Or.inr e)
          rw [if_pos j1.1] at this
          omega
    refine key a.toNat fu 0 0 (by omega) (by omega) (by omega) (by omega) hW.2.1.2 ?_
    have := cn_or1 (P := VB (G 625) 0) (Q := fun _ => false) (j := 0) (G 625 0).toNat 0 (fun x x1 x2 hx => by
      right
      obtain ⟨hx1, -, hx2⟩ := VB_t.mp hx
      rcases hx2 with e | ⟨c, s, e, hc, -⟩
      · rcases Bl_or e with e | e
        · exact e.symm
        · rw [OV_0] at e; cases e
      · rcases Bl_or e with e | e
        · omega
        · rw [OV_0] at e; cases e)
    rw [if_pos (by omega)] at this
    have h2 : cn (fun _ => false) (G 625 0).toNat 0 ≤ 0 := by
      have : ∀ (m : Nat) (k : Int), cn (fun _ => false) m k ≤ 0 := by
        intro m
        induction m with
        | zero => intro k; exact Int.le_refl _
        | succ m ih => intro k; rw [cn_s]; have := ih (k + 1); simp only [Bool.false_eq_true, if_false]; omega
      exact this _ _
    omega
  · simp only [if_neg h, if_true, jM_walked_25, kd_c624, vM_fails (Or.inr rfl), bdN_s, f0, if_false]
    exact PO_i rfl (OK_th o1)
end MODEL25
/-! ===== the reference's shares (own work) ===== -/
theorem n64_ok {r : UInt64} (h : FP.Core.dIsNaN r = false) : ev_n64 r = true := by
  have h1 := (FP.Core.ne_nan r).mp ((FP.Core.notNaN_iff r).mp h)
  unfold ev_n64
  apply decide_eq_true
  rw [UInt64.le_iff_toNat_le, UInt64.toNat_and]
  show r.toNat &&& (2 ^ 63 - 1) ≤ 9218868437227405312
  rw [Nat.and_two_pow_sub_one_eq_mod]
  exact h1
theorem n32_ok {r : UInt32} (h : FP.Core.fIsNaN r = false) : ev_n32 r = true := by
  have h1 := (FP.Core.ne_nan32 r).mp ((FP.Core.notNaN_iff32 r).mp h)
  unfold ev_n32
  apply decide_eq_true
  rw [UInt32.le_iff_toNat_le, UInt32.toNat_and]
  show r.toNat &&& (2 ^ 31 - 1) ≤ 2139095040
  rw [Nat.and_two_pow_sub_one_eq_mod]
  exact h1
theorem toI_ne {y : Int} (hy : InR y) (h0 : y ≠ 0) : toI y ≠ 0 := by
  intro h
  have h1 : BitVec.ofNat 32 (y % 4294967296).toNat = 0#32 := congrArg Int32.toBitVec h
  have h2 := congrArg BitVec.toNat h1
  rw [BitVec.toNat_ofNat] at h2
  have h3 : (y % 4294967296).toNat % 2 ^ 32 = 0 := h2
  unfold InR at hy
  omega
theorem okd {x y : Int} (hy : toI y ≠ 0) : okddiv (gi2d x) (gi2d y) = true := by
  have h := FP.Core.ddiv_out (FP.Core.DFin.notNaN (FP.Core.i2d_fin (toI x))) (FP.Core.i2d_fin (toI y)) (fun hz => FP.Core.i2d_ne_zero hy ((FP.Core.zero_bits2 _).mp hz))
  unfold okddiv gi2d
  rw [Int.toNat_natCast, Int.toNat_natCast, UInt64.ofNat_toNat, UInt64.ofNat_toNat]
  exact n64_ok h
theorem okf {x y : Int} (hy : toI y ≠ 0) : okfdiv (gi2f x) (gi2f y) = true := by
  have h := FP.Core.fdiv_out (FP.Core.FFin.notNaN (FP.Core.i2f_fin (toI x))) (FP.Core.i2f_fin (toI y)) (fun hz => FP.Core.i2f_ne_zero hy ((FP.Core.zero_bits232 _).mp hz))
  unfold okfdiv gi2f
  rw [Int.toNat_natCast, Int.toNat_natCast, UInt32.ofNat_toNat, UInt32.ofNat_toNat]
  exact n32_ok h
section MODEL26
variable {g G H K : gH} {p code t c a b k q gp d x y z w v n l i : Int}
theorem HR_g (h : HR g) (e : kd a = 20) : InR (g a k) := by
  have h1 := h a k
  rw [e] at h1
  exact h1
theorem HR_625 (h : HR g) : InR (g 625 k) := HR_g h kd_625
theorem HR_th (h : HR g) : InR ((th g 0) 625 k) := by
  rw [th_n (by omega)]; exact HR_625 h
theorem oM_readShare (hi : MInv g) : PO g (fM_readShare g 624) := by
  have o1 := o0 hi
  have h0 := o1.1.1.1
  have hE := o1.1.2.1.2.2.2.1.1
  rw [fM_readShare, bnd_s, o8 hi]
  obtain ⟨v, e⟩ := q_inState o1 (a := 2)
  have e : fM_inState (th g 0) 624 2 = some v := e
  simp (disch := omega) only [h0, kd_625, sz_625, w32_r, true_and, le_t, lt_t, and_true, ↓reduceIte, e, bdP_s]
  refine po_ite (fun _ => PO_i rfl o1) (fun hz => ?_)
  rw [if_pos (okd (toI_ne (by unfold InR; omega) hz))]
  exact PO_i rfl o1
theorem oM_rootShare (hi : MInv g) (hg : HR g) : PO g (fM_rootShare g 624) := by
  have o1 := o0 hi
  have h0 := o1.1.1.1
  have hE := HR_th (k := 2) hg
  rw [fM_rootShare, bnd_s, o8 hi]
  simp (disch := omega) only [h0, kd_625, sz_625, w32_r, true_and, le_t, lt_t, and_true, ↓reduceIte]
  refine po_ite (fun _ => PO_i rfl o1) (fun hz => ?_)
  rw [if_pos (okf (toI_ne hE hz))]
  exact PO_i rfl o1
theorem oM_meanDepth (hi : MInv g) : PO g (fM_meanDepth g 624) := by
  have hf := fu_ge
  have o1 := o0 hi
  have hs := o1.1.1
  have h0 := hs.1
  have w := o1.1.2.1.1
  have hM := w.1
  have hST := o1.1.2.1.2.1.2
  rw [fM_meanDepth, bnd_s, o8 hi]
  generalize th g 0 = G at *
  have hpos : 1 ≤ cn (fun c => decide (G 625 (140 + c) = 0)) (G 625 0).toNat 0 := by
    have h1 := cn_lt (P := fun _ => false) (Q := fun c => decide (G 625 (140 + c) = 0)) (fun j z => by cases z) (p := 0) rfl (decide_eq_true hST) (G 625 0).toNat 0 (by omega) (by omega)
    have h2 := (cn_bd (fun _ => false) (G 625 0).toNat 0).1
    omega
  have hle := (cn_bd (fun c => decide (G 625 (140 + c) = 0)) (G 625 0).toNat 0).2
  obtain ⟨v, e⟩ := for_any (L := fun n k v => lM_meanDepth_9 G 624 n v k) (E := fun v => jM_meanDepth_45 G 624 v) 0 (G 625 0) (fun n k v hl hk => by
    have f1 := vM_runs (g := G) (p := k) hs (by omega)
    have hA := w.2.2.1 k (by omega) hk
    have f2 := vM_deep (g := G) (x := k) hs hA
    show ∃ s', bM_meanDepth_9 G 624 (lM_meanDepth_9 G 624 n) v k = _
    rw [bM_meanDepth_9]
    simp (disch := omega) only [f1, f2, bdP_s, h0, kd_625, sz_625, w32_r, true_and, le_t, lt_t, and_true, ↓reduceIte]
    repeat' (first | exact ⟨_, rfl⟩ | refine ex_ite (fun _ => ?_) (fun _ => ?_))) (fun n k v hl hk => by
    show bM_meanDepth_9 G 624 (lM_meanDepth_9 G 624 n) v k = _
    rw [bM_meanDepth_9]
    simp (disch := omega) only [h0, kd_625, sz_625, true_and, le_t, lt_t, and_true, ↓reduceIte, if_neg hk]) 0 0 fu (by omega) (by omega)
  have e : lM_meanDepth_9 G 624 fu 0 0 = jM_meanDepth_45 G 624 v := e
  rw [e, jM_meanDepth_45, vM_runningMany hs hM, bdP_s, if_pos (okd (toI_ne (by unfold InR; omega) (by omega)))]
  exact PO_i rfl o1
end MODEL26
/-! ===== the reference's reader: its tokens (own work) ===== -/
section MODEL27
variable {g G H K : gH} {p code t c a b k q gp d x y z w v n l i : Int}
/-- only the reader's own places are touched -/
def PF (G H : gH) : Prop := (∀ x, ¬ x = 624 → H x = G x) ∧ ∀ k, ¬ (13 ≤ k ∧ k ≤ 19) → H 624 k = G 624 k
theorem PF_r : PF G G := ⟨fun _ _ => rfl, fun _ _ => rfl⟩
theorem PF_t (h : PF G H) (h' : PF H K) : PF G K := ⟨fun x hx => (h'.1 x hx).trans (h.1 x hx), fun k hk => (h'.2 k hk).trans (h.2 k hk)⟩
theorem PF_u (h : PF G H) (hk : 13 ≤ k ∧ k ≤ 19) : PF G (pU H 624 k v) := ⟨fun x hx => (pU_n (by omega)).trans (h.1 x hx), fun j hj => by rw [pU_s, u1_n (by omega)]; exact h.2 j hj⟩
theorem MInv_PF (h : MInv G) (hp : PF G H) : MInv H := by
  obtain ⟨h1, h2, h3, ⟨h4, h5⟩, h6, h7, h8⟩ := h
  unfold MInv MS
  rw [hp.1 625 (by omega), hp.1 628 (by omega), hp.1 629 (by omega), hp.1 630 (by omega), hp.2 0 (by omega), hp.2 1 (by omega), hp.2 2 (by omega), hp.2 3 (by omega), hp.2 4 (by omega), hp.2 5 (by omega), hp.2 6 (by omega), hp.2 7 (by omega), hp.2 9 (by omega), hp.2 10 (by omega), hp.2 20 (by omega), hp.2 21 (by omega), hp.2 22 (by omega), hp.2 23 (by omega)]
  exact ⟨h1, h2, h3, ⟨h4, h5⟩, h6, h7, h8⟩
/-- the place of the next byte -/
def Ps (G : gH) : Prop := 0 ≤ G 624 15 ∧ G 624 15 ≤ G 624 10
def TK (G : gH) : Prop := 0 ≤ G 624 16 ∧ G 624 16 ≤ G 624 15 ∧ G 624 15 ≤ G 624 10
theorem vM_byteAt (h : MInv G) (hv : 0 ≤ v) : fM_byteAt G 624 v = some (if v < G 624 10 then G 631 v else -1) := by
  have h9 : G 624 9 = 631 := h.1.2.2.2.2.2.1
  have h10 := h.2.2.2.2.2.1
  rw [fM_byteAt]
  split
  · next hlt => simp (disch := omega) only [h9, kd_631, sz_631, true_and, le_t, lt_t, and_true, ↓reduceIte]
  · rfl
theorem vM_failsAt (h : MInv G) : ∃ H, fM_failsAt G 624 v = some (0, H) ∧ PF G H ∧ (H 624 15 = G 624 15 ∧ H 624 16 = G 624 16 ∧ H 624 17 = G 624 17 ∧ H 624 18 = G 624 18 ∧ H 624 19 = G 624 19) := by
  rw [fM_failsAt]
  split
  · refine ⟨_, rfl, PF_u (PF_u PF_r (by omega)) (by omega), ?_⟩
    simp (disch := omega) only [pU_s, u1_n, and_self]
  · exact ⟨G, rfl, PF_r, rfl, rfl, rfl, rfl, rfl⟩
/-- the byte that stands next -/
def Bt (G : gH) : Int := if G 624 15 < G 624 10 then G 631 (G 624 15) else -1
theorem vM_next (h : MInv G) (hp : Ps G) : fM_byteAt G 624 (G 624 15) = some (Bt G) := vM_byteAt h hp.1
theorem Bt_lt (hp : Ps G) (h : ¬ Bt G = -1) : G 624 15 + 1 ≤ G 624 10 ∧ 0 ≤ G 624 15 := by
  unfold Bt at h
  split at h
  · exact ⟨by omega, hp.1⟩
  · exact absurd rfl h
theorem Ps_1 (hp : Ps G) (h : ¬ Bt G = -1) : Ps (pU G 624 15 (G 624 15 + 1)) := by
  have := Bt_lt hp h
  unfold Ps
  rw [pU_s, u1_s, u1_n (by omega)]
  omega
theorem lx_90 : ∀ (m n : Nat) (G : gH), MInv G → Ps G → (G 624 10 - G 624 15).toNat = m → m < n → ∃ H, lM_advanceToken_90 624 n G = some (0, H) ∧ PF G H ∧ Ps H ∧ G 624 15 ≤ H 624 15 ∧ (H 624 16 = G 624 16 ∧ H 624 18 = G 624 18 ∧ H 624 19 = G 624 19) ∧ ((97 ≤ Bt G ∧ Bt G ≤ 122) → G 624 15 < H 624 15) := by
  intro m
  induction m with
  | zero =>
    intro n G h hp hm hn
    obtain ⟨n, rfl⟩ : ∃ k, n = k + 1 := ⟨n - 1, by omega⟩
    have hb : Bt G = -1 := by unfold Bt; rw [if_neg (by unfold Ps at hp; omega)]
    refine ⟨G, ?_, PF_r, hp, by omega, ⟨rfl, rfl, rfl⟩, fun z => by omega⟩
    show bM_advanceToken_90 624 (lM_advanceToken_90 624 n) G = _
    rw [bM_advanceToken_90, vM_next h hp, bdP_s, vM_inRange, bdP_s, hb, if_neg (show ¬ ((97 : Int) ≤ -1 ∧ (-1 : Int) ≤ 122) by omega), if_pos rfl]
  | succ m ih =>
    intro n G h hp hm hn
    obtain ⟨n, rfl⟩ : ∃ k, n = k + 1 := ⟨n - 1, by omega⟩
    have e : lM_advanceToken_90 624 (n + 1) G = bM_advanceToken_90 624 (lM_advanceToken_90 624 n) G := rfl
    rw [e, bM_advanceToken_90, vM_next h hp, bdP_s, vM_inRange, bdP_s]
    by_cases hr : 97 ≤ Bt G ∧ Bt G ≤ 122
    · have hb : ¬ Bt G = -1 := by omega
      have h1 := Bt_lt hp hb
      have h10 := h.2.2.2.2.2.1
      rw [if_pos hr, if_neg f0, bnd_s, w32_r (by omega)]
      have hG : PF G (pU G 624 15 (G 624 15 + 1)) := PF_u PF_r (by omega)
      have e15 : pU G 624 15 (G 624 15 + 1) 624 15 = G 624 15 + 1 := by rw [pU_s, u1_s]
      have e10 : pU G 624 15 (G 624 15 + 1) 624 10 = G 624 10 := by rw [pU_s, u1_n (by omega)]
      obtain ⟨H, a1, a2, a3, a4, ⟨a5, a6, a7⟩, -⟩ := ih n _ (MInv_PF h hG) (Ps_1 hp hb) (by rw [e15, e10]; omega) (by omega)
      rw [e15] at a4
      refine ⟨H, a1, PF_t hG a2, a3, by omega, ⟨?_, ?_, ?_⟩, fun _ => by omega⟩
      · rw [a5, pU_s, u1_n (by omega)]
      · rw [a6, pU_s, u1_n (by omega)]
      · rw [a7, pU_s, u1_n (by omega)]
    · rw [if_neg hr, if_pos rfl]
      exact ⟨G, rfl, PF_r, hp, by omega, ⟨rfl, rfl, rfl⟩, fun z => absurd z hr⟩
theorem lx_137 : ∀ (m n : Nat) (G : gH), MInv G → Ps G → (G 624 10 - G 624 15).toNat = m → m < n → ∃ H, lM_advanceToken_137 624 n G = some (0, H) ∧ PF G H ∧ Ps H ∧ G 624 15 ≤ H 624 15 ∧ (H 624 16 = G 624 16 ∧ H 624 18 = G 624 18 ∧ H 624 19 = G 624 19) ∧ ((48 ≤ Bt G ∧ Bt G ≤ 57) → G 624 15 < H 624 15) := by
  intro m
  induction m with
  | zero =>
    intro n G h hp hm hn
    obtain ⟨n, rfl⟩ : ∃ k, n = k + 1 := ⟨n - 1, by omega⟩
    have hb : Bt G = -1 := by unfold Bt; rw [if_neg (by unfold Ps at hp; omega)]
    refine ⟨G, ?_, PF_r, hp, by omega, ⟨rfl, rfl, rfl⟩, fun z => by omega⟩
    show bM_advanceToken_137 624 (lM_advanceToken_137 624 n) G = _
    rw [bM_advanceToken_137, vM_next h hp, bdP_s, vM_inRange, bdP_s, hb, if_neg (show ¬ ((48 : Int) ≤ -1 ∧ (-1 : Int) ≤ 57) by omega), if_pos rfl]
  | succ m ih =>
    intro n G h hp hm hn
    obtain ⟨n, rfl⟩ : ∃ k, n = k + 1 := ⟨n - 1, by omega⟩
    have e : lM_advanceToken_137 624 (n + 1) G = bM_advanceToken_137 624 (lM_advanceToken_137 624 n) G := rfl
    rw [e, bM_advanceToken_137, vM_next h hp, bdP_s, vM_inRange, bdP_s]
    by_cases hr : 48 ≤ Bt G ∧ Bt G ≤ 57
    · have hb : ¬ Bt G = -1 := by omega
      have h1 := Bt_lt hp hb
      have h10 := h.2.2.2.2.2.1
      -- the value may change, the place goes on by one
      have go : ∀ K, PF G K → K 624 15 = G 624 15 → K 624 16 = G 624 16 → K 624 18 = G 624 18 → K 624 19 = G 624 19 → ∃ H, lM_advanceToken_137 624 n (pU K 624 15 (w32 (K 624 15 + 1))) = some (0, H) ∧ PF G H ∧ Ps H ∧ G 624 15 ≤ H 624 15 ∧ (H 624 16 = G 624 16 ∧ H 624 18 = G 624 18 ∧ H 624 19 = G 624 19) ∧ ((48 ≤ Bt G ∧ Bt G ≤ 57) → G 624 15 < H 624 15) := by
        intro K k1 k2 k3 k4 k5
        have k10 : K 624 10 = G 624 10 := k1.2 10 (by omega)
        rw [k2, w32_r (by omega)]
        have hG : PF G (pU K 624 15 (G 624 15 + 1)) := PF_u k1 (by omega)
        have e15 : pU K 624 15 (G 624 15 + 1) 624 15 = G 624 15 + 1 := by rw [pU_s, u1_s]
        have e10 : pU K 624 15 (G 624 15 + 1) 624 10 = G 624 10 := by rw [pU_s, u1_n (by omega)]; exact k10
        obtain ⟨H, a1, a2, a3, a4, ⟨a5, a6, a7⟩, -⟩ := ih n _ (MInv_PF h hG) (by unfold Ps; rw [e15, e10]; omega) (by rw [e15, e10]; omega) (by omega)
        rw [e15] at a4
        refine ⟨H, a1, PF_t hG a2, a3, by omega, ⟨?_, ?_, ?_⟩, fun _ => by omega⟩
        · rw [a5, pU_s, u1_n (by omega)]; exact k3
        · rw [a6, pU_s, u1_n (by omega)]; exact k4
        · rw [a7, pU_s, u1_n (by omega)]; exact k5
      rw [if_pos hr, if_neg f0]
      split
      · rw [bdP_s, bnd_s, bnd_s]
        refine go _ (PF_u PF_r (by omega)) ?_ ?_ ?_ ?_ <;> rw [pU_s, u1_n (by omega)]
      · rw [bnd_s]
        exact go G PF_r rfl rfl rfl rfl
    · rw [if_neg hr, if_pos rfl]
      exact ⟨G, rfl, PF_r, hp, by omega, ⟨rfl, rfl, rfl⟩, fun z => absurd z hr⟩
/-- the next token -/
def AT (G H : gH) : Prop := PF G H ∧ TK H ∧ G 624 15 ≤ H 624 15 ∧ H 624 19 = G 624 19 ∧ (H 624 18 = 0 ∨ G 624 15 < H 624 15)
theorem lx_39 (h : MInv G) (hp : Ps G) : ∃ H, jM_advanceToken_39 G 624 = some (0, H) ∧ AT G H := by
  have hf := fu_ge
  have h10 := h.2.2.2.2.2.1
  -- begin is set
  have k1 : PF G (pU G 624 16 (G 624 15)) := PF_u PF_r (by omega)
  have e15 : pU G 624 16 (G 624 15) 624 15 = G 624 15 := by rw [pU_s, u1_n (by omega)]
  have e10 : pU G 624 16 (G 624 15) 624 10 = G 624 10 := by rw [pU_s, u1_n (by omega)]
  have eb : Bt (pU G 624 16 (G 624 15)) = Bt G := by unfold Bt; rw [e15, e10, pU_n (by omega)]
  have hp1 : Ps (pU G 624 16 (G 624 15)) := by unfold Ps; rw [e15, e10]; exact hp
  rw [jM_advanceToken_39, bnd_s, vM_next (MInv_PF h k1) hp1, bdP_s, eb, bnd_s]
  have k2 : PF G (pU (pU G 624 16 (G 624 15)) 624 17 0) := PF_u k1 (by omega)
  have f15 : pU (pU G 624 16 (G 624 15)) 624 17 0 624 15 = G 624 15 := by rw [pU_s, u1_n (by omega)]; exact e15
  have f16 : pU (pU G 624 16 (G 624 15)) 624 17 0 624 16 = G 624 15 := by rw [pU_s, u1_n (by omega), pU_s, u1_s]
  have f19 : pU (pU G 624 16 (G 624 15)) 624 17 0 624 19 = G 624 19 := by rw [pU_s, u1_n (by omega), pU_s, u1_n (by omega)]
  generalize pU (pU G 624 16 (G 624 15)) 624 17 0 = K at *
  have f10 : K 624 10 = G 624 10 := k2.2 10 (by omega)
  have f31 : K 631 = G 631 := k2.1 631 (by omega)
  -- a token of one byte
  have one : ∀ tk : Int, ¬ Bt G = -1 → ∃ H, bnd (pU K 624 18 tk) (fun g => bnd (pU g 624 15 (w32 (g 624 15 + 1))) (fun g => some ((0 : Int), g))) = some (0, H) ∧ AT G H := by
    intro tk hb
    have h1 := Bt_lt hp hb
    have e : pU K 624 18 tk 624 15 = G 624 15 := by rw [pU_s, u1_n (by omega)]; exact f15
    rw [bnd_s, bnd_s, e, w32_r (by omega)]
    refine ⟨_, rfl, PF_u (PF_u k2 (by omega)) (by omega), ?_, ?_, ?_, ?_⟩
    · unfold TK
      rw [pU_s, u1_s, u1_n (by omega), pU_s, u1_n (by omega), u1_n (by omega), u1_n (by omega), f16, f10]
      omega
    · rw [pU_s, u1_s]; omega
    · rw [pU_s, u1_n (by omega), pU_s, u1_n (by omega)]; exact f19
    · right; rw [pU_s, u1_s]; omega
  -- the kind is set, then a loop
  have ld : ∀ tk : Int, PF G (pU K 624 18 tk) ∧ Ps (pU K 624 18 tk) ∧ pU K 624 18 tk 624 15 = G 624 15 ∧ pU K 624 18 tk 624 16 = G 624 15 ∧ pU K 624 18 tk 624 19 = G 624 19 ∧ Bt (pU K 624 18 tk) = Bt G ∧ pU K 624 18 tk 624 10 = G 624 10 := by
    intro tk
    have a15 : pU K 624 18 tk 624 15 = G 624 15 := by rw [pU_s, u1_n (by omega)]; exact f15
    have a10 : pU K 624 18 tk 624 10 = G 624 10 := by rw [pU_s, u1_n (by omega)]; exact f10
    refine ⟨PF_u k2 (by omega), ?_, a15, ?_, ?_, ?_, a10⟩
    · unfold Ps; rw [a15, a10]; exact hp
    · rw [pU_s, u1_n (by omega)]; exact f16
    · rw [pU_s, u1_n (by omega)]; exact f19
    · unfold Bt; rw [a15, a10, pU_n (by omega), f31]
  by_cases hb : Bt G = -1
  · rw [if_pos hb, bnd_s]
    refine ⟨_, rfl, PF_u k2 (by omega), ?_, ?_, ?_, ?_⟩
    · unfold TK
      rw [pU_s, u1_n (by omega), u1_n (by omega), u1_n (by omega), f15, f16, f10]
      unfold Ps at hp
      omega
    · rw [pU_s, u1_n (by omega), f15]; omega
    · rw [pU_s, u1_n (by omega)]; exact f19
    · left; rw [pU_s, u1_s]
  · rw [if_neg hb, vM_inRange, bdP_s]
    by_cases c1 : 97 ≤ Bt G ∧ Bt G ≤ 122
    · rw [if_pos c1, if_neg f0, bnd_s]
      obtain ⟨d1, d2, d3, d4, d5, d6, d7⟩ := ld 1
      obtain ⟨H, a1, a2, a3, a4, ⟨a5, a6, a7⟩, a8⟩ := lx_90 _ fu _ (MInv_PF h d1) d2 rfl (by rw [d7, d3]; unfold Ps at hp; omega)
      rw [d6, d3] at a8
      have a8 := a8 c1
      refine ⟨H, a1, PF_t d1 a2, ?_, by omega, by rw [a7]; exact d5, Or.inr a8⟩
      unfold Ps at a3
      unfold TK
      rw [a5, d4]
      unfold Ps at hp
      omega
    · rw [if_neg c1, if_pos rfl, vM_inRange, bdP_s]
      by_cases c2 : 48 ≤ Bt G ∧ Bt G ≤ 57
      · rw [if_pos c2, if_neg f0, bnd_s]
        obtain ⟨d1, d2, d3, d4, d5, d6, d7⟩ := ld 2
        obtain ⟨H, a1, a2, a3, a4, ⟨a5, a6, a7⟩, a8⟩ := lx_137 _ fu _ (MInv_PF h d1) d2 rfl (by rw [d7, d3]; unfold Ps at hp; omega)
        rw [d6, d3] at a8
        have a8 := a8 c2
        refine ⟨H, a1, PF_t d1 a2, ?_, by omega, by rw [a7]; exact d5, Or.inr a8⟩
        unfold Ps at a3
        unfold TK
        rw [a5, d4]
        unfold Ps at hp
        omega
      · rw [if_neg c2, if_pos rfl]
        split
        · exact one 3 hb
        · exact one 4 hb
theorem vM_advance (h : MInv G) (hp : Ps G) : ∃ H, fM_advanceToken G 624 = some (0, H) ∧ AT G H := by
  have key : ∀ (m n : Nat) (G : gH), MInv G → Ps G → (G 624 10 - G 624 15).toNat = m → m < n → ∃ H, lM_advanceToken_0 624 n G = some (0, H) ∧ AT G H := by
    intro m
    induction m with
    | zero =>
      intro n G h hp hm hn
      obtain ⟨n, rfl⟩ : ∃ k, n = k + 1 := ⟨n - 1, by omega⟩
      have hb : Bt G = -1 := by unfold Bt; rw [if_neg (by unfold Ps at hp; omega)]
      show ∃ H, bM_advanceToken_0 624 (lM_advanceToken_0 624 n) G = some (0, H) ∧ _
      rw [bM_advanceToken_0, vM_next h hp, bdP_s, if_neg (by omega), bdP_s, if_neg (by omega)]
      exact lx_39 h hp
    | succ m ih =>
      intro n G h hp hm hn
      obtain ⟨n, rfl⟩ : ∃ k, n = k + 1 := ⟨n - 1, by omega⟩
      have h10 := h.2.2.2.2.2.1
      have go : ¬ Bt G = -1 → ∃ H, bnd (pU G 624 15 (w32 (G 624 15 + 1))) (fun g => lM_advanceToken_0 624 n g) = some (0, H) ∧ AT G H := by
        intro hb
        have h1 := Bt_lt hp hb
        rw [bnd_s, w32_r (by omega)]
        have hG : PF G (pU G 624 15 (G 624 15 + 1)) := PF_u PF_r (by omega)
        have e15 : pU G 624 15 (G 624 15 + 1) 624 15 = G 624 15 + 1 := by rw [pU_s, u1_s]
        have e10 : pU G 624 15 (G 624 15 + 1) 624 10 = G 624 10 := by rw [pU_s, u1_n (by omega)]
        have e19 : pU G 624 15 (G 624 15 + 1) 624 19 = G 624 19 := by rw [pU_s, u1_n (by omega)]
        obtain ⟨H, a1, a2, a3, a4, a5, a6⟩ := ih n _ (MInv_PF h hG) (Ps_1 hp hb) (by rw [e15, e10]; omega) (by omega)
        rw [e15] at a4
        exact ⟨H, a1, PF_t hG a2, a3, by omega, a5.trans e19, Or.inr (by omega)⟩
      show ∃ H, bM_advanceToken_0 624 (lM_advanceToken_0 624 n) G = some (0, H) ∧ _
      rw [bM_advanceToken_0, vM_next h hp, bdP_s]
      by_cases c1 : Bt G = 32
      · rw [if_pos c1]; exact go (by omega)
      · rw [if_neg c1, bdP_s]
        by_cases c2 : Bt G = 10
        · rw [if_pos c2]; exact go (by omega)
        · rw [if_neg c2]; exact lx_39 h hp
  have hf := fu_ge
  have h10 := h.2.2.2.2.2.1
  exact key _ fu G h hp rfl (by unfold Ps at hp; omega)
/-- a word: the answer is 0 or 1 -/
theorem vM_isWord (h : MInv G) (hp : TK G) (hv : 2000000 ≤ v ∧ v < 2000026) : ∃ y, fM_isWord G 624 v = some y ∧ (y = 1 → G 624 18 = 1) := by
  have hf := fu_ge
  have h9 : G 624 9 = 631 := h.1.2.2.2.2.2.1
  have h10 := h.2.2.2.2.2.1
  rw [fM_isWord]
  by_cases c1 : G 624 18 = 1
  · rw [if_pos c1, fM_tokenLength, bdP_s, if_pos hv]
    unfold TK at hp
    rw [w32_r (by omega)]
    by_cases c2 : G 624 15 - G 624 16 = gtl v
    · rw [if_pos c2]
      have key : ∀ (m n : Nat) (k : Int), (gtl v - k).toNat = m → m < n → 0 ≤ k → ∃ y, lM_isWord_23 G 624 v n k = some y := by
        intro m
        induction m with
        | zero =>
          intro n k hm hn hk
          obtain ⟨n, rfl⟩ : ∃ k, n = k + 1 := ⟨n - 1, by omega⟩
          refine ⟨1, ?_⟩
          show bM_isWord_23 G 624 v (lM_isWord_23 G 624 v n) k = _
          rw [bM_isWord_23, if_pos hv, if_neg (by omega)]
        | succ m ih =>
          intro n k hm hn hk
          obtain ⟨n, rfl⟩ : ∃ k, n = k + 1 := ⟨n - 1, by omega⟩
          show ∃ y, bM_isWord_23 G 624 v (lM_isWord_23 G 624 v n) k = some y
          rw [bM_isWord_23, if_pos hv, if_pos (by omega), if_pos (by rw [h9, kd_631, sz_631, w32_r (by omega)]; omega), if_pos ⟨hv, hk, by omega⟩]
          split
          · rw [w32_r (by omega)]
            exact ih n (k + 1) (by omega) (by omega) (by omega)
          · exact ⟨0, rfl⟩
      obtain ⟨y, e⟩ := key _ fu 0 rfl (by omega) (by omega)
      exact ⟨y, e, fun _ => c1⟩
    · rw [if_neg c2]; exact ⟨0, rfl, fun z => by omega⟩
  · rw [if_neg c1]; exact ⟨0, rfl, fun z => by omega⟩
/-- a number between a and b: 1, or the reading has failed -/
theorem vM_isNumber (h : MInv G) (hp : TK G) : ∃ y H, fM_isNumber G 624 a b = some (y, H) ∧ PF G H ∧ TK H ∧ H 624 15 = G 624 15 ∧ (y = 0 ∨ (y = 1 ∧ H = G ∧ G 624 18 = 2 ∧ a ≤ G 624 17 ∧ G 624 17 ≤ b)) := by
  have tk : ∀ H : gH, (H 624 15 = G 624 15 ∧ H 624 16 = G 624 16 ∧ H 624 17 = G 624 17 ∧ H 624 18 = G 624 18 ∧ H 624 19 = G 624 19) → PF G H → TK H := by
    intro H e k
    unfold TK at hp ⊢
    rw [e.1, e.2.1, k.2 10 (by omega)]
    exact hp
  rw [fM_isNumber]
  by_cases c1 : G 624 18 = 2
  · rw [if_pos c1, fM_tokenLength, bdP_s]
    split
    · obtain ⟨H, e, k1, k2⟩ := vM_failsAt (v := 1) h
      rw [e, bdN_s]
      exact ⟨0, H, rfl, k1, tk H k2 k1, k2.1, Or.inl rfl⟩
    · rw [vM_inRange, bdP_s]
      by_cases c2 : a ≤ G 624 17 ∧ G 624 17 ≤ b
      · rw [if_pos c2, if_neg f0]
        exact ⟨1, G, rfl, PF_r, hp, rfl, Or.inr ⟨rfl, rfl, c1, c2.1, c2.2⟩⟩
      · rw [if_neg c2, if_pos rfl]
        obtain ⟨H, e, k1, k2⟩ := vM_failsAt (v := 2) h
        rw [e, bdN_s, if_pos rfl]
        exact ⟨0, H, rfl, k1, tk H k2 k1, k2.1, Or.inl rfl⟩
  · rw [if_neg c1]
    obtain ⟨H, e, k1, k2⟩ := vM_failsAt (v := 1) h
    rw [e, bdN_s]
    exact ⟨0, H, rfl, k1, tk H k2 k1, k2.1, Or.inl rfl⟩
end MODEL27
/-! ===== the reference's reader: its statements (own work) ===== -/
section MODEL28
variable {g G H K : gH} {p code t c a b k q gp d x y z w v n l i : Int}
/-- what the reader leaves alone -/
def FX (g G : gH) : Prop := G 626 = g 626 ∧ (∀ x, 627 ≤ x → x ≤ 629 → G x = g x) ∧ ∀ k, 6 ≤ k → k ≤ 8 → G 624 k = g 624 k
theorem FX_e (h : FX g G) (e : ∀ x, 624 ≤ x → x ≤ 629 → ¬ x = 625 → H x = G x) : FX g H := ⟨(e 626 (by omega) (by omega) (by omega)).trans h.1, fun x x0 x1 => (e x (by omega) (by omega) (by omega)).trans (h.2.1 x x0 x1), fun k k0 k1 => by rw [e 624 (by omega) (by omega) (by omega)]; exact h.2.2 k k0 k1⟩
/-- while the reader reads: the row is whole, everyone runs, the kept row stands by -/
def RD (g G : gH) : Prop := MInv G ∧ MF g G ∧ FX g G ∧ G 624 10 = g 624 10 ∧ TK G ∧ ∀ i, 0 ≤ i → i < G 625 0 → G 625 (140 + i) = 0
theorem RD_PF (h : RD g G) (k : PF G H) (t : TK H) : RD g H := ⟨MInv_PF h.1 k, fun x hx => (k.1 x (by omega)).trans (h.2.1 x hx), ⟨(k.1 626 (by omega)).trans h.2.2.1.1, fun x x0 x1 => (k.1 x (by omega)).trans (h.2.2.1.2.1 x x0 x1), fun y y0 y1 => (k.2 y (by omega)).trans (h.2.2.1.2.2 y y0 y1)⟩, (k.2 10 (by omega)).trans h.2.2.2.1, t, by rw [k.1 625 (by omega)]; exact h.2.2.2.2.2⟩
theorem RD_632 (h : RD g G) : RD g (pU G 632 k v) := by
  obtain ⟨⟨h1, h2, h3, ⟨h4, h5⟩, h6, h7, h8⟩, b1, b2, b3, b4, b5⟩ := h
  refine ⟨?_, MF_pU b1 (by omega), FX_e b2 (fun x x0 x1 x2 => pU_n (by omega)), by rw [pU_n (by omega)]; exact b3, ?_, by rw [pU_n (by omega)]; exact b5⟩
  · unfold MInv MS
    simp (disch := omega) only [pU_n]
    exact ⟨h1, h2, h3, ⟨h4, h5⟩, h6, h7, h8⟩
  · unfold TK; rw [pU_n (by omega)]; exact b4
theorem RD_row (h : RD g G) (hw : WBF (u1 (G 625) k v)) (h0 : ¬ k = 0) (hk : ¬ (140 ≤ k ∧ k < 180)) : RD g (pU G 625 k v) := by
  have hM := h.1.2.1.1.1
  obtain ⟨⟨h1, h2, h3, ⟨h4, h5⟩, h6, h7, h8⟩, b1, b2, b3, b4, b5⟩ := h
  refine ⟨?_, MF_pU b1 (by omega), FX_e b2 (fun x x0 x1 x2 => pU_n (by omega)), by rw [pU_n (by omega)]; exact b3, ?_, ?_⟩
  · unfold MInv MS
    rw [pU_s]
    simp (disch := omega) only [pU_n]
    exact ⟨h1, hw, h3, ⟨h4, h5⟩, h6, h7, h8⟩
  · unfold TK; rw [pU_n (by omega)]; exact b4
  · rw [pU_s]
    intro i i0 i1
    rw [u1_n (by omega)] at i1
    rw [u1_n (by omega)]
    exact b5 i i0 i1
theorem TK_Ps (h : TK G) : Ps G := by unfold TK at h; unfold Ps; omega
theorem rd_advance (h : RD g G) : ∃ H, fM_advanceToken G 624 = some (0, H) ∧ RD g H ∧ AT G H := by
  obtain ⟨H, e, a⟩ := vM_advance h.1 (TK_Ps h.2.2.2.2.1)
  exact ⟨H, e, RD_PF h a.1 a.2.1, a⟩
theorem rd_fails (h : RD g G) : ∃ H, fM_failsAt G 624 v = some (0, H) ∧ RD g H ∧ G 624 15 ≤ H 624 15 := by
  obtain ⟨H, e, k1, k2⟩ := vM_failsAt (v := v) h.1
  have ht := h.2.2.2.2.1
  refine ⟨H, e, RD_PF h k1 ?_, by omega⟩
  unfold TK at ht ⊢
  rw [k2.1, k2.2.1, k1.2 10 (by omega)]; exact ht
theorem rd_number (h : RD g G) : ∃ y H, fM_isNumber G 624 a b = some (y, H) ∧ RD g H ∧ H 624 15 = G 624 15 ∧ (y = 0 ∨ (y = 1 ∧ H = G ∧ a ≤ G 624 17 ∧ G 624 17 ≤ b)) := by
  obtain ⟨y, H, e, k1, k2, k4, k3⟩ := vM_isNumber (a := a) (b := b) h.1 h.2.2.2.2.1
  refine ⟨y, H, e, RD_PF h k1 k2, k4, ?_⟩
  rcases k3 with k3 | ⟨k3, k4, -, k5, k6⟩
  · exact Or.inl k3
  · exact Or.inr ⟨k3, k4, k5, k6⟩
/-- a reader's step: it ends, with 0 or 1 -/
def RS (g G : gH) (X : Option (Int × gH)) : Prop := ∃ y H, X = some (y, H) ∧ RD g H ∧ G 624 15 ≤ H 624 15
theorem RS_i {X : Option (Int × gH)} (e : X = some (y, H)) (h : RD g H) (hp : G 624 15 ≤ H 624 15) : RS g G X := ⟨y, H, e, h, hp⟩
theorem RS_fails (h : RD g K) (hp : G 624 15 ≤ K 624 15) : RS g G (bdN (fM_failsAt K 624 v) (fun y H => some (y, H))) := by
  obtain ⟨H, e, k1, k2⟩ := rd_fails (v := v) h
  rw [e, bdN_s]
  exact RS_i rfl k1 (by omega)
theorem RS_ite {c : Prop} [Decidable c] {A B : Option (Int × gH)} (h1 : c → RS g G A) (h2 : ¬ c → RS g G B) : RS g G (if c then A else B) := by
  split
  · next h => exact h1 h
  · next h => exact h2 h
theorem RS_number {A : gH → Option (Int × gH)} (h : RD g K) (hp : G 624 15 ≤ K 624 15) (hA : a ≤ K 624 17 → K 624 17 ≤ b → RS g G (A K)) : RS g G (bdN (fM_isNumber K 624 a b) (fun y H => if y = 0 then some (0, H) else A H)) := by
  obtain ⟨y, H, e, k1, k2, k3⟩ := rd_number (a := a) (b := b) h
  rw [e, bdN_s]
  rcases k3 with k3 | ⟨k3, k4, k5, k6⟩
  · rw [if_pos k3]; exact RS_i rfl k1 (by omega)
  · rw [if_neg (by omega), k4]; exact hA k5 k6
theorem RS_advance {A : gH → Option (Int × gH)} (h : RD g K) (hp : G 624 15 ≤ K 624 15) (hA : ∀ H, RD g H → PF K H → G 624 15 ≤ H 624 15 → RS g G (A H)) : RS g G (bdN (fM_advanceToken K 624) (fun _ H => A H)) := by
  obtain ⟨H, e, k1, k2⟩ := rd_advance h
  rw [e, bdN_s]
  exact hA H k1 k2.1 (by have := k2.2.2.1; omega)
/-- a number is taken into the k-th place -/
theorem RS_takes {A : gH → Option (Int × gH)} (h : RD g K) (hk : 0 ≤ k ∧ k < 4) (hp : G 624 15 ≤ K 624 15) (hA : ∀ H, RD g H → H 625 = K 625 → (a ≤ H 632 k ∧ H 632 k ≤ b) → (∀ j, ¬ j = k → H 632 j = K 632 j) → G 624 15 ≤ H 624 15 → RS g G (A H)) : RS g G (bdN (fM_takes K 624 k a b) (fun y H => if y = 0 then some (0, H) else A H)) := by
  rw [fM_takes]
  obtain ⟨y, H, e, k1, k2, k3⟩ := rd_number (a := a) (b := b) h
  rw [e, bdN_s]
  rcases k3 with k3 | ⟨k3, k4, k5, k6⟩
  · rw [if_pos k3, bdN_s, if_pos rfl]; exact RS_i rfl k1 (by omega)
  · rw [if_neg (by omega), k4]
    have h20 : K 624 20 = 632 := h.1.1.2.2.2.2.2.2.1
    rw [if_pos (by rw [h20, kd_632, sz_632]; omega), bnd_s, h20]
    obtain ⟨L, e2, k7, k8⟩ := rd_advance (RD_632 h (k := k) (v := K 624 17))
    rw [e2, bdN_s, bdN_s, if_neg f0]
    have e32 := k8.1.1 632 (by omega)
    refine hA L k7 ?_ ?_ ?_ ?_
    · rw [k8.1.1 625 (by omega), pU_n (by omega)]
    · rw [e32, pU_s, u1_s]; exact ⟨k5, k6⟩
    · intro j hj
      rw [e32, pU_s, u1_n hj]
    · have := k8.2.2.1
      rw [pU_n (by omega)] at this
      omega
theorem RS_once {A : gH → Option (Int × gH)} (h : RD g K) (hp : G 624 15 ≤ K 624 15) (hA : ∀ H, RD g H → H 625 = K 625 → G 624 15 ≤ H 624 15 → RS g G (A H)) : RS g G (bdN (fM_startsOnce K 624 v) (fun y H => if y = 0 then some (0, H) else A H)) := by
  rw [fM_startsOnce]
  split
  · rw [bnd_s]
    have hk : PF K (pU K 624 19 (opI 2 (K 624 19) v)) := PF_u PF_r (by omega)
    have e15 : pU K 624 19 (opI 2 (K 624 19) v) 624 15 = K 624 15 := by rw [pU_s, u1_n (by omega)]
    obtain ⟨L, e2, k7, k8⟩ := rd_advance (RD_PF h hk (by
      have := h.2.2.2.2.1
      unfold TK at this ⊢
      rw [e15, pU_s, u1_n (by omega), u1_n (by omega)]
      exact this))
    rw [e2, bdN_s, bdN_s, if_neg f0]
    refine hA L k7 ?_ ?_
    · rw [k8.1.1 625 (by omega), hk.1 625 (by omega)]
    · have := k8.2.2.1
      omega
  · obtain ⟨H, e, k1, k2⟩ := rd_fails (v := 3) h
    rw [e, bdN_s, bdN_s, if_pos rfl]
    exact RS_i rfl k1 (by omega)
theorem RD_pos (hw : RD g (pU K 625 k v)) (hp : G 624 15 ≤ K 624 15) {X : Option (Int × gH)} (e : X = some (y, pU K 625 k v)) : RS g G X := RS_i e hw (by rw [pU_n (by omega)]; exact hp)
/-- a place of the row that the tree doesn't hang on -/
theorem WBF_pl {r : Int → Int} (h : WBF r) (hW : WB (u1 r k v)) (hk : ¬ (k = 0 ∨ k = 1 ∨ (11 ≤ k ∧ k < 100 ∧ ¬ k = 59) ∨ (140 ≤ k ∧ k < 180) ∨ (220 ≤ k ∧ k < 260) ∨ (300 ≤ k ∧ k < 340))) : WBF (u1 r k v) := WBF_eq h hW (fun j hj => u1_n (fun e => hk (by rw [← e]; exact hj)))
/-- the depth's limit -/
theorem WBF_59 {r : Int → Int} (h : WBF r) : WBF (u1 r 59 v) := WBF_pl h (WB_eq h.1 (fun j hj => u1_n (by omega))) (by omega)
theorem WBF_340 {r : Int → Int} (h : WBF r) (hk : 340 ≤ k ∧ k < 460) : WBF (u1 r k v) := WBF_pl h (WB_eq h.1 (fun j hj => u1_n (by omega))) (by omega)
/-- a duty's holder -/
theorem WBF_11 {r : Int → Int} (h : WBF r) (hd : 0 ≤ d ∧ d < 8) (hp : 0 ≤ p ∧ p < r 0) (hs : r (140 + p) = 0) : WBF (u1 r (11 + d) p) := by
  have hb0 := h.1
  have hM := hb0.1
  obtain ⟨-, ⟨s1, s2⟩, hSR, ⟨x1, x2⟩, hL, hN, hH, hC, hB⟩ := h
  have e : ∀ k, ¬ k = 11 + d → u1 r (11 + d) p k = r k := fun k hk => u1_n hk
  have e0 : u1 r (11 + d) p 0 = r 0 := e 0 (by omega)
  have e1 : u1 r (11 + d) p 1 = r 1 := e 1 (by omega)
  have est : ∀ i, 0 ≤ i → i < r 0 → u1 r (11 + d) p (140 + i) = r (140 + i) := fun i i0 i1 => e _ (by omega)
  refine ⟨WB_eq hb0 (fun j hj => e j (by omega)), ⟨?_, by rw [e 140 (by omega)]; exact s2⟩, ?_, ⟨by rw [e1]; exact x1, ?_⟩, ?_, ?_, ?_, ?_, ?_⟩
  · intro i i0 i1
    rw [e0] at i1
    rw [est i i0 i1]
    exact s1 i i0 i1
  · intro i i0 i1 i2
    rw [e0] at i1
    rw [est i (by omega) i1] at i2
    rw [e (60 + i) (by omega)]
    have := hb0.2.1 i i0 i1
    rw [est _ this.1 this.2]
    exact hSR i i0 i1 i2
  · intro k k0 k1
    rw [e1] at k1
    rw [e _ (by omega), e0]
    exact x2 k k0 k1
  · intro i i0 i1 i2
    rw [e0] at i1
    rw [est i i0 i1] at i2
    obtain ⟨k, k0, k1, k2⟩ := hL i i0 i1 i2
    exact ⟨k, k0, by rw [e1]; exact k1, by rw [e _ (by omega)]; exact k2⟩
  · show u1 r (11 + d) p 1 = _
    rw [e1, cn_eq_st e0 hM.2 (fun k k0 k1 => e k (by omega))]
    exact hN
  · intro j d0 d1
    by_cases hj : j = d
    · rw [hj, u1_s, e0, est p hp.1 hp.2]; exact ⟨hp.1, hp.2, hs⟩
    · have := hH j d0 d1
      rw [e (11 + j) (by omega), e0, est _ this.1 this.2.1]
      exact this
  · intro i i0 i1 i2
    rw [e0] at i1
    rw [est i i0 i1] at i2
    rw [e _ (by omega)]
    exact hC i i0 i1 i2
  · intro i i0 i1
    rw [e0] at i1
    rw [e _ (by omega)]
    exact hB i i0 i1
theorem rs_deep (h : RD g G) : RS g G (fM_readDeep G 624) := by
  rw [fM_readDeep]
  refine RS_once h (Int.le_refl _) (fun K hK eK pK => RS_takes hK (by omega) pK (fun L hL eL bL _ pL => ?_))
  have h0 := hL.1.1.1
  have h20 : L 624 20 = 632 := hL.1.1.2.2.2.2.2.2.1
  simp (disch := omega) only [h0, h20, kd_625, sz_625, kd_632, sz_632, true_and, le_t, lt_t, and_true, ↓reduceIte, bnd_s]
  exact RD_pos (RD_row hL (WBF_59 hL.1.2.1) (by omega) (by omega)) pL rfl
theorem rs_duty (h : RD g G) : RS g G (fM_readDuty G 624) := by
  rw [fM_readDuty]
  refine RS_advance h (Int.le_refl _) (fun K hK _ pK => RS_takes hK (by omega) pK (fun L hL eL bL _ pL => ?_))
  have h0 := hL.1.1.1
  have hM := hL.1.2.1.1.1
  simp (disch := omega) only [h0, kd_625, sz_625, true_and, le_t, lt_t, and_true, ↓reduceIte]
  rw [w32_r (by omega)]
  refine RS_takes hL (by omega) pL (fun J hJ eJ bJ oJ pJ => ?_)
  have j0 := hJ.1.1.1
  have j20 : J 624 20 = 632 := hJ.1.1.2.2.2.2.2.2.1
  have jd := oJ 0 (by omega)
  rw [← jd] at bL
  rw [← eJ] at bJ
  simp (disch := omega) only [j0, j20, kd_625, sz_625, kd_632, sz_632, w32_r, true_and, le_t, lt_t, and_true, ↓reduceIte, bnd_s]
  exact RD_pos (RD_row hJ (WBF_11 hJ.1.2.1 (by omega) (by omega) (hJ.2.2.2.2.2 _ (by omega) (by omega))) (by omega) (by omega)) pJ rfl
end MODEL28
/-! ===== the reference's reader: its statements, more (own work) ===== -/
section MODEL29
variable {g G H K : gH} {p code t c a b k q gp d x y z w v n l i : Int}
/-- places of the row that the chain doesn't hang on: a capacity, an heir, a will -/
theorem WB_pl {r : Int → Int} (h : WB r) (hk : 100 ≤ k ∧ k < 780) (h1 : k < 140 → 0 ≤ v ∧ v ≤ 9) (h2 : 140 ≤ k → -1 ≤ v ∧ v < r 0) : WB (u1 r k v) := by
  obtain ⟨a1, a2, a3, a4, a5, a6, a7⟩ := h
  have e0 : u1 r k v 0 = r 0 := u1_n (by omega)
  unfold WB
  rw [e0, u1_n (show ¬ (5 : Int) = k by omega)]
  refine ⟨a1, fun i i0 i1 => by rw [u1_n (by omega)]; exact a2 i i0 i1, acy_ext a3 a2 (fun i i0 i1 => u1_n (show ¬ 60 + i = k by omega)), a4, fun i i0 i1 => ?_, fun i d i0 i1 d0 d1 => ?_, fun i i0 i1 => ?_⟩
  · by_cases e : 260 + i = k
    · rw [e, u1_s]; exact h2 (by omega)
    · rw [u1_n e]; exact a5 i i0 i1
  · by_cases e : 460 + 8 * i + d = k
    · rw [e, u1_s]; exact h2 (by omega)
    · rw [u1_n e]; exact a6 i d i0 i1 d0 d1
  · by_cases e : 100 + i = k
    · rw [e, u1_s]; exact h1 (by omega)
    · rw [u1_n e]; exact a7 i i0 i1
/-- a budget -/
theorem WBF_220 {r : Int → Int} (h : WBF r) (hv : 0 ≤ v ∧ v ≤ 9) : WBF (u1 r 220 v) := by
  have hb0 := h.1
  have hM := hb0.1
  obtain ⟨-, ⟨s1, s2⟩, hSR, ⟨x1, x2⟩, hL, hN, hH, hC, hB⟩ := h
  have e : ∀ k, ¬ k = 220 → u1 r 220 v k = r k := fun k hk => u1_n hk
  have e0 : u1 r 220 v 0 = r 0 := e 0 (by omega)
  have e1 : u1 r 220 v 1 = r 1 := e 1 (by omega)
  have est : ∀ i, 0 ≤ i → i < r 0 → u1 r 220 v (140 + i) = r (140 + i) := fun i i0 i1 => e _ (by omega)
  refine ⟨WB_eq hb0 (fun j hj => e j (by omega)), ⟨?_, by rw [e 140 (by omega)]; exact s2⟩, ?_, ⟨by rw [e1]; exact x1, ?_⟩, ?_, ?_, ?_, ?_, ?_⟩
  · intro i i0 i1
    rw [e0] at i1
    rw [est i i0 i1]
    exact s1 i i0 i1
  · intro i i0 i1 i2
    rw [e0] at i1
    rw [est i (by omega) i1] at i2
    rw [e (60 + i) (by omega)]
    have := hb0.2.1 i i0 i1
    rw [est _ this.1 this.2]
    exact hSR i i0 i1 i2
  · intro k k0 k1
    rw [e1] at k1
    rw [e _ (by omega), e0]
    exact x2 k k0 k1
  · intro i i0 i1 i2
    rw [e0] at i1
    rw [est i i0 i1] at i2
    obtain ⟨k, k0, k1, k2⟩ := hL i i0 i1 i2
    exact ⟨k, k0, by rw [e1]; exact k1, by rw [e _ (by omega)]; exact k2⟩
  · show u1 r 220 v 1 = _
    rw [e1, cn_eq_st e0 hM.2 (fun k k0 k1 => e k (by omega))]
    exact hN
  · intro j d0 d1
    have := hH j d0 d1
    rw [e (11 + j) (by omega), e0, est _ this.1 this.2.1]
    exact this
  · intro i i0 i1 i2
    rw [e0] at i1
    rw [est i i0 i1] at i2
    rw [e _ (by omega)]
    exact hC i i0 i1 i2
  · intro i i0 i1
    rw [e0] at i1
    by_cases z : 220 + i = 220
    · rw [z, u1_s]; exact hv
    · rw [e _ z]
      exact hB i i0 i1
theorem rs_root (h : RD g G) : RS g G (fM_readRoot G 624) := by
  rw [fM_readRoot]
  refine RS_once h (Int.le_refl _) (fun K hK eK pK => RS_takes hK (by omega) pK (fun L hL eL bL _ pL => RS_takes hL (by omega) pL (fun J hJ eJ bJ oJ pJ => ?_)))
  have j0 := hJ.1.1.1
  have j20 : J 624 20 = 632 := hJ.1.1.2.2.2.2.2.2.1
  rw [← oJ 0 (by omega)] at bL
  have r1 := RD_row (k := 100) (v := J 632 0) hJ (WBF_pl hJ.1.2.1 (WB_pl hJ.1.2.1.1 (by omega) (fun _ => bL) (fun z => by omega)) (by omega)) (by omega) (by omega)
  have q0 := r1.1.1.1
  have q20 : pU J 625 100 (J 632 0) 624 20 = 632 := r1.1.1.2.2.2.2.2.2.1
  have q32 : pU J 625 100 (J 632 0) 632 = J 632 := pU_n (by omega)
  have p2 : G 624 15 ≤ pU J 625 100 (J 632 0) 624 15 := by rw [pU_n (by omega)]; exact pJ
  simp (disch := omega) only [j0, j20, kd_625, sz_625, kd_632, sz_632, true_and, le_t, lt_t, and_true, ↓reduceIte, bnd_s]
  generalize pU J 625 100 (J 632 0) = Q at *
  simp (disch := omega) only [q0, q20, kd_625, sz_625, kd_632, sz_632, true_and, le_t, lt_t, and_true, ↓reduceIte, bnd_s]
  exact RD_pos (RD_row r1 (WBF_220 r1.1.2.1 (by rw [q32]; exact bJ)) (by omega) (by omega)) p2 rfl
end MODEL29
