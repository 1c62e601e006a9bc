/-! ===== the class: its output (own work) ===== -/
section CLS10
variable {g g' G H K : gH} {T S i j k a b c v w d o p q r s m x y : Int}
/-- only the output is written -/
def OO (g G : gH) : Prop := (∀ x, ¬ (x = 622 ∨ x = 623) → G x = g x) ∧ G 622 0 = 623
theorem OO_t (h1 : OO g G) (h2 : OO G H) : OO g H := ⟨fun x hx => (h2.1 x hx).trans (h1.1 x hx), h2.2⟩
theorem OO_w (h : OO g G) (hab : (a = 622 ∧ ¬ b = 0) ∨ a = 623) : OO g (pU G a b v) := by
  refine ⟨fun x hx => (pU_n (by omega)).trans (h.1 x hx), ?_⟩
  unfold pU
  rw [if_neg (by omega)]
  exact h.2
theorem OO_T (h : OO g G) (hT : isT T) (ht : TI g T) : TI G T := by
  have o := out_Ts T hT
  exact TI_F ht (fun x x0 x1 => h.1 x (by omega))
theorem OO_p (h : OO g G) (hT : isT T) (hp : Pa T c) : G c = g c := by
  have o := out_Ts T hT
  have b := Pa_b hp
  exact h.1 c (by omega)
theorem CO_OO (h : CO g G) (ho : OO G H) : CO g H := by
  obtain ⟨⟨⟨h1, h2, h3, h4, h5, h6, h7⟩, ht, hl⟩, hx, h8⟩ := h
  have e := ho.1
  have e0 := e 0 (by omega)
  have e133 := e 133 (by omega)
  have e134 := e 134 (by omega)
  have e575 := e 575 (by omega)
  have e576 := e 576 (by omega)
  refine ⟨⟨⟨by rw [e0]; exact h1, by rw [e133]; exact h2, by rw [e134]; exact h3, by rw [e575]; exact h4, by rw [e575]; exact h5, by rw [e576]; exact h6, ho.2⟩, fun S hS => OO_T ho hS (ht S hS), by rw [e576]; exact hl⟩, fun x x0 => (e x (by omega)).trans (hx x x0), by rw [e576]; exact h8⟩
theorem kd_622 : kd 622 = 2 := by decide +kernel
theorem kd_623 : kd 623 = 21 := by decide +kernel
theorem sz_623 : sz 623 = 300 := by decide +kernel
theorem tO_putSign (h : OO g G) : WN (fun _ H => OO g H) (fO_putSign G 622 v) := by
  rw [fO_putSign, h.2]
  refine W_ite (fun _ => WN_i h) (fun _ => W_ite (fun _ => ?_) (fun _ => WN_i h))
  rw [if_pos ⟨kd_623, by omega, by rw [sz_623]; omega⟩, bnd_s, bnd_s]
  exact WN_i (OO_w (OO_w h (by omega)) (by omega))
theorem tO_putNumber (h : OO g G) (hv : 0 ≤ v ∧ v < 2147483648) : WN (fun _ H => OO g H) (fO_putNumber G 622 v) := by
  have l : ∀ G, OO g G → WN (fun _ H => OO g H) (jO_putNumber_18 G 622 v) := by
    intro G h
    have dv : 0 ≤ v / 10 ∧ v / 10 < 2147483648 := by omega
    rw [jO_putNumber_18]
    simp only [show ((1 : Int) ≤ 10 ∧ (10 : Int) < 2147483648 ∧ 0 ≤ v ∧ v < 2147483648) = True by simp; omega, show ((1 : Int) ≤ 10 ∧ (10 : Int) < 2147483648 ∧ 0 ≤ v / 10 ∧ v / 10 < 2147483648) = True by simp; omega, if_true]
    exact W_ite (fun _ => W_bdN (tO_putSign h) (fun _ A hA => WN_i hA)) (fun _ => W_bdN (tO_putSign h) (fun _ A hA => W_bdN (tO_putSign hA) (fun _ B hB => WN_i hB)))
  rw [fO_putNumber]
  refine W_ite (fun _ => l G h) (fun _ => ?_)
  rw [if_pos (by omega)]
  exact W_bdN (tO_putSign h) (fun _ A hA => l A hA)
theorem tO_putComma (h : OO g G) : WN (fun _ H => OO g H) (fO_putComma G 622) := by
  rw [fO_putComma]
  exact W_ite (fun _ => W_bdN (tO_putSign h) (fun _ A hA => WN_i hA)) (fun _ => WN_i h)
theorem num_ (ht : TI g T) (hp : Pa T c) : 0 ≤ g c 0 ∧ g c 0 < 2147483648 := by
  obtain ⟨i, hi, rfl⟩ := hp
  rw [TS_n ht.1 hi]
  omega
theorem tO_putPath (ht : TI g T) (hT : isT T) (h : OO g G) (hp : Pa T c) : WN (fun _ H => OO g H) (fO_putPath G 622 c) := by
  have hfu := fu_ge
  rw [fO_putPath, if_pos (Pa_kd hT hp)]
  refine W_bdP (tP_countAbove (OO_T h hT ht) hT hp) (fun v hv => ?_)
  refine W_loop (W := WN (fun _ G => OO g G)) (fun n (a : Int × gH) => lO_putPath_5 622 c n a.1 a.2) (fun a => a.1.toNat) (fun a => (0 ≤ a.1 ∧ a.1 ≤ 40) ∧ OO g a.2) ?_ fu (v, G) ⟨by dsimp only; omega, h⟩ (by dsimp only; omega)
  clear h
  rintro n ⟨u, G⟩ hI ih
  have u0 : 0 ≤ u := hI.1.1
  have u1 : u ≤ 40 := hI.1.2
  have h : OO g G := hI.2
  have hg := OO_T h hT ht
  show WN _ (bO_putPath_5 622 c (lO_putPath_5 622 c n) u G)
  rw [bO_putPath_5]
  refine W_ite (fun hu => ?_) (fun _ => ?_)
  · have l38 : ∀ e, Pa T e → WN (fun _ H => OO g H) (jO_putPath_38 (lO_putPath_5 622 c n) G 622 c u e) := by
      intro e he
      rw [jO_putPath_38, if_pos (Pa_kd hT he)]
      refine W_bdN (tO_putNumber h (num_ hg he)) (fun _ A hA => W_bdN (tO_putSign hA) (fun _ B hB => ?_))
      rw [w32_r (by omega)]
      exact ih (u + (-1), B) ⟨by dsimp only; omega, hB⟩ (by dsimp only; omega)
    refine W_loop (W := WN (fun _ G => OO g G)) (fun m (a : Int × Int) => lO_putPath_14 (lO_putPath_5 622 c n) G 622 c u m a.1 a.2) (fun a => (u - a.2).toNat) (fun a => Pa T a.1 ∧ 0 ≤ a.2) ?_ fu (c, 0) ⟨hp, by dsimp only; omega⟩ (by dsimp only; omega)
    rintro m ⟨e, j⟩ hJ jh
    have he : Pa T e := hJ.1
    have j0 : 0 ≤ j := hJ.2
    show WN _ (bO_putPath_14 (lO_putPath_5 622 c n) G 622 c u (lO_putPath_14 (lO_putPath_5 622 c n) G 622 c u m) e j)
    rw [bO_putPath_14]
    refine W_ite (fun hj => ?_) (fun _ => l38 e he)
    rw [if_pos (Pa_kd hT he)]
    refine W_ite (fun _ => l38 e he) (fun hn => ?_)
    rw [w32_r (by omega)]
    refine jh (G e 2, j + 1) ⟨?_, by dsimp only; omega⟩ (by dsimp only; omega)
    rcases sup_a hg he with z | z
    · exact absurd (by omega) hn
    · exact z
  · rw [if_pos (Pa_kd hT hp)]
    exact W_bdN (tO_putNumber h (num_ hg hp)) (fun _ A hA => WN_i hA)
theorem tO_putChildren (ht : TI g T) (hT : isT T) (h : OO g G) : WN (fun _ H => OO g H) (fO_putChildren G 622 T c) := by
  have hfu := fu_ge
  rw [fO_putChildren, if_pos (kdT hT), TS_1 (OO_T h hT ht).1, if_pos (kdT2 hT), szT2 hT]
  refine W_loop (W := WN (fun _ G => OO g G)) (fun n (a : Int × gH) => lO_putChildren_12 622 c (T + 2) 40 n a.1 a.2) (fun a => (40 - a.1).toNat) (fun a => (0 ≤ a.1 ∧ a.1 ≤ 40) ∧ OO g a.2) ?_ fu (0, G) ⟨by dsimp only; omega, h⟩ (by dsimp only; omega)
  clear h
  rintro n ⟨k, G⟩ hI ih
  have k0 : 0 ≤ k := hI.1.1
  have h : OO g G := hI.2
  have hg := OO_T h hT ht
  show WN _ (bO_putChildren_12 622 c (T + 2) 40 (lO_putChildren_12 622 c (T + 2) 40 n) k G)
  rw [bO_putChildren_12]
  refine W_ite (fun hk => ?_) (fun _ => WN_i h)
  have hk : 0 ≤ k ∧ k < 40 := ⟨k0, hk⟩
  have pa : Pa T (pc T k) := ⟨k, hk, rfl⟩
  have nx : ∀ G', OO g G' → WN (fun _ G => OO g G) (lO_putChildren_12 622 c (T + 2) 40 n (w32 (k + 1)) G') := fun G' h1 => by rw [w32_r (by omega)]; exact ih (k + 1, G') ⟨by dsimp only; omega, h1⟩ (by dsimp only; omega)
  simp only [TS_p hg.1 hk, kdp hT hk, kdT2 hT, szT2 hT, hk.1, hk.2, if_true, true_and, and_self]
  exact W_bdP tP_isRunningChildOf (fun _ _ => W_ite (fun _ => nx _ h) (fun _ => W_bdN (tO_putComma h) (fun _ A hA => W_bdN (tO_putNumber hA (num_ (OO_T hA hT ht) pa)) (fun _ B hB => nx B hB))))
theorem tT_dutiesOf (h : TI g T) (hT : isT T) (hp : Pa T c) : WP (fun _ => True) (fT_dutiesOf g T c) := by
  have hfu := fu_ge
  rw [fT_dutiesOf]
  refine W_loop (W := WP (fun _ => True)) (fun n (a : Int × Int) => lT_dutiesOf_4 g T c n a.1 a.2) (fun a => (8 - a.2).toNat) (fun a => (0 ≤ a.2 ∧ a.2 ≤ 8)) ?_ fu (0, 0) (by dsimp only; omega) (by dsimp only; omega)
  rintro n ⟨x, i⟩ hI ih
  have i0 : 0 ≤ i := hI.1
  show WP _ (bT_dutiesOf_4 g T c (lT_dutiesOf_4 g T c n) x i)
  rw [bT_dutiesOf_4]
  refine W_ite (fun hi => ?_) (fun _ => WP_i trivial)
  have nx : ∀ x', WP (fun _ => True) (lT_dutiesOf_4 g T c n x' (w32 (i + 1))) := fun x' => by rw [w32_r (by omega)]; exact ih (x', i + 1) (by dsimp only; omega) (by dsimp only; omega)
  rw [TS_2 h.1, if_pos ⟨kdT3 hT, i0, by rw [szT3 hT]; exact hi⟩, if_pos (Pa_kd hT hp)]
  exact W_ite (fun _ => nx _) (fun _ => nx _)
theorem tP_willMask : WP (fun _ => True) (fP_willMask g c) := by
  have hfu := fu_ge
  rw [fP_willMask]
  refine W_loop (W := WP (fun _ => True)) (fun n (a : Int × Int) => lP_willMask_4 g c n a.1 a.2) (fun a => (8 - a.2).toNat) (fun a => (0 ≤ a.2 ∧ a.2 ≤ 8)) ?_ fu (0, 0) (by dsimp only; omega) (by dsimp only; omega)
  rintro n ⟨x, i⟩ hI ih
  have i0 : 0 ≤ i := hI.1
  show WP _ (bP_willMask_4 g c (lP_willMask_4 g c n) x i)
  rw [bP_willMask_4]
  refine W_ite (fun hi => ?_) (fun _ => WP_i trivial)
  have nx : ∀ x', WP (fun _ => True) (lP_willMask_4 g c n x' (w32 (i + 1))) := fun x' => by rw [w32_r (by omega)]; exact ih (x', i + 1) (by dsimp only; omega) (by dsimp only; omega)
  exact W_bdP tP_willFor (fun _ _ => W_ite (fun _ => nx _) (fun _ => nx _))
theorem tO_putDuties (ht : TI g T) (hT : isT T) (h : OO g G) (hp : Pa T c) : WN (fun _ H => OO g H) (fO_putDuties G 622 T c) := by
  have hfu := fu_ge
  rw [fO_putDuties, if_pos (kdT hT)]
  refine W_bdP (tT_dutiesOf (OO_T h hT ht) hT hp) (fun y _ => ?_)
  refine W_loop (W := WN (fun _ G => OO g G)) (fun n (a : Int × gH) => lO_putDuties_9 622 y n a.1 a.2) (fun a => (8 - a.1).toNat) (fun a => (0 ≤ a.1 ∧ a.1 ≤ 8) ∧ OO g a.2) ?_ fu (0, G) ⟨by dsimp only; omega, h⟩ (by dsimp only; omega)
  clear h
  rintro n ⟨k, G⟩ hI ih
  have k0 : 0 ≤ k := hI.1.1
  have h : OO g G := hI.2
  show WN _ (bO_putDuties_9 622 y (lO_putDuties_9 622 y n) k G)
  rw [bO_putDuties_9]
  refine W_ite (fun hk => ?_) (fun _ => WN_i h)
  have nx : ∀ G', OO g G' → WN (fun _ G => OO g G) (lO_putDuties_9 622 y n (w32 (k + 1)) G') := fun G' h1 => by rw [w32_r (by omega)]; exact ih (k + 1, G') ⟨by dsimp only; omega, h1⟩ (by dsimp only; omega)
  exact W_ite (fun _ => nx _ h) (fun _ => W_bdN (tO_putNumber h (by omega)) (fun _ A hA => nx _ hA))
theorem tO_putZombies (ht : TI g T) (hT : isT T) (h : OO g G) : WN (fun _ H => OO g H) (fO_putZombies G 622 T c) := by
  have hfu := fu_ge
  rw [fO_putZombies, if_pos (kdT hT)]
  refine W_bdP (tT_zombieBehind (OO_T h hT ht) hT) (fun y hy => ?_)
  refine W_loop (W := WN (fun _ G => OO g G)) (fun n (a : Int × Int × gH) => lO_putZombies_10 622 T c n a.1 a.2.1 a.2.2) (fun a => (40 - a.2.1).toNat) (fun a => (0 ≤ a.2.1 ∧ a.2.1 ≤ 40) ∧ OO g a.2.2 ∧ (a.1 = -1 ∨ (Pa T a.1 ∧ a.2.2 a.1 1 = 1))) ?_ fu (y, 0, G) ⟨by dsimp only; omega, h, hy⟩ (by dsimp only; omega)
  clear h hy
  rintro n ⟨z, k, G⟩ hI ih
  have k0 : 0 ≤ k := hI.1.1
  have h : OO g G := hI.2.1
  have hz : z = -1 ∨ (Pa T z ∧ G z 1 = 1) := hI.2.2
  show WN _ (bO_putZombies_10 622 T c (lO_putZombies_10 622 T c n) z k G)
  rw [bO_putZombies_10]
  refine W_ite (fun hk => W_ite (fun _ => WN_i h) (fun hn => ?_)) (fun _ => WN_i h)
  have hz : Pa T z ∧ G z 1 = 1 := by
    rcases hz with e | e
    · exact absurd (by omega) hn
    · exact e
  refine W_bdN (tO_putComma h) (fun _ A hA => ?_)
  rw [if_pos (Pa_kd hT hz.1)]
  refine W_bdN (tO_putNumber hA (num_ (OO_T hA hT ht) hz.1)) (fun _ B hB => W_bdN (tO_putSign hB) (fun _ C hC => ?_))
  have hc : 0 ≤ C z 9 ∧ C z 9 < 2147483648 := by
    rw [OO_p hC hT hz.1, ← OO_p h hT hz.1]
    obtain ⟨⟨i, hi, e⟩, z1⟩ := hz
    rw [e] at z1 ⊢
    exact (OO_T h hT ht).2.2.2.2.2.2 i hi.1 hi.2 z1
  refine W_bdN (tO_putNumber hC hc) (fun _ D hD => ?_)
  rw [if_pos (kdT hT)]
  refine W_bdP (tT_zombieBehind (OO_T hD hT ht) hT) (fun y hy => ?_)
  rw [w32_r (by omega)]
  exact ih (y, k + 1, D) ⟨by dsimp only; omega, hD, hy⟩ (by dsimp only; omega)
theorem tC_putBranch (ht : TI g T) (hT : isT T) : ∀ (n : Nat) (l c : Int) (G : gH), OO g G → Pa T c → 0 ≤ l → (41 - l).toNat < n → WN (fun _ H => OO g H) (fC_putBranch n G 622 T c l) := by
  have hfu := fu_ge
  intro n
  induction n with
  | zero => intro l c G _ _ _ h; exact absurd h (by omega)
  | succ n ih0 =>
    intro l c G h hp hl hn
    show WN _ (fbC_putBranch (fC_putBranch n) G 622 T c l)
    rw [fbC_putBranch, if_pos (Pa_kd hT hp), if_pos kd_622]
    refine W_bdN (tO_putNumber h (num_ (OO_T h hT ht) hp)) (fun _ A hA => W_ite (fun _ => WN_i hA) (fun _ => W_ite (fun hl2 => ?_) (fun _ => WN_i hA)))
    rw [if_pos (kdT hT), TS_1 (OO_T hA hT ht).1, if_pos (kdT2 hT), szT2 hT]
    refine W_loop (W := WN (fun _ G => OO g G)) (fun m (a : Int × Int × gH) => lC_putBranch_40 (fC_putBranch n) 622 T c l (T + 2) 40 m a.1 a.2.1 a.2.2) (fun a => (40 - a.2.1).toNat) (fun a => (0 ≤ a.2.1 ∧ a.2.1 ≤ 40) ∧ OO g a.2.2) ?_ fu (40, 0, A) ⟨by dsimp only; omega, hA⟩ (by dsimp only; omega)
    clear h hA
    rintro m ⟨x, k, G⟩ hI ih
    have k0 : 0 ≤ k := hI.1.1
    have h : OO g G := hI.2
    have hg := OO_T h hT ht
    show WN _ (bC_putBranch_40 (fC_putBranch n) 622 T c l (T + 2) 40 (lC_putBranch_40 (fC_putBranch n) 622 T c l (T + 2) 40 m) x k G)
    rw [bC_putBranch_40]
    simp only [kd_622, if_true]
    refine W_ite (fun hk => ?_) (fun hk => ?_)
    case' refine_2 =>
      obtain ⟨v', A, e, hA⟩ := tO_putSign (v := 41) h
      rw [e, bdN_s]
      exact WN_i hA
    have hk : 0 ≤ k ∧ k < 40 := ⟨k0, hk⟩
    have pa : Pa T (pc T k) := ⟨k, hk, rfl⟩
    have nx : ∀ x' G', OO g G' → WN (fun _ G => OO g G) (lC_putBranch_40 (fC_putBranch n) 622 T c l (T + 2) 40 m x' (w32 (k + 1)) G') := fun x' G' h1 => by rw [w32_r (by omega)]; exact ih (x', k + 1, G') ⟨by dsimp only; omega, h1⟩ (by dsimp only; omega)
    simp only [TS_p hg.1 hk, kdp hT hk, kdT2 hT, szT2 hT, hk.1, hk.2, kd_622, if_true, true_and, and_self]
    refine W_bdP tP_isRunningChildOf (fun _ _ => W_ite (fun _ => nx _ _ h) (fun _ => ?_))
    refine W_bdN (tO_putSign h) (fun _ B hB => ?_)
    rw [w32_r (x := l + 1) (by omega)]
    exact W_bdN (ih0 (l + 1) _ B hB pa (by omega) (by omega)) (fun _ C hC => nx _ _ hC)
end CLS10
