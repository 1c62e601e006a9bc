/-! ===== the class's questions, as the row answers them (own work) ===== -/
section PAR20
variable {g g' G H K : gH} {r r' dm : Int → Int} {a b c d e i j k l m n o p q s t u v w wo x y z S : Int}
/-- the count of the root's adoptions is a number; the root has no supervisor -/
def LR (r : Int → Int) : Prop := (InR (r 3) ∧ r 380 = 0) ∧ r 60 = -1
theorem LR_e (h : LR r) (e3 : r' 3 = r 3) (e60 : r' 60 = r 60) (e380 : r' 380 = r 380) : LR r' := ⟨by rw [e3, e380]; exact h.1, by rw [e60]; exact h.2⟩
/-- a tree that stands, its row, the marks of doom -/
def QQ (S : Int) (G : gH) (r dm : Int → Int) : Prop := isT S ∧ TI G S ∧ WB r ∧ CP S G r ∧ (∀ i, 0 ≤ i → i < 40 → G (pc S i) 13 = dm i) ∧ LR r
theorem QQ_0 (h : QQ S G r dm) : G S 5 = r 0 := h.2.2.2.1.1.1
theorem QQ_b (h : QQ S G r dm) : 1 ≤ r 0 ∧ r 0 ≤ 40 := h.2.2.1.1
theorem QQ_pe (h : QQ S G r dm) (hi : 0 ≤ i ∧ i < r 0) : PE (G (pc S i)) r i := h.2.2.2.1.2.2.2.1 i hi.1 hi.2
theorem QQ_st (h : QQ S G r dm) (hi : 0 ≤ i ∧ i < r 0) : G (pc S i) 1 = r (140 + i) := (QQ_pe h hi).1.1
theorem QQ_out (h : QQ S G r dm) (hi : r 0 ≤ i ∧ i < 40) : G (pc S i) 1 = 3 := h.2.2.2.1.2.2.2.2.2.1 i hi.1 hi.2
theorem QQ_rg (h : QQ S G r dm) (hi : 0 < i ∧ i < r 0) : 0 ≤ up r i ∧ up r i < r 0 := h.2.2.1.2.1 i hi.1 hi.2
theorem QQ_up (h : QQ S G r dm) (hi : 0 < i ∧ i < r 0) : G (pc S i) 2 = pc S (up r i) := h.2.2.2.1.2.2.2.2.1 i (by omega) hi.2
theorem QQ_top (h : QQ S G r dm) : G (pc S 0) 2 = -1 := h.2.1.2.2.1
theorem QQ_o2 (h : QQ S G r dm) (hi : r 0 ≤ i ∧ i < 40) : G (pc S i) 2 = -1 := h.2.1.2.2.2.1 i (by rw [QQ_0 h]; exact hi.1) hi.2
theorem QQ_sp (h : QQ S G r dm) (hi : 0 < i ∧ i < r 0) : sp G S i = up r i := by
  unfold sp
  rw [QQ_up h hi, ix_pc (QQ_rg h hi).1]
theorem QQ_en (h : QQ S G r dm) (hi : 0 ≤ i ∧ i < r 0) : en (up r) 40 i = true := h.2.2.1.2.2.1 i hi.1 hi.2
theorem dp_ext {f f' : Int → Int} (hcl : ∀ i, 0 < i → i < m → 0 ≤ f i ∧ f i < m) (he : ∀ i, 0 < i → i < m → f' i = f i) : ∀ (n : Nat) (i : Int), 0 ≤ i → i < m → dp f' n i = dp f n i := by
  intro n
  induction n with
  | zero => intro i _ _; rfl
  | succ n ih =>
    intro i i0 i1
    show (if i = 0 then 0 else 1 + dp f' n (f' i)) = if i = 0 then 0 else 1 + dp f n (f i)
    by_cases e : i = 0
    · rw [if_pos e, if_pos e]
    · have := hcl i (by omega) i1
      rw [if_neg e, if_neg e, he i (by omega) i1, ih _ this.1 this.2]
theorem QQ_OV (h : QQ S G r dm) (hi : 0 ≤ i ∧ i < r 0) : OV (sp G S) p i = OV (up r) p i :=
  ov_ext (m := r 0) (fun j j0 j1 => QQ_rg h ⟨j0, j1⟩) (fun j j0 j1 => QQ_sp h ⟨j0, j1⟩) 40 i hi.1 hi.2
theorem QQ_DP (h : QQ S G r dm) (hi : 0 ≤ i ∧ i < r 0) : DP (sp G S) i = DP (up r) i :=
  dp_ext (m := r 0) (fun j j0 j1 => QQ_rg h ⟨j0, j1⟩) (fun j j0 j1 => QQ_sp h ⟨j0, j1⟩) 40 i hi.1 hi.2
/-! one process -/
theorem qP_mortal (h : QQ S G r dm) (hi : 0 ≤ i ∧ i < 40) : fP_isMortal G (pc S i) = some (if (0 < i ∧ i < r 0) ∧ r (140 + i) = 0 then 1 else 0) := by
  rw [fP_isMortal]
  by_cases h1 : i < r 0
  · rw [QQ_st h ⟨hi.1, h1⟩]
    by_cases h2 : r (140 + i) = 0
    · rw [if_pos h2]
      by_cases h3 : i = 0
      · subst h3
        rw [QQ_top h, if_pos (by omega), if_neg (by omega)]
      · have hb := QQ_b h
        have hr := QQ_rg h (i := i) (by omega)
        rw [QQ_up h (by omega), if_neg (pc_pos h.1 (by omega)), if_pos ⟨by omega, h2⟩]
    · rw [if_neg h2, if_neg (fun z => h2 z.2)]
  · rw [QQ_out h (by omega), if_neg (by omega), if_neg (by omega)]
theorem qP_child (h : QQ S G r dm) (hi : 0 ≤ i ∧ i < 40) (ha : 0 ≤ a ∧ a < 40) : fP_isRunningChildOf G (pc S i) (pc S a) = some (if i < r 0 ∧ ic r i a 0 = true then 1 else 0) := by
  rw [fP_isRunningChildOf]
  by_cases h1 : i < r 0
  · rw [QQ_st h ⟨hi.1, h1⟩]
    by_cases h2 : r (140 + i) = 0
    · rw [if_pos h2]
      by_cases h3 : i = 0
      · subst h3
        have := pc_pos h.1 ha
        rw [QQ_top h, if_neg (by omega), if_neg (fun z => (ic_t.mp z.2).2.2 rfl)]
      · have hb := QQ_b h
        have hr := QQ_rg h (i := i) (by omega)
        rw [QQ_up h (by omega)]
        by_cases h4 : up r i = a
        · rw [if_pos (by rw [h4]), if_pos ⟨h1, ic_t.mpr ⟨h2, h4, h3⟩⟩]
        · rw [if_neg (fun z => h4 (pc_inj hr.1 ha.1 z)), if_neg (fun z => h4 (ic_t.mp z.2).2.1)]
    · rw [if_neg h2, if_neg (fun z => h2 (ic_t.mp z.2).1)]
  · rw [QQ_out h (by omega), if_neg (by omega), if_neg (fun z => h1 z.1)]
theorem qP_zombie (h : QQ S G r dm) (hi : 0 ≤ i ∧ i < 40) (ha : 0 ≤ a ∧ a < 40) : fP_isZombieOf G (pc S i) (pc S a) = some (if i < r 0 ∧ ic r i a 1 = true then 1 else 0) := by
  rw [fP_isZombieOf]
  by_cases h1 : i < r 0
  · rw [QQ_st h ⟨hi.1, h1⟩]
    by_cases h2 : r (140 + i) = 1
    · rw [if_pos h2]
      by_cases h3 : i = 0
      · subst h3
        have := pc_pos h.1 ha
        rw [QQ_top h, if_neg (by omega), if_neg (fun z => (ic_t.mp z.2).2.2 rfl)]
      · have hb := QQ_b h
        have hr := QQ_rg h (i := i) (by omega)
        rw [QQ_up h (by omega)]
        by_cases h4 : up r i = a
        · rw [if_pos (by rw [h4]), if_pos ⟨h1, ic_t.mpr ⟨h2, h4, h3⟩⟩]
        · rw [if_neg (fun z => h4 (pc_inj hr.1 ha.1 z)), if_neg (fun z => h4 (ic_t.mp z.2).2.1)]
    · rw [if_neg h2, if_neg (fun z => h2 (ic_t.mp z.2).1)]
  · rw [QQ_out h (by omega), if_neg (by omega), if_neg (fun z => h1 z.1)]
theorem qP_inherit (h : QQ S G r dm) (hi : 0 ≤ i ∧ i < r 0) : fP_canInherit G (pc S i) = some (if r (140 + i) = 0 ∧ dm i = 0 then 1 else 0) := by
  rw [fP_canInherit, QQ_st h hi, h.2.2.2.2.1 i hi.1 (by have := QQ_b h; omega)]
  by_cases h1 : r (140 + i) = 0
  · rw [if_pos h1]
    by_cases h2 : dm i = 0
    · rw [if_pos h2, if_pos ⟨h1, h2⟩]
    · rw [if_neg h2, if_neg (fun z => h2 z.2)]
  · rw [if_neg h1, if_neg (fun z => h1 z.1)]
theorem qP_refuses (h : QQ S G r dm) (hi : 0 ≤ i ∧ i < r 0) : fP_refuses G (pc S i) v = some (if rfs r i v = true then 1 else 0) := by
  have hb := bit1 (opI 5 (r (340 + i)) v)
  rw [fP_refuses, (QQ_pe h hi).1.2.2.2.2.2.1]
  by_cases c : opI 1 (opI 5 (r (340 + i)) v) 1 = 1
  · rw [if_neg (by omega), if_pos (show rfs r i v = true from decide_eq_true c)]
  · rw [if_pos (by omega), if_neg (show ¬ rfs r i v = true from fun z => c (of_decide_eq_true z))]
theorem qP_room (h : QQ S G r dm) (hi : 0 ≤ i ∧ i < r 0) : fP_room G (pc S i) = some (room r i) := vP_room (QQ_pe h hi) (h.2.2.1.2.2.2.2.2.2 i hi.1 hi.2)
theorem qP_above (h : QQ S G r dm) (hi : 0 ≤ i ∧ i < r 0) : fP_countAbove G (pc S i) = some (DP (up r) i) := by
  have hb := QQ_b h
  rw [vP_countAbove h.2.1 h.1 (by omega), if_pos (by rw [QQ_0 h]; exact hi.2), QQ_DP h hi]
theorem qP_over (h : QQ S G r dm) (hq : 0 ≤ q) (hi : 0 ≤ i ∧ i < r 0) : fP_isOver G (pc S q) (pc S i) = some (if OV (up r) q i = true then 1 else 0) := by
  have hb := QQ_b h
  rw [vP_isOver h.2.1 h.1 hq (by omega), QQ_0 h, QQ_OV h hi]
  by_cases c : OV (up r) q i = true
  · rw [if_pos ⟨hi.2, c⟩, if_pos c]
  · rw [if_neg (fun z => c z.2), if_neg c]
theorem canA_t : canA r dm p o = true ↔ (r (140 + p) = 0 ∧ ¬ p = o ∧ ¬ OV (up r) o p = true ∧ dm p = 0 ∧ 0 < room r p ∧ DP (up r) p < r 59 ∧ ¬ rfs r p (r (180 + o)) = true) := by
  unfold canA
  simp only [Bool.and_eq_true, Bool.not_eq_true', decide_eq_true_eq, decide_eq_false_iff_not, Bool.not_eq_true]
/-- who can adopt -/
theorem qT_can (h : QQ S G r dm) (hi : 0 ≤ i ∧ i < 40) (ho : 0 ≤ o ∧ o < r 0) : fT_canAdopt G S (pc S i) (pc S o) = some (if (0 < i ∧ i < r 0) ∧ canA r dm i o = true then 1 else 0) := by
  have hb := QQ_b h
  rw [fT_canAdopt, if_pos (kdp h.1 hi), qP_mortal h hi, bdP_s]
  by_cases h1 : (0 < i ∧ i < r 0) ∧ r (140 + i) = 0
  · have hi' : 0 ≤ i ∧ i < r 0 := by omega
    rw [if_pos h1, if_neg f0, h.2.2.2.2.1 i hi.1 hi.2]
    have rb := room_bd h.2.2.1 hi'
    by_cases h2 : dm i = 0
    · rw [if_pos h2]
      by_cases h3 : i = o
      · rw [if_pos (by rw [h3]), if_neg (fun z => (canA_t.mp z.2).2.1 h3)]
      · rw [if_neg (fun z => h3 (pc_inj hi.1 ho.1 z)), if_pos (kdp h.1 (by omega)), (QQ_pe h ho).1.2.2.1, qP_refuses h hi', bdP_s]
        by_cases h4 : rfs r i (r (180 + o)) = true
        · rw [if_pos h4, if_neg f0, if_neg (fun z => (canA_t.mp z.2).2.2.2.2.2.2 h4)]
        · rw [if_neg h4, if_pos rfl, qP_room h hi', bdP_s]
          by_cases h5 : room r i = 0
          · rw [if_pos h5, if_neg (fun z => by have := (canA_t.mp z.2).2.2.2.2.1; omega)]
          · rw [if_neg h5, qP_above h hi', bdP_s, h.2.2.2.1.1.2.2.2.2.2]
            by_cases h6 : DP (up r) i < r 59
            · rw [if_pos h6, qP_over h ho.1 hi', bdP_s]
              by_cases h7 : OV (up r) o i = true
              · rw [if_pos h7, if_neg f0, if_neg (fun z => (canA_t.mp z.2).2.2.1 h7)]
              · rw [if_neg h7, if_pos rfl, if_pos ⟨h1.1, canA_t.mpr ⟨h1.2, h3, h7, h2, by omega, h6, h4⟩⟩]
            · rw [if_neg h6, if_neg (fun z => h6 (canA_t.mp z.2).2.2.2.2.2.1)]
    · rw [if_neg h2, if_neg (fun z => h2 (canA_t.mp z.2).2.2.2.1)]
  · rw [if_neg h1, if_pos rfl, if_neg (fun z => h1 ⟨z.1, (canA_t.mp z.2).1⟩)]
/-- a process or none -/
def pcx (S x : Int) : Int := if x < 0 then -1 else pc S x
theorem pcx_n : pcx S (-1) = -1 := if_pos (by omega)
theorem pcx_p (h : 0 ≤ x) : pcx S x = pc S x := if_neg (by omega)
/-- the nearest above -/
theorem qT_near (h : QQ S G r dm) (ho : 0 ≤ o ∧ o < r 0) (hw : 0 ≤ wo ∧ wo < r 0) : fT_nearest G S (pc S o) (pc S wo) = some (pcx S (nrs r dm o wo 40 wo)) := by
  have hf := fu_ge
  have hb := QQ_b h
  have key : ∀ (n : Nat) (j : Int) (m : Nat), en (up r) n j = true → (0 ≤ j ∧ j < r 0) → DP (up r) j < DP (up r) wo → n + 2 < m → lT_nearest_5 G S (pc S o) m (pc S j) = some (pcx S (nrs r dm o wo n j)) := by
    intro n
    induction n with
    | zero =>
      intro j m he hj hd hm
      obtain ⟨m, rfl⟩ : ∃ k, m = k + 2 := ⟨m - 2, by omega⟩
      have j0 : j = 0 := by simpa [en] using he
      subst j0
      show bT_nearest_5 G S (pc S o) (lT_nearest_5 G S (pc S o) (m + 1)) (pc S 0) = _
      rw [bT_nearest_5, if_neg (pc_pos h.1 (by omega)), qT_can h (by omega) ho, if_neg (by omega), bdP_s, if_pos rfl, if_pos (kdp h.1 (by omega)), QQ_top h]
      show bT_nearest_5 G S (pc S o) (lT_nearest_5 G S (pc S o) m) (-1) = _
      rw [bT_nearest_5, if_pos (by omega)]
      exact congrArg some pcx_n.symm
    | succ n ih =>
      intro j m he hj hd hm
      obtain ⟨m, rfl⟩ : ∃ k, m = k + 2 := ⟨m - 2, by omega⟩
      show bT_nearest_5 G S (pc S o) (lT_nearest_5 G S (pc S o) (m + 1)) (pc S j) = some (pcx S (if j = 0 then -1 else if j = wo then nrs r dm o wo n (up r j) else if canA r dm j o = true then j else nrs r dm o wo n (up r j)))
      rw [bT_nearest_5, if_neg (pc_pos h.1 (by omega)), qT_can h (by omega) ho, bdP_s]
      by_cases j0 : j = 0
      · subst j0
        rw [if_neg (show ¬ ((0 < (0 : Int) ∧ 0 < r 0) ∧ canA r dm 0 o = true) by omega), if_pos rfl, if_pos (kdp h.1 (by omega)), QQ_top h, if_pos rfl]
        show bT_nearest_5 G S (pc S o) (lT_nearest_5 G S (pc S o) m) (-1) = _
        rw [bT_nearest_5, if_pos (by omega)]
        exact congrArg some pcx_n.symm
      · rw [if_neg j0, if_neg (show ¬ j = wo from fun z => by rw [z] at hd; omega)]
        by_cases c : canA r dm j o = true
        · rw [if_pos (show (0 < j ∧ j < r 0) ∧ canA r dm j o = true from ⟨by omega, c⟩), if_neg f0, if_pos c, pcx_p hj.1]
        · have hr := QQ_rg h (i := j) (by omega)
          have hs := DP_s (QQ_en h hj) j0
          rw [if_neg (show ¬ ((0 < j ∧ j < r 0) ∧ canA r dm j o = true) from fun z => c z.2), if_pos rfl, if_neg c, if_pos (kdp h.1 (by omega)), QQ_up h (by omega)]
          rcases en_s.mp he with z | ⟨-, -, z⟩
          · exact absurd z j0
          · exact ih _ (m + 1) z hr (by omega) (by omega)
  rw [fT_nearest, if_pos (kdp h.1 (by omega))]
  have e40 : nrs r dm o wo 40 wo = if wo = 0 then -1 else if wo = wo then nrs r dm o wo 39 (up r wo) else if canA r dm wo o = true then wo else nrs r dm o wo 39 (up r wo) := rfl
  rw [e40]
  by_cases w0 : wo = 0
  · subst w0
    obtain ⟨m, hm⟩ : ∃ k, fu = k + 1 := ⟨fu - 1, by omega⟩
    rw [QQ_top h, if_pos rfl, hm]
    show bT_nearest_5 G S (pc S o) (lT_nearest_5 G S (pc S o) m) (-1) = _
    rw [bT_nearest_5, if_pos (by omega)]
    exact congrArg some pcx_n.symm
  · have hr := QQ_rg h (i := wo) (by omega)
    have hs := DP_s (QQ_en h hw) w0
    rw [if_neg w0, if_pos rfl, QQ_up h (by omega)]
    rcases en_s.mp (QQ_en h hw) with z | ⟨-, -, z⟩
    · exact absurd z w0
    · exact key 39 _ fu z hr (by omega) (by omega)
/-- the first among all, where the root and those that aren't there never count -/
theorem ff_cut {P Q : Int → Bool} {M : Int} (hM : 1 ≤ M ∧ M ≤ 40) (h0 : P 0 = false) (h1 : ∀ k, 1 ≤ k → k < M → P k = Q k) (h2 : ∀ k, M ≤ k → k < 40 → P k = false) : ff P 40 0 = ff Q (M - 1).toNat 1 := by
  have s1 := ff_spec P 40 0
  have s2 := ff_spec Q (M - 1).toNat 1
  have e40 : ((40 : Nat) : Int) = 40 := rfl
  rw [e40] at s1
  generalize ff P 40 0 = x at *
  generalize ff Q (M - 1).toNat 1 = y at *
  rcases s1 with ⟨a1, a2⟩ | ⟨a1, a2, a3, a4⟩
  · rcases s2 with ⟨b1, b2⟩ | ⟨b1, b2, b3, b4⟩
    · omega
    · have := a2 y (by omega) (by omega)
      rw [h1 y (by omega) (by omega), b3] at this
      cases this
  · have x0 : ¬ x = 0 := fun z => by rw [z, h0] at a3; cases a3
    have x1 : x < M := by
      by_cases z : x < M
      · exact z
      · rw [h2 x (by omega) (by omega)] at a3; cases a3
    rcases s2 with ⟨b1, b2⟩ | ⟨b1, b2, b3, b4⟩
    · have := b2 x (by omega) (by omega)
      rw [← h1 x (by omega) (by omega), a3] at this
      cases this
    · by_cases z : x = y
      · exact z
      · exfalso
        by_cases z2 : x < y
        · have := b4 x (by omega) z2
          rw [← h1 x (by omega) (by omega), a3] at this
          cases this
        · have := a4 y (by omega) (by omega)
          rw [h1 y (by omega) (by omega), b3] at this
          cases this
theorem qT_kin (h : QQ S G r dm) (ho : 0 ≤ o ∧ o < r 0) (hw : 0 ≤ wo ∧ wo < r 0) : fT_firstKin G S (pc S o) (pc S wo) = some (pcx S (KN r dm o wo)) := by
  have hf := fu_ge
  have hb := QQ_b h
  have hs := h.2.1.1
  have h24 : ∀ k, 0 ≤ k → k < 40 → kd (S + 2) = 24 ∧ (0 : Int) ≤ k ∧ k < sz (S + 2) := fun k k0 k1 => ⟨kdT2 h.1, k0, by rw [szT2 h.1]; exact k1⟩
  rw [fT_firstKin, if_pos (kdp h.1 (by omega)), TS_1 hs, if_pos (kdT2 h.1), szT2 h.1]
  unfold KN
  by_cases w0 : wo = 0
  · subst w0
    rw [QQ_top h, if_pos rfl]
    have key := find_loop (L := fun n k => lT_firstKin_19 G S (pc S o) (pc S 0) (-1) (S + 2) 40 n k) (E := fun x => some (pcx S x)) (fun _ => false) 40 0 (fun n k k0 k1 => by
      show bT_firstKin_19 G S (pc S o) (pc S 0) (-1) (S + 2) 40 (lT_firstKin_19 G S (pc S o) (pc S 0) (-1) (S + 2) 40 n) k = _
      rw [bT_firstKin_19, if_pos k1, if_pos (h24 k k0 k1), if_pos (by omega), w32_r (by omega)]
      rfl) (fun n k k0 k1 => by
      show bT_firstKin_19 G S (pc S o) (pc S 0) (-1) (S + 2) 40 (lT_firstKin_19 G S (pc S o) (pc S 0) (-1) (S + 2) 40 n) k = _
      rw [bT_firstKin_19, if_neg k1, pcx_n]) 40 0 fu (by omega) (by omega) (by omega)
    rw [show lT_firstKin_19 G S (pc S o) (pc S 0) (-1) (S + 2) 40 fu 0 = some (pcx S (ff (fun _ => false) 40 0)) from key]
    rcases ff_spec (fun _ => false) 40 0 with ⟨z, -⟩ | ⟨-, -, z, -⟩
    · rw [z]
    · cases z
  · have hr := QQ_rg h (i := wo) (by omega)
    rw [if_neg w0, QQ_up h (by omega)]
    have key := find_loop (L := fun n k => lT_firstKin_19 G S (pc S o) (pc S wo) (pc S (up r wo)) (S + 2) 40 n k) (E := fun x => some (pcx S x)) (fun k => decide (0 < k ∧ k < r 0) && knP r dm o wo k) 40 0 (fun n k k0 k1 => by
      show bT_firstKin_19 G S (pc S o) (pc S wo) (pc S (up r wo)) (S + 2) 40 (lT_firstKin_19 G S (pc S o) (pc S wo) (pc S (up r wo)) (S + 2) 40 n) k = _
      have nx : lT_firstKin_19 G S (pc S o) (pc S wo) (pc S (up r wo)) (S + 2) 40 n (w32 (k + 1)) = lT_firstKin_19 G S (pc S o) (pc S wo) (pc S (up r wo)) (S + 2) 40 n (k + 1) := by rw [w32_r (by omega)]
      rw [bT_firstKin_19, if_pos k1, if_pos (h24 k k0 k1), if_neg (pc_pos h.1 (by omega)), TS_p hs ⟨k0, k1⟩, nx]
      by_cases c1 : k = wo
      · rw [if_pos (by rw [c1]), if_neg (fun z => by
          rw [Bool.and_eq_true] at z
          have z2 := z.2
          unfold knP at z2
          rw [Bool.and_eq_true] at z2
          have z3 := z2.1
          rw [decide_eq_true c1] at z3
          cases z3)]
      · rw [if_neg (fun z => c1 (pc_inj k0 hw.1 z)), if_pos (kdp h.1 ⟨k0, k1⟩), qP_child h ⟨k0, k1⟩ (by omega), bdP_s]
        have ek : knP r dm o wo k = (ic r k (up r wo) 0 && canA r dm k o) := by
          unfold knP
          rw [decide_eq_false c1]
          rfl
        rw [ek]
        by_cases c2 : k < r 0 ∧ ic r k (up r wo) 0 = true
        · have kn0 := (ic_t.mp c2.2).2.2
          rw [if_pos c2, if_neg f0, qT_can h ⟨k0, k1⟩ ho, bdP_s, c2.2, decide_eq_true (show 0 < k ∧ k < r 0 by omega)]
          by_cases c3 : canA r dm k o = true
          · rw [if_pos (show (0 < k ∧ k < r 0) ∧ canA r dm k o = true from ⟨by omega, c3⟩), if_neg f0, c3, if_pos (show (true && (true && true)) = true from rfl), pcx_p k0]
          · rw [if_neg (show ¬ ((0 < k ∧ k < r 0) ∧ canA r dm k o = true) from fun z => c3 z.2), if_pos rfl, if_neg (show ¬ (true && (true && canA r dm k o)) = true from fun z => c3 z)]
        · rw [if_neg c2, if_pos rfl, if_neg (fun z => by
            rw [Bool.and_eq_true, Bool.and_eq_true] at z
            exact c2 ⟨(of_decide_eq_true z.1).2, z.2.1⟩)]) (fun n k k0 k1 => by
      show bT_firstKin_19 G S (pc S o) (pc S wo) (pc S (up r wo)) (S + 2) 40 (lT_firstKin_19 G S (pc S o) (pc S wo) (pc S (up r wo)) (S + 2) 40 n) k = _
      rw [bT_firstKin_19, if_neg k1, pcx_n]) 40 0 fu (by omega) (by omega) (by omega)
    rw [show lT_firstKin_19 G S (pc S o) (pc S wo) (pc S (up r wo)) (S + 2) 40 fu 0 = some (pcx S (ff (fun k => decide (0 < k ∧ k < r 0) && knP r dm o wo k) 40 0)) from key]
    rw [ff_cut (P := fun k => decide (0 < k ∧ k < r 0) && knP r dm o wo k) (Q := knP r dm o wo) hb (by
      show (decide ((0 : Int) < 0 ∧ 0 < r 0) && _) = false
      rw [decide_eq_false (by omega)]; rfl) (fun k k0 k1 => by
      show (decide (0 < k ∧ k < r 0) && _) = _
      rw [decide_eq_true (by omega)]; rfl) (fun k k0 k1 => by
      show (decide (0 < k ∧ k < r 0) && _) = false
      rw [decide_eq_false (by omega)]; rfl)]
theorem qT_old (h : QQ S G r dm) (ho : 0 ≤ o ∧ o < r 0) (hw : 0 ≤ wo ∧ wo < r 0) : fT_oldest G S (pc S o) (pc S wo) = some (pcx S (OL r dm o wo)) := by
  have hf := fu_ge
  have hb := QQ_b h
  have hs := h.2.1.1
  have h24 : ∀ k, 0 ≤ k → k < 40 → kd (S + 2) = 24 ∧ (0 : Int) ≤ k ∧ k < sz (S + 2) := fun k k0 k1 => ⟨kdT2 h.1, k0, by rw [szT2 h.1]; exact k1⟩
  rw [fT_oldest, TS_1 hs, if_pos (kdT2 h.1), szT2 h.1]
  unfold OL
  have key := find_loop (L := fun n k => lT_oldest_12 G S (pc S o) (pc S wo) (S + 2) 40 n k) (E := fun x => some (pcx S x)) (fun k => decide (0 < k ∧ k < r 0) && olP r dm o wo k) 40 0 (fun n k k0 k1 => by
    show bT_oldest_12 G S (pc S o) (pc S wo) (S + 2) 40 (lT_oldest_12 G S (pc S o) (pc S wo) (S + 2) 40 n) k = _
    have nx : lT_oldest_12 G S (pc S o) (pc S wo) (S + 2) 40 n (w32 (k + 1)) = lT_oldest_12 G S (pc S o) (pc S wo) (S + 2) 40 n (k + 1) := by rw [w32_r (by omega)]
    rw [bT_oldest_12, if_pos k1, if_pos (h24 k k0 k1), TS_p hs ⟨k0, k1⟩, nx]
    by_cases c1 : k = wo
    · rw [if_pos (by rw [c1]), if_neg (fun z => by
        rw [Bool.and_eq_true] at z
        have z2 := z.2
        unfold olP at z2
        rw [Bool.and_eq_true] at z2
        have z3 := z2.1
        rw [decide_eq_true c1] at z3
        cases z3)]
    · have ek : olP r dm o wo k = canA r dm k o := by
        unfold olP
        rw [decide_eq_false c1]
        rfl
      rw [if_neg (fun z => c1 (pc_inj k0 hw.1 z)), qT_can h ⟨k0, k1⟩ ho, bdP_s, ek]
      by_cases c3 : (0 < k ∧ k < r 0) ∧ canA r dm k o = true
      · rw [if_pos c3, if_neg f0, c3.2, decide_eq_true c3.1, if_pos (show (true && true) = true from rfl), pcx_p k0]
      · rw [if_neg c3, if_pos rfl, if_neg (fun z => by
          rw [Bool.and_eq_true] at z
          exact c3 ⟨of_decide_eq_true z.1, z.2⟩)]) (fun n k k0 k1 => by
    show bT_oldest_12 G S (pc S o) (pc S wo) (S + 2) 40 (lT_oldest_12 G S (pc S o) (pc S wo) (S + 2) 40 n) k = _
    rw [bT_oldest_12, if_neg k1, pcx_n]) 40 0 fu (by omega) (by omega) (by omega)
  rw [show lT_oldest_12 G S (pc S o) (pc S wo) (S + 2) 40 fu 0 = some (pcx S (ff (fun k => decide (0 < k ∧ k < r 0) && olP r dm o wo k) 40 0)) from key]
  rw [ff_cut (P := fun k => decide (0 < k ∧ k < r 0) && olP r dm o wo k) (Q := olP r dm o wo) hb (by
    show (decide ((0 : Int) < 0 ∧ 0 < r 0) && _) = false
    rw [decide_eq_false (by omega)]; rfl) (fun k k0 k1 => by
    show (decide (0 < k ∧ k < r 0) && _) = _
    rw [decide_eq_true (by omega)]; rfl) (fun k k0 k1 => by
    show (decide (0 < k ∧ k < r 0) && _) = false
    rw [decide_eq_false (by omega)]; rfl)]
end PAR20
/-! ===== the class's questions, as the row answers them, more (own work) ===== -/
section PAR21
variable {g g' G H K : gH} {r r' dm : Int → Int} {a b c d e i j k l m n o p q s t u v w wo x y z S : Int}
theorem qP_roomx (h : QQ S G r dm) (hi : 0 ≤ i ∧ i < 40) : fP_room G (pc S i) = some (if i < r 0 then room r i else 0) := by
  by_cases c : i < r 0
  · rw [if_pos c]; exact qP_room h ⟨hi.1, c⟩
  · rw [if_neg c, fP_room, QQ_out h (by omega), if_neg (by omega)]
/-- the roomiest -/
theorem qT_roomy (h : QQ S G r dm) (ho : 0 ≤ o ∧ o < r 0) (hw : 0 ≤ wo ∧ wo < r 0) (og : Bool) : fT_roomiestFor G S (pc S o) (pc S wo) (if og then 1 else 0) = some (pcx S (RM r dm o wo og)) := by
  have hf := fu_ge
  have hb := QQ_b h
  have hs := h.2.1.1
  have h24 : ∀ k, 0 ≤ k → k < 40 → kd (S + 2) = 24 ∧ (0 : Int) ≤ k ∧ k < sz (S + 2) := fun k k0 k1 => ⟨kdT2 h.1, k0, by rw [szT2 h.1]; exact k1⟩
  have step : ∀ (n : Nat) (k b : Int), 0 ≤ k → k < 40 → (b = -1 ∨ (0 < b ∧ b < r 0)) → lT_roomiestFor_17 G S (pc S o) (pc S wo) (if og then 1 else 0) (S + 2) 40 (n + 1) (pcx S b) k = lT_roomiestFor_17 G S (pc S o) (pc S wo) (if og then 1 else 0) (S + 2) 40 n (pcx S (if 0 < k ∧ k < r 0 then rmS r dm o wo og k b else b)) (k + 1) := by
    intro n k b k0 k1 hb2
    show bT_roomiestFor_17 G S (pc S o) (pc S wo) (if og then 1 else 0) (S + 2) 40 (lT_roomiestFor_17 G S (pc S o) (pc S wo) (if og then 1 else 0) (S + 2) 40 n) (pcx S b) k = _
    rw [bT_roomiestFor_17, if_pos k1, if_pos (h24 k k0 k1), TS_p hs ⟨k0, k1⟩]
    generalize lT_roomiestFor_17 G S (pc S o) (pc S wo) (if og then 1 else 0) (S + 2) 40 n = X
    have e83 : ∀ (u s f : Int), jT_roomiestFor_83 X G S (pc S o) (pc S wo) f (pcx S b) (S + 2) 40 k (pc S k) u s = X (pcx S (if (¬ u = 0 ∧ ¬ s = 0) ∧ (0 < k ∧ k < r 0) ∧ canA r dm k o = true then k else b)) (k + 1) := by
      intro u s f
      rw [jT_roomiestFor_83, w32_r (by omega)]
      by_cases c1 : u = 0
      · rw [if_pos c1, if_neg (fun z => z.1.1 c1)]
      · rw [if_neg c1]
        by_cases c2 : s = 0
        · rw [if_pos c2, if_neg (fun z => z.1.2 c2)]
        · rw [if_neg c2, qT_can h ⟨k0, k1⟩ ho, bdP_s]
          by_cases c3 : (0 < k ∧ k < r 0) ∧ canA r dm k o = true
          · rw [if_pos c3, if_neg f0, if_pos ⟨⟨c1, c2⟩, c3⟩, pcx_p k0]
          · rw [if_neg c3, if_pos rfl, if_neg (fun z => c3 z.2)]
    have e58 : ∀ (u f : Int), jT_roomiestFor_58 X G S (pc S o) (pc S wo) f (pcx S b) (S + 2) 40 k (pc S k) u = X (pcx S (if ¬ u = 0 ∧ (0 < k ∧ k < r 0) ∧ canA r dm k o = true ∧ (b = -1 ∨ room r b < room r k) then k else b)) (k + 1) := by
      intro u f
      rw [jT_roomiestFor_58, jT_roomiestFor_78]
      rcases hb2 with rfl | hb2
      · rw [if_pos (show pcx S (-1) < 0 by rw [pcx_n]; omega), e83]
        by_cases c : (¬ u = 0 ∧ ¬ (1 : Int) = 0) ∧ (0 < k ∧ k < r 0) ∧ canA r dm k o = true
        · rw [if_pos c, if_pos ⟨c.1.1, c.2.1, c.2.2, Or.inl rfl⟩]
        · rw [if_neg c, if_neg (fun z => c ⟨⟨z.1, f0⟩, z.2.1, z.2.2.1⟩)]
      · rw [pcx_p (by omega), if_neg (pc_pos h.1 (by omega)), if_pos (kdp h.1 ⟨k0, k1⟩), qP_roomx h ⟨k0, k1⟩, bdP_s, if_pos (kdp h.1 (by omega)), qP_room h (by omega), bdP_s, ← pcx_p (S := S) (x := b) (by omega)]
        by_cases c5 : room r b < (if k < r 0 then room r k else 0)
        · rw [if_pos c5, e83]
          by_cases c : (¬ u = 0 ∧ ¬ (1 : Int) = 0) ∧ (0 < k ∧ k < r 0) ∧ canA r dm k o = true
          · rw [if_pos c.2.1.2] at c5
            rw [if_pos c, if_pos ⟨c.1.1, c.2.1, c.2.2, Or.inr c5⟩]
          · rw [if_neg c, if_neg (fun z => c ⟨⟨z.1, f0⟩, z.2.1, z.2.2.1⟩)]
        · rw [if_neg c5, e83, if_neg (fun z => z.1.2 rfl), if_neg (fun z => by
            rw [if_pos z.2.1.2] at c5
            rcases z.2.2.2 with y | y
            · omega
            · exact c5 y)]
    have e57 : ∀ f : Int, jT_roomiestFor_57 X G S (pc S o) (pc S wo) f (pcx S b) (S + 2) 40 k (pc S k) = X (pcx S b) (k + 1) := by
      intro f
      rw [jT_roomiestFor_57, e58, if_neg (fun z => z.1 rfl)]
    have e53 : ∀ f : Int, jT_roomiestFor_53 X G S (pc S o) (pc S wo) f (pcx S b) (S + 2) 40 k (pc S k) = X (pcx S (if (0 < k ∧ k < r 0) ∧ canA r dm k o = true ∧ (b = -1 ∨ room r b < room r k) then k else b)) (k + 1) := by
      intro f
      rw [jT_roomiestFor_53, e58]
      by_cases c : (0 < k ∧ k < r 0) ∧ canA r dm k o = true ∧ (b = -1 ∨ room r b < room r k)
      · rw [if_pos ⟨f0, c⟩, if_pos c]
      · rw [if_neg (fun z => c z.2), if_neg c]
    have rm : ∀ (hk : 0 < k ∧ k < r 0) (hn : ¬ k = wo) (hg : ¬ (og = true ∧ ¬ r (180 + k) = r (180 + o))), rmS r dm o wo og k b = if (0 < k ∧ k < r 0) ∧ canA r dm k o = true ∧ (b = -1 ∨ room r b < room r k) then k else b := by
      intro hk hn hg
      unfold rmS
      rw [if_neg hn, if_neg hg]
      by_cases c : canA r dm k o = true
      · rw [if_pos c]
        by_cases c2 : b = -1
        · rw [if_pos c2, if_pos ⟨hk, c, Or.inl c2⟩]
        · rw [if_neg c2]
          by_cases c3 : room r b < room r k
          · rw [if_pos c3, if_pos ⟨hk, c, Or.inr c3⟩]
          · rw [if_neg c3, if_neg (fun z => by
              rcases z.2.2 with y | y
              · exact c2 y
              · exact c3 y)]
      · rw [if_neg c, if_neg (fun z => c z.2.1)]
    by_cases c1 : k = wo
    · rw [if_pos (by rw [c1]), e57]
      by_cases c0 : 0 < k ∧ k < r 0
      · rw [if_pos c0]
        unfold rmS
        rw [if_pos c1]
      · rw [if_neg c0]
    · rw [if_neg (fun z => c1 (pc_inj k0 hw.1 z))]
      by_cases c0 : 0 < k ∧ k < r 0
      · rw [if_pos c0]
        cases og with
        | false =>
          rw [if_pos (show (if false = true then (1 : Int) else 0) = 0 from rfl), e53, rm c0 c1 (fun z => by cases z.1)]
        | true =>
          rw [if_neg (show ¬ (if true = true then (1 : Int) else 0) = 0 from f0), if_pos (kdp h.1 ⟨k0, k1⟩), if_pos (kdp h.1 (by omega)), (QQ_pe h (i := k) (by omega)).1.2.2.1, (QQ_pe h ho).1.2.2.1]
          by_cases c4 : r (180 + k) = r (180 + o)
          · rw [if_pos c4, e53, rm c0 c1 (fun z => z.2 c4)]
          · rw [if_neg c4, e57]
            unfold rmS
            rw [if_neg c1, if_pos ⟨rfl, c4⟩]
      · rw [if_neg c0]
        have e53' : ∀ f : Int, jT_roomiestFor_53 X G S (pc S o) (pc S wo) f (pcx S b) (S + 2) 40 k (pc S k) = X (pcx S b) (k + 1) := by
          intro f
          rw [e53, if_neg (fun z => c0 z.1)]
        cases og with
        | false => rw [if_pos (show (if false = true then (1 : Int) else 0) = 0 from rfl), e53']
        | true =>
          rw [if_neg (show ¬ (if true = true then (1 : Int) else 0) = 0 from f0), if_pos (kdp h.1 ⟨k0, k1⟩), if_pos (kdp h.1 (by omega)), e53', e57]
          by_cases c4 : G (pc S k) 5 = G (pc S o) 5
          · rw [if_pos c4]
          · rw [if_neg c4]
  have rb : ∀ k b, (0 < k ∧ k < r 0) → (b = -1 ∨ (0 < b ∧ b < r 0)) → (rmS r dm o wo og k b = -1 ∨ (0 < rmS r dm o wo og k b ∧ rmS r dm o wo og k b < r 0)) := by
    intro k b hk hb2
    unfold rmS
    split
    · exact hb2
    · split
      · exact hb2
      · split
        · split
          · exact Or.inr hk
          · split
            · exact Or.inr hk
            · exact hb2
        · exact hb2
  have key : ∀ (m n : Nat) (k b : Int), (40 - k).toNat = m → m < n → 1 ≤ k → k ≤ 40 → (b = -1 ∨ (0 < b ∧ b < r 0)) → lT_roomiestFor_17 G S (pc S o) (pc S wo) (if og then 1 else 0) (S + 2) 40 n (pcx S b) k = some (pcx S (fd (rmS r dm o wo og) (r 0 - k).toNat k b)) := by
    intro m
    induction m with
    | zero =>
      intro n k b hm hn k0 k1 hb2
      obtain ⟨n, rfl⟩ : ∃ k, n = k + 1 := ⟨n - 1, by omega⟩
      rw [show (r 0 - k).toNat = 0 by omega]
      show bT_roomiestFor_17 G S (pc S o) (pc S wo) (if og then 1 else 0) (S + 2) 40 (lT_roomiestFor_17 G S (pc S o) (pc S wo) (if og then 1 else 0) (S + 2) 40 n) (pcx S b) k = some (pcx S b)
      rw [bT_roomiestFor_17, if_neg (by omega)]
    | succ m ih =>
      intro n k b hm hn k0 k1 hb2
      obtain ⟨n, rfl⟩ : ∃ k, n = k + 1 := ⟨n - 1, by omega⟩
      rw [step n k b (by omega) (by omega) hb2]
      by_cases c : 0 < k ∧ k < r 0
      · rw [if_pos c, ih n (k + 1) _ (by omega) (by omega) (by omega) (by omega) (rb k b c hb2), show (r 0 - k).toNat = (r 0 - (k + 1)).toNat + 1 by omega]
        rfl
      · rw [if_neg c, ih n (k + 1) _ (by omega) (by omega) (by omega) (by omega) hb2, show (r 0 - k).toNat = 0 by omega, show (r 0 - (k + 1)).toNat = 0 by omega]
        rfl
  rw [fT_roomiestFor, TS_1 hs, if_pos (kdT2 h.1), szT2 h.1]
  obtain ⟨n, hn⟩ : ∃ n, fu = n + 1 := ⟨fu - 1, by omega⟩
  have s0 := step n 0 (-1) (by omega) (by omega) (Or.inl rfl)
  rw [if_neg (show ¬ ((0 : Int) < 0 ∧ 0 < r 0) by omega)] at s0
  rw [hn, ← pcx_n (S := S), s0]
  exact key 39 n (0 + 1) (-1) (by omega) (by omega) (by omega) (by omega) (Or.inl rfl)
/-- a model's heap that holds the row -/
def MM (r dm : Int → Int) : Prop := ∃ g : gH, MS g ∧ g 625 = r ∧ g 630 = dm
theorem MM_F (h : MM r dm) (hb : WB r) (ho : 0 ≤ o ∧ o < r 0) (hw : 0 ≤ wo ∧ wo < r 0) : Fnd r dm o wo (FB r dm x o wo) := by
  obtain ⟨g, hs, rfl, rfl⟩ := h
  exact (vM_findsBy hs hb ho hw).2
theorem MM_A (h : MM r dm) (hb : WB r) (ho : 0 ≤ o ∧ o < r 0) (hw : 0 ≤ wo ∧ wo < r 0) : AD r dm o wo = 0 ∨ (0 < AD r dm o wo ∧ AD r dm o wo < r 0) := by
  obtain ⟨g, hs, rfl, rfl⟩ := h
  rcases (vM_adopterOf hs hb ho hw).2 with z | z
  · exact Or.inl z
  · exact Or.inr ⟨z.1, z.2.1⟩
/-- who adopts an orphan -/
theorem qT_adopter (h : QQ S G r dm) (hmm : MM r dm) (ho : 0 < o ∧ o < r 0) : fT_adopterOf G S (pc S o) = some (pc S (AD r dm o (up r o))) := by
  have hf := fu_ge
  have hb := QQ_b h
  have hs := h.2.1.1
  have hw := QQ_rg h ho
  have ho' : 0 ≤ o ∧ o < r 0 := by omega
  have h5 := h.2.2.1.2.2.2.1
  obtain ⟨-, q2, -, -, -, -, hru⟩ := h.2.2.2.1
  have h20 : ∀ k, 0 ≤ k → k < 5 → kd (S + 4) = 20 ∧ (0 : Int) ≤ k ∧ k < sz (S + 4) := fun k k0 k1 => ⟨kdT4 h.1, k0, by rw [szT4 h.1]; exact k1⟩
  have key : ∀ (m n : Nat) (k : Int), (5 - k).toNat = m → m + 1 < n → 0 ≤ k → k ≤ 5 → lT_adopterOf_19 G S (pc S o) (pc S (up r o)) n (-1) k = some (pc S (ads r dm o (up r o) (r 5 - k).toNat k)) := by
    intro m
    induction m with
    | zero =>
      intro n k hm hn k0 k1
      obtain ⟨n, rfl⟩ : ∃ k, n = k + 1 := ⟨n - 1, by omega⟩
      show bT_adopterOf_19 G S (pc S o) (pc S (up r o)) (lT_adopterOf_19 G S (pc S o) (pc S (up r o)) n) (-1) k = _
      rw [bT_adopterOf_19, if_neg (by omega), jT_adopterOf_130, if_pos (by omega), TS_0 hs, show (r 5 - k).toNat = 0 by omega, ← pc_0]
      rfl
    | succ m ih =>
      intro n k hm hn k0 k1
      obtain ⟨n, rfl⟩ : ∃ k, n = k + 2 := ⟨n - 2, by omega⟩
      show bT_adopterOf_19 G S (pc S o) (pc S (up r o)) (lT_adopterOf_19 G S (pc S o) (pc S (up r o)) (n + 1)) (-1) k = _
      rw [bT_adopterOf_19, if_pos (show k < 5 by omega), if_pos (show (-1 : Int) < 0 by omega), TS_3 hs, if_pos (h20 k k0 (by omega)), q2 k k0 (by omega), w32_r (by omega)]
      by_cases c : k < r 5
      · have hk := hru k k0 (by omega) c
        have fb := MM_F (x := r (6 + k)) hmm h.2.2.1 ho' hw
        have ea : ads r dm o (up r o) (r 5 - k).toNat k = if FB r dm (r (6 + k)) o (up r o) = -1 then ads r dm o (up r o) (r 5 - (k + 1)).toNat (k + 1) else FB r dm (r (6 + k)) o (up r o) := by
          rw [show (r 5 - k).toNat = (r 5 - (k + 1)).toNat + 1 by omega]
          rfl
        -- a rule has answered
        have nx : lT_adopterOf_19 G S (pc S o) (pc S (up r o)) (n + 1) (pcx S (FB r dm (r (6 + k)) o (up r o))) (k + 1) = some (pc S (ads r dm o (up r o) (r 5 - k).toNat k)) := by
          rw [ea]
          rcases fb with z | ⟨z1, z2, -⟩
          · rw [z, if_pos rfl, pcx_n]
            exact ih (n + 1) (k + 1) (by omega) (by omega) (by omega) (by omega)
          · rw [if_neg (by omega), pcx_p (by omega)]
            have e : jT_adopterOf_130 G S (pc S (FB r dm (r (6 + k)) o (up r o))) = some (pc S (FB r dm (r (6 + k)) o (up r o))) := by
              rw [jT_adopterOf_130, if_neg (pc_pos h.1 (by omega))]
            show bT_adopterOf_19 G S (pc S o) (pc S (up r o)) (lT_adopterOf_19 G S (pc S o) (pc S (up r o)) n) (pc S (FB r dm (r (6 + k)) o (up r o))) (k + 1) = _
            rw [bT_adopterOf_19, if_neg (pc_pos h.1 (by omega)), e]
            split <;> rfl
        rw [if_pos c]
        by_cases r0_ : r (6 + k) = 0
        · have e : FB r dm (r (6 + k)) o (up r o) = nrs r dm o (up r o) 40 (up r o) := by unfold FB; rw [if_pos r0_]
          rw [e] at nx
          rw [if_pos r0_, qT_near h ho' hw, bdP_s]
          exact nx
        rw [if_neg r0_]
        by_cases r1_ : r (6 + k) = 1
        · have e : FB r dm (r (6 + k)) o (up r o) = RM r dm o (up r o) true := by unfold FB; rw [if_neg r0_, if_pos r1_]
          rw [e] at nx
          rw [if_pos r1_, show fT_roomiestFor G S (pc S o) (pc S (up r o)) 1 = some (pcx S (RM r dm o (up r o) true)) from qT_roomy h ho' hw true, bdP_s]
          exact nx
        rw [if_neg r1_]
        by_cases r2_ : r (6 + k) = 2
        · have e : FB r dm (r (6 + k)) o (up r o) = RM r dm o (up r o) false := by unfold FB; rw [if_neg r0_, if_neg r1_, if_pos r2_]
          rw [e] at nx
          rw [if_pos r2_, show fT_roomiestFor G S (pc S o) (pc S (up r o)) 0 = some (pcx S (RM r dm o (up r o) false)) from qT_roomy h ho' hw false, bdP_s]
          exact nx
        rw [if_neg r2_]
        by_cases r3_ : r (6 + k) = 3
        · have e : FB r dm (r (6 + k)) o (up r o) = KN r dm o (up r o) := by unfold FB; rw [if_neg r0_, if_neg r1_, if_neg r2_, if_pos r3_]
          rw [e] at nx
          rw [if_pos r3_, qT_kin h ho' hw, bdP_s]
          exact nx
        rw [if_neg r3_]
        have e : FB r dm (r (6 + k)) o (up r o) = OL r dm o (up r o) := by unfold FB; rw [if_neg r0_, if_neg r1_, if_neg r2_, if_neg r3_]
        rw [e] at nx
        rw [if_pos (show r (6 + k) = 4 by omega), qT_old h ho' hw, bdP_s]
        exact nx
      · rw [if_neg c, if_neg (by omega), if_neg (by omega), if_neg (by omega), if_neg (by omega), if_neg (by omega), ih (n + 1) (k + 1) (by omega) (by omega) (by omega) (by omega), show (r 5 - k).toNat = 0 by omega, show (r 5 - (k + 1)).toNat = 0 by omega]
        rfl
  rw [fT_adopterOf, if_pos (kdp h.1 (by omega)), QQ_up h ho, if_neg (pc_pos h.1 (by omega))]
  have := key 5 fu 0 (by omega) (by omega) (by omega) (by omega)
  rw [show r 5 - 0 = r 5 by omega] at this
  exact this
/-- whom a number names -/
theorem qT_at (h : QQ S G r dm) : fT_at G S v = some (if 0 ≤ v ∧ v < r 0 then pc S v else -1) := by
  rw [vT_at h.2.1 h.1, QQ_0 h]
theorem qT_holder (h : QQ S G r dm) (hd : 0 ≤ d ∧ d < 8) (hh : 0 ≤ r (11 + d) ∧ r (11 + d) < r 0) : fT_holderOf G S d = some (pc S (r (11 + d))) := by
  have hb := QQ_b h
  rw [fT_holderOf, if_neg (by omega), if_pos hd.2, TS_2 h.2.1.1, if_pos ⟨kdT3 h.1, hd.1, by rw [szT3 h.1]; exact hd.2⟩, h.2.2.2.1.2.2.1 d hd.1 hd.2, qT_at h, bdP_s, if_pos hh, jT_holderOf_24, if_neg (pc_pos h.1 (by omega))]
/-- who inherits from p -/
theorem qT_heir (h : QQ S G r dm) (hp : 0 < p ∧ p < r 0) : fT_heirOf G S (pc S p) = some (pc S (IH r dm p)) := by
  have hf := fu_ge
  have hb := QQ_b h
  have hs := h.2.1.1
  have hr := QQ_rg h hp
  have h24 : ∀ k, 0 ≤ k → k < 40 → kd (S + 2) = 24 ∧ (0 : Int) ≤ k ∧ k < sz (S + 2) := fun k k0 k1 => ⟨kdT2 h.1, k0, by rw [szT2 h.1]; exact k1⟩
  have hh := h.2.2.1.2.2.2.2.1 p (by omega) hp.2
  have e73 : jT_heirOf_73 G S (pc S p) = some (pc S (up r p)) := by
    rw [jT_heirOf_73, if_pos (kdp h.1 (by omega)), QQ_up h hp, if_neg (pc_pos h.1 (by omega))]
  have loop : lT_heirOf_34 G S (pc S p) (S + 2) 40 fu 0 = some (pc S (if ff (ihP r dm p) (r 0).toNat 0 = -1 then up r p else ff (ihP r dm p) (r 0).toNat 0)) := by
    have key := find_loop (L := fun n k => lT_heirOf_34 G S (pc S p) (S + 2) 40 n k) (E := fun x => if x = -1 then jT_heirOf_73 G S (pc S p) else some (pc S x)) (fun k => decide (k < r 0) && ihP r dm p k) 40 0 (fun n k k0 k1 => by
      show bT_heirOf_34 G S (pc S p) (S + 2) 40 (lT_heirOf_34 G S (pc S p) (S + 2) 40 n) k = _
      have nx : lT_heirOf_34 G S (pc S p) (S + 2) 40 n (w32 (k + 1)) = lT_heirOf_34 G S (pc S p) (S + 2) 40 n (k + 1) := by rw [w32_r (by omega)]
      rw [bT_heirOf_34, if_pos k1, if_pos (h24 k k0 k1), TS_p hs ⟨k0, k1⟩, if_pos (kdp h.1 ⟨k0, k1⟩), qP_child h ⟨k0, k1⟩ (by omega), bdP_s, nx]
      unfold ihP
      by_cases c2 : k < r 0 ∧ ic r k p 0 = true
      · have c20 := (ic_t.mp c2.2).1
        rw [if_pos c2, if_neg f0, qP_inherit h ⟨k0, c2.1⟩, bdP_s, c2.2, decide_eq_true c2.1]
        by_cases c3 : dm k = 0
        · rw [if_pos (show r (140 + k) = 0 ∧ dm k = 0 from ⟨c20, c3⟩), if_neg f0, decide_eq_true c3, if_pos (show (true && (true && true)) = true from rfl), if_neg (show ¬ k = -1 by omega)]
        · rw [if_neg (show ¬ (r (140 + k) = 0 ∧ dm k = 0) from fun z => c3 z.2), if_pos rfl, decide_eq_false c3, if_neg (show ¬ (true && (true && false)) = true by decide)]
      · rw [if_neg c2, if_pos rfl, if_neg (fun z => by
          rw [Bool.and_eq_true, Bool.and_eq_true] at z
          exact c2 ⟨of_decide_eq_true z.1, z.2.1⟩)]) (fun n k k0 k1 => by
      show bT_heirOf_34 G S (pc S p) (S + 2) 40 (lT_heirOf_34 G S (pc S p) (S + 2) 40 n) k = _
      rw [bT_heirOf_34, if_neg k1, if_pos rfl]) 40 0 fu (by omega) (by omega) (by omega)
    have e : ff (fun k => decide (k < r 0) && ihP r dm p k) 40 0 = ff (ihP r dm p) (r 0).toNat 0 := by
      have s1 := ff_spec (fun k => decide (k < r 0) && ihP r dm p k) 40 0
      have s2 := ff_spec (ihP r dm p) (r 0).toNat 0
      have e40 : ((40 : Nat) : Int) = 40 := rfl
      rw [e40] at s1
      generalize ff (fun k => decide (k < r 0) && ihP r dm p k) 40 0 = x at *
      generalize ff (ihP r dm p) (r 0).toNat 0 = y at *
      rcases s1 with ⟨a1, a2⟩ | ⟨a1, a2, a3, a4⟩
      · rcases s2 with ⟨b1, b2⟩ | ⟨b1, b2, b3, b4⟩
        · omega
        · have := a2 y (by omega) (by omega)
          rw [b3, decide_eq_true (by omega)] at this
          cases this
      · rw [Bool.and_eq_true] at a3
        have x1 := of_decide_eq_true a3.1
        rcases s2 with ⟨b1, b2⟩ | ⟨b1, b2, b3, b4⟩
        · have := b2 x (by omega) (by omega)
          rw [a3.2] at this
          cases this
        · by_cases z : x = y
          · exact z
          · exfalso
            by_cases z2 : x < y
            · have := b4 x (by omega) z2
              rw [a3.2] at this
              cases this
            · have := a4 y (by omega) (by omega)
              rw [b3, decide_eq_true (by omega)] at this
              cases this
    rw [show lT_heirOf_34 G S (pc S p) (S + 2) 40 fu 0 = (if ff (fun k => decide (k < r 0) && ihP r dm p k) 40 0 = -1 then jT_heirOf_73 G S (pc S p) else some (pc S (ff (fun k => decide (k < r 0) && ihP r dm p k) 40 0))) from key, e, e73]
    split <;> rfl
  rw [fT_heirOf, if_pos (kdp h.1 (by omega)), (QQ_pe h (i := p) (by omega)).1.2.2.2.2.1, qT_at h, bdP_s, TS_1 hs, szT2 h.1, if_pos (kdT2 h.1), loop]
  unfold IH
  by_cases c : r (260 + p) = -1
  · rw [if_neg (show ¬ (0 ≤ r (260 + p) ∧ r (260 + p) < r 0) by omega), if_pos (show (-1 : Int) < 0 by omega), if_neg (show ¬ (¬ r (260 + p) = -1 ∧ r (140 + r (260 + p)) = 0 ∧ dm (r (260 + p)) = 0) from fun z => z.1 c)]
  · rw [if_pos (show 0 ≤ r (260 + p) ∧ r (260 + p) < r 0 by omega), if_neg (pc_pos h.1 (by omega)), if_pos (kdp h.1 (by omega)), qP_inherit h (by omega), bdP_s]
    by_cases c2 : r (140 + r (260 + p)) = 0 ∧ dm (r (260 + p)) = 0
    · rw [if_pos c2, if_neg f0, if_pos ⟨c, c2⟩]
    · rw [if_neg c2, if_pos rfl, if_neg (show ¬ (¬ r (260 + p) = -1 ∧ r (140 + r (260 + p)) = 0 ∧ dm (r (260 + p)) = 0) from fun z => c2 z.2)]
theorem qT_inherit (h : QQ S G r dm) (hp : 0 < p ∧ p < r 0) (hd : 0 ≤ d ∧ d < 8) : fT_inheritorOf G S (pc S p) d = some (pc S (HO r dm p d)) := by
  have hb := QQ_b h
  have hh := h.2.2.1.2.2.2.2.2.1 p d (by omega) hp.2 hd.1 hd.2
  have ew : fP_willFor G (pc S p) d = some (r (460 + 8 * p + d)) := congrArg some ((QQ_pe h (i := p) (by omega)).2.1 d hd.1 hd.2)
  rw [fT_inheritorOf, if_pos (kdp h.1 (by omega)), ew, bdP_s, qT_at h, bdP_s, qT_heir h hp, bdP_s]
  unfold HO
  by_cases c : r (460 + 8 * p + d) = -1
  · rw [if_neg (show ¬ (0 ≤ r (460 + 8 * p + d) ∧ r (460 + 8 * p + d) < r 0) by omega), if_pos (show (-1 : Int) < 0 by omega), if_neg (fun z => z.1 c)]
  · rw [if_pos (show 0 ≤ r (460 + 8 * p + d) ∧ r (460 + 8 * p + d) < r 0 by omega), if_neg (pc_pos h.1 (by omega)), if_pos (kdp h.1 (by omega)), qP_inherit h (by omega), bdP_s]
    by_cases c2 : r (140 + r (460 + 8 * p + d)) = 0 ∧ dm (r (460 + 8 * p + d)) = 0
    · rw [if_pos c2, if_neg f0, if_pos ⟨c, c2⟩]
    · rw [if_neg c2, if_pos rfl, if_neg (fun z => c2 z.2)]
end PAR21
/-! ===== the class's tree against the row: single steps (own work) ===== -/
section PAR22
variable {g g' G H K : gH} {r r' dm κ κ' : Int → Int} {a b c d e i j k l m n o p q s t u v w wo x y z S : Int}
/-- a process's cell against its places in the row, its count of children told apart -/
def PK (f r : Int → Int) (i x : Int) : Prop :=
  (f 1 = r (140 + i) ∧ f 4 = r (100 + i) ∧ f 5 = r (180 + i) ∧ f 6 = r (220 + i) ∧ f 7 = r (260 + i) ∧ f 8 = r (340 + i) ∧ f 9 = r (300 + i) ∧ f 11 = r (380 + i) ∧ f 12 = r (420 + i)) ∧
  (∀ d, 0 ≤ d → d < 8 → wl (f 14) d = r (460 + 8 * i + d)) ∧ f 3 = x ∧ (¬ r (140 + i) = 0 → (0 ≤ f 10 ∧ f 10 < r 1) ∧ r (19 + f 10) = i)
def CK (S : Int) (G : gH) (r κ : Int → Int) : Prop :=
  (G S 5 = r 0 ∧ G S 6 = r 1 ∧ G S 7 = r 2 ∧ G S 8 = r 3 ∧ G S 9 = r 4 ∧ G S 4 = r 59) ∧
  (∀ i, 0 ≤ i → i < 5 → G (S + 4) i = if i < r 5 then r (6 + i) else -1) ∧
  (∀ d, 0 ≤ d → d < 8 → G (S + 3) d = r (11 + d)) ∧
  (∀ i, 0 ≤ i → i < r 0 → PK (G (pc S i)) r i (κ i)) ∧
  (∀ i, 1 ≤ i → i < r 0 → G (pc S i) 2 = pc S (r (60 + i))) ∧
  (∀ i, r 0 ≤ i → i < 40 → G (pc S i) 1 = 3) ∧ RU r
theorem CK_of (h : CP S G r) : CK S G r (fun i => kids r i 0) := h
theorem CK_to (h : CK S G r κ) (hk : ∀ i, 0 ≤ i → i < r 0 → κ i = kids r i 0) : CP S G r := by
  obtain ⟨h1, h2, h3, h4, h5, h6, h7⟩ := h
  refine ⟨h1, h2, h3, fun i i0 i1 => ?_, h5, h6, h7⟩
  obtain ⟨a1, a2, a3, a4⟩ := h4 i i0 i1
  exact ⟨a1, a2, by rw [a3]; exact hk i i0 i1, a4⟩
/-- the tree's own numbers -/
theorem CK_s (h : CK S G r κ) (hr : 0 ≤ r 0 ∧ r 0 ≤ 40) (h1 : r 1 ≤ 40) (hab : (a = 6 ∧ b = 1 ∧ r 1 ≤ v ∧ v ≤ 40) ∨ (a = 7 ∧ b = 2) ∨ (a = 8 ∧ b = 3) ∨ (a = 9 ∧ b = 4)) : CK S (pU G S a v) (u1 r b v) κ := by
  obtain ⟨⟨p1, p2, p3, p4, p5, p6⟩, h2, h3, h4, h5, h6, h7⟩ := h
  have e : ∀ k, ¬ k = b → u1 r b v k = r k := fun k hk => u1_n hk
  have e0 : u1 r b v 0 = r 0 := e 0 (by omega)
  have ep : ∀ i, 0 ≤ i → i < 40 → pU G S a v (pc S i) = G (pc S i) := fun i i0 i1 => by
    have := pc_b (T := S) ⟨i0, i1⟩
    exact pU_n (by omega)
  have e1 : r 1 ≤ u1 r b v 1 := by
    by_cases z : b = 1
    · rw [z, u1_s]; omega
    · rw [e 1 (by omega)]; omega
  refine ⟨?_, fun i i0 i1 => ?_, fun i i0 i1 => ?_, fun i i0 i1 => ?_, fun i i0 i1 => ?_, fun i i0 i1 => ?_, RU_e h7 (fun k k0 k1 => e k (by omega))⟩
  · rw [pU_s]
    rcases hab with ⟨rfl, rfl, -⟩ | ⟨rfl, rfl⟩ | ⟨rfl, rfl⟩ | ⟨rfl, rfl⟩ <;> simp (disch := omega) only [u1_s, u1_n] <;> simp only [p1, p2, p3, p4, p5, p6, and_self]
  · rw [pU_n (by omega), e 5 (by omega), e _ (by omega)]; exact h2 i i0 i1
  · rw [pU_n (by omega), e _ (by omega)]; exact h3 i i0 i1
  · rw [e0] at i1
    rw [ep i i0 (by omega)]
    obtain ⟨⟨a1, a2, a3, a4, a5, a6, a7, a8, a9⟩, w1, w2, w3⟩ := h4 i i0 i1
    refine ⟨⟨by rw [e _ (by omega)]; exact a1, by rw [e _ (by omega)]; exact a2, by rw [e _ (by omega)]; exact a3, by rw [e _ (by omega)]; exact a4, by rw [e _ (by omega)]; exact a5, by rw [e _ (by omega)]; exact a6, by rw [e _ (by omega)]; exact a7, by rw [e _ (by omega)]; exact a8, by rw [e _ (by omega)]; exact a9⟩, fun d d0 d1 => by rw [e _ (by omega)]; exact w1 d d0 d1, w2, fun z => ?_⟩
    rw [e _ (by omega)] at z
    have w3 := w3 z
    rw [e (19 + _) (by omega)]
    exact ⟨⟨w3.1.1, by omega⟩, w3.2⟩
  · rw [e0] at i1
    rw [ep i (by omega) (by omega), e _ (by omega)]; exact h5 i i0 i1
  · rw [e0] at i0
    rw [ep i (by omega) i1]; exact h6 i i0 i1
/-- a process's count of children -/
theorem CK_3 (h : CK S G r κ) (hr : r 0 ≤ 40) (hp : 0 ≤ p ∧ p < r 0) : CK S (pU G (pc S p) 3 v) r (u1 κ p v) := by
  obtain ⟨h1, h2, h3, h4, h5, h6, h7⟩ := h
  have bp := pc_b (T := S) (i := p) (by omega)
  refine ⟨by rw [pU_n (show ¬ S = pc S p by omega)]; exact h1, fun i i0 i1 => by rw [pU_n (by omega)]; exact h2 i i0 i1, fun i i0 i1 => by rw [pU_n (by omega)]; exact h3 i i0 i1, fun i i0 i1 => ?_, fun i i0 i1 => by rw [pU_y (by omega)]; exact h5 i i0 i1, fun i i0 i1 => by rw [pU_y (by omega)]; exact h6 i i0 i1, h7⟩
  obtain ⟨a1, w1, w2, w3⟩ := h4 i i0 i1
  have ey : ∀ y, ¬ y = 3 → pU G (pc S p) 3 v (pc S i) y = G (pc S i) y := fun y hy => pU_y hy
  refine ⟨?_, fun d d0 d1 => by rw [ey 14 (by omega)]; exact w1 d d0 d1, ?_, fun z => by rw [ey 10 (by omega)]; exact w3 z⟩
  · rw [ey 1 (by omega), ey 4 (by omega), ey 5 (by omega), ey 6 (by omega), ey 7 (by omega), ey 8 (by omega), ey 9 (by omega), ey 11 (by omega), ey 12 (by omega)]
    exact a1
  · by_cases e : i = p
    · rw [e, pU_s, u1_s, u1_s]
    · rw [pU_n (pc_ne i0 hp.1 e), u1_n e]; exact w2
/-- who it hangs under -/
theorem CK_2 (h : CK S G r κ) (hr : r 0 ≤ 40) (h1 : r 1 ≤ 40) (hp : 0 < p ∧ p < r 0) : CK S (pU G (pc S p) 2 (pc S t)) (u1 r (60 + p) t) κ := by
  obtain ⟨⟨p1, p2, p3, p4, p5, p6⟩, h2, h3, h4, h5, h6, h7⟩ := h
  have bp := pc_b (T := S) (i := p) (by omega)
  have e : ∀ k, ¬ k = 60 + p → u1 r (60 + p) t k = r k := fun k hk => u1_n hk
  have ey : ∀ i y, ¬ y = 2 → pU G (pc S p) 2 (pc S t) (pc S i) y = G (pc S i) y := fun i y hy => pU_y hy
  have e0 : u1 r (60 + p) t 0 = r 0 := e 0 (by omega)
  refine ⟨?_, fun i i0 i1 => ?_, fun i i0 i1 => ?_, fun i i0 i1 => ?_, fun i i0 i1 => ?_, fun i i0 i1 => ?_, RU_e h7 (fun k k0 k1 => e k (by omega))⟩
  · rw [pU_n (show ¬ S = pc S p by omega), e0, e 1 (by omega), e 2 (by omega), e 3 (by omega), e 4 (by omega), e 59 (by omega)]
    exact ⟨p1, p2, p3, p4, p5, p6⟩
  · rw [pU_n (by omega), e 5 (by omega), e _ (by omega)]; exact h2 i i0 i1
  · rw [pU_n (by omega), e _ (by omega)]; exact h3 i i0 i1
  · rw [e0] at i1
    obtain ⟨⟨a1, a2, a3, a4, a5, a6, a7, a8, a9⟩, w1, w2, w3⟩ := h4 i i0 i1
    refine ⟨⟨by rw [ey _ _ (by omega), e _ (by omega)]; exact a1, by rw [ey _ _ (by omega), e _ (by omega)]; exact a2, by rw [ey _ _ (by omega), e _ (by omega)]; exact a3, by rw [ey _ _ (by omega), e _ (by omega)]; exact a4, by rw [ey _ _ (by omega), e _ (by omega)]; exact a5, by rw [ey _ _ (by omega), e _ (by omega)]; exact a6, by rw [ey _ _ (by omega), e _ (by omega)]; exact a7, by rw [ey _ _ (by omega), e _ (by omega)]; exact a8, by rw [ey _ _ (by omega), e _ (by omega)]; exact a9⟩, fun d d0 d1 => by rw [ey _ _ (by omega), e _ (by omega)]; exact w1 d d0 d1, by rw [ey _ _ (by omega)]; exact w2, fun z => ?_⟩
    rw [e _ (by omega)] at z
    have w3 := w3 z
    rw [ey _ _ (by omega), e 1 (by omega), e (19 + _) (by omega)]
    exact w3
  · rw [e0] at i1
    by_cases z : i = p
    · rw [z, pU_s, u1_s, u1_s]
    · rw [pU_n (pc_ne (by omega) (by omega) z), e _ (by omega)]; exact h5 i i0 i1
  · rw [e0] at i0
    rw [ey _ _ (by omega)]; exact h6 i i0 i1
/-- one of its fields -/
theorem CK_f (h : CK S G r κ) (hr : r 0 ≤ 40) (h1 : r 1 ≤ 40) (hp : 0 ≤ p ∧ p < r 0) (hab : (a = 4 ∧ b = 100) ∨ (a = 6 ∧ b = 220) ∨ (a = 7 ∧ b = 260) ∨ (a = 8 ∧ b = 340) ∨ (a = 9 ∧ b = 300) ∨ (a = 11 ∧ b = 380) ∨ (a = 12 ∧ b = 420)) : CK S (pU G (pc S p) a v) (u1 r (b + p) v) κ := by
  obtain ⟨⟨p1, p2, p3, p4, p5, p6⟩, h2, h3, h4, h5, h6, h7⟩ := h
  have hb : ((100 ≤ b ∧ b ≤ 420) ∧ (b + 40 ≤ 140 ∨ 180 ≤ b)) ∧ ¬ 14 = a ∧ ¬ 3 = a ∧ ¬ 10 = a ∧ ¬ 2 = a ∧ ¬ 1 = a := by
    rcases hab with ⟨rfl, rfl⟩ | ⟨rfl, rfl⟩ | ⟨rfl, rfl⟩ | ⟨rfl, rfl⟩ | ⟨rfl, rfl⟩ | ⟨rfl, rfl⟩ | ⟨rfl, rfl⟩ <;> decide
  obtain ⟨⟨b1, b2⟩, n14, n3, n10, n2, n1⟩ := hb
  have q1 : ((1 : Int) = a ∧ (140 : Int) = b) ∨ (¬ (1 : Int) = a ∧ ((140 : Int) + 40 ≤ b ∨ b + 40 ≤ (140 : Int))) := by
    rcases hab with ⟨rfl, rfl⟩ | ⟨rfl, rfl⟩ | ⟨rfl, rfl⟩ | ⟨rfl, rfl⟩ | ⟨rfl, rfl⟩ | ⟨rfl, rfl⟩ | ⟨rfl, rfl⟩ <;> decide
  have q2 : ((4 : Int) = a ∧ (100 : Int) = b) ∨ (¬ (4 : Int) = a ∧ ((100 : Int) + 40 ≤ b ∨ b + 40 ≤ (100 : Int))) := by
    rcases hab with ⟨rfl, rfl⟩ | ⟨rfl, rfl⟩ | ⟨rfl, rfl⟩ | ⟨rfl, rfl⟩ | ⟨rfl, rfl⟩ | ⟨rfl, rfl⟩ | ⟨rfl, rfl⟩ <;> decide
  have q3 : ((5 : Int) = a ∧ (180 : Int) = b) ∨ (¬ (5 : Int) = a ∧ ((180 : Int) + 40 ≤ b ∨ b + 40 ≤ (180 : Int))) := by
    rcases hab with ⟨rfl, rfl⟩ | ⟨rfl, rfl⟩ | ⟨rfl, rfl⟩ | ⟨rfl, rfl⟩ | ⟨rfl, rfl⟩ | ⟨rfl, rfl⟩ | ⟨rfl, rfl⟩ <;> decide
  have q4 : ((6 : Int) = a ∧ (220 : Int) = b) ∨ (¬ (6 : Int) = a ∧ ((220 : Int) + 40 ≤ b ∨ b + 40 ≤ (220 : Int))) := by
    rcases hab with ⟨rfl, rfl⟩ | ⟨rfl, rfl⟩ | ⟨rfl, rfl⟩ | ⟨rfl, rfl⟩ | ⟨rfl, rfl⟩ | ⟨rfl, rfl⟩ | ⟨rfl, rfl⟩ <;> decide
  have q5 : ((7 : Int) = a ∧ (260 : Int) = b) ∨ (¬ (7 : Int) = a ∧ ((260 : Int) + 40 ≤ b ∨ b + 40 ≤ (260 : Int))) := by
    rcases hab with ⟨rfl, rfl⟩ | ⟨rfl, rfl⟩ | ⟨rfl, rfl⟩ | ⟨rfl, rfl⟩ | ⟨rfl, rfl⟩ | ⟨rfl, rfl⟩ | ⟨rfl, rfl⟩ <;> decide
  have q6 : ((8 : Int) = a ∧ (340 : Int) = b) ∨ (¬ (8 : Int) = a ∧ ((340 : Int) + 40 ≤ b ∨ b + 40 ≤ (340 : Int))) := by
    rcases hab with ⟨rfl, rfl⟩ | ⟨rfl, rfl⟩ | ⟨rfl, rfl⟩ | ⟨rfl, rfl⟩ | ⟨rfl, rfl⟩ | ⟨rfl, rfl⟩ | ⟨rfl, rfl⟩ <;> decide
  have q7 : ((9 : Int) = a ∧ (300 : Int) = b) ∨ (¬ (9 : Int) = a ∧ ((300 : Int) + 40 ≤ b ∨ b + 40 ≤ (300 : Int))) := by
    rcases hab with ⟨rfl, rfl⟩ | ⟨rfl, rfl⟩ | ⟨rfl, rfl⟩ | ⟨rfl, rfl⟩ | ⟨rfl, rfl⟩ | ⟨rfl, rfl⟩ | ⟨rfl, rfl⟩ <;> decide
  have q8 : ((11 : Int) = a ∧ (380 : Int) = b) ∨ (¬ (11 : Int) = a ∧ ((380 : Int) + 40 ≤ b ∨ b + 40 ≤ (380 : Int))) := by
    rcases hab with ⟨rfl, rfl⟩ | ⟨rfl, rfl⟩ | ⟨rfl, rfl⟩ | ⟨rfl, rfl⟩ | ⟨rfl, rfl⟩ | ⟨rfl, rfl⟩ | ⟨rfl, rfl⟩ <;> decide
  have q9 : ((12 : Int) = a ∧ (420 : Int) = b) ∨ (¬ (12 : Int) = a ∧ ((420 : Int) + 40 ≤ b ∨ b + 40 ≤ (420 : Int))) := by
    rcases hab with ⟨rfl, rfl⟩ | ⟨rfl, rfl⟩ | ⟨rfl, rfl⟩ | ⟨rfl, rfl⟩ | ⟨rfl, rfl⟩ | ⟨rfl, rfl⟩ | ⟨rfl, rfl⟩ <;> decide
  clear hab
  have bp := pc_b (T := S) (i := p) (by omega)
  have e : ∀ k, ¬ k = b + p → u1 r (b + p) v k = r k := fun k hk => u1_n hk
  have e0 : u1 r (b + p) v 0 = r 0 := e 0 (by clear q1 q2 q3 q4 q5 q6 q7 q8 q9; omega)
  refine ⟨?_, fun i i0 i1 => ?_, fun i i0 i1 => ?_, fun i i0 i1 => ?_, fun i i0 i1 => ?_, fun i i0 i1 => ?_, ?_⟩
  · clear q1 q2 q3 q4 q5 q6 q7 q8 q9
    rw [pU_n (show ¬ S = pc S p by omega), e0, e 1 (by omega), e 2 (by omega), e 3 (by omega), e 4 (by omega), e 59 (by omega)]
    exact ⟨p1, p2, p3, p4, p5, p6⟩
  · clear q1 q2 q3 q4 q5 q6 q7 q8 q9
    rw [pU_n (by omega), e 5 (by omega), e _ (by omega)]
    exact h2 i i0 i1
  · clear q1 q2 q3 q4 q5 q6 q7 q8 q9
    rw [pU_n (by omega), e _ (by omega)]
    exact h3 i i0 i1
  · rw [e0] at i1
    obtain ⟨⟨a1, a2, a3, a4, a5, a6, a7, a8, a9⟩, w1, w2, w3⟩ := h4 i i0 i1
    have hi : 0 ≤ i ∧ i < 40 := ⟨i0, by clear q1 q2 q3 q4 q5 q6 q7 q8 q9; omega⟩
    have hp4 : 0 ≤ p ∧ p < 40 := ⟨hp.1, by clear q1 q2 q3 q4 q5 q6 q7 q8 q9; omega⟩
    refine ⟨⟨pf_w q1 a1 hi hp4, pf_w q2 a2 hi hp4, pf_w q3 a3 hi hp4, pf_w q4 a4 hi hp4, pf_w q5 a5 hi hp4, pf_w q6 a6 hi hp4, pf_w q7 a7 hi hp4, pf_w q8 a8 hi hp4, pf_w q9 a9 hi hp4⟩, fun d d0 d1 => ?_, ?_, fun z => ?_⟩
    · clear q1 q2 q3 q4 q5 q6 q7 q8 q9
      rw [pU_y n14, e _ (by omega)]; exact w1 d d0 d1
    · rw [pU_y n3]; exact w2
    · clear q1 q2 q3 q4 q5 q6 q7 q8 q9
      rw [e _ (by omega)] at z
      have w3 := w3 z
      rw [pU_y n10, e 1 (by omega), e _ (by omega)]
      exact w3
  · clear q1 q2 q3 q4 q5 q6 q7 q8 q9
    rw [e0] at i1
    rw [pU_y n2, e _ (by omega)]
    exact h5 i i0 i1
  · rw [e0] at i0
    rw [pU_y n1]
    exact h6 i i0 i1
  · clear q1 q2 q3 q4 q5 q6 q7 q8 q9
    exact RU_e h7 (fun k k0 k1 => e k (by omega))
/-- a testament is read: 2 behind 1 -/
theorem CK_1 (h : CK S G r κ) (hr : r 0 ≤ 40) (h1 : r 1 ≤ 40) (hp : 0 ≤ p ∧ p < r 0) (hst : ¬ r (140 + p) = 0) (hv : ¬ v = 0) : CK S (pU G (pc S p) 1 v) (u1 r (140 + p) v) κ := by
  obtain ⟨⟨p1, p2, p3, p4, p5, p6⟩, h2, h3, h4, h5, h6, h7⟩ := h
  have bp := pc_b (T := S) (i := p) (by omega)
  have e : ∀ k, ¬ k = 140 + p → u1 r (140 + p) v k = r k := fun k hk => u1_n hk
  have ey : ∀ i y, ¬ y = 1 → pU G (pc S p) 1 v (pc S i) y = G (pc S i) y := fun i y hy => pU_y hy
  have e0 : u1 r (140 + p) v 0 = r 0 := e 0 (by omega)
  refine ⟨?_, fun i i0 i1 => ?_, fun i i0 i1 => ?_, fun i i0 i1 => ?_, fun i i0 i1 => ?_, fun i i0 i1 => ?_, RU_e h7 (fun k k0 k1 => e k (by omega))⟩
  · rw [pU_n (show ¬ S = pc S p by omega), e0, e 1 (by omega), e 2 (by omega), e 3 (by omega), e 4 (by omega), e 59 (by omega)]
    exact ⟨p1, p2, p3, p4, p5, p6⟩
  · rw [pU_n (by omega), e 5 (by omega), e _ (by omega)]; exact h2 i i0 i1
  · rw [pU_n (by omega), e _ (by omega)]; exact h3 i i0 i1
  · rw [e0] at i1
    obtain ⟨⟨a1, a2, a3, a4, a5, a6, a7, a8, a9⟩, w1, w2, w3⟩ := h4 i i0 i1
    refine ⟨⟨pf_v a1 i0 hp.1 ?_ ?_, by rw [ey _ _ (by omega), e _ (by omega)]; exact a2, by rw [ey _ _ (by omega), e _ (by omega)]; exact a3, by rw [ey _ _ (by omega), e _ (by omega)]; exact a4, by rw [ey _ _ (by omega), e _ (by omega)]; exact a5, by rw [ey _ _ (by omega), e _ (by omega)]; exact a6, by rw [ey _ _ (by omega), e _ (by omega)]; exact a7, by rw [ey _ _ (by omega), e _ (by omega)]; exact a8, by rw [ey _ _ (by omega), e _ (by omega)]; exact a9⟩, fun d d0 d1 => by rw [ey _ _ (by omega), e _ (by omega)]; exact w1 d d0 d1, by rw [ey _ _ (by omega)]; exact w2, fun z => ?_⟩
    · omega
    · omega
    · have z2 : ¬ r (140 + i) = 0 := by
        by_cases q : i = p
        · rw [q]; exact hst
        · rw [e _ (by omega)] at z; exact z
      have w3 := w3 z2
      rw [ey _ _ (by omega), e 1 (by omega), e (19 + _) (by omega)]
      exact w3
  · rw [e0] at i1
    rw [ey _ _ (by omega), e _ (by omega)]; exact h5 i i0 i1
  · rw [e0] at i0
    have q : ¬ i = p := by omega
    rw [pU_n (pc_ne (by omega) hp.1 q)]; exact h6 i i0 i1
/-- a process has exited -/
theorem CK_x (h : CK S G r κ) (hr : r 0 ≤ 40) (h1 : 0 ≤ r 1 ∧ r 1 ≤ 39) (hp : 0 < p ∧ p < r 0) : CK S (pU (pU (pU (pU G (pc S p) 1 1) (pc S p) 9 c) (pc S p) 10 (r 1)) S 6 (r 1 + 1)) (ex1 r p c) κ := by
  obtain ⟨⟨p1, p2, p3, p4, p5, p6⟩, h2, h3, h4, h5, h6, h7⟩ := h
  have bp := pc_b (T := S) (i := p) (by omega)
  obtain ⟨v1, v2, v3, v4⟩ := ex1_v (r := r) (p := p) (code := c) (by omega) h1
  have e : ∀ k, ¬ k = 1 → ¬ k = 19 + r 1 → ¬ k = 300 + p → ¬ k = 140 + p → ex1 r p c k = r k := fun k k1 k2 k3 k4 => ex1_n ⟨k1, k2, k3, k4⟩
  have ep : ∀ i, 0 ≤ i → i < 40 → pU (pU (pU (pU G (pc S p) 1 1) (pc S p) 9 c) (pc S p) 10 (r 1)) S 6 (r 1 + 1) (pc S i) = pU (pU (pU G (pc S p) 1 1) (pc S p) 9 c) (pc S p) 10 (r 1) (pc S i) := fun i i0 i1 => by
    have := pc_b (T := S) (i := i) ⟨i0, i1⟩
    exact pU_n (by omega)
  have eo : ∀ i, 0 ≤ i → i < 40 → ¬ i = p → pU (pU (pU (pU G (pc S p) 1 1) (pc S p) 9 c) (pc S p) 10 (r 1)) S 6 (r 1 + 1) (pc S i) = G (pc S i) := fun i i0 i1 i2 => by
    rw [ep i i0 i1, pU_n (pc_ne i0 (by omega) i2), pU_n (pc_ne i0 (by omega) i2), pU_n (pc_ne i0 (by omega) i2)]
  have ex : ∀ x, ¬ x = S → ¬ x = pc S p → pU (pU (pU (pU G (pc S p) 1 1) (pc S p) 9 c) (pc S p) 10 (r 1)) S 6 (r 1 + 1) x = G x := fun x x1 x2 => by rw [pU_n x1, pU_n x2, pU_n x2, pU_n x2]
  have e0 : ex1 r p c 0 = r 0 := e 0 (by omega) (by omega) (by omega) (by omega)
  refine ⟨?_, fun i i0 i1 => ?_, fun i i0 i1 => ?_, fun i i0 i1 => ?_, fun i i0 i1 => ?_, fun i i0 i1 => ?_, RU_e h7 (fun k k0 k1 => e k (by omega) (by omega) (by omega) (by omega))⟩
  · rw [pU_s, pU_n (show ¬ S = pc S p by omega), pU_n (show ¬ S = pc S p by omega), pU_n (show ¬ S = pc S p by omega), u1_s, u1_n (by omega), u1_n (by omega), u1_n (by omega), u1_n (by omega), u1_n (by omega), e0, v1, e 2 (by omega) (by omega) (by omega) (by omega), e 3 (by omega) (by omega) (by omega) (by omega), e 4 (by omega) (by omega) (by omega) (by omega), e 59 (by omega) (by omega) (by omega) (by omega)]
    exact ⟨p1, rfl, p3, p4, p5, p6⟩
  · rw [ex _ (by omega) (by omega), e 5 (by omega) (by omega) (by omega) (by omega), e _ (by omega) (by omega) (by omega) (by omega)]; exact h2 i i0 i1
  · rw [ex _ (by omega) (by omega), e _ (by omega) (by omega) (by omega) (by omega)]; exact h3 i i0 i1
  · rw [e0] at i1
    obtain ⟨⟨a1, a2, a3, a4, a5, a6, a7, a8, a9⟩, w1, w2, w3⟩ := h4 i i0 i1
    by_cases q : i = p
    · subst q
      have ey : ∀ y, ¬ y = 1 → ¬ y = 9 → ¬ y = 10 → pU (pU (pU (pU G (pc S i) 1 1) (pc S i) 9 c) (pc S i) 10 (r 1)) S 6 (r 1 + 1) (pc S i) y = G (pc S i) y := fun y y1 y2 y3 => by rw [ep i i0 (by omega), pU_y y3, pU_y y2, pU_y y1]
      have f1 : pU (pU (pU (pU G (pc S i) 1 1) (pc S i) 9 c) (pc S i) 10 (r 1)) S 6 (r 1 + 1) (pc S i) 1 = 1 := by rw [ep i i0 (by omega), pU_y (by omega), pU_y (by omega), pU_s, u1_s]
      have f9 : pU (pU (pU (pU G (pc S i) 1 1) (pc S i) 9 c) (pc S i) 10 (r 1)) S 6 (r 1 + 1) (pc S i) 9 = c := by rw [ep i i0 (by omega), pU_y (by omega), pU_s, u1_s]
      have f10 : pU (pU (pU (pU G (pc S i) 1 1) (pc S i) 9 c) (pc S i) 10 (r 1)) S 6 (r 1 + 1) (pc S i) 10 = r 1 := by rw [ep i i0 (by omega), pU_s, u1_s]
      refine ⟨⟨by rw [f1, v4], by rw [ey _ (by omega) (by omega) (by omega), e _ (by omega) (by omega) (by omega) (by omega)]; exact a2, by rw [ey _ (by omega) (by omega) (by omega), e _ (by omega) (by omega) (by omega) (by omega)]; exact a3, by rw [ey _ (by omega) (by omega) (by omega), e _ (by omega) (by omega) (by omega) (by omega)]; exact a4, by rw [ey _ (by omega) (by omega) (by omega), e _ (by omega) (by omega) (by omega) (by omega)]; exact a5, by rw [ey _ (by omega) (by omega) (by omega), e _ (by omega) (by omega) (by omega) (by omega)]; exact a6, by rw [f9, v3], by rw [ey _ (by omega) (by omega) (by omega), e _ (by omega) (by omega) (by omega) (by omega)]; exact a8, by rw [ey _ (by omega) (by omega) (by omega), e _ (by omega) (by omega) (by omega) (by omega)]; exact a9⟩, fun d d0 d1 => by rw [ey _ (by omega) (by omega) (by omega), e _ (by omega) (by omega) (by omega) (by omega)]; exact w1 d d0 d1, by rw [ey _ (by omega) (by omega) (by omega)]; exact w2, fun _ => ?_⟩
      rw [f10, v1, v2]
      exact ⟨by omega, rfl⟩
    · rw [eo i i0 (by omega) q]
      refine ⟨⟨by rw [e _ (by omega) (by omega) (by omega) (by omega)]; exact a1, by rw [e _ (by omega) (by omega) (by omega) (by omega)]; exact a2, by rw [e _ (by omega) (by omega) (by omega) (by omega)]; exact a3, by rw [e _ (by omega) (by omega) (by omega) (by omega)]; exact a4, by rw [e _ (by omega) (by omega) (by omega) (by omega)]; exact a5, by rw [e _ (by omega) (by omega) (by omega) (by omega)]; exact a6, by rw [e _ (by omega) (by omega) (by omega) (by omega)]; exact a7, by rw [e _ (by omega) (by omega) (by omega) (by omega)]; exact a8, by rw [e _ (by omega) (by omega) (by omega) (by omega)]; exact a9⟩, fun d d0 d1 => by rw [e _ (by omega) (by omega) (by omega) (by omega)]; exact w1 d d0 d1, w2, fun z => ?_⟩
      rw [e _ (by omega) (by omega) (by omega) (by omega)] at z
      have w3 := w3 z
      rw [v1, e (19 + _) (by omega) (by omega) (by omega) (by omega)]
      exact ⟨by omega, w3.2⟩
  · rw [e0] at i1
    have e2 : ∀ y, y = 2 → pU (pU (pU (pU G (pc S p) 1 1) (pc S p) 9 c) (pc S p) 10 (r 1)) S 6 (r 1 + 1) (pc S i) y = G (pc S i) y := fun y hy => by rw [ep i (by omega) (by omega), pU_y (by omega), pU_y (by omega), pU_y (by omega)]
    rw [e2 2 rfl, e _ (by omega) (by omega) (by omega) (by omega)]; exact h5 i i0 i1
  · rw [e0] at i0
    rw [eo i (by omega) i1 (by omega)]; exact h6 i i0 i1
/-! how many children there are then -/
theorem cn_mid {P : Int → Bool} : ∀ (m : Nat) (k : Int), k ≤ o → o < k + m → cn P m k = cn (fun j => P j && !decide (j = o)) m k + if P o = true then 1 else 0 := by
  intro m
  induction m with
  | zero => intro k h1 h2; omega
  | succ m ih =>
    intro k h1 h2
    rw [cn_s, cn_s]
    by_cases e : k = o
    · subst e
      have e1 : (P k && !decide (k = k)) = false := by
        rw [decide_eq_true rfl]
        cases P k <;> rfl
      have e2 : cn P m (k + 1) = cn (fun j => P j && !decide (j = k)) m (k + 1) := cn_congr _ _ (fun j j0 j1 => by
        show P j = (P j && !decide (j = k))
        rw [decide_eq_false (show ¬ j = k by omega)]
        cases P j <;> rfl)
      show (if P k = true then 1 else 0) + cn P m (k + 1) = ((if (P k && !decide (k = k)) = true then 1 else 0) + cn (fun j => P j && !decide (j = k)) m (k + 1)) + if P k = true then 1 else 0
      rw [e1, e2, if_neg (show ¬ false = true from Bool.false_ne_true)]
      omega
    · have e1 : (P k && !decide (k = o)) = P k := by
        rw [decide_eq_false e]
        cases P k <;> rfl
      show (if P k = true then 1 else 0) + cn P m (k + 1) = ((if (P k && !decide (k = o)) = true then 1 else 0) + cn (fun j => P j && !decide (j = o)) m (k + 1)) + if P o = true then 1 else 0
      rw [e1, ih (k + 1) (by omega) (by omega)]
      omega
/-- one process differs -/
theorem kids_1 (hr : 0 ≤ r 0) (e0 : r' 0 = r 0) (ho : 0 < o ∧ o < r 0) (e : ∀ j, 0 ≤ j → j < r 0 → ¬ j = o → r' (140 + j) = r (140 + j) ∧ r' (60 + j) = r (60 + j)) : kids r' i 0 + (if r (140 + o) = 0 ∧ r (60 + o) = i then 1 else 0) = kids r i 0 + (if r' (140 + o) = 0 ∧ r' (60 + o) = i then 1 else 0) := by
  unfold kids
  rw [e0]
  have h1 := cn_mid (P := fun c => ic r c i 0) (o := o) (r 0).toNat 0 (by omega) (by omega)
  have h2 := cn_mid (P := fun c => ic r' c i 0) (o := o) (r 0).toNat 0 (by omega) (by omega)
  have h3 : cn (fun j => ic r' j i 0 && !decide (j = o)) (r 0).toNat 0 = cn (fun j => ic r j i 0 && !decide (j = o)) (r 0).toNat 0 := cn_congr _ _ (fun j j0 j1 => by
    show (ic r' j i 0 && !decide (j = o)) = (ic r j i 0 && !decide (j = o))
    by_cases c : j = o
    · rw [decide_eq_true c]
      cases ic r' j i 0 <;> cases ic r j i 0 <;> rfl
    · have := e j j0 (by omega) c
      unfold ic
      rw [this.1, this.2])
  have t1 : ∀ f : Int → Int, (if ic f o i 0 = true then (1 : Int) else 0) = if f (140 + o) = 0 ∧ f (60 + o) = i then 1 else 0 := fun f => by
    by_cases c : f (140 + o) = 0 ∧ f (60 + o) = i
    · rw [if_pos c, if_pos (ic_t.mpr ⟨c.1, c.2, by omega⟩)]
    · rw [if_neg c, if_neg (fun z => c ⟨(ic_t.mp z).1, (ic_t.mp z).2.1⟩)]
  have h1 : cn (fun c => ic r c i 0) (r 0).toNat 0 = cn (fun j => ic r j i 0 && !decide (j = o)) (r 0).toNat 0 + if ic r o i 0 = true then 1 else 0 := h1
  have h2 : cn (fun c => ic r' c i 0) (r 0).toNat 0 = cn (fun j => ic r' j i 0 && !decide (j = o)) (r 0).toNat 0 + if ic r' o i 0 = true then 1 else 0 := h2
  rw [t1] at h1 h2
  omega
theorem kids_bd : 0 ≤ kids r i s ∧ kids r i s ≤ (r 0).toNat := by
  unfold kids
  have := cn_bd (fun c => ic r c i s) (r 0).toNat 0
  omega
end PAR22
/-! ===== the class's acts on a tree, as the row changes: hanging under, adopting, a first step out (own work) ===== -/
section PAR23
variable {g g' G H K : gH} {r r' dm κ κ' : Int → Int} {a b c d e i j k l m n o p q s t u v w wo x y z S code : Int}
theorem QQ_k (h : QQ S G r dm) : 0 ≤ r 0 ∧ r 0 ≤ 40 := by have := QQ_b h; omega
theorem up_w : up r i = r (60 + i) := rfl
/-- hanging under another -/
theorem aP_put (h : QQ S G r dm) (h1 : r 1 ≤ 40) (hc : 0 < c ∧ c < r 0) (hst : r (140 + c) = 0) (ht : 0 ≤ t ∧ t < r 0) (htc : ¬ t = c) (ho : OV (up r) c t = false) : ∃ G', fP_putUnder G (pc S c) (pc S t) = some (0, G') ∧ QQ S G' (u1 r (60 + c) t) dm ∧ TF S G G' := by
  have hb := QQ_b h
  have hs := QQ_rg h hc
  have bc := pc_b (T := S) (i := c) (by omega)
  obtain ⟨v, G', e, hI, -, -⟩ := tP_putUnder (T := S) (i := c) (j := t) h.2.1 h.1 (by rw [QQ_0 h]; exact hc) (by rw [QQ_0 h]; exact ht) htc (by rw [QQ_OV h ht]; exact ho)
  have e0 := e
  rw [fP_putUnder, QQ_up h hc, if_neg (pc_pos h.1 (by omega)), if_pos (kdp h.1 (by omega)), bnd_s, bnd_s, if_pos (kdp h.1 (by omega)), bnd_s] at e
  have ee := Prod.mk.inj (Option.some.inj e)
  rw [← ee.1] at e0
  refine ⟨G', e0, ⟨h.1, hI.1, ?_, ?_, ?_, ?_⟩, hI.2⟩
  · exact WB_sup h.2.2.1 hc ht htc ho u1_s (fun k hk => u1_n (by omega))
  · rw [← ee.2]
    have kb := fun i => kids_bd (r := r) (i := i) (s := 0)
    have f3 : ∀ i, 0 ≤ i → i < r 0 → G (pc S i) 3 = kids r i 0 := fun i i0 i1 => (QQ_pe h ⟨i0, i1⟩).2.2.1
    have ks := kb (up r c)
    have kt := kb t
    have K1 := CK_3 (p := up r c) (v := w32 (G (pc S (up r c)) 3 - 1)) (CK_of h.2.2.2.1) (by omega) hs
    have K2 := CK_2 (p := c) (t := t) K1 (by omega) h1 hc
    have K3 := CK_3 (p := t) (v := w32 (pU (pU G (pc S (up r c)) 3 (w32 (G (pc S (up r c)) 3 - 1))) (pc S c) 2 (pc S t) (pc S t) 3 + 1)) K2 (by rw [u1_n (by omega)]; omega) (by rw [u1_n (by omega)]; exact ht)
    refine CK_to K3 (fun i i0 i1 => ?_)
    rw [u1_n (by omega)] at i1
    have kk := kids_1 (r := r) (r' := u1 r (60 + c) t) (o := c) (i := i) (by omega) (u1_n (by omega)) hc (fun j j0 j1 j2 => ⟨u1_n (by omega), u1_n (by omega)⟩)
    rw [u1_n (show ¬ 140 + c = 60 + c by omega), u1_s, hst] at kk
    simp only [true_and] at kk
    rw [f3 _ hs.1 hs.2, w32_r (by omega)]
    have e3 : pU (pU G (pc S (up r c)) 3 (kids r (up r c) 0 - 1)) (pc S c) 2 (pc S t) (pc S t) 3 = if t = up r c then kids r (up r c) 0 - 1 else kids r t 0 := by
      rw [pU_y (by omega)]
      by_cases z : t = up r c
      · rw [if_pos z, z, pU_s, u1_s]
      · rw [if_neg z, pU_n (pc_ne ht.1 hs.1 z)]
        exact f3 t ht.1 ht.2
    rw [e3]
    have es : r (60 + c) = up r c := rfl
    rw [es] at kk
    by_cases z1 : i = t
    · rw [z1, u1_s]
      rw [z1] at kk
      by_cases z2 : t = up r c
      · rw [if_pos z2, w32_r (by omega)]
        rw [if_pos z2.symm, if_pos rfl] at kk
        rw [← z2]
        omega
      · rw [if_neg z2, w32_r (by omega)]
        rw [if_neg (fun y => z2 y.symm), if_pos rfl] at kk
        omega
    · rw [u1_n z1]
      rw [if_neg (show ¬ t = i from fun y => z1 y.symm)] at kk
      by_cases z2 : i = up r c
      · rw [z2, u1_s]
        rw [z2, if_pos rfl] at kk
        omega
      · rw [u1_n z2]
        rw [if_neg (fun y => z2 y.symm)] at kk
        omega
  · intro i i0 i1
    rw [← ee.2, pU_y (by omega), pU_y (by omega), pU_y (by omega)]
    exact h.2.2.2.2.1 i i0 i1
  · exact LR_e h.2.2.2.2.2 (u1_n (by omega)) (u1_n (by omega)) (u1_n (by omega))
/-- being adopted -/
theorem aT_adopt (h : QQ S G r dm) (h1 : r 1 ≤ 40) (hc : 0 < c ∧ c < r 0) (hst : r (140 + c) = 0) (ht : 0 ≤ t ∧ t < r 0) (htc : ¬ t = c) (ho : OV (up r) c t = false) : ∃ G', fT_adopt G S (pc S c) (pc S t) = some (0, G') ∧ QQ S G' (adR r t c) dm ∧ TF S G G' := by
  have hb := QQ_b h
  have bc := pc_b (T := S) (i := c) (by omega)
  obtain ⟨A, eA, hA, fA⟩ := aP_put h h1 hc hst ht htc ho
  have a0 : u1 r (60 + c) t 0 = r 0 := u1_n (by omega)
  have a1 : u1 r (60 + c) t 1 = r 1 := u1_n (by omega)
  have a2 : u1 r (60 + c) t 2 = r 2 := u1_n (by omega)
  have a3 : u1 r (60 + c) t 3 = r 3 := u1_n (by omega)
  have a38 : u1 r (60 + c) t (380 + c) = r (380 + c) := u1_n (by omega)
  rw [fT_adopt, if_pos (kdp h.1 (by omega)), eA, bdN_s, bnd_s]
  -- counted
  have K1 := CK_f (a := 11) (b := 380) (p := c) (v := w32 (A (pc S c) 11 + 1)) (CK_of hA.2.2.2.1) (by omega) (by omega) (by omega) (by decide)
  have I1 : IT S A (pU A (pc S c) 11 (w32 (A (pc S c) 11 + 1))) := IT_w (IT_r hA.2.1) (by omega)
  have f11 : A (pc S c) 11 = r (380 + c) := by rw [(QQ_pe hA (i := c) (by omega)).1.2.2.2.2.2.2.2.1]; exact a38
  have n7 : pU A (pc S c) 11 (w32 (A (pc S c) 11 + 1)) S = A S := pU_n (by omega)
  have d13 : ∀ i, pU A (pc S c) 11 (w32 (A (pc S c) 11 + 1)) (pc S i) 13 = A (pc S i) 13 := fun i => pU_y (by omega)
  rw [f11] at K1 I1 n7 d13 ⊢
  generalize pU A (pc S c) 11 (w32 (r (380 + c) + 1)) = B at *
  rw [bnd_s]
  have s7 : B S 7 = r 2 := by rw [n7, hA.2.2.2.1.1.2.2.1]; exact a2
  have s8 : B S 8 = r 3 := by rw [n7, hA.2.2.2.1.1.2.2.2.1]; exact a3
  have s0 : B S 0 = S + 1 := TS_0 I1.1.1
  have b1 : u1 (u1 r (60 + c) t) (380 + c) (w32 (r (380 + c) + 1)) 1 = r 1 := by rw [u1_n (by omega)]; exact a1
  have b0 : u1 (u1 r (60 + c) t) (380 + c) (w32 (r (380 + c) + 1)) 0 = r 0 := by rw [u1_n (by omega)]; exact a0
  have K2 := CK_s (a := 7) (b := 2) (v := w32 (B S 7 + 1)) K1 (by omega) (by omega) (by omega)
  have I2 : IT S A (pU B S 7 (w32 (B S 7 + 1))) := IT_w I1 (by omega)
  have n8 : pU B S 7 (w32 (B S 7 + 1)) S 8 = r 3 := by rw [pU_y (by omega)]; exact s8
  have n0 : pU B S 7 (w32 (B S 7 + 1)) S 0 = S + 1 := by rw [pU_y (by omega)]; exact s0
  have e13 : ∀ i, 0 ≤ i → i < 40 → pU B S 7 (w32 (B S 7 + 1)) (pc S i) 13 = A (pc S i) 13 := fun i i0 i1 => by
    have := pc_b (T := S) ⟨i0, i1⟩
    rw [pU_n (by omega)]; exact d13 i
  rw [s7] at K2 I2 n8 n0 e13 ⊢
  generalize pU B S 7 (w32 (r 2 + 1)) = D at *
  have c0 : u1 (u1 (u1 r (60 + c) t) (380 + c) (w32 (r (380 + c) + 1))) 2 (w32 (r 2 + 1)) 0 = r 0 := by rw [u1_n (by omega)]; exact b0
  have c1 : u1 (u1 (u1 r (60 + c) t) (380 + c) (w32 (r (380 + c) + 1))) 2 (w32 (r 2 + 1)) 1 = r 1 := by rw [u1_n (by omega)]; exact b1
  have c3 : u1 (u1 (u1 r (60 + c) t) (380 + c) (w32 (r (380 + c) + 1))) 2 (w32 (r 2 + 1)) 3 = r 3 := by rw [u1_n (by omega), u1_n (by omega)]; exact a3
  -- the rest
  have wb : WB (adR r t c) := WB_eq hA.2.2.1 (fun k hk => by unfold adR; rw [u1_n (by omega), u1_n (by omega), u1_n (by omega)])
  have fin : ∀ E, CK S E (adR r t c) (fun i => kids (u1 r (60 + c) t) i 0) → IT S A E → (∀ i, 0 ≤ i → i < 40 → E (pc S i) 13 = A (pc S i) 13) → QQ S E (adR r t c) dm ∧ TF S G E := by
    intro E hE iE dE
    have r0_ : adR r t c 0 = r 0 := adR_n (by omega)
    refine ⟨⟨h.1, iE.1, wb, CK_to hE (fun i i0 i1 => ?_), fun i i0 i1 => ?_, ?_⟩, TF_t fA iE.2⟩
    · refine (kids_eq ?_ (fun j j0 j1 => ?_)).symm
      · rw [r0_, a0]
      · rw [a0] at j1
        unfold adR
        exact ⟨by rw [u1_n (by omega), u1_n (by omega), u1_n (by omega)], by rw [u1_n (by omega), u1_n (by omega), u1_n (by omega)]⟩
    · rw [dE i i0 i1]
      exact hA.2.2.2.2.1 i i0 i1
    · exact ⟨⟨by unfold adR; rw [u1_s]; exact inR_w32 _, by unfold adR; rw [u1_n (by omega), u1_n (by omega), u1_n (by omega), u1_n (by omega)]; exact h.2.2.2.2.2.1.2⟩, by unfold adR; rw [u1_n (by omega), u1_n (by omega), u1_n (by omega), u1_n (by omega)]; exact h.2.2.2.2.2.2⟩
  rw [n0, ← pc_0]
  by_cases z : t = 0
  · rw [if_pos (by rw [z]), bnd_s]
    have K3 := CK_s (a := 8) (b := 3) (v := w32 (D S 8 + 1)) K2 (by omega) (by omega) (by omega)
    rw [n8] at K3
    rw [n8]
    have er : adR r t c = u1 (u1 (u1 (u1 r (60 + c) t) (380 + c) (w32 (r (380 + c) + 1))) 2 (w32 (r 2 + 1))) 3 (w32 (r 3 + 1)) := by
      unfold adR
      rw [if_pos z]
    rw [← er] at K3
    obtain ⟨f1, f2⟩ := fin _ K3 (IT_w I2 (by omega)) (fun i i0 i1 => by
      have := pc_b (T := S) ⟨i0, i1⟩
      rw [pU_n (by omega)]; exact e13 i i0 i1)
    exact ⟨_, rfl, f1, f2⟩
  · rw [if_neg (fun y => z (pc_inj ht.1 (by omega) y))]
    have er : adR r t c = u1 (u1 (u1 r (60 + c) t) (380 + c) (w32 (r (380 + c) + 1))) 2 (w32 (r 2 + 1)) := by
      unfold adR
      rw [if_neg z, show r 3 + 0 = r 3 by omega, w32_id h.2.2.2.2.2.1.1]
      funext k
      by_cases k3 : k = 3
      · rw [k3, u1_s, c3]
      · rw [u1_n k3]
    rw [← er] at K2
    obtain ⟨f1, f2⟩ := fin _ K2 I2 e13
    exact ⟨_, rfl, f1, f2⟩
/-- the first step of an exit: the row is ex1, the supervisor has a child less -/
theorem aT_out (h : QQ S G r dm) (hf : WF r) (hp : 0 < p ∧ p < r 0) (hst : r (140 + p) = 0) (hc : 0 ≤ code ∧ code ≤ 255) : ∃ G', pU (pU (pU (pU (pU G (pc S p) 1 1) (pc S p) 9 code) (pc S p) 10 (r 1)) S 6 (r 1 + 1)) (pc S (up r p)) 3 (w32 (pU (pU (pU (pU G (pc S p) 1 1) (pc S p) 9 code) (pc S p) 10 (r 1)) S 6 (r 1 + 1) (pc S (up r p)) 3 - 1)) = G' ∧ QQ S G' (ex1 r p code) dm ∧ TF S G G' := by
  have hb := QQ_b h
  have hs := QQ_rg h hp
  have hn := NX_bd2 hb hf.1.2 hf.2.2.2.2.1 hp hst
  have bp := pc_b (T := S) (i := p) (by omega)
  have bs := pc_b (T := S) (i := up r p) (by omega)
  obtain ⟨E1, -⟩ := EP_ex1 (code := code) h.2.2.1 hf hp hst hc
  obtain ⟨v1, v2, v3, v4⟩ := ex1_v (r := r) (p := p) (code := code) (by omega) (by omega)
  have e0 : ex1 r p code 0 = r 0 := ex1_n (by omega)
  have K1 := CK_x (c := code) (p := p) (CK_of h.2.2.2.1) (by omega) (by omega) hp
  have I1 : IT S G (pU (pU (pU (pU G (pc S p) 1 1) (pc S p) 9 code) (pc S p) 10 (r 1)) S 6 (r 1 + 1)) := by
    have z : IT S G (pU (pU G (pc S p) 1 1) (pc S p) 9 code) := ⟨TI_ex h.2.1 ⟨p, by omega, rfl⟩ (by omega), TF_pU (TF_pU TF_r (by omega)) (by omega)⟩
    exact IT_w (IT_w z (by omega)) (by omega)
  have s3 : pU (pU (pU (pU G (pc S p) 1 1) (pc S p) 9 code) (pc S p) 10 (r 1)) S 6 (r 1 + 1) (pc S (up r p)) 3 = kids r (up r p) 0 := by
    rw [pU_n (by omega), pU_y (by omega), pU_y (by omega), pU_y (by omega)]
    exact (QQ_pe h hs).2.2.1
  have d13 : ∀ i, 0 ≤ i → i < 40 → pU (pU (pU (pU G (pc S p) 1 1) (pc S p) 9 code) (pc S p) 10 (r 1)) S 6 (r 1 + 1) (pc S i) 13 = G (pc S i) 13 := fun i i0 i1 => by
    have := pc_b (T := S) ⟨i0, i1⟩
    rw [pU_n (by omega), pU_y (by omega), pU_y (by omega), pU_y (by omega)]
  generalize pU (pU (pU (pU G (pc S p) 1 1) (pc S p) 9 code) (pc S p) 10 (r 1)) S 6 (r 1 + 1) = A at *
  have kb := kids_bd (r := r) (i := up r p) (s := 0)
  rw [s3, w32_r (by omega)]
  have K2 := CK_3 (p := up r p) (v := kids r (up r p) 0 - 1) K1 (by rw [e0]; omega) (by rw [e0]; exact hs)
  refine ⟨_, rfl, ⟨h.1, (IT_w I1 (by omega)).1, E1.1, CK_to K2 (fun i i0 i1 => ?_), fun i i0 i1 => ?_, ?_⟩, (IT_w I1 (by omega)).2⟩
  · rw [e0] at i1
    have kk := kids_1 (r := r) (r' := ex1 r p code) (o := p) (i := i) (by omega) e0 hp (fun j j0 j1 j2 => ⟨ex1_n (by omega), ex1_n (by omega)⟩)
    rw [v4, if_neg (show ¬ ((1 : Int) = 0 ∧ ex1 r p code (60 + p) = i) by omega), hst] at kk
    simp only [true_and] at kk
    have es : r (60 + p) = up r p := rfl
    rw [es] at kk
    by_cases z : i = up r p
    · rw [z, u1_s]
      rw [z, if_pos rfl] at kk
      omega
    · rw [u1_n z]
      rw [if_neg (fun y => z y.symm)] at kk
      omega
  · rw [pU_y (by omega), d13 i i0 i1]
    exact h.2.2.2.2.1 i i0 i1
  · exact LR_e h.2.2.2.2.2 (ex1_n (by omega)) (ex1_n (by omega)) (ex1_n (by omega))
end PAR23
