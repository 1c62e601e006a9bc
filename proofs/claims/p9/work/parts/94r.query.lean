/-! ===== the class's questions, as the row answers them (own work) ===== -/
section PAR20
variable {g g' G H K : gH} {r r' dm : Int → Int} {a b c d e i j k l m n o p q s t u v w wo x y z S : Int}
/-- the count of the root's adoptions is a number; the root has no supervisor -/
def LR (r : Int → Int) : Prop := (InR (r 3) ∧ r 380 = 0) ∧ r 60 = -1
theorem LR_e (h : LR r) (e3 : r' 3 = r 3) (e60 : r' 60 = r 60) (e380 : r' 380 = r 380) : LR r' := ⟨by rw [e3, e380]; exact h.1, by rw [e60]; exact h.2⟩
/-- a tree that stands, its row, the marks of doom -/
def QQ (S : Int) (G : gH) (r dm : Int → Int) : Prop := isT S ∧ TI G S ∧ WB r ∧ CP S G r ∧ (∀ i, 0 ≤ i → i < 40 → G (pc S i) 13 = dm i) ∧ LR r
theorem QQ_0 (h : QQ S G r dm) : G S 5 = r 0 := h.2.2.2.1.1.1
theorem QQ_b (h : QQ S G r dm) : 1 ≤ r 0 ∧ r 0 ≤ 40 := h.2.2.1.1
theorem QQ_pe (h : QQ S G r dm) (hi : 0 ≤ i ∧ i < r 0) : PE (G (pc S i)) r i := h.2.2.2.1.2.2.2.1 i hi.1 hi.2
theorem QQ_st (h : QQ S G r dm) (hi : 0 ≤ i ∧ i < r 0) : G (pc S i) 1 = r (140 + i) := (QQ_pe h hi).1.1
theorem QQ_out (h : QQ S G r dm) (hi : r 0 ≤ i ∧ i < 40) : G (pc S i) 1 = 3 := h.2.2.2.1.2.2.2.2.2.1 i hi.1 hi.2
theorem QQ_rg (h : QQ S G r dm) (hi : 0 < i ∧ i < r 0) : 0 ≤ up r i ∧ up r i < r 0 := h.2.2.1.2.1 i hi.1 hi.2
theorem QQ_up (h : QQ S G r dm) (hi : 0 < i ∧ i < r 0) : G (pc S i) 2 = pc S (up r i) := h.2.2.2.1.2.2.2.2.1 i (by omega) hi.2
theorem QQ_top (h : QQ S G r dm) : G (pc S 0) 2 = -1 := h.2.1.2.2.1
theorem QQ_o2 (h : QQ S G r dm) (hi : r 0 ≤ i ∧ i < 40) : G (pc S i) 2 = -1 := h.2.1.2.2.2.1 i (by rw [QQ_0 h]; exact hi.1) hi.2
theorem QQ_sp (h : QQ S G r dm) (hi : 0 < i ∧ i < r 0) : sp G S i = up r i := by
  unfold sp
  rw [QQ_up h hi, ix_pc (QQ_rg h hi).1]
theorem QQ_en (h : QQ S G r dm) (hi : 0 ≤ i ∧ i < r 0) : en (up r) 40 i = true := h.2.2.1.2.2.1 i hi.1 hi.2
theorem dp_ext {f f' : Int → Int} (hcl : ∀ i, 0 < i → i < m → 0 ≤ f i ∧ f i < m) (he : ∀ i, 0 < i → i < m → f' i = f i) : ∀ (n : Nat) (i : Int), 0 ≤ i → i < m → dp f' n i = dp f n i := by
  intro n
  induction n with
  | zero => intro i _ _; rfl
  | succ n ih =>
    intro i i0 i1
    show (if i = 0 then 0 else 1 + dp f' n (f' i)) = if i = 0 then 0 else 1 + dp f n (f i)
    by_cases e : i = 0
    · rw [if_pos e, if_pos e]
    · have := hcl i (by omega) i1
      rw [if_neg e, if_neg e, he i (by omega) i1, ih _ this.1 this.2]
theorem QQ_OV (h : QQ S G r dm) (hi : 0 ≤ i ∧ i < r 0) : OV (sp G S) p i = OV (up r) p i :=
  ov_ext (m := r 0) (fun j j0 j1 => QQ_rg h ⟨j0, j1⟩) (fun j j0 j1 => QQ_sp h ⟨j0, j1⟩) 40 i hi.1 hi.2
theorem QQ_DP (h : QQ S G r dm) (hi : 0 ≤ i ∧ i < r 0) : DP (sp G S) i = DP (up r) i :=
  dp_ext (m := r 0) (fun j j0 j1 => QQ_rg h ⟨j0, j1⟩) (fun j j0 j1 => QQ_sp h ⟨j0, j1⟩) 40 i hi.1 hi.2
/-! one process -/
theorem qP_mortal (h : QQ S G r dm) (hi : 0 ≤ i ∧ i < 40) : fP_isMortal G (pc S i) = some (if (0 < i ∧ i < r 0) ∧ r (140 + i) = 0 then 1 else 0) := by
  rw [fP_isMortal]
  by_cases h1 : i < r 0
  · rw [QQ_st h ⟨hi.1, h1⟩]
    by_cases h2 : r (140 + i) = 0
    · rw [if_pos h2]
      by_cases h3 : i = 0
      · subst h3
        rw [QQ_top h, if_pos (by omega), if_neg (by omega)]
      · have hb := QQ_b h
        have hr := QQ_rg h (i := i) (by omega)
        rw [QQ_up h (by omega), if_neg (pc_pos h.1 (by omega)), if_pos ⟨by omega, h2⟩]
    · rw [if_neg h2, if_neg (fun z => h2 z.2)]
  · rw [QQ_out h (by omega), if_neg (by omega), if_neg (by omega)]
theorem qP_child (h : QQ S G r dm) (hi : 0 ≤ i ∧ i < 40) (ha : 0 ≤ a ∧ a < 40) : fP_isRunningChildOf G (pc S i) (pc S a) = some (if i < r 0 ∧ ic r i a 0 = true then 1 else 0) := by
  rw [fP_isRunningChildOf]
  by_cases h1 : i < r 0
  · rw [QQ_st h ⟨hi.1, h1⟩]
    by_cases h2 : r (140 + i) = 0
    · rw [if_pos h2]
      by_cases h3 : i = 0
      · subst h3
        have := pc_pos h.1 ha
        rw [QQ_top h, if_neg (by omega), if_neg (fun z => (ic_t.mp z.2).2.2 rfl)]
      · have hb := QQ_b h
        have hr := QQ_rg h (i := i) (by omega)
        rw [QQ_up h (by omega)]
        by_cases h4 : up r i = a
        · rw [if_pos (by rw [h4]), if_pos ⟨h1, ic_t.mpr ⟨h2, h4, h3⟩⟩]
        · rw [if_neg (fun z => h4 (pc_inj hr.1 ha.1 z)), if_neg (fun z => h4 (ic_t.mp z.2).2.1)]
    · rw [if_neg h2, if_neg (fun z => h2 (ic_t.mp z.2).1)]
  · rw [QQ_out h (by omega), if_neg (by omega), if_neg (fun z => h1 z.1)]
theorem qP_zombie (h : QQ S G r dm) (hi : 0 ≤ i ∧ i < 40) (ha : 0 ≤ a ∧ a < 40) : fP_isZombieOf G (pc S i) (pc S a) = some (if i < r 0 ∧ ic r i a 1 = true then 1 else 0) := by
  rw [fP_isZombieOf]
  by_cases h1 : i < r 0
  · rw [QQ_st h ⟨hi.1, h1⟩]
    by_cases h2 : r (140 + i) = 1
    · rw [if_pos h2]
      by_cases h3 : i = 0
      · subst h3
        have := pc_pos h.1 ha
        rw [QQ_top h, if_neg (by omega), if_neg (fun z => (ic_t.mp z.2).2.2 rfl)]
      · have hb := QQ_b h
        have hr := QQ_rg h (i := i) (by omega)
        rw [QQ_up h (by omega)]
        by_cases h4 : up r i = a
        · rw [if_pos (by rw [h4]), if_pos ⟨h1, ic_t.mpr ⟨h2, h4, h3⟩⟩]
        · rw [if_neg (fun z => h4 (pc_inj hr.1 ha.1 z)), if_neg (fun z => h4 (ic_t.mp z.2).2.1)]
    · rw [if_neg h2, if_neg (fun z => h2 (ic_t.mp z.2).1)]
  · rw [QQ_out h (by omega), if_neg (by omega), if_neg (fun z => h1 z.1)]
theorem qP_inherit (h : QQ S G r dm) (hi : 0 ≤ i ∧ i < r 0) : fP_canInherit G (pc S i) = some (if r (140 + i) = 0 ∧ dm i = 0 then 1 else 0) := by
  rw [fP_canInherit, QQ_st h hi, h.2.2.2.2.1 i hi.1 (by have := QQ_b h; omega)]
  by_cases h1 : r (140 + i) = 0
  · rw [if_pos h1]
    by_cases h2 : dm i = 0
    · rw [if_pos h2, if_pos ⟨h1, h2⟩]
    · rw [if_neg h2, if_neg (fun z => h2 z.2)]
  · rw [if_neg h1, if_neg (fun z => h1 z.1)]
theorem qP_refuses (h : QQ S G r dm) (hi : 0 ≤ i ∧ i < r 0) : fP_refuses G (pc S i) v = some (if rfs r i v = true then 1 else 0) := by
  have hb := bit1 (opI 5 (r (340 + i)) v)
  rw [fP_refuses, (QQ_pe h hi).1.2.2.2.2.2.1]
  by_cases c : opI 1 (opI 5 (r (340 + i)) v) 1 = 1
  · rw [if_neg (by omega), if_pos (show rfs r i v = true from decide_eq_true c)]
  · rw [if_pos (by omega), if_neg (show ¬ rfs r i v = true from fun z => c (of_decide_eq_true z))]
theorem qP_room (h : QQ S G r dm) (hi : 0 ≤ i ∧ i < r 0) : fP_room G (pc S i) = some (room r i) := vP_room (QQ_pe h hi) (h.2.2.1.2.2.2.2.2.2 i hi.1 hi.2)
theorem qP_above (h : QQ S G r dm) (hi : 0 ≤ i ∧ i < r 0) : fP_countAbove G (pc S i) = some (DP (up r) i) := by
  have hb := QQ_b h
  rw [vP_countAbove h.2.1 h.1 (by omega), if_pos (by rw [QQ_0 h]; exact hi.2), QQ_DP h hi]
theorem qP_over (h : QQ S G r dm) (hq : 0 ≤ q) (hi : 0 ≤ i ∧ i < r 0) : fP_isOver G (pc S q) (pc S i) = some (if OV (up r) q i = true then 1 else 0) := by
  have hb := QQ_b h
  rw [vP_isOver h.2.1 h.1 hq (by omega), QQ_0 h, QQ_OV h hi]
  by_cases c : OV (up r) q i = true
  · rw [if_pos ⟨hi.2, c⟩, if_pos c]
  · rw [if_neg (fun z => c z.2), if_neg c]
theorem canA_t : canA r dm p o = true ↔ (r (140 + p) = 0 ∧ ¬ p = o ∧ ¬ OV (up r) o p = true ∧ dm p = 0 ∧ 0 < room r p ∧ DP (up r) p < r 59 ∧ ¬ rfs r p (r (180 + o)) = true) := by
  unfold canA
  simp only [Bool.and_eq_true, Bool.not_eq_true', decide_eq_true_eq, decide_eq_false_iff_not, Bool.not_eq_true]
/-- who can adopt -/
theorem qT_can (h : QQ S G r dm) (hi : 0 ≤ i ∧ i < 40) (ho : 0 ≤ o ∧ o < r 0) : fT_canAdopt G S (pc S i) (pc S o) = some (if (0 < i ∧ i < r 0) ∧ canA r dm i o = true then 1 else 0) := by
  have hb := QQ_b h
  rw [fT_canAdopt, if_pos (kdp h.1 hi), qP_mortal h hi, bdP_s]
  by_cases h1 : (0 < i ∧ i < r 0) ∧ r (140 + i) = 0
  · have hi' : 0 ≤ i ∧ i < r 0 := by omega
    rw [if_pos h1, if_neg f0, h.2.2.2.2.1 i hi.1 hi.2]
    have rb := room_bd h.2.2.1 hi'
    by_cases h2 : dm i = 0
    · rw [if_pos h2]
      by_cases h3 : i = o
      · rw [if_pos (by rw [h3]), if_neg (fun z => (canA_t.mp z.2).2.1 h3)]
      · rw [if_neg (fun z => h3 (pc_inj hi.1 ho.1 z)), if_pos (kdp h.1 (by omega)), (QQ_pe h ho).1.2.2.1, qP_refuses h hi', bdP_s]
        by_cases h4 : rfs r i (r (180 + o)) = true
        · rw [if_pos h4, if_neg f0, if_neg (fun z => (canA_t.mp z.2).2.2.2.2.2.2 h4)]
        · rw [if_neg h4, if_pos rfl, qP_room h hi', bdP_s]
          by_cases h5 : room r i = 0
          · rw [if_pos h5, if_neg (fun z => by have := (canA_t.mp z.2).2.2.2.2.1; omega)]
          · rw [if_neg h5, qP_above h hi', bdP_s, h.2.2.2.1.1.2.2.2.2.2]
            by_cases h6 : DP (up r) i < r 59
            · rw [if_pos h6, qP_over h ho.1 hi', bdP_s]
              by_cases h7 : OV (up r) o i = true
              · rw [if_pos h7, if_neg f0, if_neg (fun z => (canA_t.mp z.2).2.2.1 h7)]
              · rw [if_neg h7, if_pos rfl, if_pos ⟨h1.1, canA_t.mpr ⟨h1.2, h3, h7, h2, by omega, h6, h4⟩⟩]
            · rw [if_neg h6, if_neg (fun z => h6 (canA_t.mp z.2).2.2.2.2.2.1)]
    · rw [if_neg h2, if_neg (fun z => h2 (canA_t.mp z.2).2.2.2.1)]
  · rw [if_neg h1, if_pos rfl, if_neg (fun z => h1 ⟨z.1, (canA_t.mp z.2).1⟩)]
/-- a process or none -/
def pcx (S x : Int) : Int := if x < 0 then -1 else pc S x
theorem pcx_n : pcx S (-1) = -1 := if_pos (by omega)
theorem pcx_p (h : 0 ≤ x) : pcx S x = pc S x := if_neg (by omega)
/-- the nearest above -/
theorem qT_near (h : QQ S G r dm) (ho : 0 ≤ o ∧ o < r 0) (hw : 0 ≤ wo ∧ wo < r 0) : fT_nearest G S (pc S o) (pc S wo) = some (pcx S (nrs r dm o wo 40 wo)) := by
  have hf := fu_ge
  have hb := QQ_b h
  have key : ∀ (n : Nat) (j : Int) (m : Nat), en (up r) n j = true → (0 ≤ j ∧ j < r 0) → DP (up r) j < DP (up r) wo → n + 2 < m → lT_nearest_5 G S (pc S o) m (pc S j) = some (pcx S (nrs r dm o wo n j)) := by
    intro n
    induction n with
    | zero =>
      intro j m he hj hd hm
      obtain ⟨m, rfl⟩ : ∃ k, m = k + 2 := ⟨m - 2, by omega⟩
      have j0 : j = 0 := by simpa [en] using he
      subst j0
      show bT_nearest_5 G S (pc S o) (lT_nearest_5 G S (pc S o) (m + 1)) (pc S 0) = _
      rw [bT_nearest_5, if_neg (pc_pos h.1 (by omega)), qT_can h (by omega) ho, if_neg (by omega), bdP_s, if_pos rfl, if_pos (kdp h.1 (by omega)), QQ_top h]
      show bT_nearest_5 G S (pc S o) (lT_nearest_5 G S (pc S o) m) (-1) = _
      rw [bT_nearest_5, if_pos (by omega)]
      exact congrArg some pcx_n.symm
    | succ n ih =>
      intro j m he hj hd hm
      obtain ⟨m, rfl⟩ : ∃ k, m = k + 2 := ⟨m - 2, by omega⟩
      show bT_nearest_5 G S (pc S o) (lT_nearest_5 G S (pc S o) (m + 1)) (pc S j) = some (pcx S (if j = 0 then -1 else if j = wo then nrs r dm o wo n (up r j) else if canA r dm j o = true then j else nrs r dm o wo n (up r j)))
      rw [bT_nearest_5, if_neg (pc_pos h.1 (by omega)), qT_can h (by omega) ho, bdP_s]
      by_cases j0 : j = 0
      · subst j0
        rw [if_neg (show ¬ ((0 < (0 : Int) ∧ 0 < r 0) ∧ canA r dm 0 o = true) by omega), if_pos rfl, if_pos (kdp h.1 (by omega)), QQ_top h, if_pos rfl]
        show bT_nearest_5 G S (pc S o) (lT_nearest_5 G S (pc S o) m) (-1) = _
        rw [bT_nearest_5, if_pos (by omega)]
        exact congrArg some pcx_n.symm
      · rw [if_neg j0, if_neg (show ¬ j = wo from fun z => by rw [z] at hd; omega)]
        by_cases c : canA r dm j o = true
        · rw [if_pos (show (0 < j ∧ j < r 0) ∧ canA r dm j o = true from ⟨by omega, c⟩), if_neg f0, if_pos c, pcx_p hj.1]
        · have hr := QQ_rg h (i := j) (by omega)
          have hs := DP_s (QQ_en h hj) j0
          rw [if_neg (show ¬ ((0 < j ∧ j < r 0) ∧ canA r dm j o = true) from fun z => c z.2), if_pos rfl, if_neg c, if_pos (kdp h.1 (by omega)), QQ_up h (by omega)]
          rcases en_s.mp he with z | ⟨-, -, z⟩
          · exact absurd z j0
          · exact ih _ (m + 1) z hr (by omega) (by omega)
  rw [fT_nearest, if_pos (kdp h.1 (by omega))]
  have e40 : nrs r dm o wo 40 wo = if wo = 0 then -1 else if wo = wo then nrs r dm o wo 39 (up r wo) else if canA r dm wo o = true then wo else nrs r dm o wo 39 (up r wo) := rfl
  rw [e40]
  by_cases w0 : wo = 0
  · subst w0
    obtain ⟨m, hm⟩ : ∃ k, fu = k + 1 := ⟨fu - 1, by omega⟩
    rw [QQ_top h, if_pos rfl, hm]
    show bT_nearest_5 G S (pc S o) (lT_nearest_5 G S (pc S o) m) (-1) = _
    rw [bT_nearest_5, if_pos (by omega)]
    exact congrArg some pcx_n.symm
  · have hr := QQ_rg h (i := wo) (by omega)
    have hs := DP_s (QQ_en h hw) w0
    rw [if_neg w0, if_pos rfl, QQ_up h (by omega)]
    rcases en_s.mp (QQ_en h hw) with z | ⟨-, -, z⟩
    · exact absurd z w0
    · exact key 39 _ fu z hr (by omega) (by omega)
/-- the first among all, where the root and those that aren't there never count -/
theorem ff_cut {P Q : Int → Bool} {M : Int} (hM : 1 ≤ M ∧ M ≤ 40) (h0 : P 0 = false) (h1 : ∀ k, 1 ≤ k → k < M → P k = Q k) (h2 : ∀ k, M ≤ k → k < 40 → P k = false) : ff P 40 0 = ff Q (M - 1).toNat 1 := by
  have s1 := ff_spec P 40 0
  have s2 := ff_spec Q (M - 1).toNat 1
  have e40 : ((40 : Nat) : Int) = 40 := rfl
  rw [e40] at s1
  generalize ff P 40 0 = x at *
  generalize ff Q (M - 1).toNat 1 = y at *
  rcases s1 with ⟨a1, a2⟩ | ⟨a1, a2, a3, a4⟩
  · rcases s2 with ⟨b1, b2⟩ | ⟨b1, b2, b3, b4⟩
    · omega
    · have := a2 y (by omega) (by omega)
      rw [h1 y (by omega) (by omega), b3] at this
      cases this
  · have x0 : ¬ x = 0 := fun z => by rw [z, h0] at a3; cases a3
    have x1 : x < M := by
      by_cases z : x < M
      · exact z
      · rw [h2 x (by omega) (by omega)] at a3; cases a3
    rcases s2 with ⟨b1, b2⟩ | ⟨b1, b2, b3, b4⟩
    · have := b2 x (by omega) (by omega)
      rw [← h1 x (by omega) (by omega), a3] at this
      cases this
    · by_cases z : x = y
      · exact z
      · exfalso
        by_cases z2 : x < y
        · have := b4 x (by omega) z2
          rw [← h1 x (by omega) (by omega), a3] at this
          cases this
        · have := a4 y (by omega) (by omega)
          rw [h1 y (by omega) (by omega), b3] at this
          cases this
theorem qT_kin (h : QQ S G r dm) (ho : 0 ≤ o ∧ o < r 0) (hw : 0 ≤ wo ∧ wo < r 0) : fT_firstKin G S (pc S o) (pc S wo) = some (pcx S (KN r dm o wo)) := by
  have hf := fu_ge
  have hb := QQ_b h
  have hs := h.2.1.1
  have h24 : ∀ k, 0 ≤ k → k < 40 → kd (S + 2) = 24 ∧ (0 : Int) ≤ k ∧ k < sz (S + 2) := fun k k0 k1 => ⟨kdT2 h.1, k0, by rw [szT2 h.1]; exact k1⟩
  rw [fT_firstKin, if_pos (kdp h.1 (by omega)), TS_1 hs, if_pos (kdT2 h.1), szT2 h.1]
  unfold KN
  by_cases w0 : wo = 0
  · subst w0
    rw [QQ_top h, if_pos rfl]
    have key := find_loop (L := fun n k => lT_firstKin_19 G S (pc S o) (pc S 0) (-1) (S + 2) 40 n k) (E := fun x => some (pcx S x)) (fun _ => false) 40 0 (fun n k k0 k1 => by
      show bT_firstKin_19 G S (pc S o) (pc S 0) (-1) (S + 2) 40 (lT_firstKin_19 G S (pc S o) (pc S 0) (-1) (S + 2) 40 n) k = _
      rw [bT_firstKin_19, if_pos k1, if_pos (h24 k k0 k1), if_pos (by omega), w32_r (by omega)]
      rfl) (fun n k k0 k1 => by
      show bT_firstKin_19 G S (pc S o) (pc S 0) (-1) (S + 2) 40 (lT_firstKin_19 G S (pc S o) (pc S 0) (-1) (S + 2) 40 n) k = _
      rw [bT_firstKin_19, if_neg k1, pcx_n]) 40 0 fu (by omega) (by omega) (by omega)
    rw [show lT_firstKin_19 G S (pc S o) (pc S 0) (-1) (S + 2) 40 fu 0 = some (pcx S (ff (fun _ => false) 40 0)) from key]
    rcases ff_spec (fun _ => false) 40 0 with ⟨z, -⟩ | ⟨-, -, z, -⟩
    · rw [z]
    · cases z
  · have hr := QQ_rg h (i := wo) (by omega)
    rw [if_neg w0, QQ_up h (by omega)]
    have key := find_loop (L := fun n k => lT_firstKin_19 G S (pc S o) (pc S wo) (pc S (up r wo)) (S + 2) 40 n k) (E := fun x => some (pcx S x)) (fun k => decide (0 < k ∧ k < r 0) && knP r dm o wo k) 40 0 (fun n k k0 k1 => by
      show bT_firstKin_19 G S (pc S o) (pc S wo) (pc S (up r wo)) (S + 2) 40 (lT_firstKin_19 G S (pc S o) (pc S wo) (pc S (up r wo)) (S + 2) 40 n) k = _
      have nx : lT_firstKin_19 G S (pc S o) (pc S wo) (pc S (up r wo)) (S + 2) 40 n (w32 (k + 1)) = lT_firstKin_19 G S (pc S o) (pc S wo) (pc S (up r wo)) (S + 2) 40 n (k + 1) := by rw [w32_r (by omega)]
      rw [bT_firstKin_19, if_pos k1, if_pos (h24 k k0 k1), if_neg (pc_pos h.1 (by omega)), TS_p hs ⟨k0, k1⟩, nx]
      by_cases c1 : k = wo
      · rw [if_pos (by rw [c1]), if_neg (fun z => by
          rw [Bool.and_eq_true] at z
          have z2 := z.2
          unfold knP at z2
          rw [Bool.and_eq_true] at z2
          have z3 := z2.1
          rw [decide_eq_true c1] at z3
          cases z3)]
      · rw [if_neg (fun z => c1 (pc_inj k0 hw.1 z)), if_pos (kdp h.1 ⟨k0, k1⟩), qP_child h ⟨k0, k1⟩ (by omega), bdP_s]
        have ek : knP r dm o wo k = (ic r k (up r wo) 0 && canA r dm k o) := by
          unfold knP
          rw [decide_eq_false c1]
          rfl
        rw [ek]
        by_cases c2 : k < r 0 ∧ ic r k (up r wo) 0 = true
        · have kn0 := (ic_t.mp c2.2).2.2
          rw [if_pos c2, if_neg f0, qT_can h ⟨k0, k1⟩ ho, bdP_s, c2.2, decide_eq_true (show 0 < k ∧ k < r 0 by omega)]
          by_cases c3 : canA r dm k o = true
          · rw [if_pos (show (0 < k ∧ k < r 0) ∧ canA r dm k o = true from ⟨by omega, c3⟩), if_neg f0, c3, if_pos (show (true && (true && true)) = true from rfl), pcx_p k0]
          · rw [if_neg (show ¬ ((0 < k ∧ k < r 0) ∧ canA r dm k o = true) from fun z => c3 z.2), if_pos rfl, if_neg (show ¬ (true && (true && canA r dm k o)) = true from fun z => c3 z)]
        · rw [if_neg c2, if_pos rfl, if_neg (fun z => by
            rw [Bool.and_eq_true, Bool.and_eq_true] at z
            exact c2 ⟨(of_decide_eq_true z.1).2, z.2.1⟩)]) (fun n k k0 k1 => by
      show bT_firstKin_19 G S (pc S o) (pc S wo) (pc S (up r wo)) (S + 2) 40 (lT_firstKin_19 G S (pc S o) (pc S wo) (pc S (up r wo)) (S + 2) 40 n) k = _
      rw [bT_firstKin_19, if_neg k1, pcx_n]) 40 0 fu (by omega) (by omega) (by omega)
    rw [show lT_firstKin_19 G S (pc S o) (pc S wo) (pc S (up r wo)) (S + 2) 40 fu 0 = some (pcx S (ff (fun k => decide (0 < k ∧ k < r 0) && knP r dm o wo k) 40 0)) from key]
    rw [ff_cut (P := fun k => decide (0 < k ∧ k < r 0) && knP r dm o wo k) (Q := knP r dm o wo) hb (by
      show (decide ((0 : Int) < 0 ∧ 0 < r 0) && _) = false
      rw [decide_eq_false (by omega)]; rfl) (fun k k0 k1 => by
      show (decide (0 < k ∧ k < r 0) && _) = _
      rw [decide_eq_true (by omega)]; rfl) (fun k k0 k1 => by
      show (decide (0 < k ∧ k < r 0) && _) = false
      rw [decide_eq_false (by omega)]; rfl)]
theorem qT_old (h : QQ S G r dm) (ho : 0 ≤ o ∧ o < r 0) (hw : 0 ≤ wo ∧ wo < r 0) : fT_oldest G S (pc S o) (pc S wo) = some (pcx S (OL r dm o wo)) := by
  have hf := fu_ge
  have hb := QQ_b h
  have hs := h.2.1.1
  have h24 : ∀ k, 0 ≤ k → k < 40 → kd (S + 2) = 24 ∧ (0 : Int) ≤ k ∧ k < sz (S + 2) := fun k k0 k1 => ⟨kdT2 h.1, k0, by rw [szT2 h.1]; exact k1⟩
  rw [fT_oldest, TS_1 hs, if_pos (kdT2 h.1), szT2 h.1]
  unfold OL
  have key := find_loop (L := fun n k => lT_oldest_12 G S (pc S o) (pc S wo) (S + 2) 40 n k) (E := fun x => some (pcx S x)) (fun k => decide (0 < k ∧ k < r 0) && olP r dm o wo k) 40 0 (fun n k k0 k1 => by
    show bT_oldest_12 G S (pc S o) (pc S wo) (S + 2) 40 (lT_oldest_12 G S (pc S o) (pc S wo) (S + 2) 40 n) k = _
    have nx : lT_oldest_12 G S (pc S o) (pc S wo) (S + 2) 40 n (w32 (k + 1)) = lT_oldest_12 G S (pc S o) (pc S wo) (S + 2) 40 n (k + 1) := by rw [w32_r (by omega)]
    rw [bT_oldest_12, if_pos k1, if_pos (h24 k k0 k1), TS_p hs ⟨k0, k1⟩, nx]
    by_cases c1 : k = wo
    · rw [if_pos (by rw [c1]), if_neg (fun z => by
        rw [Bool.and_eq_true] at z
        have z2 := z.2
        unfold olP at z2
        rw [Bool.and_eq_true] at z2
        have z3 := z2.1
        rw [decide_eq_true c1] at z3
        cases z3)]
    · have ek : olP r dm o wo k = canA r dm k o := by
        unfold olP
        rw [decide_eq_false c1]
        rfl
      rw [if_neg (fun z => c1 (pc_inj k0 hw.1 z)), qT_can h ⟨k0, k1⟩ ho, bdP_s, ek]
      by_cases c3 : (0 < k ∧ k < r 0) ∧ canA r dm k o = true
      · rw [if_pos c3, if_neg f0, c3.2, decide_eq_true c3.1, if_pos (show (true && true) = true from rfl), pcx_p k0]
      · rw [if_neg c3, if_pos rfl, if_neg (fun z => by
          rw [Bool.and_eq_true] at z
          exact c3 ⟨of_decide_eq_true z.1, z.2⟩)]) (fun n k k0 k1 => by
    show bT_oldest_12 G S (pc S o) (pc S wo) (S + 2) 40 (lT_oldest_12 G S (pc S o) (pc S wo) (S + 2) 40 n) k = _
    rw [bT_oldest_12, if_neg k1, pcx_n]) 40 0 fu (by omega) (by omega) (by omega)
  rw [show lT_oldest_12 G S (pc S o) (pc S wo) (S + 2) 40 fu 0 = some (pcx S (ff (fun k => decide (0 < k ∧ k < r 0) && olP r dm o wo k) 40 0)) from key]
  rw [ff_cut (P := fun k => decide (0 < k ∧ k < r 0) && olP r dm o wo k) (Q := olP r dm o wo) hb (by
    show (decide ((0 : Int) < 0 ∧ 0 < r 0) && _) = false
    rw [decide_eq_false (by omega)]; rfl) (fun k k0 k1 => by
    show (decide (0 < k ∧ k < r 0) && _) = _
    rw [decide_eq_true (by omega)]; rfl) (fun k k0 k1 => by
    show (decide (0 < k ∧ k < r 0) && _) = false
    rw [decide_eq_false (by omega)]; rfl)]
end PAR20
