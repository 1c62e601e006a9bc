/-! ===== the class's acts on a tree, as the row changes: hanging under, adopting, a first step out (own work) ===== -/
section PAR23
variable {g g' G H K : gH} {r r' dm κ κ' : Int → Int} {a b c d e i j k l m n o p q s t u v w wo x y z S code : Int}
theorem QQ_k (h : QQ S G r dm) : 0 ≤ r 0 ∧ r 0 ≤ 40 := by have := QQ_b h; omega
theorem up_w : up r i = r (60 + i) := rfl
/-- hanging under another -/
theorem aP_put (h : QQ S G r dm) (h1 : r 1 ≤ 40) (hc : 0 < c ∧ c < r 0) (hst : r (140 + c) = 0) (ht : 0 ≤ t ∧ t < r 0) (htc : ¬ t = c) (ho : OV (up r) c t = false) : ∃ G', fP_putUnder G (pc S c) (pc S t) = some (0, G') ∧ QQ S G' (u1 r (60 + c) t) dm ∧ TF S G G' := by
  have hb := QQ_b h
  have hs := QQ_rg h hc
  have bc := pc_b (T := S) (i := c) (by omega)
  obtain ⟨v, G', e, hI, -, -⟩ := tP_putUnder (T := S) (i := c) (j := t) h.2.1 h.1 (by rw [QQ_0 h]; exact hc) (by rw [QQ_0 h]; exact ht) htc (by rw [QQ_OV h ht]; exact ho)
  have e0 := e
  rw [fP_putUnder, QQ_up h hc, if_neg (pc_pos h.1 (by omega)), if_pos (kdp h.1 (by omega)), bnd_s, bnd_s, if_pos (kdp h.1 (by omega)), bnd_s] at e
  have ee := Prod.mk.inj (Option.some.inj e)
  rw [← ee.1] at e0
  refine ⟨G', e0, ⟨h.1, hI.1, ?_, ?_, ?_, ?_⟩, hI.2⟩
  · exact WB_sup h.2.2.1 hc ht htc ho u1_s (fun k hk => u1_n (by omega))
  · rw [← ee.2]
    have kb := fun i => kids_bd (r := r) (i := i) (s := 0)
    have f3 : ∀ i, 0 ≤ i → i < r 0 → G (pc S i) 3 = kids r i 0 := fun i i0 i1 => (QQ_pe h ⟨i0, i1⟩).2.2.1
    have ks := kb (up r c)
    have kt := kb t
    have K1 := CK_3 (p := up r c) (v := w32 (G (pc S (up r c)) 3 - 1)) (CK_of h.2.2.2.1) (by omega) hs
    have K2 := CK_2 (p := c) (t := t) K1 (by omega) h1 hc
    have K3 := CK_3 (p := t) (v := w32 (pU (pU G (pc S (up r c)) 3 (w32 (G (pc S (up r c)) 3 - 1))) (pc S c) 2 (pc S t) (pc S t) 3 + 1)) K2 (by rw [u1_n (by omega)]; omega) (by rw [u1_n (by omega)]; exact ht)
    refine CK_to K3 (fun i i0 i1 => ?_)
    rw [u1_n (by omega)] at i1
    have kk := kids_1 (r := r) (r' := u1 r (60 + c) t) (o := c) (i := i) (by omega) (u1_n (by omega)) hc (fun j j0 j1 j2 => ⟨u1_n (by omega), u1_n (by omega)⟩)
    rw [u1_n (show ¬ 140 + c = 60 + c by omega), u1_s, hst] at kk
    simp only [true_and] at kk
    rw [f3 _ hs.1 hs.2, w32_r (by omega)]
    have e3 : pU (pU G (pc S (up r c)) 3 (kids r (up r c) 0 - 1)) (pc S c) 2 (pc S t) (pc S t) 3 = if t = up r c then kids r (up r c) 0 - 1 else kids r t 0 := by
      rw [pU_y (by omega)]
      by_cases z : t = up r c
      · rw [if_pos z, z, pU_s, u1_s]
      · rw [if_neg z, pU_n (pc_ne ht.1 hs.1 z)]
        exact f3 t ht.1 ht.2
    rw [e3]
    have es : r (60 + c) = up r c := rfl
    rw [es] at kk
    by_cases z1 : i = t
    · rw [z1, u1_s]
      rw [z1] at kk
      by_cases z2 : t = up r c
      · rw [if_pos z2, w32_r (by omega)]
        rw [if_pos z2.symm, if_pos rfl] at kk
        rw [← z2]
        omega
      · rw [if_neg z2, w32_r (by omega)]
        rw [if_neg (fun y => z2 y.symm), if_pos rfl] at kk
        omega
    · rw [u1_n z1]
      rw [if_neg (show ¬ t = i from fun y => z1 y.symm)] at kk
      by_cases z2 : i = up r c
      · rw [z2, u1_s]
        rw [z2, if_pos rfl] at kk
        omega
      · rw [u1_n z2]
        rw [if_neg (fun y => z2 y.symm)] at kk
        omega
  · intro i i0 i1
    rw [← ee.2, pU_y (by omega), pU_y (by omega), pU_y (by omega)]
    exact h.2.2.2.2.1 i i0 i1
  · exact LR_e h.2.2.2.2.2 (u1_n (by omega)) (u1_n (by omega)) (u1_n (by omega))
/-- being adopted -/
theorem aT_adopt (h : QQ S G r dm) (h1 : r 1 ≤ 40) (hc : 0 < c ∧ c < r 0) (hst : r (140 + c) = 0) (ht : 0 ≤ t ∧ t < r 0) (htc : ¬ t = c) (ho : OV (up r) c t = false) : ∃ G', fT_adopt G S (pc S c) (pc S t) = some (0, G') ∧ QQ S G' (adR r t c) dm ∧ TF S G G' := by
  have hb := QQ_b h
  have bc := pc_b (T := S) (i := c) (by omega)
  obtain ⟨A, eA, hA, fA⟩ := aP_put h h1 hc hst ht htc ho
  have a0 : u1 r (60 + c) t 0 = r 0 := u1_n (by omega)
  have a1 : u1 r (60 + c) t 1 = r 1 := u1_n (by omega)
  have a2 : u1 r (60 + c) t 2 = r 2 := u1_n (by omega)
  have a3 : u1 r (60 + c) t 3 = r 3 := u1_n (by omega)
  have a38 : u1 r (60 + c) t (380 + c) = r (380 + c) := u1_n (by omega)
  rw [fT_adopt, if_pos (kdp h.1 (by omega)), eA, bdN_s, bnd_s]
  -- counted
  have K1 := CK_f (a := 11) (b := 380) (p := c) (v := w32 (A (pc S c) 11 + 1)) (CK_of hA.2.2.2.1) (by omega) (by omega) (by omega) (by decide)
  have I1 : IT S A (pU A (pc S c) 11 (w32 (A (pc S c) 11 + 1))) := IT_w (IT_r hA.2.1) (by omega)
  have f11 : A (pc S c) 11 = r (380 + c) := by rw [(QQ_pe hA (i := c) (by omega)).1.2.2.2.2.2.2.2.1]; exact a38
  have n7 : pU A (pc S c) 11 (w32 (A (pc S c) 11 + 1)) S = A S := pU_n (by omega)
  have d13 : ∀ i, pU A (pc S c) 11 (w32 (A (pc S c) 11 + 1)) (pc S i) 13 = A (pc S i) 13 := fun i => pU_y (by omega)
  rw [f11] at K1 I1 n7 d13 ⊢
  generalize pU A (pc S c) 11 (w32 (r (380 + c) + 1)) = B at *
  rw [bnd_s]
  have s7 : B S 7 = r 2 := by rw [n7, hA.2.2.2.1.1.2.2.1]; exact a2
  have s8 : B S 8 = r 3 := by rw [n7, hA.2.2.2.1.1.2.2.2.1]; exact a3
  have s0 : B S 0 = S + 1 := TS_0 I1.1.1
  have b1 : u1 (u1 r (60 + c) t) (380 + c) (w32 (r (380 + c) + 1)) 1 = r 1 := by rw [u1_n (by omega)]; exact a1
  have b0 : u1 (u1 r (60 + c) t) (380 + c) (w32 (r (380 + c) + 1)) 0 = r 0 := by rw [u1_n (by omega)]; exact a0
  have K2 := CK_s (a := 7) (b := 2) (v := w32 (B S 7 + 1)) K1 (by omega) (by omega) (by omega)
  have I2 : IT S A (pU B S 7 (w32 (B S 7 + 1))) := IT_w I1 (by omega)
  have n8 : pU B S 7 (w32 (B S 7 + 1)) S 8 = r 3 := by rw [pU_y (by omega)]; exact s8
  have n0 : pU B S 7 (w32 (B S 7 + 1)) S 0 = S + 1 := by rw [pU_y (by omega)]; exact s0
  have e13 : ∀ i, 0 ≤ i → i < 40 → pU B S 7 (w32 (B S 7 + 1)) (pc S i) 13 = A (pc S i) 13 := fun i i0 i1 => by
    have := pc_b (T := S) ⟨i0, i1⟩
    rw [pU_n (by omega)]; exact d13 i
  rw [s7] at K2 I2 n8 n0 e13 ⊢
  generalize pU B S 7 (w32 (r 2 + 1)) = D at *
  have c0 : u1 (u1 (u1 r (60 + c) t) (380 + c) (w32 (r (380 + c) + 1))) 2 (w32 (r 2 + 1)) 0 = r 0 := by rw [u1_n (by omega)]; exact b0
  have c1 : u1 (u1 (u1 r (60 + c) t) (380 + c) (w32 (r (380 + c) + 1))) 2 (w32 (r 2 + 1)) 1 = r 1 := by rw [u1_n (by omega)]; exact b1
  have c3 : u1 (u1 (u1 r (60 + c) t) (380 + c) (w32 (r (380 + c) + 1))) 2 (w32 (r 2 + 1)) 3 = r 3 := by rw [u1_n (by omega), u1_n (by omega)]; exact a3
  -- the rest
  have wb : WB (adR r t c) := WB_eq hA.2.2.1 (fun k hk => by unfold adR; rw [u1_n (by omega), u1_n (by omega), u1_n (by omega)])
  have fin : ∀ E, CK S E (adR r t c) (fun i => kids (u1 r (60 + c) t) i 0) → IT S A E → (∀ i, 0 ≤ i → i < 40 → E (pc S i) 13 = A (pc S i) 13) → QQ S E (adR r t c) dm ∧ TF S G E := by
    intro E hE iE dE
    have r0_ : adR r t c 0 = r 0 := adR_n (by omega)
    refine ⟨⟨h.1, iE.1, wb, CK_to hE (fun i i0 i1 => ?_), fun i i0 i1 => ?_, ?_⟩, TF_t fA iE.2⟩
    · refine (kids_eq ?_ (fun j j0 j1 => ?_)).symm
      · rw [r0_, a0]
      · rw [a0] at j1
        unfold adR
        exact ⟨by rw [u1_n (by omega), u1_n (by omega), u1_n (by omega)], by rw [u1_n (by omega), u1_n (by omega), u1_n (by omega)]⟩
    · rw [dE i i0 i1]
      exact hA.2.2.2.2.1 i i0 i1
    · exact ⟨⟨by unfold adR; rw [u1_s]; exact inR_w32 _, by unfold adR; rw [u1_n (by omega), u1_n (by omega), u1_n (by omega), u1_n (by omega)]; exact h.2.2.2.2.2.1.2⟩, by unfold adR; rw [u1_n (by omega), u1_n (by omega), u1_n (by omega), u1_n (by omega)]; exact h.2.2.2.2.2.2⟩
  rw [n0, ← pc_0]
  by_cases z : t = 0
  · rw [if_pos (by rw [z]), bnd_s]
    have K3 := CK_s (a := 8) (b := 3) (v := w32 (D S 8 + 1)) K2 (by omega) (by omega) (by omega)
    rw [n8] at K3
    rw [n8]
    have er : adR r t c = u1 (u1 (u1 (u1 r (60 + c) t) (380 + c) (w32 (r (380 + c) + 1))) 2 (w32 (r 2 + 1))) 3 (w32 (r 3 + 1)) := by
      unfold adR
      rw [if_pos z]
    rw [← er] at K3
    obtain ⟨f1, f2⟩ := fin _ K3 (IT_w I2 (by omega)) (fun i i0 i1 => by
      have := pc_b (T := S) ⟨i0, i1⟩
      rw [pU_n (by omega)]; exact e13 i i0 i1)
    exact ⟨_, rfl, f1, f2⟩
  · rw [if_neg (fun y => z (pc_inj ht.1 (by omega) y))]
    have er : adR r t c = u1 (u1 (u1 r (60 + c) t) (380 + c) (w32 (r (380 + c) + 1))) 2 (w32 (r 2 + 1)) := by
      unfold adR
      rw [if_neg z, show r 3 + 0 = r 3 by omega, w32_id h.2.2.2.2.2.1.1]
      funext k
      by_cases k3 : k = 3
      · rw [k3, u1_s, c3]
      · rw [u1_n k3]
    rw [← er] at K2
    obtain ⟨f1, f2⟩ := fin _ K2 I2 e13
    exact ⟨_, rfl, f1, f2⟩
/-- the first step of an exit: the row is ex1, the supervisor has a child less -/
theorem aT_out (h : QQ S G r dm) (hf : WF r) (hp : 0 < p ∧ p < r 0) (hst : r (140 + p) = 0) (hc : 0 ≤ code ∧ code ≤ 255) : ∃ G', pU (pU (pU (pU (pU G (pc S p) 1 1) (pc S p) 9 code) (pc S p) 10 (r 1)) S 6 (r 1 + 1)) (pc S (up r p)) 3 (w32 (pU (pU (pU (pU G (pc S p) 1 1) (pc S p) 9 code) (pc S p) 10 (r 1)) S 6 (r 1 + 1) (pc S (up r p)) 3 - 1)) = G' ∧ QQ S G' (ex1 r p code) dm ∧ TF S G G' := by
  have hb := QQ_b h
  have hs := QQ_rg h hp
  have hn := NX_bd2 hb hf.1.2 hf.2.2.2.2.1 hp hst
  have bp := pc_b (T := S) (i := p) (by omega)
  have bs := pc_b (T := S) (i := up r p) (by omega)
  obtain ⟨E1, -⟩ := EP_ex1 (code := code) h.2.2.1 hf hp hst hc
  obtain ⟨v1, v2, v3, v4⟩ := ex1_v (r := r) (p := p) (code := code) (by omega) (by omega)
  have e0 : ex1 r p code 0 = r 0 := ex1_n (by omega)
  have K1 := CK_x (c := code) (p := p) (CK_of h.2.2.2.1) (by omega) (by omega) hp
  have I1 : IT S G (pU (pU (pU (pU G (pc S p) 1 1) (pc S p) 9 code) (pc S p) 10 (r 1)) S 6 (r 1 + 1)) := by
    have z : IT S G (pU (pU G (pc S p) 1 1) (pc S p) 9 code) := ⟨TI_ex h.2.1 ⟨p, by omega, rfl⟩ (by omega), TF_pU (TF_pU TF_r (by omega)) (by omega)⟩
    exact IT_w (IT_w z (by omega)) (by omega)
  have s3 : pU (pU (pU (pU G (pc S p) 1 1) (pc S p) 9 code) (pc S p) 10 (r 1)) S 6 (r 1 + 1) (pc S (up r p)) 3 = kids r (up r p) 0 := by
    rw [pU_n (by omega), pU_y (by omega), pU_y (by omega), pU_y (by omega)]
    exact (QQ_pe h hs).2.2.1
  have d13 : ∀ i, 0 ≤ i → i < 40 → pU (pU (pU (pU G (pc S p) 1 1) (pc S p) 9 code) (pc S p) 10 (r 1)) S 6 (r 1 + 1) (pc S i) 13 = G (pc S i) 13 := fun i i0 i1 => by
    have := pc_b (T := S) ⟨i0, i1⟩
    rw [pU_n (by omega), pU_y (by omega), pU_y (by omega), pU_y (by omega)]
  generalize pU (pU (pU (pU G (pc S p) 1 1) (pc S p) 9 code) (pc S p) 10 (r 1)) S 6 (r 1 + 1) = A at *
  have kb := kids_bd (r := r) (i := up r p) (s := 0)
  rw [s3, w32_r (by omega)]
  have K2 := CK_3 (p := up r p) (v := kids r (up r p) 0 - 1) K1 (by rw [e0]; omega) (by rw [e0]; exact hs)
  refine ⟨_, rfl, ⟨h.1, (IT_w I1 (by omega)).1, E1.1, CK_to K2 (fun i i0 i1 => ?_), fun i i0 i1 => ?_, ?_⟩, (IT_w I1 (by omega)).2⟩
  · rw [e0] at i1
    have kk := kids_1 (r := r) (r' := ex1 r p code) (o := p) (i := i) (by omega) e0 hp (fun j j0 j1 j2 => ⟨ex1_n (by omega), ex1_n (by omega)⟩)
    rw [v4, if_neg (show ¬ ((1 : Int) = 0 ∧ ex1 r p code (60 + p) = i) by omega), hst] at kk
    simp only [true_and] at kk
    have es : r (60 + p) = up r p := rfl
    rw [es] at kk
    by_cases z : i = up r p
    · rw [z, u1_s]
      rw [z, if_pos rfl] at kk
      omega
    · rw [u1_n z]
      rw [if_neg (fun y => z y.symm)] at kk
      omega
  · rw [pU_y (by omega), d13 i i0 i1]
    exact h.2.2.2.2.1 i i0 i1
  · exact LR_e h.2.2.2.2.2 (ex1_n (by omega)) (ex1_n (by omega)) (ex1_n (by omega))
end PAR23
