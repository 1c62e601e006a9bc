/-! ===== the class's exit on a tree, as the row changes (own work) ===== -/
theorem cmR_u1 {r : Int → Int} {x cp gp bu a v : Int} (hM : 1 ≤ r 0 ∧ r 0 < 40) (ha : ¬ a = 0 ∧ ¬ (460 + 8 * r 0 ≤ a ∧ a < 468 + 8 * r 0) ∧ ¬ a = 420 + r 0 ∧ ¬ a = 380 + r 0 ∧ ¬ a = 340 + r 0 ∧ ¬ a = 300 + r 0 ∧ ¬ a = 260 + r 0 ∧ ¬ a = 220 + r 0 ∧ ¬ a = 180 + r 0 ∧ ¬ a = 140 + r 0 ∧ ¬ a = 100 + r 0 ∧ ¬ a = 60 + r 0) : cmR (u1 r a v) x cp gp bu = u1 (cmR r x cp gp bu) a v := by
  funext k
  have e0 : u1 r a v 0 = r 0 := u1_n (fun z => ha.1 z.symm)
  by_cases c : k = a
  · rw [c, u1_s, cmR_o (by rw [e0]; exact hM) (by rw [e0]; exact ha), u1_s]
  · rw [u1_n c]
    unfold cmR
    rw [e0, u1_n c]
theorem u1_c {r : Int → Int} {a b v w : Int} (h : ¬ a = b) : u1 (u1 r a v) b w = u1 (u1 r b w) a v := by
  funext k
  by_cases c : k = b
  · rw [c, u1_s, u1_n (fun z => h z.symm), u1_s]
  · rw [u1_n c]
    by_cases c2 : k = a
    · rw [c2, u1_s, u1_s]
    · rw [u1_n c2, u1_n c2, u1_n c]
theorem rp_eq {r : Int → Int} {p s : Int} (hM : 1 ≤ r 0 ∧ r 0 < 40) (a2 : r (60 + p) = s) (a3 : 0 < p ∧ p < r 0) (a4 : 0 ≤ s ∧ s < r 0) (a5 : s ≠ p) : u1 (u1 (u1 (cmR r s (r (100 + p)) (r (180 + p)) (r (220 + p))) (220 + s) (w32 (r (220 + s) - 1))) (420 + p) (r 0)) 4 (w32 (r 4 + 1)) = rpR r p := by
  unfold rpR rpA
  rw [a2, u1_n (show ¬ 100 + p = 4 by omega), u1_n (show ¬ 100 + p = 220 + s by omega), u1_n (show ¬ 180 + p = 4 by omega), u1_n (show ¬ 180 + p = 220 + s by omega), u1_n (show ¬ 220 + p = 4 by omega), u1_n (show ¬ 220 + p = 220 + s by omega)]
  rw [cmR_u1 (by rw [u1_n (by omega)]; exact hM) (by rw [u1_n (by omega)]; refine ⟨?_, ?_, ?_, ?_, ?_, ?_, ?_, ?_, ?_, ?_, ?_, ?_⟩ <;> omega), cmR_u1 hM (by refine ⟨?_, ?_, ?_, ?_, ?_, ?_, ?_, ?_, ?_, ?_, ?_, ?_⟩ <;> omega), u1_c (a := 420 + p) (b := 4) (by omega)]
section PAR24
variable {g g' G H K : gH} {r r' dm κ κ' : Int → Int} {a b c d e i j k l m n o p q s t u v w wo x y z S code : Int}
/-- a replacement -/
theorem aT_replace (h : QQ S G r dm) (he : EP r p s (-1)) (hcode : ¬ code = 0) : ∃ G', fT_replace G S (pc S p) (pc S s) = some (pcx S (exq r dm p code), G') ∧ QQ S G' (ex2 r dm p code) (exd r dm p code) ∧ TF S G G' := by
  obtain ⟨h1, ⟨a1, a2, a3, a4, a5, a6⟩, ⟨b1, b2⟩, h4, ⟨c1, c2⟩, h6, h7, h8, h9, -⟩ := he
  have hb := QQ_b h
  have bp := pc_b (T := S) (i := p) (by omega)
  have bs := pc_b (T := S) (i := s) (by omega)
  have hbud := h9 s a4.1 a4.2
  have no : ¬ RPc r dm p code → exq r dm p code = -1 ∧ ex2 r dm p code = r ∧ exd r dm p code = dm := fun z => by
    unfold exq ex2 exd
    exact ⟨if_neg z, if_neg z, if_neg z⟩
  have fin : ¬ RPc r dm p code → ∃ G', some ((-1 : Int), G) = some (pcx S (exq r dm p code), G') ∧ QQ S G' (ex2 r dm p code) (exd r dm p code) ∧ TF S G G' := fun z => by
    obtain ⟨n1, n2, n3⟩ := no z
    rw [n1, n2, n3, pcx_n]
    exact ⟨G, rfl, h, TF_r⟩
  rw [fT_replace, if_pos (kdp h.1 (by omega)), h.2.2.2.2.1 s a4.1 (by omega)]
  by_cases d1 : dm s = 0
  · rw [if_pos d1, (QQ_pe h a4).1.2.2.2.1]
    by_cases d2 : 0 < r (220 + s)
    · rw [if_pos d2, if_pos (kdp h.1 (by omega)), (QQ_pe h (i := p) (by omega)).1.2.1, (QQ_pe h (i := p) (by omega)).1.2.2.1, (QQ_pe h (i := p) (by omega)).1.2.2.2.1]
      by_cases d3 : r 0 = 40
      · have ea : fT_arrive G S (pc S s) (r (100 + p)) (r (180 + p)) (r (220 + p)) = some (-1, G) := by
          rw [fT_arrive, QQ_0 h, if_neg (by omega), if_neg (by omega)]
        rw [ea, bdN_s, if_pos (show (-1 : Int) < 0 by omega)]
        exact fin (fun z => z.2.2.2 d3)
      · have rp : RPc r dm p code := ⟨hcode, by rw [a2]; exact d1, by rw [a2]; omega, d3⟩
        have hM : 1 ≤ r 0 ∧ r 0 < 40 := by omega
        have bn := pc_b (T := S) (i := r 0) (by omega)
        obtain ⟨A, eA, iA, t1, t2, t3, t4, t5, t6, t7⟩ := vT_arrive (a := r (100 + p)) (b := r (180 + p)) (d := r (220 + p)) (j := s) h.2.1 h.1 (by rw [QQ_0 h]; exact a4) (by rw [QQ_0 h]; omega)
        rw [QQ_0 h] at eA t1 t2 t4 t5 t6 t7
        have kb := kids_bd (r := r) (i := s) (s := 0)
        have f3 := (QQ_pe h a4).2.2.1
        rw [f3, w32_r (by omega), ← f3] at t3
        have hcp := CP_cm h.2.2.2.1 h.2.2.1 (by omega) (by omega) a4 t1 t2 t3 t4 t5 t6 t7
        have ho := fun k => cmR_o (r := r) (a := s) (c := r (100 + p)) (gp := r (180 + p)) (b := r (220 + p)) (k := k) hM
        obtain ⟨n1, n2, n3, n4, n5, n6⟩ := cmR_n (r := r) (a := s) (c := r (100 + p)) (gp := r (180 + p)) (b := r (220 + p)) hM
        have m0 : cmR r s (r (100 + p)) (r (180 + p)) (r (220 + p)) 0 = r 0 + 1 := cmR_0
        have m1 : cmR r s (r (100 + p)) (r (180 + p)) (r (220 + p)) 1 = r 1 := ho 1 (by refine ⟨?_, ?_, ?_, ?_, ?_, ?_, ?_, ?_, ?_, ?_, ?_, ?_⟩ <;> omega)
        -- the budget, the tie, the count
        have f6 : A (pc S s) 6 = r (220 + s) := by rw [t3, u1_n (by omega)]; exact (QQ_pe h a4).1.2.2.2.1
        have K1 := CK_f (a := 6) (b := 220) (p := s) (v := w32 (A (pc S s) 6 - 1)) (CK_of hcp) (by rw [m0]; omega) (by rw [m1]; omega) (by rw [m0]; omega) (by decide)
        have I1 : IT S G (pU A (pc S s) 6 (w32 (A (pc S s) 6 - 1))) := IT_w iA (by omega)
        have z0 : pU A (pc S s) 6 (w32 (A (pc S s) 6 - 1)) (pc S (r 0)) 0 = r 0 := TS_n I1.1.1 (by omega)
        have zS : ∀ y, ¬ y = 5 → pU A (pc S s) 6 (w32 (A (pc S s) 6 - 1)) S y = G S y := fun y hy => by rw [pU_n (by omega), t1, u1_n hy]
        have z13 : ∀ i, 0 ≤ i → i < 40 → pU A (pc S s) 6 (w32 (A (pc S s) 6 - 1)) (pc S i) 13 = if i = r 0 then 0 else G (pc S i) 13 := fun i i0 i1 => by
          have bi := pc_b (T := S) ⟨i0, i1⟩
          rw [pU_y (by omega)]
          by_cases y : i = r 0
          · rw [if_pos y, y]; exact t7.2.1
          · rw [if_neg y]
            by_cases y2 : i = s
            · rw [y2, t3, u1_n (by omega)]
            · rw [t2 _ (by omega) (pc_ne i0 (by omega) y) (pc_ne i0 a4.1 y2)]
        rw [eA, bdN_s, if_neg (pc_pos h.1 (by omega)), bnd_s, if_pos (kdp h.1 (by omega))]
        rw [f6] at K1 I1 z0 zS z13 ⊢
        generalize pU A (pc S s) 6 (w32 (r (220 + s) - 1)) = B at *
        rw [z0, bnd_s]
        have l0 : u1 (cmR r s (r (100 + p)) (r (180 + p)) (r (220 + p))) (220 + s) (w32 (r (220 + s) - 1)) 0 = r 0 + 1 := by rw [u1_n (by omega)]; exact m0
        have l1 : u1 (cmR r s (r (100 + p)) (r (180 + p)) (r (220 + p))) (220 + s) (w32 (r (220 + s) - 1)) 1 = r 1 := by rw [u1_n (by omega)]; exact m1
        have K2 := CK_f (a := 12) (b := 420) (p := p) (v := r 0) K1 (by rw [l0]; omega) (by rw [l1]; omega) (by rw [l0]; omega) (by decide)
        have I2 : IT S G (pU B (pc S p) 12 (r 0)) := IT_w I1 (by omega)
        have y9 : pU B (pc S p) 12 (r 0) S 9 = r 4 := by rw [pU_n (by omega), zS 9 (by omega)]; exact h.2.2.2.1.1.2.2.2.2.1
        have y13 : ∀ i, 0 ≤ i → i < 40 → pU B (pc S p) 12 (r 0) (pc S i) 13 = if i = r 0 then 0 else G (pc S i) 13 := fun i i0 i1 => by rw [pU_y (by omega)]; exact z13 i i0 i1
        generalize pU B (pc S p) 12 (r 0) = D at *
        rw [y9, bnd_s]
        have q0 : u1 (u1 (cmR r s (r (100 + p)) (r (180 + p)) (r (220 + p))) (220 + s) (w32 (r (220 + s) - 1))) (420 + p) (r 0) 0 = r 0 + 1 := by rw [u1_n (by omega)]; exact l0
        have q1 : u1 (u1 (cmR r s (r (100 + p)) (r (180 + p)) (r (220 + p))) (220 + s) (w32 (r (220 + s) - 1))) (420 + p) (r 0) 1 = r 1 := by rw [u1_n (by omega)]; exact l1
        have K3 := CK_s (a := 9) (b := 4) (v := w32 (r 4 + 1)) K2 (by omega) (by omega) (Or.inr (Or.inr (Or.inr ⟨rfl, rfl⟩)))
        have er := rp_eq (p := p) hM a2 a3 a4 a5
        rw [er] at K3
        have E2 := EP_rp ⟨h1, ⟨a1, a2, a3, a4, a5, a6⟩, ⟨b1, b2⟩, h4, ⟨c1, c2⟩, h6, h7, h8, h9, Or.inl rfl⟩ (by omega) (show ¬ r (220 + s) = 0 by omega)
        have e0 : rpR r p 0 = r 0 + 1 := by rw [← er, u1_n (by omega)]; exact q0
        have x1 : exq r dm p code = r 0 := by unfold exq; rw [if_pos rp]
        have x2 : ex2 r dm p code = rpR r p := by unfold ex2; rw [if_pos rp]
        have x3 : exd r dm p code = u1 dm (r 0) 0 := by unfold exd; rw [if_pos rp]
        rw [x1, x2, x3, pcx_p (by omega)]
        refine ⟨_, rfl, ⟨h.1, (IT_w I2 (by omega)).1, E2.1, CK_to K3 (fun i i0 i1 => ?_), fun i i0 i1 => ?_, ?_⟩, (IT_w I2 (by omega)).2⟩
        · refine (kids_eq ?_ (fun j j0 j1 => ?_)).symm
          · rw [e0, m0]
          · rw [m0] at j1
            rw [← er]
            exact ⟨by rw [u1_n (by omega), u1_n (by omega), u1_n (by omega)], by rw [u1_n (by omega), u1_n (by omega), u1_n (by omega)]⟩
        · have bi := pc_b (T := S) (i := i) (by omega)
          rw [pU_n (by omega), y13 i i0 i1]
          by_cases y : i = r 0
          · rw [if_pos y, y, u1_s]
          · rw [if_neg y, u1_n y]
            exact h.2.2.2.2.1 i i0 i1
        · rw [← er]
          exact LR_e h.2.2.2.2.2 (by rw [u1_n (by omega), u1_n (by omega), u1_n (by omega), ho 3 (by refine ⟨?_, ?_, ?_, ?_, ?_, ?_, ?_, ?_, ?_, ?_, ?_, ?_⟩ <;> omega)]) (by rw [u1_n (by omega), u1_n (by omega), u1_n (by omega), ho 60 (by refine ⟨?_, ?_, ?_, ?_, ?_, ?_, ?_, ?_, ?_, ?_, ?_, ?_⟩ <;> omega)]) (by rw [u1_n (by omega), u1_n (by omega), u1_n (by omega), ho 380 (by refine ⟨?_, ?_, ?_, ?_, ?_, ?_, ?_, ?_, ?_, ?_, ?_, ?_⟩ <;> omega)])
    · rw [if_neg d2]
      exact fin (fun z => z.2.2.1 (by rw [a2]; omega))
  · rw [if_neg d1]
    exact fin (fun z => d1 (by rw [← a2]; exact z.2.1))
end PAR24
