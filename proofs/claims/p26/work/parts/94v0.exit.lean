/-! ===== the class's exit on a tree, as the row changes (own work) ===== -/
theorem cmR_u1 {r : Int → Int} {x cp gp bu a v : Int} (hM : 1 ≤ r 0 ∧ r 0 < 40) (ha : ¬ a = 0 ∧ ¬ (460 + 8 * r 0 ≤ a ∧ a < 468 + 8 * r 0) ∧ ¬ a = 420 + r 0 ∧ ¬ a = 380 + r 0 ∧ ¬ a = 340 + r 0 ∧ ¬ a = 300 + r 0 ∧ ¬ a = 260 + r 0 ∧ ¬ a = 220 + r 0 ∧ ¬ a = 180 + r 0 ∧ ¬ a = 140 + r 0 ∧ ¬ a = 100 + r 0 ∧ ¬ a = 60 + r 0) : cmR (u1 r a v) x cp gp bu = u1 (cmR r x cp gp bu) a v := by
  funext k
  have e0 : u1 r a v 0 = r 0 := u1_n (fun z => ha.1 z.symm)
  by_cases c : k = a
  · rw [c, u1_s, cmR_o (by rw [e0]; exact hM) (by rw [e0]; exact ha), u1_s]
  · rw [u1_n c]
    unfold cmR
    rw [e0, u1_n c]
theorem u1_c {r : Int → Int} {a b v w : Int} (h : ¬ a = b) : u1 (u1 r a v) b w = u1 (u1 r b w) a v := by
  funext k
  by_cases c : k = b
  · rw [c, u1_s, u1_n (fun z => h z.symm), u1_s]
  · rw [u1_n c]
    by_cases c2 : k = a
    · rw [c2, u1_s, u1_s]
    · rw [u1_n c2, u1_n c2, u1_n c]
theorem rp_eq {r : Int → Int} {p s : Int} (hM : 1 ≤ r 0 ∧ r 0 < 40) (a2 : r (60 + p) = s) (a3 : 0 < p ∧ p < r 0) (a4 : 0 ≤ s ∧ s < r 0) (a5 : s ≠ p) : u1 (u1 (u1 (cmR r s (r (100 + p)) (r (180 + p)) (r (220 + p))) (220 + s) (w32 (r (220 + s) - 1))) (420 + p) (r 0)) 4 (w32 (r 4 + 1)) = rpR r p := by
  unfold rpR rpA
  rw [a2, u1_n (show ¬ 100 + p = 4 by omega), u1_n (show ¬ 100 + p = 220 + s by omega), u1_n (show ¬ 180 + p = 4 by omega), u1_n (show ¬ 180 + p = 220 + s by omega), u1_n (show ¬ 220 + p = 4 by omega), u1_n (show ¬ 220 + p = 220 + s by omega)]
  rw [cmR_u1 (by rw [u1_n (by omega)]; exact hM) (by rw [u1_n (by omega)]; refine ⟨?_, ?_, ?_, ?_, ?_, ?_, ?_, ?_, ?_, ?_, ?_, ?_⟩ <;> omega), cmR_u1 hM (by refine ⟨?_, ?_, ?_, ?_, ?_, ?_, ?_, ?_, ?_, ?_, ?_, ?_⟩ <;> omega), u1_c (a := 420 + p) (b := 4) (by omega)]
section PAR24
variable {g g' G H K : gH} {r r' dm κ κ' : Int → Int} {a b c d e i j k l m n o p q s t u v w wo x y z S code : Int}
/-- a replacement -/
theorem aT_replace (h : QQ S G r dm) (he : EP r p s (-1)) (hcode : ¬ code = 0) : ∃ G', fT_replace G S (pc S p) (pc S s) = some (pcx S (exq r dm p code), G') ∧ QQ S G' (ex2 r dm p code) (exd r dm p code) ∧ TF S G G' := by
  obtain ⟨h1, ⟨a1, a2, a3, a4, a5, a6⟩, ⟨b1, b2⟩, h4, ⟨c1, c2⟩, h6, h7, h8, h9, -⟩ := he
  have hb := QQ_b h
  have bp := pc_b (T := S) (i := p) (by omega)
  have bs := pc_b (T := S) (i := s) (by omega)
  have hbud := h9 s a4.1 a4.2
  have no : ¬ RPc r dm p code → exq r dm p code = -1 ∧ ex2 r dm p code = r ∧ exd r dm p code = dm := fun z => by
    unfold exq ex2 exd
    exact ⟨if_neg z, if_neg z, if_neg z⟩
  have fin : ¬ RPc r dm p code → ∃ G', some ((-1 : Int), G) = some (pcx S (exq r dm p code), G') ∧ QQ S G' (ex2 r dm p code) (exd r dm p code) ∧ TF S G G' := fun z => by
    obtain ⟨n1, n2, n3⟩ := no z
    rw [n1, n2, n3, pcx_n]
    exact ⟨G, rfl, h, TF_r⟩
  rw [fT_replace, if_pos (kdp h.1 (by omega)), h.2.2.2.2.1 s a4.1 (by omega)]
  by_cases d1 : dm s = 0
  · rw [if_pos d1, (QQ_pe h a4).1.2.2.2.1]
    by_cases d2 : 0 < r (220 + s)
    · rw [if_pos d2, if_pos (kdp h.1 (by omega)), (QQ_pe h (i := p) (by omega)).1.2.1, (QQ_pe h (i := p) (by omega)).1.2.2.1, (QQ_pe h (i := p) (by omega)).1.2.2.2.1]
      by_cases d3 : r 0 = 40
      · have ea : fT_arrive G S (pc S s) (r (100 + p)) (r (180 + p)) (r (220 + p)) = some (-1, G) := by
          rw [fT_arrive, QQ_0 h, if_neg (by omega), if_neg (by omega)]
        rw [ea, bdN_s, if_pos (show (-1 : Int) < 0 by omega)]
        exact fin (fun z => z.2.2.2 d3)
      · have rp : RPc r dm p code := ⟨hcode, by rw [a2]; exact d1, by rw [a2]; omega, d3⟩
        have hM : 1 ≤ r 0 ∧ r 0 < 40 := by omega
        have bn := pc_b (T := S) (i := r 0) (by omega)
        obtain ⟨A, eA, iA, t1, t2, t3, t4, t5, t6, t7⟩ := vT_arrive (a := r (100 + p)) (b := r (180 + p)) (d := r (220 + p)) (j := s) h.2.1 h.1 (by rw [QQ_0 h]; exact a4) (by rw [QQ_0 h]; omega)
        rw [QQ_0 h] at eA t1 t2 t4 t5 t6 t7
        have kb := kids_bd (r := r) (i := s) (s := 0)
        have f3 := (QQ_pe h a4).2.2.1
        rw [f3, w32_r (by omega), ← f3] at t3
        have hcp := CP_cm h.2.2.2.1 h.2.2.1 (by omega) (by omega) a4 t1 t2 t3 t4 t5 t6 t7
        have ho := fun k => cmR_o (r := r) (a := s) (c := r (100 + p)) (gp := r (180 + p)) (b := r (220 + p)) (k := k) hM
        obtain ⟨n1, n2, n3, n4, n5, n6⟩ := cmR_n (r := r) (a := s) (c := r (100 + p)) (gp := r (180 + p)) (b := r (220 + p)) hM
        have m0 : cmR r s (r (100 + p)) (r (180 + p)) (r (220 + p)) 0 = r 0 + 1 := cmR_0
        have m1 : cmR r s (r (100 + p)) (r (180 + p)) (r (220 + p)) 1 = r 1 := ho 1 (by refine ⟨?_, ?_, ?_, ?_, ?_, ?_, ?_, ?_, ?_, ?_, ?_, ?_⟩ <;> omega)
        -- the budget, the tie, the count
        have f6 : A (pc S s) 6 = r (220 + s) := by rw [t3, u1_n (by omega)]; exact (QQ_pe h a4).1.2.2.2.1
        have K1 := CK_f (a := 6) (b := 220) (p := s) (v := w32 (A (pc S s) 6 - 1)) (CK_of hcp) (by rw [m0]; omega) (by rw [m1]; omega) (by rw [m0]; omega) (by decide)
        have I1 : IT S G (pU A (pc S s) 6 (w32 (A (pc S s) 6 - 1))) := IT_w iA (by omega)
        have z0 : pU A (pc S s) 6 (w32 (A (pc S s) 6 - 1)) (pc S (r 0)) 0 = r 0 := TS_n I1.1.1 (by omega)
        have zS : ∀ y, ¬ y = 5 → pU A (pc S s) 6 (w32 (A (pc S s) 6 - 1)) S y = G S y := fun y hy => by rw [pU_n (by omega), t1, u1_n hy]
        have z13 : ∀ i, 0 ≤ i → i < 40 → pU A (pc S s) 6 (w32 (A (pc S s) 6 - 1)) (pc S i) 13 = if i = r 0 then 0 else G (pc S i) 13 := fun i i0 i1 => by
          have bi := pc_b (T := S) ⟨i0, i1⟩
          rw [pU_y (by omega)]
          by_cases y : i = r 0
          · rw [if_pos y, y]; exact t7.2.1
          · rw [if_neg y]
            by_cases y2 : i = s
            · rw [y2, t3, u1_n (by omega)]
            · rw [t2 _ (by omega) (pc_ne i0 (by omega) y) (pc_ne i0 a4.1 y2)]
        rw [eA, bdN_s, if_neg (pc_pos h.1 (by omega)), bnd_s, if_pos (kdp h.1 (by omega))]
        rw [f6] at K1 I1 z0 zS z13 ⊢
        generalize pU A (pc S s) 6 (w32 (r (220 + s) - 1)) = B at *
        rw [z0, bnd_s]
        have l0 : u1 (cmR r s (r (100 + p)) (r (180 + p)) (r (220 + p))) (220 + s) (w32 (r (220 + s) - 1)) 0 = r 0 + 1 := by rw [u1_n (by omega)]; exact m0
        have l1 : u1 (cmR r s (r (100 + p)) (r (180 + p)) (r (220 + p))) (220 + s) (w32 (r (220 + s) - 1)) 1 = r 1 := by rw [u1_n (by omega)]; exact m1
        have K2 := CK_f (a := 12) (b := 420) (p := p) (v := r 0) K1 (by rw [l0]; omega) (by rw [l1]; omega) (by rw [l0]; omega) (by decide)
        have I2 : IT S G (pU B (pc S p) 12 (r 0)) := IT_w I1 (by omega)
        have y9 : pU B (pc S p) 12 (r 0) S 9 = r 4 := by rw [pU_n (by omega), zS 9 (by omega)]; exact h.2.2.2.1.1.2.2.2.2.1
        have y13 : ∀ i, 0 ≤ i → i < 40 → pU B (pc S p) 12 (r 0) (pc S i) 13 = if i = r 0 then 0 else G (pc S i) 13 := fun i i0 i1 => by rw [pU_y (by omega)]; exact z13 i i0 i1
        generalize pU B (pc S p) 12 (r 0) = D at *
        rw [y9, bnd_s]
        have q0 : u1 (u1 (cmR r s (r (100 + p)) (r (180 + p)) (r (220 + p))) (220 + s) (w32 (r (220 + s) - 1))) (420 + p) (r 0) 0 = r 0 + 1 := by rw [u1_n (by omega)]; exact l0
        have q1 : u1 (u1 (cmR r s (r (100 + p)) (r (180 + p)) (r (220 + p))) (220 + s) (w32 (r (220 + s) - 1))) (420 + p) (r 0) 1 = r 1 := by rw [u1_n (by omega)]; exact l1
        have K3 := CK_s (a := 9) (b := 4) (v := w32 (r 4 + 1)) K2 (by omega) (by omega) (Or.inr (Or.inr (Or.inr ⟨rfl, rfl⟩)))
        have er := rp_eq (p := p) hM a2 a3 a4 a5
        rw [er] at K3
        have E2 := EP_rp ⟨h1, ⟨a1, a2, a3, a4, a5, a6⟩, ⟨b1, b2⟩, h4, ⟨c1, c2⟩, h6, h7, h8, h9, Or.inl rfl⟩ (by omega) (show ¬ r (220 + s) = 0 by omega)
        have e0 : rpR r p 0 = r 0 + 1 := by rw [← er, u1_n (by omega)]; exact q0
        have x1 : exq r dm p code = r 0 := by unfold exq; rw [if_pos rp]
        have x2 : ex2 r dm p code = rpR r p := by unfold ex2; rw [if_pos rp]
        have x3 : exd r dm p code = u1 dm (r 0) 0 := by unfold exd; rw [if_pos rp]
        rw [x1, x2, x3, pcx_p (by omega)]
        refine ⟨_, rfl, ⟨h.1, (IT_w I2 (by omega)).1, E2.1, CK_to K3 (fun i i0 i1 => ?_), fun i i0 i1 => ?_, ?_⟩, (IT_w I2 (by omega)).2⟩
        · refine (kids_eq ?_ (fun j j0 j1 => ?_)).symm
          · rw [e0, m0]
          · rw [m0] at j1
            rw [← er]
            exact ⟨by rw [u1_n (by omega), u1_n (by omega), u1_n (by omega)], by rw [u1_n (by omega), u1_n (by omega), u1_n (by omega)]⟩
        · have bi := pc_b (T := S) (i := i) (by omega)
          rw [pU_n (by omega), y13 i i0 i1]
          by_cases y : i = r 0
          · rw [if_pos y, y, u1_s]
          · rw [if_neg y, u1_n y]
            exact h.2.2.2.2.1 i i0 i1
        · rw [← er]
          exact LR_e h.2.2.2.2.2 (by rw [u1_n (by omega), u1_n (by omega), u1_n (by omega), ho 3 (by refine ⟨?_, ?_, ?_, ?_, ?_, ?_, ?_, ?_, ?_, ?_, ?_, ?_⟩ <;> omega)]) (by rw [u1_n (by omega), u1_n (by omega), u1_n (by omega), ho 60 (by refine ⟨?_, ?_, ?_, ?_, ?_, ?_, ?_, ?_, ?_, ?_, ?_, ?_⟩ <;> omega)]) (by rw [u1_n (by omega), u1_n (by omega), u1_n (by omega), ho 380 (by refine ⟨?_, ?_, ?_, ?_, ?_, ?_, ?_, ?_, ?_, ?_, ?_, ?_⟩ <;> omega)])
    · rw [if_neg d2]
      exact fin (fun z => z.2.2.1 (by rw [a2]; omega))
  · rw [if_neg d1]
    exact fin (fun z => d1 (by rw [← a2]; exact z.2.1))
end PAR24
/-! ===== the class's exit on a tree, as the row changes, more (own work) ===== -/
section PAR24
variable {g g' G H K : gH} {r r' dm κ κ' : Int → Int} {a b c d e i j k l m n o p q s t u v w wo x y z S code : Int}
/-- duties pass on -/
theorem aT_duties (hp : 0 < p) : ∀ (m n : Nat) (k : Int) (G : gH) (r : Int → Int), (8 - k).toNat = m → m < n → 0 ≤ k → k ≤ 8 → QQ S G r dm → EP r p s q → HP r p k → ∃ G', lT_passDuties_2 S (pc S p) (pcx S q) n k G = some (0, G') ∧ QQ S G' (fd (fun k r => dutS dm p q k r) m k r) dm ∧ TF S G G' := by
  intro m
  induction m with
  | zero =>
    intro n k G r hm hn k0 k1 h he hh
    obtain ⟨n, rfl⟩ : ∃ k, n = k + 1 := ⟨n - 1, by omega⟩
    refine ⟨G, ?_, h, TF_r⟩
    show bT_passDuties_2 S (pc S p) (pcx S q) (lT_passDuties_2 S (pc S p) (pcx S q) n) k G = _
    rw [bT_passDuties_2, if_neg (by omega)]
  | succ m ih =>
    intro n k G r hm hn k0 k1 h he hh
    obtain ⟨n, rfl⟩ : ∃ k, n = k + 1 := ⟨n - 1, by omega⟩
    have hb := QQ_b h
    have hpr := he.2.1.2.2.1
    have hc1 := he.2.2.2.2.1.1
    have hq := he.2.2.2.2.2.2.2.2.2
    obtain ⟨d1, d2, d3⟩ := dut_step (dm := dm) he hh ⟨k0, by omega⟩
    have g3 : kd (S + 3) = 20 ∧ (0 : Int) ≤ k ∧ k < sz (S + 3) := ⟨kdT3 h.1, k0, by rw [szT3 h.1]; omega⟩
    have ef : fd (fun k r => dutS dm p q k r) (m + 1) k r = fd (fun k r => dutS dm p q k r) m (k + 1) (dutS dm p q k r) := rfl
    -- a holder is written
    have wr : ∀ v, 0 ≤ v → v < r 0 → dutS dm p q k r = u1 r (11 + k) v → ∃ G', lT_passDuties_2 S (pc S p) (pcx S q) n (w32 (k + 1)) (pU G (S + 3) k (G (pc S v) 0)) = some (0, G') ∧ QQ S G' (fd (fun k r => dutS dm p q k r) (m + 1) k r) dm ∧ TF S G G' := by
      intro v v0 v1 ev
      rw [TS_n h.2.1.1 ⟨v0, by omega⟩, w32_r (by omega), ef]
      have hI := IT_w (a := S + 3) (b := k) (v := v) (IT_r h.2.1) (by omega)
      have h' : QQ S (pU G (S + 3) k v) (dutS dm p q k r) dm := by
        rw [ev] at d1 d3 ⊢
        refine ⟨h.1, hI.1, d1.1, CP_d h.2.2.2.1 (by omega) (by omega) ⟨k0, by omega⟩, fun i i0 i1 => ?_, ?_⟩
        · have bi := pc_b (T := S) (i := i) (by omega)
          rw [pU_n (by omega)]
          exact h.2.2.2.2.1 i i0 i1
        · exact LR_e h.2.2.2.2.2 (u1_n (by omega)) (u1_n (by omega)) (u1_n (by omega))
      obtain ⟨G', e1, e2, e3⟩ := ih n (k + 1) _ _ (by omega) (by omega) (by omega) (by omega) h' d1 d2
      exact ⟨G', e1, e2, TF_t hI.2 e3⟩
    show ∃ G', bT_passDuties_2 S (pc S p) (pcx S q) (lT_passDuties_2 S (pc S p) (pcx S q) n) k G = some (0, G') ∧ _
    rw [bT_passDuties_2, if_pos (by omega), TS_2 h.2.1.1, if_pos g3, if_pos (kdp h.1 (by omega)), h.2.2.2.1.2.2.1 k k0 (by omega), TS_n h.2.1.1 (by omega)]
    by_cases c : r (11 + k) = p
    · rw [if_pos c]
      by_cases c2 : q = -1
      · rw [c2, pcx_n, if_pos (show (-1 : Int) < 0 by omega), qT_inherit h (by omega) (by omega), bdP_s]
        have hv : 0 ≤ HO r dm p k ∧ HO r dm p k < r 0 := by
          rcases HO_f (dm := dm) he.1 (p := p) (by omega) ⟨k0, by omega⟩ with z | z
          · rw [z]; exact QQ_rg h (by omega)
          · exact ⟨z.1, z.2.1⟩
        rw [if_pos (kdp h.1 (by omega)), if_pos g3, bnd_s]
        have := wr (HO r dm p k) hv.1 hv.2 (by unfold dutS; rw [if_pos c, if_pos c2])
        rw [c2, pcx_n] at this
        exact this
      · have hq : 0 < q ∧ q < r 0 := by
          rcases hq with z | z
          · exact absurd z c2
          · exact ⟨z.1, z.2.1⟩
        rw [pcx_p (by omega), if_neg (pc_pos h.1 (by omega)), if_pos (kdp h.1 (by omega)), if_pos g3, bnd_s]
        have := wr q (by omega) hq.2 (by unfold dutS; rw [if_pos c, if_neg c2])
        rw [pcx_p (by omega)] at this
        exact this
    · rw [if_neg c, w32_r (by omega), ef]
      have e1 : dutS dm p q k r = r := by unfold dutS; rw [if_neg c]
      rw [e1] at d2 ⊢
      exact ih n (k + 1) G r (by omega) (by omega) (by omega) (by omega) h he d2
end PAR24
/-! ===== the class's exit on a tree, as the row changes, more (own work) ===== -/
section PAR24
variable {g g' G H K : gH} {r r' dm κ κ' : Int → Int} {a b c d e i j k l m n o p q s t u v w wo x y z S code : Int}
/-- whom an orphan goes to -/
theorem orp_t (hd : ∃ g : gH, MS g ∧ g 630 = dm) (h : EP r p s q) (hc : 0 < c ∧ c < r 0) (hi : ic r c p 0 = true) : (0 ≤ (if ¬ q = -1 ∧ 0 < room r q then q else AD r dm c p) ∧ (if ¬ q = -1 ∧ 0 < room r q then q else AD r dm c p) < r 0) ∧ ¬ (if ¬ q = -1 ∧ 0 < room r q then q else AD r dm c p) = c ∧ OV (up r) c (if ¬ q = -1 ∧ 0 < room r q then q else AD r dm c p) = false := by
  obtain ⟨g, hs, rfl⟩ := hd
  have hM := h.1.1
  obtain ⟨a1, a2, a3, a4, a5, a6⟩ := h.2.1
  obtain ⟨i1, i2, i3⟩ := ic_t.mp hi
  have hcq : c ≠ q := by
    intro e
    rcases h.2.2.2.2.2.2.2.2.2 with e2 | ⟨q1, q2, q3, q4, q5⟩
    · omega
    · rw [e, q4] at i2; exact a5 i2
  obtain ⟨d1, d2, d3⟩ := EP_dp h hc i2
  by_cases e : ¬ q = -1 ∧ 0 < room r q
  · rw [if_pos e]
    rcases h.2.2.2.2.2.2.2.2.2 with e2 | ⟨q1, q2, q3, q4, q5⟩
    · exact absurd e2 e.1
    · exact ⟨⟨by omega, q2⟩, fun z => hcq z.symm, d3 e.1 hcq⟩
  · rw [if_neg e]
    have hAD := (vM_adopterOf (g := sw g r) (o := c) (wo := p) (MS_sw hs) (by rw [sw_s]; exact h.1) (by rw [sw_s]; omega) (by rw [sw_s]; omega)).2
    rw [sw_s, sw_n (show ¬ (630 : Int) = 625 by omega)] at hAD
    rcases hAD with e2 | ⟨e2, e3, e4, e5⟩
    · rw [e2]
      exact ⟨by omega, by omega, OV_0⟩
    · obtain ⟨f1, f2, f3⟩ := canA_f e5
      exact ⟨⟨by omega, e3⟩, f2, f3⟩
theorem MM_of (hd : ∃ g : gH, MS g ∧ g 630 = dm) : MM r dm := by
  obtain ⟨g, h1, h2⟩ := hd
  exact ⟨sw g r, MS_sw h1, sw_s, by rw [sw_n (by omega)]; exact h2⟩
end PAR24
/-! ===== the class's exit on a tree, as the row changes, more (own work) ===== -/
section PAR24
variable {g g' G H K : gH} {r r' dm κ κ' : Int → Int} {a b c d e i j k l m n o p q s t u v w wo x y z S code : Int}
/-- orphans -/
theorem aT_orphans (hd : ∃ g : gH, MS g ∧ g 630 = dm) : ∀ (m n : Nat) (c : Int) (G : gH) (r : Int → Int), (r 0 - c).toNat = m → (40 - c).toNat < n → 1 ≤ c → c ≤ 40 → QQ S G r dm → EP r p s q → HP r p 8 → NC r p 0 c → ∃ G', lT_letExit_92 S (pc S p) (pc S s) b (pcx S q) (S + 2) 40 n c G = jT_letExit_163 G' S (pc S p) (pc S s) b ∧ QQ S G' (fd (fun c r => orpS dm p q c r) m c r) dm ∧ TF S G G' := by
  have skip : ∀ (m n : Nat) (c : Int) (G : gH) (r : Int → Int), (40 - c).toNat = m → m < n → r 0 ≤ c → 1 ≤ c → QQ S G r dm → (0 ≤ p ∧ p < 40) → lT_letExit_92 S (pc S p) (pc S s) b (pcx S q) (S + 2) 40 n c G = jT_letExit_163 G S (pc S p) (pc S s) b := by
    intro m
    induction m with
    | zero =>
      intro n c G r hm hn c0 c1 h hp
      obtain ⟨n, rfl⟩ : ∃ k, n = k + 1 := ⟨n - 1, by omega⟩
      show bT_letExit_92 S (pc S p) (pc S s) b (pcx S q) (S + 2) 40 (lT_letExit_92 S (pc S p) (pc S s) b (pcx S q) (S + 2) 40 n) c G = _
      rw [bT_letExit_92, if_neg (by omega)]
    | succ m ih =>
      intro n c G r hm hn c0 c1 h hp
      obtain ⟨n, rfl⟩ : ∃ k, n = k + 1 := ⟨n - 1, by omega⟩
      show bT_letExit_92 S (pc S p) (pc S s) b (pcx S q) (S + 2) 40 (lT_letExit_92 S (pc S p) (pc S s) b (pcx S q) (S + 2) 40 n) c G = _
      rw [bT_letExit_92, if_pos (by omega), if_pos ⟨kdT2 h.1, by omega, by rw [szT2 h.1]; omega⟩, TS_p h.2.1.1 (by omega), if_pos (kdp h.1 (by omega)), qP_child h (by omega) hp, if_neg (by omega), bdP_s, if_pos rfl, w32_r (by omega)]
      exact ih n (c + 1) G r (by omega) (by omega) (by omega) (by omega) h hp
  intro m
  induction m with
  | zero =>
    intro n c G r hm hn c0 c1 h he hh hn0
    have hb := QQ_b h
    have hp := he.2.1.2.2.1
    exact ⟨G, skip _ n c G r rfl hn (by omega) c0 h (by omega), h, TF_r⟩
  | succ m ih =>
    intro n c G r hm hn c0 c1 h he hh hn0
    obtain ⟨n, rfl⟩ : ∃ k, n = k + 1 := ⟨n - 1, by omega⟩
    have hb := QQ_b h
    have hp := he.2.1.2.2.1
    have hc1 := he.2.2.2.2.1.1
    have hcr : 0 < c ∧ c < r 0 := by omega
    have os : EP (orpS dm p q c r) p s q ∧ HP (orpS dm p q c r) p 8 ∧ NC (orpS dm p q c r) p 0 (c + 1) ∧ orpS dm p q c r 0 = r 0 := by
      obtain ⟨g, hs, rfl⟩ := hd
      exact orp_step hs he hh hn0 hcr
    obtain ⟨o1, o2, o3, o4⟩ := os
    have ef : fd (fun c r => orpS dm p q c r) (m + 1) c r = fd (fun c r => orpS dm p q c r) m (c + 1) (orpS dm p q c r) := rfl
    have nx : ∀ G1, QQ S G1 (orpS dm p q c r) dm → TF S G G1 → ∃ G', lT_letExit_92 S (pc S p) (pc S s) b (pcx S q) (S + 2) 40 n (w32 (c + 1)) G1 = jT_letExit_163 G' S (pc S p) (pc S s) b ∧ QQ S G' (fd (fun c r => orpS dm p q c r) (m + 1) c r) dm ∧ TF S G G' := by
      intro G1 h1 f1
      rw [w32_r (by omega), ef]
      obtain ⟨G', e1, e2, e3⟩ := ih n (c + 1) G1 _ (by rw [o4]; omega) (by omega) (by omega) (by omega) h1 o1 o2 o3
      exact ⟨G', e1, e2, TF_t f1 e3⟩
    show ∃ G', bT_letExit_92 S (pc S p) (pc S s) b (pcx S q) (S + 2) 40 (lT_letExit_92 S (pc S p) (pc S s) b (pcx S q) (S + 2) 40 n) c G = _ ∧ _
    rw [bT_letExit_92, if_pos (by omega), if_pos ⟨kdT2 h.1, by omega, by rw [szT2 h.1]; omega⟩, TS_p h.2.1.1 (by omega), if_pos (kdp h.1 (by omega)), qP_child h (by omega) (by omega), bdP_s]
    by_cases hi : ic r c p 0 = true
    · have eo : orpS dm p q c r = adR r (if ¬ q = -1 ∧ 0 < room r q then q else AD r dm c p) c := by unfold orpS; rw [if_pos hi]
      obtain ⟨t1, t2, t3⟩ := orp_t hd he hcr hi
      obtain ⟨i1, i2, i3⟩ := ic_t.mp hi
      have iu : up r c = p := i2
      have hq := he.2.2.2.2.2.2.2.2.2
      rw [if_pos (show c < r 0 ∧ ic r c p 0 = true from ⟨hcr.2, hi⟩), if_neg f0]
      obtain ⟨G1, eA, hA, fA⟩ := aT_adopt h (by omega) hcr i1 t1 t2 t3
      rw [← eo] at hA
      have e132 : ¬ (¬ q = -1 ∧ 0 < room r q) → jT_letExit_132 (lT_letExit_92 S (pc S p) (pc S s) b (pcx S q) (S + 2) 40 n) G S (pc S p) (pc S s) b (pcx S q) (S + 2) 40 c (pc S c) = lT_letExit_92 S (pc S p) (pc S s) b (pcx S q) (S + 2) 40 n (w32 (c + 1)) G1 := fun z => by
        have ea := qT_adopter h (MM_of hd) hcr
        rw [iu] at ea
        rw [if_neg z] at eA
        rw [jT_letExit_132, jT_letExit_133, if_pos rfl, ea, bdP_s, eA, bdN_s]
      by_cases c2 : q = -1
      · rw [if_pos (show pcx S q < 0 by rw [c2, pcx_n]; omega), e132 (fun z => z.1 c2)]
        exact nx G1 hA fA
      · have hq : 0 < q ∧ q < r 0 := by
          rcases hq with z | z
          · exact absurd z c2
          · exact ⟨z.1, z.2.1⟩
        have epq : pcx S q = pc S q := pcx_p (by omega)
        rw [if_neg (show ¬ pcx S q < 0 by rw [epq]; exact pc_pos h.1 (by omega)), if_pos (show kd (pcx S q) = 3 by rw [epq]; exact kdp h.1 (by omega)), show fP_room G (pcx S q) = some (room r q) by rw [epq]; exact qP_room h (by omega), bdP_s]
        by_cases c3 : 0 < room r q
        · rw [if_pos ⟨c2, c3⟩] at eA
          rw [if_pos c3, jT_letExit_133, if_neg f0]
          rw [show fT_adopt G S (pc S c) (pcx S q) = some (0, G1) by rw [epq]; exact eA, bdN_s]
          exact nx G1 hA fA
        · rw [if_neg c3, e132 (fun z => c3 z.2)]
          exact nx G1 hA fA
    · have eo : orpS dm p q c r = r := by unfold orpS; rw [if_neg hi]
      rw [if_neg (show ¬ (c < r 0 ∧ ic r c p 0 = true) from fun z => hi z.2), if_pos rfl]
      exact nx G (by rw [eo]; exact h) TF_r
end PAR24
/-! ===== the class's exit on a tree, as the row changes, more (own work) ===== -/
section PAR24
variable {g g' G H K : gH} {r r' dm κ κ' : Int → Int} {a b c d e i j k l m n o p q s t u v w wo x y z S code : Int}
/-- zombies -/
theorem aT_zombies : ∀ (m n : Nat) (c : Int) (G : gH) (r : Int → Int), (r 0 - c).toNat = m → (40 - c).toNat < n → 1 ≤ c → c ≤ 40 → QQ S G r dm → EP r p s q → HP r p 8 → NC r p 0 (r 0) → NC r p 1 c → ∃ G', lT_letExit_177 S (pc S p) (pc S s) b (S + 2) 40 n c G = jT_letExit_212 G' S (pc S s) b ∧ QQ S G' (fd (fun c r => zomS p s c r) m c r) dm ∧ TF S G G' := by
  have skip : ∀ (m n : Nat) (c : Int) (G : gH) (r : Int → Int), (40 - c).toNat = m → m < n → r 0 ≤ c → 1 ≤ c → QQ S G r dm → (0 ≤ p ∧ p < 40) → lT_letExit_177 S (pc S p) (pc S s) b (S + 2) 40 n c G = jT_letExit_212 G S (pc S s) b := by
    intro m
    induction m with
    | zero =>
      intro n c G r hm hn c0 c1 h hp
      obtain ⟨n, rfl⟩ : ∃ k, n = k + 1 := ⟨n - 1, by omega⟩
      show bT_letExit_177 S (pc S p) (pc S s) b (S + 2) 40 (lT_letExit_177 S (pc S p) (pc S s) b (S + 2) 40 n) c G = _
      rw [bT_letExit_177, if_neg (by omega)]
    | succ m ih =>
      intro n c G r hm hn c0 c1 h hp
      obtain ⟨n, rfl⟩ : ∃ k, n = k + 1 := ⟨n - 1, by omega⟩
      show bT_letExit_177 S (pc S p) (pc S s) b (S + 2) 40 (lT_letExit_177 S (pc S p) (pc S s) b (S + 2) 40 n) c G = _
      rw [bT_letExit_177, if_pos (by omega), if_pos ⟨kdT2 h.1, by omega, by rw [szT2 h.1]; omega⟩, TS_p h.2.1.1 (by omega), if_pos (kdp h.1 (by omega)), qP_zombie h (by omega) hp, if_neg (by omega), bdP_s, if_pos rfl, w32_r (by omega)]
      exact ih n (c + 1) G r (by omega) (by omega) (by omega) (by omega) h hp
  intro m
  induction m with
  | zero =>
    intro n c G r hm hn c0 c1 h he hh hn0 hn1
    have hb := QQ_b h
    have hp := he.2.1.2.2.1
    exact ⟨G, skip _ n c G r rfl hn (by omega) c0 h (by omega), h, TF_r⟩
  | succ m ih =>
    intro n c G r hm hn c0 c1 h he hh hn0 hn1
    obtain ⟨n, rfl⟩ : ∃ k, n = k + 1 := ⟨n - 1, by omega⟩
    have hb := QQ_b h
    have hp := he.2.1.2.2.1
    have ha4 := he.2.1.2.2.2.1
    have hc1 := he.2.2.2.2.1.1
    have hcr : 0 < c ∧ c < r 0 := by omega
    obtain ⟨o1, o2, o3, o4, o5⟩ := zom_step he hh hn0 hn1 hcr
    have ef : fd (fun c r => zomS p s c r) (m + 1) c r = fd (fun c r => zomS p s c r) m (c + 1) (zomS p s c r) := rfl
    have nx : ∀ G1, QQ S G1 (zomS p s c r) dm → TF S G G1 → ∃ G', lT_letExit_177 S (pc S p) (pc S s) b (S + 2) 40 n (w32 (c + 1)) G1 = jT_letExit_212 G' S (pc S s) b ∧ QQ S G' (fd (fun c r => zomS p s c r) (m + 1) c r) dm ∧ TF S G G' := by
      intro G1 h1 f1
      rw [w32_r (by omega), ef]
      obtain ⟨G', e1, e2, e3⟩ := ih n (c + 1) G1 _ (by rw [o5]; omega) (by omega) (by omega) (by omega) h1 o1 o2 (by rw [o5]; exact o3) o4
      exact ⟨G', e1, e2, TF_t f1 e3⟩
    show ∃ G', bT_letExit_177 S (pc S p) (pc S s) b (S + 2) 40 (lT_letExit_177 S (pc S p) (pc S s) b (S + 2) 40 n) c G = _ ∧ _
    rw [bT_letExit_177, if_pos (by omega), if_pos ⟨kdT2 h.1, by omega, by rw [szT2 h.1]; omega⟩, TS_p h.2.1.1 (by omega), if_pos (kdp h.1 (by omega)), qP_zombie h (by omega) (by omega), bdP_s]
    by_cases hi : ic r c p 1 = true
    · have eo : zomS p s c r = u1 r (60 + c) s := by unfold zomS; rw [if_pos hi]
      obtain ⟨i1, i2, i3⟩ := ic_t.mp hi
      have i1c := i1
      obtain ⟨d1, d2, -⟩ := EP_dp he hcr i2
      have bc := pc_b (T := S) (i := c) (by omega)
      rw [if_pos (show c < r 0 ∧ ic r c p 1 = true from ⟨hcr.2, hi⟩), if_neg f0, bnd_s]
      have hT : TI (pU G (pc S c) 2 (pc S s)) S := TI_sup h.2.1 (by rw [QQ_0 h]; exact hcr) (by rw [QQ_0 h]; exact ha4) d1 (by rw [QQ_OV h ha4]; exact d2)
      have K1 := CK_2 (p := c) (t := s) (CK_of h.2.2.2.1) (by omega) (by omega) hcr
      refine nx _ ?_ (TF_pU TF_r (by omega))
      rw [eo] at o1 o5 ⊢
      refine ⟨h.1, hT, o1.1, CK_to K1 (fun i i0 i1 => ?_), fun i i0 i1 => ?_, ?_⟩
      · have kk := kids_1 (r := r) (r' := u1 r (60 + c) s) (o := c) (i := i) (by omega) o5 hcr (fun j j0 j1 j2 => ⟨u1_n (by omega), u1_n (by omega)⟩)
        rw [u1_n (show ¬ 140 + c = 60 + c by omega), if_neg (show ¬ (r (140 + c) = 0 ∧ r (60 + c) = i) by rw [i1c]; omega), if_neg (show ¬ (r (140 + c) = 0 ∧ u1 r (60 + c) s (60 + c) = i) by rw [i1c]; omega)] at kk
        show kids r i 0 = _
        omega
      · rw [pU_y (by omega)]
        exact h.2.2.2.2.1 i i0 i1
      · exact LR_e h.2.2.2.2.2 (u1_n (by omega)) (u1_n (by omega)) (u1_n (by omega))
    · have eo : zomS p s c r = r := by unfold zomS; rw [if_neg hi]
      rw [if_neg (show ¬ (c < r 0 ∧ ic r c p 1 = true) from fun z => hi z.2), if_pos rfl]
      exact nx G (by rw [eo]; exact h) TF_r
end PAR24
/-! ===== the class's exit on a tree, as the row changes, more (own work) ===== -/
section PAR24
variable {g g' G H K : gH} {r r' dm κ κ' : Int → Int} {a b c d e i j k l m n o p q s t u v w wo x y z S code : Int}
/-- testaments are read: the row, and what is summed -/
theorem aT_readZ (h : QQ S G r dm) (h1 : 0 ≤ r 1 ∧ r 1 ≤ 40) (hcd : CD r) (hp : 0 ≤ p ∧ p < r 0) (hwb : WB (rdR r p)) : ∃ G', fT_readZombiesOf G S (pc S p) = some (SZ r p, G') ∧ QQ S G' (rdR r p) dm ∧ TF S G G' := by
  have hf := fu_ge
  have hb := QQ_b h
  -- the row behind the first c
  have key : ∀ (m n : Nat) (c v : Int) (A : gH) (ρ : Int → Int), (40 - c).toNat = m → m < n → 0 ≤ c → c ≤ 40 → (0 ≤ v ∧ v ≤ 255 * c) → QQ S A ρ dm → (∀ k, ρ k = if 140 ≤ k ∧ k < 140 + r 0 ∧ k < 140 + c ∧ ic r (k - 140) p 1 = true then 2 else r k) → ∃ G', lT_readZombiesOf_14 (pc S p) (S + 2) 40 n v c A = some (v + sm (fun c => ic r c p 1) (fun c => r (300 + c)) (r 0 - c).toNat c, G') ∧ QQ S G' (rdR r p) dm ∧ TF S A G' := by
    intro m
    induction m with
    | zero =>
      intro n c v A ρ hm hn c0 c1 hv hA hρ
      obtain ⟨n, rfl⟩ : ∃ k, n = k + 1 := ⟨n - 1, by omega⟩
      have er : ρ = rdR r p := by
        funext k
        rw [hρ k]
        unfold rdR
        by_cases z : 140 ≤ k ∧ k < 140 + r 0 ∧ ic r (k - 140) p 1 = true
        · rw [if_pos z, if_pos ⟨z.1, z.2.1, by omega, z.2.2⟩]
        · rw [if_neg z, if_neg (fun y => z ⟨y.1, y.2.1, y.2.2.2⟩)]
      rw [er] at hA
      refine ⟨A, ?_, hA, TF_r⟩
      show bT_readZombiesOf_14 (pc S p) (S + 2) 40 (lT_readZombiesOf_14 (pc S p) (S + 2) 40 n) v c A = _
      rw [bT_readZombiesOf_14, if_neg (by omega), show (r 0 - c).toNat = 0 by omega]
      show some (v, A) = some (v + 0, A)
      rw [Int.add_zero]
    | succ m ih =>
      intro n c v A ρ hm hn c0 c1 hv hA hρ
      obtain ⟨n, rfl⟩ : ∃ k, n = k + 1 := ⟨n - 1, by omega⟩
      have e0 : ρ 0 = r 0 := by rw [hρ 0, if_neg (by omega)]
      have e1 : ρ 1 = r 1 := by rw [hρ 1, if_neg (by omega)]
      have bc := pc_b (T := S) (i := c) (by omega)
      have eic : ic ρ c p 1 = ic r c p 1 := by
        unfold ic
        rw [hρ (140 + c), if_neg (by omega), hρ (60 + c), if_neg (by omega)]
      show ∃ G', bT_readZombiesOf_14 (pc S p) (S + 2) 40 (lT_readZombiesOf_14 (pc S p) (S + 2) 40 n) v c A = _ ∧ _
      rw [bT_readZombiesOf_14, if_pos (by omega), if_pos ⟨kdT2 h.1, by omega, by rw [szT2 h.1]; omega⟩, TS_p hA.2.1.1 (by omega), if_pos (kdp h.1 (by omega)), qP_zombie hA (by omega) (by omega), bdP_s, e0, eic]
      by_cases z : c < r 0 ∧ ic r c p 1 = true
      · obtain ⟨i1, i2, i3⟩ := ic_t.mp z.2
        have cc := hcd c c0 z.1 i1
        have es : sm (fun c => ic r c p 1) (fun c => r (300 + c)) (r 0 - c).toNat c = r (300 + c) + sm (fun c => ic r c p 1) (fun c => r (300 + c)) (r 0 - (c + 1)).toNat (c + 1) := by
          rw [show (r 0 - c).toNat = (r 0 - (c + 1)).toNat + 1 by omega]
          show (if ic r c p 1 = true then r (300 + c) else 0) + _ = _
          rw [if_pos z.2]
        have f9 : pU A (pc S c) 1 2 (pc S c) 9 = r (300 + c) := by
          rw [pU_y (by omega), (QQ_pe hA (i := c) (by rw [e0]; omega)).1.2.2.2.2.2.2.1, hρ (300 + c), if_neg (by omega)]
        rw [if_pos z, if_neg f0, bnd_s, f9, w32_r (by omega), w32_r (by omega), es]
        have hρc : ρ (140 + c) = 1 := by rw [hρ (140 + c), if_neg (by omega)]; exact i1
        have K1 := CK_1 (p := c) (v := 2) (CK_of hA.2.2.2.1) (by omega) (by omega) (by rw [e0]; omega) (by rw [hρc]; omega) (by omega)
        have q0 : u1 ρ (140 + c) 2 0 = r 0 := by rw [u1_n (by omega)]; exact e0
        have hA' : QQ S (pU A (pc S c) 1 2) (u1 ρ (140 + c) 2) dm := by
          refine ⟨h.1, TI_st hA.2.1 ⟨c, by omega, rfl⟩ (by omega), WB_eq hA.2.2.1 (fun k hk => u1_n (by omega)), CK_to K1 (fun i i0 i1 => ?_), fun i i0 i1 => ?_, LR_e hA.2.2.2.2.2 (u1_n (by omega)) (u1_n (by omega)) (u1_n (by omega))⟩
          · have kk := kids_1 (r := ρ) (r' := u1 ρ (140 + c) 2) (o := c) (i := i) (by omega) (by rw [q0, e0]) (by rw [e0]; omega) (fun j j0 j1 j2 => ⟨u1_n (by omega), u1_n (by omega)⟩)
            rw [u1_s, if_neg (show ¬ (ρ (140 + c) = 0 ∧ ρ (60 + c) = i) by rw [hρc]; omega), if_neg (show ¬ ((2 : Int) = 0 ∧ u1 ρ (140 + c) 2 (60 + c) = i) by omega)] at kk
            show kids ρ i 0 = _
            omega
          · rw [pU_y (by omega)]
            exact hA.2.2.2.2.1 i i0 i1
        obtain ⟨G', g1, g2, g3⟩ := ih n (c + 1) (v + r (300 + c)) _ _ (by omega) (by omega) (by omega) (by omega) (by omega) hA' (fun k => by
          by_cases y : k = 140 + c
          · rw [y, u1_s, if_pos ⟨by omega, by omega, by omega, by rw [show 140 + c - 140 = c by omega]; exact z.2⟩]
          · rw [u1_n y, hρ k]
            by_cases y2 : 140 ≤ k ∧ k < 140 + r 0 ∧ k < 140 + c ∧ ic r (k - 140) p 1 = true
            · rw [if_pos y2, if_pos ⟨y2.1, y2.2.1, by omega, y2.2.2.2⟩]
            · rw [if_neg y2, if_neg (fun x => y2 ⟨x.1, x.2.1, by omega, x.2.2.2⟩)])
        refine ⟨G', ?_, g2, TF_t (TF_pU TF_r (by omega)) g3⟩
        rw [g1, show v + r (300 + c) + sm (fun c => ic r c p 1) (fun c => r (300 + c)) (r 0 - (c + 1)).toNat (c + 1) = v + (r (300 + c) + sm (fun c => ic r c p 1) (fun c => r (300 + c)) (r 0 - (c + 1)).toNat (c + 1)) by omega]
      · have es : sm (fun c => ic r c p 1) (fun c => r (300 + c)) (r 0 - c).toNat c = sm (fun c => ic r c p 1) (fun c => r (300 + c)) (r 0 - (c + 1)).toNat (c + 1) := by
          by_cases y : c < r 0
          · rw [show (r 0 - c).toNat = (r 0 - (c + 1)).toNat + 1 by omega]
            show (if ic r c p 1 = true then r (300 + c) else 0) + _ = _
            rw [if_neg (fun x => z ⟨y, x⟩), Int.zero_add]
          · rw [show (r 0 - c).toNat = 0 by omega, show (r 0 - (c + 1)).toNat = 0 by omega]
            rfl
        rw [if_neg z, if_pos rfl, w32_r (by omega), es]
        exact ih n (c + 1) v A ρ (by omega) (by omega) (by omega) (by omega) (by omega) hA (fun k => by
          rw [hρ k]
          by_cases y2 : 140 ≤ k ∧ k < 140 + r 0 ∧ k < 140 + c ∧ ic r (k - 140) p 1 = true
          · rw [if_pos y2, if_pos ⟨y2.1, y2.2.1, by omega, y2.2.2.2⟩]
          · rw [if_neg y2, if_neg (fun x => by
              by_cases y3 : k = 140 + c
              · rw [y3, show 140 + c - 140 = c by omega] at x
                exact z ⟨by omega, x.2.2.2⟩
              · exact y2 ⟨x.1, x.2.1, by omega, x.2.2.2⟩)])
  rw [fT_readZombiesOf, TS_1 h.2.1.1, if_pos (kdT2 h.1), szT2 h.1]
  obtain ⟨G', g1, g2, g3⟩ := key 40 fu 0 0 G r (by omega) (by omega) (by omega) (by omega) (by omega) h (fun k => by rw [if_neg (by omega)])
  refine ⟨G', ?_, g2, g3⟩
  rw [g1, show r 0 - 0 = r 0 by omega, Int.zero_add]
  rfl
end PAR24
/-! ===== the class's exit on a tree, whole (own work) ===== -/
section PAR25
variable {g g' G H K : gH} {r r' dm κ κ' : Int → Int} {a b c d e i j k l m n o p q s t u v w wo x y z S code : Int}
/-- behind the replacement -/
theorem EP_2 (hb : WB r) (hf : WF r) (hp : 0 < p ∧ p < r 0) (hst : r (140 + p) = 0) (hc : 0 ≤ code ∧ code ≤ 255) (hd : ∃ g : gH, MS g ∧ g 630 = dm) : EP (ex2 (ex1 r p code) dm p code) p (up r p) (exq (ex1 r p code) dm p code) ∧ HP (ex2 (ex1 r p code) dm p code) p 0 ∧ ∃ g : gH, MS g ∧ g 630 = exd (ex1 r p code) dm p code := by
  have hM := hb.1
  obtain ⟨E1, H1⟩ := EP_ex1 (code := code) hb hf hp hst hc
  have hn := NX_bd2 hM hf.1.2 hf.2.2.2.2.1 hp hst
  have hsr := hb.2.1 p hp.1 hp.2
  obtain ⟨v1, v2, v3, v4⟩ := ex1_v (r := r) (p := p) (code := code) (by omega) (by omega)
  have e10 : ex1 r p code 0 = r 0 := ex1_n (by omega)
  have e1s : ex1 r p code (60 + p) = r (60 + p) := ex1_n (by omega)
  have H1' : HP (ex1 r p code) p 0 := by
    intro d d0 d1
    have := H1 d d0 d1
    rw [e10]
    exact ⟨this.1, this.2.1, by rcases this.2.2 with e | e; exact Or.inl e; exact Or.inr ⟨d0, e⟩⟩
  unfold exq ex2 exd
  by_cases hr : RPc (ex1 r p code) dm p code
  · simp only [if_pos hr]
    have hM40 : r 0 < 40 := by have := hr.2.2.2; rw [e10] at this; omega
    have ho := fun k => rpR_o (r := ex1 r p code) (p := p) (k := k) (by rw [e10]; omega) (by omega) (by rw [e1s]; omega)
    obtain ⟨w0, w1, w2, w3, w4, w5⟩ := rpR_v (r := ex1 r p code) (p := p) (by rw [e10]; omega) (by rw [e10]; exact hp) (by rw [e1s]; omega)
    have hbud : ¬ ex1 r p code (220 + r (60 + p)) = 0 := by have := hr.2.2.1; rw [e1s] at this; exact this
    have E2 := EP_rp E1 (by rw [e10]; exact hM40) hbud
    rw [e10] at E2 w0 w1 w2 ho ⊢
    refine ⟨E2, ?_, ?_⟩
    · intro d d0 d1
      have := H1' d d0 d1
      rw [e10] at this
      rw [ho (11 + d) (by rw [e1s]; omega), w0, ho (140 + ex1 r p code (11 + d)) (by rw [e1s]; omega)]
      exact ⟨this.1, by omega, this.2.2⟩
    · obtain ⟨g, g1, g2⟩ := hd
      exact ⟨pU g 630 (r 0) 0, MS_pU g1 (by omega), by rw [pU_s, g2]⟩
  · simp only [if_neg hr]
    exact ⟨E1, H1', hd⟩
/-- an exit -/
theorem aT_letExit (h : QQ S G r dm) (hf : WF r) (hd : ∃ g : gH, MS g ∧ g 630 = dm) (hp : 0 < p ∧ p < r 0) (hst : r (140 + p) = 0) (hc : 0 ≤ code ∧ code ≤ 255) : ∃ G', fT_letExit G S (pc S p) code = some (w32 (exF r dm p code 3 - r 3), G') ∧ QQ S G' (exF r dm p code) (exd (ex1 r p code) dm p code) ∧ TF S G G' := by
  have hfu := fu_ge
  have hb := QQ_b h
  have hs := QQ_rg h hp
  have bp := pc_b (T := S) (i := p) (by omega)
  have hn := NX_bd2 hb hf.1.2 hf.2.2.2.2.1 hp hst
  obtain ⟨E2, H2, hd2⟩ := EP_2 (code := code) h.2.2.1 hf hp hst hc hd
  obtain ⟨E1, -⟩ := EP_ex1 (code := code) h.2.2.1 hf hp hst hc
  have e10 : ex1 r p code 0 = r 0 := ex1_n (by omega)
  have e6 : G S 6 = r 1 := h.2.2.2.1.1.2.1
  have e8 : G S 8 = r 3 := h.2.2.2.1.1.2.2.2.1
  have x1 : pU (pU G (pc S p) 1 1) (pc S p) 9 code S 6 = r 1 := by rw [pU_n (by omega), pU_n (by omega)]; exact e6
  have x2 : pU (pU (pU G (pc S p) 1 1) (pc S p) 9 code) (pc S p) 10 (r 1) S 6 = r 1 := by rw [pU_n (by omega)]; exact x1
  obtain ⟨G1, o1, h1, f1⟩ := aT_out (code := code) h hf hp hst hc
  have first : ∃ G2, fT_letExit G S (pc S p) code = jT_letExit_69 G2 S (pc S p) (pc S (up r p)) (r 3) (pcx S (exq (ex1 r p code) dm p code)) ∧ QQ S G2 (ex2 (ex1 r p code) dm p code) (exd (ex1 r p code) dm p code) ∧ TF S G G2 := by
    rw [fT_letExit, if_pos (kdp h.1 (by omega)), QQ_up h hp, if_neg (pc_pos h.1 (by omega)), bnd_s, bnd_s, x1, bnd_s, x2, w32_r (x := r 1 + 1) (by omega), bnd_s, if_pos (kdp h.1 (by omega)), bnd_s, o1, e8]
    by_cases c0 : code = 0
    · have hr : ¬ RPc (ex1 r p code) dm p code := fun z => z.1 c0
      unfold exq ex2 exd
      rw [if_neg hr, if_neg hr, if_neg hr, if_pos c0, pcx_n]
      exact ⟨G1, rfl, h1, f1⟩
    · obtain ⟨G2, r1, r2, r3⟩ := aT_replace h1 E1 c0
      have eu : ex1 r p code (60 + p) = up r p := ex1_n (by omega)
      rw [if_neg c0, show fT_replace G1 S (pc S p) (pc S (up r p)) = some (pcx S (exq (ex1 r p code) dm p code), G2) from r1, bdN_s]
      exact ⟨G2, rfl, r2, TF_t f1 r3⟩
  obtain ⟨G2, r1, h2, f2⟩ := first
  rw [r1, jT_letExit_69]
  unfold exF
  have eu : r (60 + p) = up r p := rfl
  rw [eu]
  generalize exq (ex1 r p code) dm p code = q at *
  generalize exd (ex1 r p code) dm p code = dm2 at *
  generalize ex2 (ex1 r p code) dm p code = r2 at *
  -- duties
  obtain ⟨G3, d1, h3, f3⟩ := aT_duties (dm := dm2) (q := q) (s := up r p) hp.1 8 fu 0 G2 r2 (by omega) (by omega) (by omega) (by omega) h2 E2 H2
  have h3 : QQ S G3 (ex3 dm2 p q r2) dm2 := h3
  have ex : EP (ex3 dm2 p q r2) p (up r p) q ∧ HP (ex3 dm2 p q r2) p 8 ∧ ex3 dm2 p q r2 0 = r2 0 := by
    obtain ⟨g, g1, rfl⟩ := hd2
    exact (vM_ex3 (b := 0) g1 E2 H2).2
  obtain ⟨E3, H3, z3⟩ := ex
  have n3 : NC (ex3 dm2 p q r2) p 0 1 := fun j j0 j1 => by omega
  rw [fT_passDuties, d1, bdN_s, TS_1 h3.2.1.1, if_pos (kdT2 h.1), szT2 h.1]
  generalize ex3 dm2 p q r2 = r3 at *
  have hp3 := E3.2.1.2.2.1
  have hb3 := QQ_b h3
  obtain ⟨n, hn1⟩ : ∃ n, fu = n + 1 := ⟨fu - 1, by omega⟩
  -- orphans
  have st0 : lT_letExit_92 S (pc S p) (pc S (up r p)) (r 3) (pcx S q) (S + 2) 40 fu 0 G3 = lT_letExit_92 S (pc S p) (pc S (up r p)) (r 3) (pcx S q) (S + 2) 40 n 1 G3 := by
    rw [hn1]
    show bT_letExit_92 S (pc S p) (pc S (up r p)) (r 3) (pcx S q) (S + 2) 40 (lT_letExit_92 S (pc S p) (pc S (up r p)) (r 3) (pcx S q) (S + 2) 40 n) 0 G3 = _
    rw [bT_letExit_92, if_pos (by omega), if_pos ⟨kdT2 h.1, by omega, by rw [szT2 h.1]; omega⟩, TS_p h3.2.1.1 (by omega), if_pos (kdp h.1 (by omega)), qP_child h3 (by omega) (by omega), if_neg (fun z => (ic_t.mp z.2).2.2 rfl), bdP_s, if_pos rfl, w32_r (by omega)]
    rfl
  obtain ⟨G4, a1, h4, f4⟩ := aT_orphans (b := r 3) (s := up r p) (q := q) (p := p) hd2 _ n 1 G3 r3 rfl (by omega) (by omega) (by omega) h3 E3 H3 n3
  have h4 : QQ S G4 (ex4 dm2 p q r3) dm2 := h4
  have ex : EP (ex4 dm2 p q r3) p (up r p) q ∧ HP (ex4 dm2 p q r3) p 8 ∧ NC (ex4 dm2 p q r3) p 0 (r3 0) ∧ ex4 dm2 p q r3 0 = r3 0 := by
    obtain ⟨g, g1, rfl⟩ := hd2
    exact (vM_ex4 (b := 0) g1 E3 H3).2
  obtain ⟨E4, H4, n4, z4⟩ := ex
  rw [← z4] at n4
  rw [st0, a1, jT_letExit_163, TS_1 h4.2.1.1, if_pos (kdT2 h.1), szT2 h.1]
  generalize ex4 dm2 p q r3 = r4 at *
  have hb4 := QQ_b h4
  have hp4 := E4.2.1.2.2.1
  -- zombies
  have st1 : lT_letExit_177 S (pc S p) (pc S (up r p)) (r 3) (S + 2) 40 fu 0 G4 = lT_letExit_177 S (pc S p) (pc S (up r p)) (r 3) (S + 2) 40 n 1 G4 := by
    rw [hn1]
    show bT_letExit_177 S (pc S p) (pc S (up r p)) (r 3) (S + 2) 40 (lT_letExit_177 S (pc S p) (pc S (up r p)) (r 3) (S + 2) 40 n) 0 G4 = _
    rw [bT_letExit_177, if_pos (by omega), if_pos ⟨kdT2 h.1, by omega, by rw [szT2 h.1]; omega⟩, TS_p h4.2.1.1 (by omega), if_pos (kdp h.1 (by omega)), qP_zombie h4 (by omega) (by omega), if_neg (fun z => (ic_t.mp z.2).2.2 rfl), bdP_s, if_pos rfl, w32_r (by omega)]
    rfl
  obtain ⟨G5, b1, h5, f5⟩ := aT_zombies (b := r 3) (s := up r p) (q := q) (p := p) (dm := dm2) _ n 1 G4 r4 rfl (by omega) (by omega) (by omega) h4 E4 H4 n4 (fun j j0 j1 => by omega)
  have h5 : QQ S G5 (ex5 p (up r p) r4) dm2 := h5
  have ex : EP (ex5 p (up r p) r4) p (up r p) q ∧ HP (ex5 p (up r p) r4) p 8 ∧ NC (ex5 p (up r p) r4) p 0 (r4 0) ∧ NC (ex5 p (up r p) r4) p 1 (r4 0) ∧ ex5 p (up r p) r4 0 = r4 0 := by
    obtain ⟨g, g1, rfl⟩ := hd2
    exact (vM_ex5 (b := 0) g1 E4 H4 n4).2
  obtain ⟨E5, H5, m4, m5, z5⟩ := ex
  rw [← z5] at m4 m5
  obtain ⟨wb5, wf5⟩ := EP_WF E5 H5 m4 m5
  rw [st1, b1, jT_letExit_212, TS_0 h5.2.1.1, ← pc_0]
  generalize ex5 p (up r p) r4 = r5 at *
  have tf : TF S G G5 := TF_t (TF_t (TF_t f2 f3) f4) f5
  unfold ex6
  by_cases cs : up r p = 0
  · rw [if_pos (show pc S (up r p) = pc S 0 by rw [cs]), if_pos cs]
    obtain ⟨wb6, wf6⟩ := WF_rd (p := 0) wb5 wf5
    obtain ⟨G6, c1, h6, f6⟩ := aT_readZ (p := 0) h5 wf5.2.2.1.1 wf5.2.2.2.2.2.2.1 (by have := QQ_b h5; omega) wb6
    rw [c1, bdN_s, h6.2.2.2.1.1.2.2.2.1]
    exact ⟨G6, rfl, h6, TF_t tf f6⟩
  · rw [if_neg (fun z => cs (pc_inj hs.1 (by omega) z)), if_neg cs, h5.2.2.2.1.1.2.2.2.1]
    exact ⟨G5, rfl, h5, tf⟩
end PAR25
/-! ===== loops of both over one tree: refusing, relieving (own work) ===== -/
section PAR26
variable {g g' G H K : gH} {r r' dm κ κ' : Int → Int} {a b c d e i j k l m n o p q s t u v w wo x y z S gp code : Int}
theorem AD_t (hm : MM r dm) (hb : WB r) (hc : 0 < c ∧ c < r 0) (hw : 0 ≤ wo ∧ wo < r 0) : (0 ≤ AD r dm c wo ∧ AD r dm c wo < r 0) ∧ ¬ AD r dm c wo = c ∧ OV (up r) c (AD r dm c wo) = false := by
  obtain ⟨g, hs, rfl, rfl⟩ := hm
  rcases (vM_adopterOf (o := c) (wo := wo) hs hb (by omega) hw).2 with e2 | ⟨e2, e3, e4, e5⟩
  · rw [e2]
    exact ⟨by omega, by omega, OV_0⟩
  · obtain ⟨f1, f2, f3⟩ := canA_f e5
    exact ⟨⟨by omega, e3⟩, f2, f3⟩
/-- both find an adopter for a child of p, and it goes there -/
theorem lk_adopt (hs : MS H) (h : QQ S G r (H 630)) (hw : WBF r) (hc : 0 < c ∧ c < r 0) (hp : 0 ≤ p ∧ p < r 0) (hi : ic r c p 0 = true) : ∃ G', fT_adopterOf G S (pc S c) = some (pc S (AD r (H 630) c p)) ∧ fT_adopt G S (pc S c) (pc S (AD r (H 630) c p)) = some (0, G') ∧ fM_adopterOf (sw H r) 624 c p = some (AD r (H 630) c p) ∧ fM_adopts (sw H r) 624 (AD r (H 630) c p) c = some (0, sw H (adR r (AD r (H 630) c p) c)) ∧ QQ S G' (adR r (AD r (H 630) c p) c) (H 630) ∧ WBF (adR r (AD r (H 630) c p) c) ∧ TF S G G' ∧ adR r (AD r (H 630) c p) c 0 = r 0 := by
  have hb := QQ_b h
  obtain ⟨i1, i2, i3⟩ := ic_t.mp hi
  have iu : up r c = p := i2
  have hm : MM r (H 630) := MM_of ⟨H, hs, rfl⟩
  have hx := hw.2.2.2.1.1
  obtain ⟨t1, t2, t3⟩ := AD_t hm h.2.2.1 hc hp
  obtain ⟨G', e1, e2, e3⟩ := aT_adopt h hx.2 hc i1 t1 t2 t3
  have ea := qT_adopter h hm hc
  rw [iu] at ea
  have ma := (vM_adopterOf (g := sw H r) (o := c) (wo := p) (MS_sw hs) (by rw [sw_s]; exact h.2.2.1) (by rw [sw_s]; omega) (by rw [sw_s]; exact hp)).1
  rw [sw_s, sw_n (show ¬ (630 : Int) = 625 by omega)] at ma
  have mb := vM_adopts (g := sw H r) (p := AD r (H 630) c p) (o := c) (MS_sw hs) (by omega)
  rw [sw_s, sw_sw] at mb
  exact ⟨G', ea, e1, ma, mb, e2, WBF_ad hw hc hs hp, e3, adR_n (by omega)⟩
theorem mM_child (hs : MS H) (hi : 0 ≤ i ∧ i < 40) : fM_isChild (sw H r) 624 i a s = some (if ic r i a s = true then 1 else 0) := by
  have := vM_isChild (g := sw H r) (p := i) (a := a) (st := s) (MS_sw hs) hi
  rw [sw_s] at this
  exact this
theorem m0s (hs : MS H) : sw H r 624 0 = 625 := by rw [sw_n (by omega)]; exact hs.1
theorem gd25 (hs : MS H) (hk : 0 ≤ k ∧ k < 780) : kd (sw H r 624 0) = 20 ∧ (0 : Int) ≤ k ∧ k < sz (sw H r 624 0) := by rw [m0s hs]; exact g625 hk
/-- the children of a group that p refuses now -/
theorem lk_refuse (hs : MS H) : ∀ (m n1 n2 : Nat) (c v : Int) (G : gH) (r : Int → Int), (r 0 - c).toNat = m → (40 - c).toNat < n1 → m < n2 → 1 ≤ c → c ≤ 40 → (0 ≤ v ∧ v ≤ c) → QQ S G r (H 630) → WBF r → (0 < p ∧ p < r 0) → ∃ v' G' r', lT_loseGroup_16 S (pc S p) gp (S + 2) 40 n1 v c G = some (v', G') ∧ lM_refuse_80 624 p gp n2 v c (sw H r) = some (v', sw H r') ∧ QQ S G' r' (H 630) ∧ WBF r' ∧ TF S G G' := by
  have skip : ∀ (m n : Nat) (c v : Int) (G : gH) (r : Int → Int), (40 - c).toNat = m → m < n → r 0 ≤ c → 1 ≤ c → QQ S G r (H 630) → (0 ≤ p ∧ p < 40) → lT_loseGroup_16 S (pc S p) gp (S + 2) 40 n v c G = some (v, G) := by
    intro m
    induction m with
    | zero =>
      intro n c v G r hm hn c0 c1 h hp
      obtain ⟨n, rfl⟩ : ∃ k, n = k + 1 := ⟨n - 1, by omega⟩
      show bT_loseGroup_16 S (pc S p) gp (S + 2) 40 (lT_loseGroup_16 S (pc S p) gp (S + 2) 40 n) v c G = _
      rw [bT_loseGroup_16, if_neg (by omega)]
    | succ m ih =>
      intro n c v G r hm hn c0 c1 h hp
      obtain ⟨n, rfl⟩ : ∃ k, n = k + 1 := ⟨n - 1, by omega⟩
      show bT_loseGroup_16 S (pc S p) gp (S + 2) 40 (lT_loseGroup_16 S (pc S p) gp (S + 2) 40 n) v c G = _
      rw [bT_loseGroup_16, if_pos (by omega), if_pos ⟨kdT2 h.1, by omega, by rw [szT2 h.1]; omega⟩, TS_p h.2.1.1 (by omega), if_pos (kdp h.1 (by omega)), qP_child h (by omega) hp, if_neg (by omega), bdP_s, if_pos rfl, w32_r (by omega)]
      exact ih n (c + 1) v G r (by omega) (by omega) (by omega) (by omega) h hp
  intro m
  induction m with
  | zero =>
    intro n1 n2 c v G r hm hn1 hn2 c0 c1 hv h hw hp
    have hb := QQ_b h
    obtain ⟨n2, rfl⟩ : ∃ k, n2 = k + 1 := ⟨n2 - 1, by omega⟩
    refine ⟨v, G, r, skip _ n1 c v G r rfl hn1 (by omega) c0 h (by omega), ?_, h, hw, TF_r⟩
    show bM_refuse_80 624 p gp (lM_refuse_80 624 p gp n2) v c (sw H r) = _
    rw [bM_refuse_80, if_pos (gd25 hs (by omega)), m0s hs, sw_s, if_neg (by omega)]
  | succ m ih =>
    intro n1 n2 c v G r hm hn1 hn2 c0 c1 hv h hw hp
    have hb := QQ_b h
    obtain ⟨n1, rfl⟩ : ∃ k, n1 = k + 1 := ⟨n1 - 1, by omega⟩
    obtain ⟨n2, rfl⟩ : ∃ k, n2 = k + 1 := ⟨n2 - 1, by omega⟩
    have hcr : 0 < c ∧ c < r 0 := by omega
    have eC : lT_loseGroup_16 S (pc S p) gp (S + 2) 40 (n1 + 1) v c G = bT_loseGroup_16 S (pc S p) gp (S + 2) 40 (lT_loseGroup_16 S (pc S p) gp (S + 2) 40 n1) v c G := rfl
    have eM : lM_refuse_80 624 p gp (n2 + 1) v c (sw H r) = bM_refuse_80 624 p gp (lM_refuse_80 624 p gp n2) v c (sw H r) := rfl
    rw [eC, eM, bT_loseGroup_16, bM_refuse_80, if_pos (show c < 40 by omega), if_pos ⟨kdT2 h.1, by omega, by rw [szT2 h.1]; omega⟩, TS_p h.2.1.1 (by omega), if_pos (kdp h.1 (by omega)), qP_child h (by omega) (by omega), bdP_s, if_pos (gd25 hs (by omega)), m0s hs, sw_s, if_pos hcr.2, mM_child hs (by omega), bdP_s, (QQ_pe h (i := c) (by omega)).1.2.2.1, w32_r (x := c + 1) (by omega), w32_r (x := v + 1) (by omega), w32_r (x := 180 + c) (by omega)]
    by_cases hi : ic r c p 0 = true
    · rw [if_pos (show c < r 0 ∧ ic r c p 0 = true from ⟨hcr.2, hi⟩), if_pos hi, if_neg f0, if_neg f0, if_pos (g625 (by omega))]
      by_cases hg : r (180 + c) = gp
      · obtain ⟨G', a1, a2, a3, a4, a5, a6, a7, a8⟩ := lk_adopt hs h hw hcr (by omega) hi
        rw [if_pos hg, if_pos hg, a1, bdP_s, a2, bdN_s, a3, bdP_s, a4, bdN_s]
        obtain ⟨v', G2, r2, b1, b2, b3, b4, b5⟩ := ih n1 n2 (c + 1) (v + 1) G' _ (by rw [a8]; omega) (by omega) (by omega) (by omega) (by omega) (by omega) a5 a6 (by rw [a8]; exact hp)
        exact ⟨v', G2, r2, b1, b2, b3, b4, TF_t a7 b5⟩
      · rw [if_neg hg, if_neg hg]
        exact ih n1 n2 (c + 1) v G r (by omega) (by omega) (by omega) (by omega) (by omega) (by omega) h hw hp
    · rw [if_neg (show ¬ (c < r 0 ∧ ic r c p 0 = true) from fun z => hi z.2), if_neg hi, if_pos rfl, if_pos rfl]
      exact ih n1 n2 (c + 1) v G r (by omega) (by omega) (by omega) (by omega) (by omega) (by omega) h hw hp
/-- the surplus, from the youngest on -/
theorem lk_relieve (hs : MS H) : ∀ (m n1 n2 : Nat) (c v : Int) (G : gH) (r : Int → Int), c.toNat = m → m + 1 < n1 → m < n2 → 0 ≤ c → c < r 0 → (0 ≤ v ∧ v + c ≤ 40) → QQ S G r (H 630) → WBF r → (0 < p ∧ p < r 0) → ∃ v' G' r', lT_loseSurplus_5 S (pc S p) n1 v c G = some (v', G') ∧ lM_relieve_26 624 p n2 v c (sw H r) = some (v', sw H r') ∧ QQ S G' r' (H 630) ∧ WBF r' ∧ TF S G G' := by
  intro m
  induction m with
  | zero =>
    intro n1 n2 c v G r hm hn1 hn2 c0 c1 hv h hw hp
    have hb := QQ_b h
    obtain ⟨n1, rfl⟩ : ∃ k, n1 = k + 2 := ⟨n1 - 2, by omega⟩
    obtain ⟨n2, rfl⟩ : ∃ k, n2 = k + 1 := ⟨n2 - 1, by omega⟩
    have cz : c = 0 := by omega
    subst cz
    refine ⟨v, G, r, ?_, ?_, h, hw, TF_r⟩
    · have e1 : lT_loseSurplus_5 S (pc S p) (n1 + 1) v (-1) G = some (v, G) := by
        show bT_loseSurplus_5 S (pc S p) (lT_loseSurplus_5 S (pc S p) n1) v (-1) G = _
        rw [bT_loseSurplus_5, if_pos (by omega)]
      show bT_loseSurplus_5 S (pc S p) (lT_loseSurplus_5 S (pc S p) (n1 + 1)) v 0 G = _
      have g24 : kd (S + 2) = 24 ∧ (0 : Int) ≤ 0 ∧ 0 < sz (S + 2) := ⟨kdT2 h.1, by omega, by rw [szT2 h.1]; omega⟩
      have ch : fP_isRunningChildOf G (pc S 0) (pc S p) = some 0 := by rw [qP_child h (by omega) (by omega), if_neg (fun z => (ic_t.mp z.2).2.2 rfl)]
      rw [bT_loseSurplus_5, if_neg (by omega), if_pos (kdp h.1 (i := p) (by omega)), w32_r (x := 0 + -1) (by omega), TS_1 h.2.1.1, if_pos g24, TS_p h.2.1.1 (by omega), if_pos (kdp h.1 (i := 0) (by omega)), ch, bdP_s, if_pos (show (0 : Int) = 0 from rfl), show (0 : Int) + -1 = -1 by omega, e1]
      split <;> rfl
    · show bM_relieve_26 624 p (lM_relieve_26 624 p n2) v 0 (sw H r) = _
      rw [bM_relieve_26, if_neg (by omega)]
  | succ m ih =>
    intro n1 n2 c v G r hm hn1 hn2 c0 c1 hv h hw hp
    have hb := QQ_b h
    obtain ⟨n1, rfl⟩ : ∃ k, n1 = k + 1 := ⟨n1 - 1, by omega⟩
    obtain ⟨n2, rfl⟩ : ∃ k, n2 = k + 1 := ⟨n2 - 1, by omega⟩
    have hcr : 0 < c ∧ c < r 0 := by omega
    have eC : lT_loseSurplus_5 S (pc S p) (n1 + 1) v c G = bT_loseSurplus_5 S (pc S p) (lT_loseSurplus_5 S (pc S p) n1) v c G := rfl
    have eM : lM_relieve_26 624 p (n2 + 1) v c (sw H r) = bM_relieve_26 624 p (lM_relieve_26 624 p n2) v c (sw H r) := rfl
    have kc := vM_childrenOf (g := sw H r) (a := p) (st := 0) (MS_sw hs) (by rw [sw_s]; exact hb)
    rw [sw_s] at kc
    have pe := QQ_pe h (i := p) (by omega)
    have g24 : kd (S + 2) = 24 ∧ (0 : Int) ≤ c ∧ c < sz (S + 2) := ⟨kdT2 h.1, by omega, by rw [szT2 h.1]; omega⟩
    rw [eC, eM, bT_loseSurplus_5, bM_relieve_26, if_neg (show ¬ c < 0 by omega), if_pos (kdp h.1 (by omega)), TS_1 h.2.1.1, if_pos g24, if_pos g24, if_pos g24, TS_p h.2.1.1 (by omega), if_pos (kdp h.1 (by omega)), qP_child h (by omega) (by omega), bdP_s, pe.1.2.1, pe.2.2.1, if_pos hcr.1, mM_child hs (by omega), bdP_s, kc, bdP_s, w32_r (x := c + -1) (by omega), w32_r (x := v + 1) (by omega), w32_r (x := 100 + p) (by omega), if_pos (gd25 hs (by omega)), m0s hs, sw_s]
    have nx : ∃ v' G' r', lT_loseSurplus_5 S (pc S p) n1 v (c + -1) G = some (v', G') ∧ lM_relieve_26 624 p n2 v (c + -1) (sw H r) = some (v', sw H r') ∧ QQ S G' r' (H 630) ∧ WBF r' ∧ TF S G G' := ih n1 n2 (c + -1) v G r (by omega) (by omega) (by omega) (by omega) (by omega) (by omega) h hw hp
    by_cases hi : ic r c p 0 = true
    · rw [if_pos (show c < r 0 ∧ ic r c p 0 = true from ⟨hcr.2, hi⟩), if_pos hi, if_neg f0, if_neg f0]
      by_cases hg : r (100 + p) < kids r p 0
      · obtain ⟨G', a1, a2, a3, a4, a5, a6, a7, a8⟩ := lk_adopt hs h hw hcr (by omega) hi
        rw [if_pos hg, if_pos hg, a1, bdP_s, a2, bdN_s, a3, bdP_s, a4, bdN_s]
        obtain ⟨v', G2, r2, b1, b2, b3, b4, b5⟩ := ih n1 n2 (c + -1) (v + 1) G' _ (by omega) (by omega) (by omega) (by omega) (by rw [a8]; omega) (by omega) a5 a6 (by rw [a8]; exact hp)
        exact ⟨v', G2, r2, b1, b2, b3, b4, TF_t a7 b5⟩
      · rw [if_neg hg, if_neg hg]
        exact nx
    · rw [if_neg (show ¬ (c < r 0 ∧ ic r c p 0 = true) from fun z => hi z.2), if_neg hi, if_pos rfl, if_pos rfl]
      have e : (if r (100 + p) < kids r p 0 then lT_loseSurplus_5 S (pc S p) n1 v (c + -1) G else lT_loseSurplus_5 S (pc S p) n1 v (c + -1) G) = lT_loseSurplus_5 S (pc S p) n1 v (c + -1) G := by split <;> rfl
      rw [e]
      exact nx
end PAR26
/-! ===== killing a group, in both (own work) ===== -/
section PAR27
variable {g g' G H K : gH} {r r' d dm κ κ' : Int → Int} {a b c e i j k l m n o p q s t u v w wo x y z S M0 gp code : Int}
/-- the reference's marks set -/
def md (H : gH) (d : Int → Int) : gH := fun x => if x = 630 then d else H x
theorem md_s : md H d 630 = d := if_pos rfl
theorem md_n (h : ¬ x = 630) : md H d x = H x := if_neg h
theorem md_MS (h : MS H) : MS (md H d) := by
  unfold MS at h ⊢
  rw [md_n (by omega)]
  exact h
theorem md_pU : pU (sw (md H d) r) 630 k v = sw (md H (u1 d k v)) r := by
  funext x
  by_cases h1 : x = 630
  · subst h1
    rw [pU_s, sw_n (by omega), sw_n (by omega), md_s, md_s]
  · rw [pU_n h1]
    by_cases h2 : x = 625
    · rw [h2, sw_s, sw_s]
    · rw [sw_n h2, sw_n h2, md_n h1, md_n h1]
theorem md_sw : sw (sw (md H d) r) r' = sw (md H d) r' := sw_sw
/-- a mark of doom is written -/
theorem QQ_13 (h : QQ S G r dm) (hi : 0 ≤ i ∧ i < 40) : QQ S (pU G (pc S i) 13 v) r (u1 dm i v) ∧ TF S G (pU G (pc S i) 13 v) := by
  have bi := pc_b (T := S) hi
  have hI : IT S G (pU G (pc S i) 13 v) := IT_w (IT_r h.2.1) (by omega)
  obtain ⟨h1, h2, h3, h4, h5, h6, h7⟩ := h.2.2.2.1
  have ey : ∀ k y, ¬ y = 13 → pU G (pc S i) 13 v (pc S k) y = G (pc S k) y := fun k y hy => pU_y hy
  refine ⟨⟨h.1, hI.1, h.2.2.1, ⟨by rw [pU_n (show ¬ S = pc S i by omega)]; exact h1, fun k k0 k1 => by rw [pU_n (by omega)]; exact h2 k k0 k1, fun k k0 k1 => by rw [pU_n (by omega)]; exact h3 k k0 k1, fun k k0 k1 => ?_, fun k k0 k1 => by rw [ey _ _ (by omega)]; exact h5 k k0 k1, fun k k0 k1 => by rw [ey _ _ (by omega)]; exact h6 k k0 k1, h7⟩, fun k k0 k1 => ?_, h.2.2.2.2.2⟩, hI.2⟩
  · obtain ⟨⟨a1, a2, a3, a4, a5, a6, a7, a8, a9⟩, w1, w2, w3⟩ := h4 k k0 k1
    refine ⟨⟨by rw [ey _ _ (by omega)]; exact a1, by rw [ey _ _ (by omega)]; exact a2, by rw [ey _ _ (by omega)]; exact a3, by rw [ey _ _ (by omega)]; exact a4, by rw [ey _ _ (by omega)]; exact a5, by rw [ey _ _ (by omega)]; exact a6, by rw [ey _ _ (by omega)]; exact a7, by rw [ey _ _ (by omega)]; exact a8, by rw [ey _ _ (by omega)]; exact a9⟩, fun x x0 x1 => by rw [ey _ _ (by omega)]; exact w1 x x0 x1, by rw [ey _ _ (by omega)]; exact w2, fun z => by rw [ey _ _ (by omega)]; exact w3 z⟩
  · by_cases z : k = i
    · rw [z, pU_s, u1_s, u1_s]
    · rw [pU_n (pc_ne k0 hi.1 z), u1_n z]; exact h.2.2.2.2.1 k k0 k1
/-- the marks of the first k -/
def mk (r : Int → Int) (gp k : Int) (d : Int → Int) : Int → Int := fun i => if 0 ≤ i ∧ i < k then (if ((0 < i ∧ i < r 0) ∧ r (140 + i) = 0) ∧ r (180 + i) = gp then 1 else 0) else d i
theorem mk_0 : mk r gp 0 d = d := by
  funext i
  exact if_neg (by omega)
theorem mk_s (hk : 0 ≤ k) : u1 (mk r gp k d) k (if ((0 < k ∧ k < r 0) ∧ r (140 + k) = 0) ∧ r (180 + k) = gp then 1 else 0) = mk r gp (k + 1) d := by
  funext i
  unfold mk
  by_cases c : i = k
  · rw [c, u1_s, if_pos (show 0 ≤ k ∧ k < k + 1 from ⟨hk, by omega⟩)]
  · rw [u1_n c]
    by_cases c2 : 0 ≤ i ∧ i < k
    · rw [if_pos c2, if_pos (show 0 ≤ i ∧ i < k + 1 from ⟨c2.1, by omega⟩)]
    · rw [if_neg c2, if_neg (fun z => c2 ⟨z.1, by omega⟩)]
theorem lk_mark_c : ∀ (m n : Nat) (i : Int) (G : gH), (40 - i).toNat = m → m < n → 0 ≤ i → i ≤ 40 → QQ S G r (mk r gp i d) → ∃ G', lT_killGroup_12 S gp code (S + 2) 40 n i G = jT_killGroup_58 G' S code ∧ QQ S G' r (mk r gp 40 d) ∧ TF S G G' := by
  intro m
  induction m with
  | zero =>
    intro n i G hm hn i0 i1 h
    obtain ⟨n, rfl⟩ : ∃ k, n = k + 1 := ⟨n - 1, by omega⟩
    have e : i = 40 := by omega
    subst e
    refine ⟨G, ?_, h, TF_r⟩
    show bT_killGroup_12 S gp code (S + 2) 40 (lT_killGroup_12 S gp code (S + 2) 40 n) 40 G = _
    rw [bT_killGroup_12, if_neg (by omega)]
  | succ m ih =>
    intro n i G hm hn i0 i1 h
    obtain ⟨n, rfl⟩ : ∃ k, n = k + 1 := ⟨n - 1, by omega⟩
    have hb := QQ_b h
    have nx : ∀ v, v = (if ((0 < i ∧ i < r 0) ∧ r (140 + i) = 0) ∧ r (180 + i) = gp then 1 else 0) → ∃ G', lT_killGroup_12 S gp code (S + 2) 40 n (w32 (i + 1)) (pU G (pc S i) 13 v) = jT_killGroup_58 G' S code ∧ QQ S G' r (mk r gp 40 d) ∧ TF S G G' := by
      intro v hv
      obtain ⟨q1, q2⟩ := QQ_13 (v := v) h ⟨i0, by omega⟩
      rw [hv, mk_s i0, ← hv] at q1
      rw [w32_r (by omega)]
      obtain ⟨G', e1, e2, e3⟩ := ih n (i + 1) _ (by omega) (by omega) (by omega) (by omega) q1
      exact ⟨G', e1, e2, TF_t q2 e3⟩
    show ∃ G', bT_killGroup_12 S gp code (S + 2) 40 (lT_killGroup_12 S gp code (S + 2) 40 n) i G = _ ∧ _
    rw [bT_killGroup_12, if_pos (by omega), if_pos ⟨kdT2 h.1, i0, by rw [szT2 h.1]; omega⟩, TS_p h.2.1.1 (by omega), if_pos (kdp h.1 (by omega)), qP_mortal h (by omega), bdP_s]
    by_cases c : (0 < i ∧ i < r 0) ∧ r (140 + i) = 0
    · rw [if_pos c, if_neg f0, (QQ_pe h (i := i) (by omega)).1.2.2.1]
      by_cases c2 : r (180 + i) = gp
      · rw [if_pos c2, bnd_s]
        exact nx 1 (by rw [if_pos ⟨c, c2⟩])
      · rw [if_neg c2, bnd_s]
        exact nx 0 (by rw [if_neg (fun z => c2 z.2)])
    · rw [if_neg c, if_pos rfl, bnd_s]
      exact nx 0 (by rw [if_neg (fun z => c z.1)])
theorem m5s (hs : MS H) : sw (md H d) r 624 5 = 630 := by
  rw [sw_n (by omega), md_n (by omega)]
  exact hs.2.2.2.2.1
theorem g630 (hk : 0 ≤ k ∧ k < 40) : kd 630 = 22 ∧ (0 : Int) ≤ k ∧ k < sz 630 := by rw [sz_630]; exact ⟨kd_630, hk⟩
theorem lk_mark_m (hs : MS H) (hb : 1 ≤ r 0 ∧ r 0 ≤ 40) : ∀ (m n : Nat) (i : Int), (40 - i).toNat = m → m < n → 0 ≤ i → i ≤ 40 → lM_kills_13 624 gp code (r 0) 0 n i (sw (md H (mk r gp i d)) r) = lM_kills_76 624 code (r 0) fu 0 1 (sw (md H (mk r gp 40 d)) r) := by
  intro m
  induction m with
  | zero =>
    intro n i hm hn i0 i1
    obtain ⟨n, rfl⟩ : ∃ k, n = k + 1 := ⟨n - 1, by omega⟩
    have e : i = 40 := by omega
    subst e
    show bM_kills_13 624 gp code (r 0) 0 (lM_kills_13 624 gp code (r 0) 0 n) 40 (sw (md H (mk r gp 40 d)) r) = _
    rw [bM_kills_13, if_neg (by omega)]
  | succ m ih =>
    intro n i hm hn i0 i1
    obtain ⟨n, rfl⟩ : ∃ k, n = k + 1 := ⟨n - 1, by omega⟩
    have nx : ∀ v, v = (if ((0 < i ∧ i < r 0) ∧ r (140 + i) = 0) ∧ r (180 + i) = gp then 1 else 0) → bnd (pU (sw (md H (mk r gp i d)) r) 630 i v) (fun g18 => lM_kills_13 624 gp code (r 0) 0 n (w32 (i + 1)) g18) = lM_kills_76 624 code (r 0) fu 0 1 (sw (md H (mk r gp 40 d)) r) := by
      intro v hv
      rw [bnd_s, md_pU, hv, mk_s i0, w32_r (by omega)]
      exact ih n (i + 1) (by omega) (by omega) (by omega) (by omega)
    have ru := vM_runs (g := sw (md H (mk r gp i d)) r) (p := i) (MS_sw (md_MS hs)) (by omega)
    rw [sw_s] at ru
    have h0 : sw (md H (mk r gp i d)) r 624 0 = 625 := m0s (md_MS hs)
    show bM_kills_13 624 gp code (r 0) 0 (lM_kills_13 624 gp code (r 0) 0 n) i (sw (md H (mk r gp i d)) r) = _
    rw [bM_kills_13, if_pos (by omega), m5s hs, if_pos (g630 (by omega)), if_pos (g630 (by omega)), ru, bdP_s, h0, sw_s, w32_r (x := 180 + i) (by omega), if_pos (g625 (by omega))]
    by_cases c1 : 0 < i
    · rw [if_pos c1]
      by_cases c2 : i < r 0
      · rw [if_pos c2]
        by_cases c3 : r (140 + i) = 0
        · rw [if_pos c3, if_neg f0]
          by_cases c4 : r (180 + i) = gp
          · rw [if_pos c4]
            exact nx 1 (by rw [if_pos ⟨⟨⟨c1, c2⟩, c3⟩, c4⟩])
          · rw [if_neg c4]
            exact nx 0 (by rw [if_neg (fun z => c4 z.2)])
        · rw [if_neg c3, if_pos rfl]
          exact nx 0 (by rw [if_neg (fun z => c3 z.1.2)])
      · rw [if_neg c2]
        exact nx 0 (by rw [if_neg (fun z => c2 z.1.1.2)])
    · rw [if_neg c1]
      exact nx 0 (by rw [if_neg (fun z => c1 z.1.1.1)])
/-- how many the root has adopted then -/
theorem fd_orp3 : ∀ (m : Nat) (c : Int) (r : Int → Int), ∃ k z, (0 ≤ k ∧ k ≤ m) ∧ fd (fun c r => orpS dm p q c r) m c r 3 = r 3 + k + 4294967296 * z := by
  intro m
  induction m with
  | zero => intro c r; exact ⟨0, 0, by omega, by show r 3 = _; omega⟩
  | succ m ih =>
    intro c r
    obtain ⟨k, z, hk, e⟩ := ih (c + 1) (orpS dm p q c r)
    have e' : fd (fun c r => orpS dm p q c r) (m + 1) c r 3 = orpS dm p q c r 3 + k + 4294967296 * z := e
    by_cases hi : ic r c p 0 = true
    · have eo : orpS dm p q c r 3 = w32 (r 3 + if (if ¬ q = -1 ∧ 0 < room r q then q else AD r dm c p) = 0 then 1 else 0) := by
        unfold orpS
        rw [if_pos hi]
        unfold adR
        rw [u1_s]
      by_cases y : (if ¬ q = -1 ∧ 0 < room r q then q else AD r dm c p) = 0
      · rw [if_pos y] at eo
        refine ⟨k + 1, z + (w32 (r 3 + 1) - (r 3 + 1)) / 4294967296, by omega, ?_⟩
        rw [e', eo]
        unfold w32
        omega
      · rw [if_neg y] at eo
        refine ⟨k, z + (w32 (r 3 + 0) - (r 3 + 0)) / 4294967296, by omega, ?_⟩
        rw [e', eo]
        unfold w32
        omega
    · have eo : orpS dm p q c r = r := by unfold orpS; rw [if_neg hi]
      rw [eo] at e'
      exact ⟨k, z, by omega, e'⟩
theorem exF_3 (hw : WBF r) (hp : 0 < p ∧ p < r 0) (hst : r (140 + p) = 0) (hc : 0 ≤ code ∧ code ≤ 255) (hd : ∃ g : gH, MS g ∧ g 630 = dm) : 0 ≤ w32 (exF r dm p code 3 - r 3) ∧ w32 (exF r dm p code 3 - r 3) ≤ 40 := by
  obtain ⟨E2, H2, hd2⟩ := EP_2 (code := code) hw.1 hw.2 hp hst hc hd
  have hM := hw.1.1
  have hn := NX_bd2 hM hw.2.1.2 hw.2.2.2.2.2.1 hp hst
  have hs := hw.1.2.1 p hp.1 hp.2
  have e2 : ex2 (ex1 r p code) dm p code 3 = r 3 := by
    have e1 : ex1 r p code 3 = r 3 := ex1_n (by omega)
    have e0 : ex1 r p code 0 = r 0 := ex1_n (by omega)
    have eu : ex1 r p code (60 + p) = r (60 + p) := ex1_n (by omega)
    unfold ex2
    by_cases z : RPc (ex1 r p code) dm p code
    · have z4 := z.2.2.2
      rw [e0] at z4
      rw [if_pos z, rpR_o (by rw [e0]; omega) (by omega) (by rw [eu]; omega) (by rw [e0, eu]; omega)]
      exact e1
    · rw [if_neg z]; exact e1
  have eu : r (60 + p) = up r p := rfl
  unfold exF
  rw [eu]
  generalize exq (ex1 r p code) dm p code = q at *
  generalize exd (ex1 r p code) dm p code = dm2 at *
  generalize ex2 (ex1 r p code) dm p code = r2 at *
  have ex : EP (ex3 dm2 p q r2) p (up r p) q ∧ HP (ex3 dm2 p q r2) p 8 ∧ ex3 dm2 p q r2 0 = r2 0 := by
    obtain ⟨g, g1, rfl⟩ := hd2
    exact (vM_ex3 (b := 0) g1 E2 H2).2
  have h3 : ex3 dm2 p q r2 3 = r2 3 := ex3_fr (by omega)
  have hM2 := E2.1.1
  obtain ⟨k, z, hk, e4⟩ := fd_orp3 (dm := dm2) (p := p) (q := q) (ex3 dm2 p q r2 0 - 1).toNat 1 (ex3 dm2 p q r2)
  have e4 : ex4 dm2 p q (ex3 dm2 p q r2) 3 = ex3 dm2 p q r2 3 + k + 4294967296 * z := e4
  have e40 : ex4 dm2 p q (ex3 dm2 p q r2) 0 ≤ 40 := by
    rw [ex4_fr (by rw [ex.2.2]; omega) (by omega), ex.2.2]; omega
  have e5 : ex5 p (up r p) (ex4 dm2 p q (ex3 dm2 p q r2)) 3 = ex4 dm2 p q (ex3 dm2 p q r2) 3 := ex5_fr e40 (by omega)
  have e6 : ex6 (up r p) (ex5 p (up r p) (ex4 dm2 p q (ex3 dm2 p q r2))) 3 = ex5 p (up r p) (ex4 dm2 p q (ex3 dm2 p q r2)) 3 := by
    unfold ex6
    split
    · exact rdR_o (by omega)
    · rfl
  rw [e6, e5, e4, h3, e2]
  have ek : (((ex3 dm2 p q r2 0 - 1).toNat : Nat) : Int) ≤ 39 := by rw [ex.2.2]; omega
  unfold w32
  omega
/-- one exit, in both -/
theorem lk_exit (hs : MS H) (h : QQ S G r d) (hw : WBF r) (hp : 0 < p ∧ p < r 0) (hst : r (140 + p) = 0) (hc : 0 ≤ code ∧ code ≤ 255) : ∃ G' v d', fT_letExit G S (pc S p) code = some (v, G') ∧ fM_exits (sw (md H d) r) 624 p code = some (v, sw (md H d') (exF r d p code)) ∧ QQ S G' (exF r d p code) d' ∧ WBF (exF r d p code) ∧ TF S G G' ∧ (0 ≤ v ∧ v ≤ 40) ∧ (exF r d p code 1 = r 1 + 1 ∧ r 0 ≤ exF r d p code 0) ∧ (∀ i, 0 ≤ i → i < r 0 → i ≠ p → r (140 + i) = 0 → exF r d p code (140 + i) = 0) ∧ (∀ i, i < r 0 → d' i = d i) ∧ (∀ i, ¬ d i = 0 → ¬ d' i = 0 → d' i = d i) ∧ (∀ i, d i = 0 → d' i = 0) := by
  have hd : ∃ g : gH, MS g ∧ g 630 = d := ⟨md H d, md_MS hs, md_s⟩
  obtain ⟨G', e1, e2, e3⟩ := aT_letExit h hw.2 hd hp hst hc
  have m := vM_exits (g := sw (md H d) r) (p := p) (code := code) (MS_sw (md_MS hs)) (by rw [sw_s]; exact hw.1) (by rw [sw_s]; exact hw.2) (by rw [sw_s]; exact hp) (by rw [sw_s]; exact hst) hc
  rw [sw_s, sw_n (show ¬ (630 : Int) = 625 by omega), md_s] at m
  obtain ⟨m1, m2, m3, m4, m5, m6, -⟩ := m
  have eg : sw (exG (sw (md H d) r) p code) (exF r d p code) = sw (md H (exd (ex1 r p code) d p code)) (exF r d p code) := by
    unfold exG exd
    rw [sw_s, sw_n (show ¬ (630 : Int) = 625 by omega), md_s]
    have e0 : ex1 r p code 0 = r 0 := ex1_n (by
      have hM := hw.1.1
      have hn := NX_bd2 hM hw.2.1.2 hw.2.2.2.2.2.1 hp hst
      omega)
    by_cases z : RPc (ex1 r p code) d p code
    · rw [if_pos z, if_pos z, md_pU, sw_sw, e0]
    · rw [if_neg z, if_neg z, sw_sw]
  rw [eg] at m1
  have hM := hw.1.1
  have hn := NX_bd2 hM hw.2.1.2 hw.2.2.2.2.2.1 hp hst
  have e0 : ex1 r p code 0 = r 0 := ex1_n (by omega)
  have dd : ∀ i, exd (ex1 r p code) d p code i = d i ∨ (i = r 0 ∧ exd (ex1 r p code) d p code i = 0) := by
    intro i
    unfold exd
    by_cases z : RPc (ex1 r p code) d p code
    · rw [if_pos z, e0]
      by_cases y : i = r 0
      · rw [y, u1_s]; exact Or.inr ⟨rfl, rfl⟩
      · rw [u1_n y]; exact Or.inl rfl
    · rw [if_neg z]; exact Or.inl rfl
  refine ⟨G', _, _, e1, m1, e2, ⟨m2, m3⟩, e3, exF_3 hw hp hst hc hd, ⟨m4, m5.1⟩, m6, fun i hi => ?_, fun i h1 h2 => ?_, fun i h1 => ?_⟩
  · rcases dd i with y | y
    · exact y
    · omega
  · rcases dd i with y | y
    · exact y
    · exact absurd y.2 h2
  · rcases dd i with y | y
    · rw [y]; exact h1
    · exact y.2
/-- all that are marked exit -/
theorem lk_kills (hs : MS H) (hc : 0 ≤ code ∧ code ≤ 255) : ∀ (m n1 n2 : Nat) (i v : Int) (G : gH) (r d : Int → Int), (M0 - i).toNat = m → (40 - i).toNat < n1 → m < n2 → 1 ≤ i → i ≤ 40 → (0 ≤ v ∧ v ≤ i) → QQ S G r d → WBF r → (M0 ≤ r 0 ∧ M0 ≤ 40) → (∀ j, i ≤ j → j < M0 → ¬ d j = 0 → r (140 + j) = 0) → (∀ j, M0 ≤ j → j < 40 → d j = 0) → ∃ v' G' r' d', lT_killGroup_74 S code (S + 2) 40 n1 v i G = jT_killGroup_113 G' S v' ∧ lM_kills_76 624 code M0 n2 v i (sw (md H d) r) = lM_kills_128 624 v' fu 0 (sw (md H d') r') ∧ QQ S G' r' d' ∧ WBF r' ∧ TF S G G' ∧ 0 ≤ v' := by
  have skip : ∀ (m n : Nat) (i v : Int) (G : gH) (r d : Int → Int), (40 - i).toNat = m → m < n → 1 ≤ i → M0 ≤ i → QQ S G r d → (∀ j, M0 ≤ j → j < 40 → d j = 0) → lT_killGroup_74 S code (S + 2) 40 n v i G = jT_killGroup_113 G S v := by
    intro m
    induction m with
    | zero =>
      intro n i v G r d hm hn i0 i1 h hz
      obtain ⟨n, rfl⟩ : ∃ k, n = k + 1 := ⟨n - 1, by omega⟩
      show bT_killGroup_74 S code (S + 2) 40 (lT_killGroup_74 S code (S + 2) 40 n) v i G = _
      rw [bT_killGroup_74, if_neg (by omega)]
    | succ m ih =>
      intro n i v G r d hm hn i0 i1 h hz
      obtain ⟨n, rfl⟩ : ∃ k, n = k + 1 := ⟨n - 1, by omega⟩
      show bT_killGroup_74 S code (S + 2) 40 (lT_killGroup_74 S code (S + 2) 40 n) v i G = _
      rw [bT_killGroup_74, if_pos (by omega), if_pos ⟨kdT2 h.1, by omega, by rw [szT2 h.1]; omega⟩, TS_p h.2.1.1 (by omega), if_pos (kdp h.1 (by omega)), h.2.2.2.2.1 i (by omega) (by omega), if_pos (hz i i1 (by omega)), w32_r (by omega)]
      exact ih n (i + 1) v G r d (by omega) (by omega) (by omega) (by omega) h hz
  intro m
  induction m with
  | zero =>
    intro n1 n2 i v G r d hm hn1 hn2 i0 i1 hv h hw hM hd hz
    obtain ⟨n2, rfl⟩ : ∃ k, n2 = k + 1 := ⟨n2 - 1, by omega⟩
    refine ⟨v, G, r, d, skip _ n1 i v G r d rfl hn1 i0 (by omega) h hz, ?_, h, hw, TF_r, hv.1⟩
    show bM_kills_76 624 code M0 (lM_kills_76 624 code M0 n2) v i (sw (md H d) r) = _
    rw [bM_kills_76, if_neg (by omega)]
  | succ m ih =>
    intro n1 n2 i v G r d hm hn1 hn2 i0 i1 hv h hw hM hd hz
    obtain ⟨n1, rfl⟩ : ∃ k, n1 = k + 1 := ⟨n1 - 1, by omega⟩
    obtain ⟨n2, rfl⟩ : ∃ k, n2 = k + 1 := ⟨n2 - 1, by omega⟩
    have eC : lT_killGroup_74 S code (S + 2) 40 (n1 + 1) v i G = bT_killGroup_74 S code (S + 2) 40 (lT_killGroup_74 S code (S + 2) 40 n1) v i G := rfl
    have eM : lM_kills_76 624 code M0 (n2 + 1) v i (sw (md H d) r) = bM_kills_76 624 code M0 (lM_kills_76 624 code M0 n2) v i (sw (md H d) r) := rfl
    have d630 : sw (md H d) r 630 = d := by rw [sw_n (by omega)]; exact md_s
    rw [eC, eM, bT_killGroup_74, bM_kills_76, if_pos (show i < 40 by omega), if_pos ⟨kdT2 h.1, by omega, by rw [szT2 h.1]; omega⟩, TS_p h.2.1.1 (by omega), if_pos (kdp h.1 (by omega)), h.2.2.2.2.1 i (by omega) (by omega), if_pos (show i < M0 by omega), m5s hs, if_pos (g630 (by omega)), d630, w32_r (x := i + 1) (by omega), w32_r (x := v + 1) (by omega)]
    by_cases c : d i = 0
    · rw [if_pos c, if_pos c]
      exact ih n1 n2 (i + 1) v G r d (by omega) (by omega) (by omega) (by omega) (by omega) (by omega) h hw hM (fun j j0 j1 => hd j (by omega) j1) hz
    · rw [if_neg c, if_neg c]
      obtain ⟨G', u, d', x1, x2, x3, x4, x5, x6, x7, x8, x9, x10, x11⟩ := lk_exit hs h hw (p := i) (by omega) (hd i (by omega) (by omega) c) hc
      rw [x1, bdN_s, x2, bdN_s, if_neg (show ¬ u < 0 by omega)]
      obtain ⟨v', G2, r2, d2, y1, y2, y3, y4, y5, y6⟩ := ih n1 n2 (i + 1) (v + 1) G' _ d' (by omega) (by omega) (by omega) (by omega) (by omega) (by omega) x3 x4 (by omega) (fun j j0 j1 j2 => x8 j (by omega) (by omega) (by omega) (hd j (by omega) j1 (fun z => j2 (x11 j z)))) (fun j j0 j1 => x11 j (hz j j0 j1))
      exact ⟨v', G2, r2, d2, y1, y2, y3, y4, TF_t x5 y5, y6⟩
end PAR27
/-! ===== the end of a killing; pruning, in both (own work) ===== -/
section PAR28
variable {g g' G H K : gH} {r r' d dm κ κ' : Int → Int} {a b c e i j k l m n o p q s t u v w wo x y z S M0 gp code : Int}
/-- the marks are told for 0 to 39 alone -/
theorem QQ_d {d' : Int → Int} (h : QQ S G r d) (e : ∀ i, 0 ≤ i → i < 40 → d' i = d i) : QQ S G r d' := ⟨h.1, h.2.1, h.2.2.1, h.2.2.2.1, fun i i0 i1 => (h.2.2.2.2.1 i i0 i1).trans (e i i0 i1).symm, h.2.2.2.2.2⟩
theorem md_id : md H (H 630) = H := by
  funext x
  unfold md
  split
  · rename_i hx; rw [hx]
  · rfl
theorem lk_un_c : ∀ (m n : Nat) (i : Int) (G : gH) (d : Int → Int), (40 - i).toNat = m → m < n → 0 ≤ i → i ≤ 40 → QQ S G r d → (∀ j, 0 ≤ j → j < i → d j = 0) → ∃ G' d', lT_killGroup_127 v (S + 2) 40 n i G = some (v, G') ∧ QQ S G' r d' ∧ (∀ j, 0 ≤ j → j < 40 → d' j = 0) ∧ TF S G G' := by
  intro m
  induction m with
  | zero =>
    intro n i G d hm hn i0 i1 h hz
    obtain ⟨n, rfl⟩ : ∃ k, n = k + 1 := ⟨n - 1, by omega⟩
    refine ⟨G, d, ?_, h, fun j j0 j1 => hz j j0 (by omega), TF_r⟩
    show bT_killGroup_127 v (S + 2) 40 (lT_killGroup_127 v (S + 2) 40 n) i G = _
    rw [bT_killGroup_127, if_neg (by omega)]
  | succ m ih =>
    intro n i G d hm hn i0 i1 h hz
    obtain ⟨n, rfl⟩ : ∃ k, n = k + 1 := ⟨n - 1, by omega⟩
    obtain ⟨q1, q2⟩ := QQ_13 (v := 0) h ⟨i0, by omega⟩
    show ∃ G' d', bT_killGroup_127 v (S + 2) 40 (lT_killGroup_127 v (S + 2) 40 n) i G = _ ∧ _
    rw [bT_killGroup_127, if_pos (by omega), if_pos ⟨kdT2 h.1, i0, by rw [szT2 h.1]; omega⟩, TS_p h.2.1.1 (by omega), if_pos (kdp h.1 (by omega)), bnd_s, w32_r (by omega)]
    obtain ⟨G', d', e1, e2, e3, e4⟩ := ih n (i + 1) _ _ (by omega) (by omega) (by omega) (by omega) q1 (fun j j0 j1 => by
      by_cases z : j = i
      · rw [z, u1_s]
      · rw [u1_n z]; exact hz j j0 (by omega))
    exact ⟨G', d', e1, e2, e3, TF_t q2 e4⟩
theorem lk_un_m (hs : MS H) : ∀ (m n : Nat) (i : Int) (d : Int → Int), (40 - i).toNat = m → m < n → 0 ≤ i → i ≤ 40 → (∀ j, 0 ≤ j → j < i → d j = 0) → ∃ d', lM_kills_128 624 v n i (sw (md H d) r) = some (v, sw (md H d') r) ∧ ∀ j, 0 ≤ j → j < 40 → d' j = 0 := by
  intro m
  induction m with
  | zero =>
    intro n i d hm hn i0 i1 hz
    obtain ⟨n, rfl⟩ : ∃ k, n = k + 1 := ⟨n - 1, by omega⟩
    refine ⟨d, ?_, fun j j0 j1 => hz j j0 (by omega)⟩
    show bM_kills_128 624 v (lM_kills_128 624 v n) i (sw (md H d) r) = _
    rw [bM_kills_128, if_neg (by omega)]
  | succ m ih =>
    intro n i d hm hn i0 i1 hz
    obtain ⟨n, rfl⟩ : ∃ k, n = k + 1 := ⟨n - 1, by omega⟩
    show ∃ d', bM_kills_128 624 v (lM_kills_128 624 v n) i (sw (md H d) r) = _ ∧ _
    rw [bM_kills_128, if_pos (by omega), m5s hs, if_pos (g630 (by omega)), bnd_s, md_pU, w32_r (by omega)]
    exact ih n (i + 1) _ (by omega) (by omega) (by omega) (by omega) (fun j j0 j1 => by
      by_cases z : j = i
      · rw [z, u1_s]
      · rw [u1_n z]; exact hz j j0 (by omega))
/-- a group is killed, in both -/
theorem lk_kill (hs : MS H) (h : QQ S G r d) (hw : WBF r) (hc : 0 ≤ code ∧ code ≤ 255) : ∃ v G' r' d', fT_killGroup G S gp code = some (v, G') ∧ fM_kills (sw (md H d) r) 624 gp code = some (v, sw (md H d') r') ∧ QQ S G' r' d' ∧ WBF r' ∧ (∀ j, 0 ≤ j → j < 40 → d' j = 0) ∧ TF S G G' ∧ 0 ≤ v := by
  have hfu := fu_ge
  have hb := QQ_b h
  obtain ⟨f, ef⟩ : ∃ f, fu = f + 1 := ⟨fu - 1, by omega⟩
  obtain ⟨G1, c1, c2, c3⟩ := lk_mark_c (gp := gp) (code := code) (d := d) (r := r) (S := S) 40 fu 0 G rfl (by omega) (by omega) (by omega) (by rw [mk_0]; exact h)
  have m1 := lk_mark_m (gp := gp) (code := code) (d := d) (r := r) hs hb 40 fu 0 rfl (by omega) (by omega) (by omega)
  rw [mk_0] at m1
  have z0 : mk r gp 40 d 0 = 0 := by
    unfold mk
    rw [if_pos (by omega), if_neg (fun z => absurd z.1.1.1 (by omega))]
  have zc : ∀ j, 1 ≤ j → j < r 0 → ¬ mk r gp 40 d j = 0 → r (140 + j) = 0 := by
    intro j j0 j1 j2
    unfold mk at j2
    rw [if_pos (by omega)] at j2
    by_cases y : ((0 < j ∧ j < r 0) ∧ r (140 + j) = 0) ∧ r (180 + j) = gp
    · exact y.1.2
    · rw [if_neg y] at j2; exact absurd rfl j2
  have zo : ∀ j, r 0 ≤ j → j < 40 → mk r gp 40 d j = 0 := by
    intro j j0 j1
    unfold mk
    rw [if_pos (by omega), if_neg (fun z => absurd z.1.1.2 (by omega))]
  have s0 : lT_killGroup_74 S code (S + 2) 40 fu 0 0 G1 = lT_killGroup_74 S code (S + 2) 40 f 0 1 G1 := by
    rw [ef]
    show bT_killGroup_74 S code (S + 2) 40 (lT_killGroup_74 S code (S + 2) 40 f) 0 0 G1 = _
    rw [bT_killGroup_74, if_pos (by omega), if_pos ⟨kdT2 c2.1, by omega, by rw [szT2 c2.1]; omega⟩, TS_p c2.2.1.1 (by omega), if_pos (kdp c2.1 (by omega)), c2.2.2.2.2.1 0 (by omega) (by omega), if_pos z0, w32_r (by omega)]
    rfl
  obtain ⟨v, G2, r2, d2, x1, x2, x3, x4, x5, x6⟩ := lk_kills (M0 := r 0) hs hc _ f fu 1 0 G1 r (mk r gp 40 d) rfl (by omega) (by omega) (by omega) (by omega) (by omega) c2 hw ⟨by omega, by omega⟩ zc zo
  obtain ⟨G3, d3, y1, y2, y3, y4⟩ := lk_un_c (v := v) 40 fu 0 G2 d2 rfl (by omega) (by omega) (by omega) x3 (fun j j0 j1 => absurd j1 (by omega))
  obtain ⟨d4, w1, w2⟩ := lk_un_m (v := v) (r := r2) hs 40 fu 0 d2 rfl (by omega) (by omega) (by omega) (fun j j0 j1 => absurd j1 (by omega))
  refine ⟨v, G3, r2, d4, ?_, ?_, QQ_d y2 (fun j j0 j1 => by rw [w2 j j0 j1, y3 j j0 j1]), x4, w2, TF_t c3 (TF_t x5 y4), x6⟩
  · rw [fT_killGroup, TS_1 h.2.1.1, if_pos (kdT2 h.1), szT2 h.1, c1, jT_killGroup_58, TS_1 c2.2.1.1, if_pos (kdT2 h.1), szT2 h.1, s0, x1, jT_killGroup_113, TS_1 x3.2.1.1, if_pos (kdT2 h.1), szT2 h.1, y1]
  · rw [fM_kills, m0s (md_MS hs), if_pos (g625 (by omega)), sw_s, m1, x2, w1]
/-! the one that hangs deepest -/
theorem lk_low (hs : MS H) (h : QQ S G r d) (hp : 0 ≤ p ∧ p < r 0) : ∀ (m n1 n2 : Nat) (k b : Int), (r 0 - k).toNat = m → (40 - k).toNat < n1 → m < n2 → 1 ≤ k → k ≤ 40 → (b = -1 ∨ ((0 < b ∧ b < r 0) ∧ r (140 + b) = 0 ∧ OV (up r) p b = true)) → ∃ c, lT_deepestBelow_14 G (pc S p) (S + 2) 40 n1 (pcx S b) k = some (pcx S c) ∧ lM_lowestBelow_4 (sw H r) 624 p n2 b k = some c ∧ (c = -1 ∨ ((0 < c ∧ c < r 0) ∧ r (140 + c) = 0 ∧ OV (up r) p c = true)) := by
  have hb := QQ_b h
  have skip : ∀ (m n : Nat) (k b : Int), (40 - k).toNat = m → m < n → r 0 ≤ k → 1 ≤ k → lT_deepestBelow_14 G (pc S p) (S + 2) 40 n (pcx S b) k = some (pcx S b) := by
    intro m
    induction m with
    | zero =>
      intro n k b hm hn k0 k1
      obtain ⟨n, rfl⟩ : ∃ k, n = k + 1 := ⟨n - 1, by omega⟩
      show bT_deepestBelow_14 G (pc S p) (S + 2) 40 (lT_deepestBelow_14 G (pc S p) (S + 2) 40 n) (pcx S b) k = _
      rw [bT_deepestBelow_14, if_neg (by omega)]
    | succ m ih =>
      intro n k b hm hn k0 k1
      obtain ⟨n, rfl⟩ : ∃ k, n = k + 1 := ⟨n - 1, by omega⟩
      show bT_deepestBelow_14 G (pc S p) (S + 2) 40 (lT_deepestBelow_14 G (pc S p) (S + 2) 40 n) (pcx S b) k = _
      rw [bT_deepestBelow_14, if_pos (by omega), if_pos ⟨kdT2 h.1, by omega, by rw [szT2 h.1]; omega⟩, TS_p h.2.1.1 (by omega), if_pos (kdp h.1 (by omega)), fP_isRunning, QQ_out h (by omega), if_neg (by omega), bdP_s, if_pos rfl, w32_r (by omega)]
      exact ih n (k + 1) b (by omega) (by omega) (by omega) (by omega)
  intro m
  induction m with
  | zero =>
    intro n1 n2 k b hm hn1 hn2 k0 k1 hbb
    obtain ⟨n2, rfl⟩ : ∃ k, n2 = k + 1 := ⟨n2 - 1, by omega⟩
    refine ⟨b, skip _ n1 k b rfl hn1 (by omega) k0, ?_, hbb⟩
    show bM_lowestBelow_4 (sw H r) 624 p (lM_lowestBelow_4 (sw H r) 624 p n2) b k = _
    rw [bM_lowestBelow_4, if_pos (gd25 hs (by omega)), m0s hs, sw_s, if_neg (by omega)]
  | succ m ih =>
    intro n1 n2 k b hm hn1 hn2 k0 k1 hbb
    obtain ⟨n1, rfl⟩ : ∃ k, n1 = k + 1 := ⟨n1 - 1, by omega⟩
    obtain ⟨n2, rfl⟩ : ∃ k, n2 = k + 1 := ⟨n2 - 1, by omega⟩
    have hk : 0 ≤ k ∧ k < r 0 := by omega
    have eC : lT_deepestBelow_14 G (pc S p) (S + 2) 40 (n1 + 1) (pcx S b) k = bT_deepestBelow_14 G (pc S p) (S + 2) 40 (lT_deepestBelow_14 G (pc S p) (S + 2) 40 n1) (pcx S b) k := rfl
    have eM : lM_lowestBelow_4 (sw H r) 624 p (n2 + 1) b k = bM_lowestBelow_4 (sw H r) 624 p (lM_lowestBelow_4 (sw H r) 624 p n2) b k := rfl
    have ru := vM_runs (g := sw H r) (p := k) (MS_sw hs) (by omega)
    have ov := vM_isOver (g := sw H r) (p := p) (x := k) (MS_sw hs) (by rw [sw_s]; exact QQ_en h hk)
    have dk := vM_deep (g := sw H r) (x := k) (MS_sw hs) (by rw [sw_s]; exact QQ_en h hk)
    rw [sw_s] at ru ov dk
    rw [eC, eM, bT_deepestBelow_14, bM_lowestBelow_4, if_pos (show k < 40 by omega), if_pos ⟨kdT2 h.1, by omega, by rw [szT2 h.1]; omega⟩, TS_p h.2.1.1 (by omega), if_pos (kdp h.1 (by omega)), fP_isRunning, QQ_st h hk, if_pos (kdp h.1 (i := p) (by omega)), qP_over h hp.1 hk, if_pos (gd25 hs (by omega)), m0s hs, sw_s, if_pos hk.2, ru, bdP_s, w32_r (x := k + 1) (by omega), ov, bdP_s]
    have stay := ih n1 n2 (k + 1) b (by omega) (by omega) (by omega) (by omega) (by omega) hbb
    by_cases c1 : r (140 + k) = 0
    · rw [if_pos c1, if_pos c1, bdP_s, if_neg f0, if_neg f0, bdP_s]
      by_cases c2 : OV (up r) p k = true
      · have take := ih n1 n2 (k + 1) k (by omega) (by omega) (by omega) (by omega) (by omega) (Or.inr ⟨by omega, c1, c2⟩)
        rw [pcx_p hk.1] at take
        rw [if_pos c2, if_neg f0, if_neg f0]
        rcases hbb with e | ⟨e1, e2, e3⟩
        · rw [e, pcx_n, if_pos (by omega), if_pos rfl]
          exact take
        · have hbk : 0 ≤ b ∧ b < r 0 := by omega
          have db := vM_deep (g := sw H r) (x := b) (MS_sw hs) (by rw [sw_s]; exact QQ_en h hbk)
          rw [sw_s] at db
          rw [pcx_p hbk.1] at stay ⊢
          rw [if_neg (pc_pos h.1 (by omega)), if_neg (by omega), qP_above h hk, bdP_s, if_pos (kdp h.1 (by omega)), qP_above h hbk, bdP_s, dk, bdP_s, db, bdP_s]
          by_cases c3 : DP (up r) k < DP (up r) b
          · rw [if_pos c3, if_pos c3]; exact stay
          · rw [if_neg c3, if_neg c3]; exact take
      · rw [if_neg c2, if_pos rfl, if_pos rfl]
        exact stay
    · rw [if_neg c1, if_neg c1, bdP_s, if_pos rfl, if_pos rfl]
      exact stay
theorem lk_lowest (hs : MS H) (h : QQ S G r d) (hp : 0 ≤ p ∧ p < r 0) : ∃ c, fT_deepestBelow G S (pc S p) = some (pcx S c) ∧ fM_lowestBelow (sw H r) 624 p = some c ∧ (c = -1 ∨ ((0 < c ∧ c < r 0) ∧ r (140 + c) = 0 ∧ OV (up r) p c = true)) := by
  have hfu := fu_ge
  have hb := QQ_b h
  obtain ⟨f, ef⟩ : ∃ f, fu = f + 1 := ⟨fu - 1, by omega⟩
  obtain ⟨c, e1, e2, e3⟩ := lk_low hs h hp _ f fu 1 (-1) rfl (by omega) (by omega) (by omega) (by omega) (Or.inl rfl)
  have s0 : lT_deepestBelow_14 G (pc S p) (S + 2) 40 fu (-1) 0 = lT_deepestBelow_14 G (pc S p) (S + 2) 40 f (-1) 1 := by
    rw [ef]
    show bT_deepestBelow_14 G (pc S p) (S + 2) 40 (lT_deepestBelow_14 G (pc S p) (S + 2) 40 f) (-1) 0 = _
    rw [bT_deepestBelow_14, if_pos (by omega), if_pos ⟨kdT2 h.1, by omega, by rw [szT2 h.1]; omega⟩, TS_p h.2.1.1 (by omega), if_pos (kdp h.1 (by omega)), fP_isRunning, if_pos (kdp h.1 (i := p) (by omega)), qP_over h hp.1 (i := 0) (by omega), w32_r (by omega)]
    have o0 : ¬ OV (up r) p 0 = true := fun z => absurd (OV_0.symm.trans z) (by decide)
    rw [if_neg o0]
    split
    · rw [bdP_s, if_neg f0, bdP_s, if_pos rfl]
      rfl
    · rw [bdP_s, if_pos rfl]
      rfl
  refine ⟨c, ?_, ?_, e3⟩
  · rw [fT_deepestBelow, TS_1 h.2.1.1, if_pos (kdT2 h.1), szT2 h.1, s0]
    rw [pcx_n] at e1
    exact e1
  · rw [fM_lowestBelow]; exact e2
/-- pruning, in both -/
theorem lk_prune_l (hs : MS H) (hc : 0 ≤ code ∧ code ≤ 255) : ∀ (m n1 n2 : Nat) (v c : Int) (G : gH) (r d : Int → Int), (40 - r 1).toNat = m → m < n1 → m < n2 → (0 ≤ v ∧ v ≤ r 1) → (c = -1 ∨ ((0 < c ∧ c < r 0) ∧ r (140 + c) = 0 ∧ OV (up r) p c = true)) → QQ S G r d → WBF r → (0 ≤ p ∧ p < r 0) → ∃ v' G' r' d', lT_pruneBelow_9 S (pc S p) code n1 v (pcx S c) G = some (v', G') ∧ lM_prune_68 624 p code n2 v c (sw (md H d) r) = some (v', sw (md H d') r') ∧ QQ S G' r' d' ∧ WBF r' ∧ TF S G G' ∧ ∀ j, d j = 0 → d' j = 0 := by
  intro m
  induction m with
  | zero =>
    intro n1 n2 v c G r d hm hn1 hn2 hv hcc h hw hp
    have := NX_bd hw.1.1 hw.2.1.2 hw.2.2.2.2.2.1
    have := QQ_b h
    omega
  | succ m ih =>
    intro n1 n2 v c G r d hm hn1 hn2 hv hcc h hw hp
    have hb := QQ_b h
    obtain ⟨n1, rfl⟩ : ∃ k, n1 = k + 1 := ⟨n1 - 1, by omega⟩
    obtain ⟨n2, rfl⟩ : ∃ k, n2 = k + 1 := ⟨n2 - 1, by omega⟩
    have eC : lT_pruneBelow_9 S (pc S p) code (n1 + 1) v (pcx S c) G = bT_pruneBelow_9 S (pc S p) code (lT_pruneBelow_9 S (pc S p) code n1) v (pcx S c) G := rfl
    have eM : lM_prune_68 624 p code (n2 + 1) v c (sw (md H d) r) = bM_prune_68 624 p code (lM_prune_68 624 p code n2) v c (sw (md H d) r) := rfl
    rw [eC, eM, bT_pruneBelow_9, bM_prune_68]
    rcases hcc with e | ⟨e1, e2, e3⟩
    · rw [e, pcx_n, if_pos (by omega), if_pos rfl]
      exact ⟨v, G, r, d, rfl, rfl, h, hw, TF_r, fun _ z => z⟩
    · have nb := NX_bd2 hw.1.1 hw.2.1.2 hw.2.2.2.2.2.1 e1 e2
      obtain ⟨G', u, d', x1, x2, x3, x4, x5, x6, x7, x8, x9, x10, x11⟩ := lk_exit hs h hw e1 e2 hc
      obtain ⟨c', l1, l2, l3⟩ := lk_lowest (p := p) (md_MS (d := d') hs) x3 (by omega)
      rw [pcx_p (by omega), if_neg (pc_pos h.1 (by omega)), if_pos (show v < 40 by omega), if_neg (by omega), x1, bdN_s, x2, bdN_s, if_neg (show ¬ u < 0 by omega), l1, bdP_s, l2, bdP_s, w32_r (x := v + 1) (by omega)]
      obtain ⟨v', G2, r2, d2, y1, y2, y3, y4, y5, y6⟩ := ih n1 n2 (v + 1) c' G' _ d' (by omega) (by omega) (by omega) (by omega) l3 x3 x4 (by omega)
      exact ⟨v', G2, r2, d2, y1, y2, y3, y4, TF_t x5 y5, fun j z => y6 j (x11 j z)⟩
end PAR28
