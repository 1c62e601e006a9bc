/-! ===== the class's exit on a tree, as the row changes (own work) ===== -/
theorem cmR_u1 {r : Int → Int} {x cp gp bu a v : Int} (hM : 1 ≤ r 0 ∧ r 0 < 40) (ha : ¬ a = 0 ∧ ¬ (460 + 8 * r 0 ≤ a ∧ a < 468 + 8 * r 0) ∧ ¬ a = 420 + r 0 ∧ ¬ a = 380 + r 0 ∧ ¬ a = 340 + r 0 ∧ ¬ a = 300 + r 0 ∧ ¬ a = 260 + r 0 ∧ ¬ a = 220 + r 0 ∧ ¬ a = 180 + r 0 ∧ ¬ a = 140 + r 0 ∧ ¬ a = 100 + r 0 ∧ ¬ a = 60 + r 0) : cmR (u1 r a v) x cp gp bu = u1 (cmR r x cp gp bu) a v := by
  funext k
  have e0 : u1 r a v 0 = r 0 := u1_n (by omega)
  by_cases c : k = a
  · rw [c, u1_s, cmR_o (by rw [e0]; exact hM) (by rw [e0]; exact ha), u1_s]
  · rw [u1_n c]
    unfold cmR
    rw [e0, u1_n c]
theorem u1_c {r : Int → Int} {a b v w : Int} (h : ¬ a = b) : u1 (u1 r a v) b w = u1 (u1 r b w) a v := by
  funext k
  by_cases c : k = b
  · rw [c, u1_s, u1_n (fun z => h z.symm), u1_s]
  · rw [u1_n c]
    by_cases c2 : k = a
    · rw [c2, u1_s, u1_s]
    · rw [u1_n c2, u1_n c2, u1_n c]
section PAR24
variable {g g' G H K : gH} {r r' dm κ κ' : Int → Int} {a b c d e i j k l m n o p q s t u v w wo x y z S code : Int}
/-- a replacement -/
theorem aT_replace (h : QQ S G r dm) (he : EP r p s (-1)) (hcode : ¬ code = 0) : ∃ G', fT_replace G S (pc S p) (pc S s) = some (pcx S (exq r dm p code), G') ∧ QQ S G' (ex2 r dm p code) (exd r dm p code) ∧ TF S G G' := by
  obtain ⟨h1, ⟨a1, a2, a3, a4, a5, a6⟩, ⟨b1, b2⟩, h4, ⟨c1, c2⟩, h6, h7, h8, h9, -⟩ := he
  have hb := QQ_b h
  have bp := pc_b (T := S) (i := p) (by omega)
  have bs := pc_b (T := S) (i := s) (by omega)
  have hbud := h9 s a4.1 a4.2
  have no : ¬ RPc r dm p code → exq r dm p code = -1 ∧ ex2 r dm p code = r ∧ exd r dm p code = dm := fun z => by
    unfold exq ex2 exd
    exact ⟨if_neg z, if_neg z, if_neg z⟩
  have fin : ¬ RPc r dm p code → ∃ G', some ((-1 : Int), G) = some (pcx S (exq r dm p code), G') ∧ QQ S G' (ex2 r dm p code) (exd r dm p code) ∧ TF S G G' := fun z => by
    obtain ⟨n1, n2, n3⟩ := no z
    rw [n1, n2, n3, pcx_n]
    exact ⟨G, rfl, h, TF_r⟩
  rw [fT_replace, if_pos (kdp h.1 (by omega)), h.2.2.2.2.1 s a4.1 (by omega)]
  by_cases d1 : dm s = 0
  · rw [if_pos d1, (QQ_pe h a4).1.2.2.2.1]
    by_cases d2 : 0 < r (220 + s)
    · rw [if_pos d2, if_pos (kdp h.1 (by omega)), (QQ_pe h (i := p) (by omega)).1.2.1, (QQ_pe h (i := p) (by omega)).1.2.2.1, (QQ_pe h (i := p) (by omega)).1.2.2.2.1]
      by_cases d3 : r 0 = 40
      · have ea : fT_arrive G S (pc S s) (r (100 + p)) (r (180 + p)) (r (220 + p)) = some (-1, G) := by
          rw [fT_arrive, QQ_0 h, if_neg (by omega), if_neg (by omega)]
        rw [ea, bdN_s, if_pos (show (-1 : Int) < 0 by omega)]
        exact fin (fun z => z.2.2.2 d3)
      · have rp : RPc r dm p code := ⟨hcode, by rw [a2]; exact d1, by rw [a2]; omega, d3⟩
        have hM : 1 ≤ r 0 ∧ r 0 < 40 := by omega
        have bn := pc_b (T := S) (i := r 0) (by omega)
        obtain ⟨A, eA, iA, t1, t2, t3, t4, t5, t6, t7⟩ := vT_arrive (a := r (100 + p)) (b := r (180 + p)) (d := r (220 + p)) (j := s) h.2.1 h.1 (by rw [QQ_0 h]; exact a4) (by rw [QQ_0 h]; omega)
        rw [QQ_0 h] at eA t1 t2 t4 t5 t6 t7
        have kb := kids_bd (r := r) (i := s) (s := 0)
        have f3 := (QQ_pe h a4).2.2.1
        rw [f3, w32_r (by omega), ← f3] at t3
        have hcp := CP_cm h.2.2.2.1 h.2.2.1 (by omega) (by omega) a4 t1 t2 t3 t4 t5 t6 t7
        have ho := fun k => cmR_o (r := r) (a := s) (c := r (100 + p)) (gp := r (180 + p)) (b := r (220 + p)) (k := k) hM
        obtain ⟨n1, n2, n3, n4, n5, n6⟩ := cmR_n (r := r) (a := s) (c := r (100 + p)) (gp := r (180 + p)) (b := r (220 + p)) hM
        have m0 : cmR r s (r (100 + p)) (r (180 + p)) (r (220 + p)) 0 = r 0 + 1 := cmR_0
        have m1 : cmR r s (r (100 + p)) (r (180 + p)) (r (220 + p)) 1 = r 1 := ho 1 (by omega)
        -- the budget, the tie, the count
        have f6 : A (pc S s) 6 = r (220 + s) := by rw [t3, u1_n (by omega)]; exact (QQ_pe h a4).1.2.2.2.1
        have K1 := CK_f (a := 6) (b := 220) (p := s) (v := w32 (A (pc S s) 6 - 1)) (CK_of hcp) (by rw [m0]; omega) (by rw [m1]; omega) (by rw [m0]; omega) (by omega)
        have I1 : IT S G (pU A (pc S s) 6 (w32 (A (pc S s) 6 - 1))) := IT_w iA (by omega)
        have z0 : pU A (pc S s) 6 (w32 (A (pc S s) 6 - 1)) (pc S (r 0)) 0 = r 0 := TS_n I1.1.1 (by omega)
        have zS : ∀ y, ¬ y = 5 → pU A (pc S s) 6 (w32 (A (pc S s) 6 - 1)) S y = G S y := fun y hy => by rw [pU_n (by omega), t1, u1_n hy]
        have z13 : ∀ i, 0 ≤ i → i < 40 → pU A (pc S s) 6 (w32 (A (pc S s) 6 - 1)) (pc S i) 13 = if i = r 0 then 0 else G (pc S i) 13 := fun i i0 i1 => by
          have bi := pc_b (T := S) ⟨i0, i1⟩
          rw [pU_y (by omega)]
          by_cases y : i = r 0
          · rw [if_pos y, y]; exact t7.2.1
          · rw [if_neg y]
            by_cases y2 : i = s
            · rw [y2, t3, u1_n (by omega)]
            · rw [t2 _ (by omega) (pc_ne i0 (by omega) y) (pc_ne i0 a4.1 y2)]
        rw [eA, bdN_s, if_neg (pc_pos h.1 (by omega)), bnd_s, if_pos (kdp h.1 (by omega))]
        rw [f6] at K1 I1 z0 zS z13 ⊢
        generalize pU A (pc S s) 6 (w32 (r (220 + s) - 1)) = B at *
        rw [z0, bnd_s]
        have l0 : u1 (cmR r s (r (100 + p)) (r (180 + p)) (r (220 + p))) (220 + s) (w32 (r (220 + s) - 1)) 0 = r 0 + 1 := by rw [u1_n (by omega)]; exact m0
        have l1 : u1 (cmR r s (r (100 + p)) (r (180 + p)) (r (220 + p))) (220 + s) (w32 (r (220 + s) - 1)) 1 = r 1 := by rw [u1_n (by omega)]; exact m1
        have K2 := CK_f (a := 12) (b := 420) (p := p) (v := r 0) K1 (by rw [l0]; omega) (by rw [l1]; omega) (by rw [l0]; omega) (by omega)
        have I2 : IT S G (pU B (pc S p) 12 (r 0)) := IT_w I1 (by omega)
        have y9 : pU B (pc S p) 12 (r 0) S 9 = r 4 := by rw [pU_n (by omega), zS 9 (by omega)]; exact h.2.2.2.1.1.2.2.2.2.1
        have y13 : ∀ i, 0 ≤ i → i < 40 → pU B (pc S p) 12 (r 0) (pc S i) 13 = if i = r 0 then 0 else G (pc S i) 13 := fun i i0 i1 => by rw [pU_y (by omega)]; exact z13 i i0 i1
        generalize pU B (pc S p) 12 (r 0) = D at *
        rw [y9, bnd_s]
        have q0 : u1 (u1 (cmR r s (r (100 + p)) (r (180 + p)) (r (220 + p))) (220 + s) (w32 (r (220 + s) - 1))) (420 + p) (r 0) 0 = r 0 + 1 := by rw [u1_n (by omega)]; exact l0
        have q1 : u1 (u1 (cmR r s (r (100 + p)) (r (180 + p)) (r (220 + p))) (220 + s) (w32 (r (220 + s) - 1))) (420 + p) (r 0) 1 = r 1 := by rw [u1_n (by omega)]; exact l1
        have K3 := CK_s (a := 9) (b := 4) (v := w32 (r 4 + 1)) K2 (by omega) (by omega) (by omega)
        have er : u1 (u1 (u1 (cmR r s (r (100 + p)) (r (180 + p)) (r (220 + p))) (220 + s) (w32 (r (220 + s) - 1))) (420 + p) (r 0)) 4 (w32 (r 4 + 1)) = rpR r p := by
          unfold rpR rpA
          rw [a2, u1_n (show ¬ 100 + p = 4 by omega), u1_n (show ¬ 100 + p = 220 + s by omega), u1_n (show ¬ 180 + p = 4 by omega), u1_n (show ¬ 180 + p = 220 + s by omega), u1_n (show ¬ 220 + p = 4 by omega), u1_n (show ¬ 220 + p = 220 + s by omega)]
          rw [cmR_u1 (by rw [u1_n (by omega)]; exact hM) (by rw [u1_n (by omega)]; omega), cmR_u1 hM (by omega), u1_c (a := 420 + p) (b := 4) (by omega)]
        rw [er] at K3
        have E2 := EP_rp ⟨h1, ⟨a1, a2, a3, a4, a5, a6⟩, ⟨b1, b2⟩, h4, ⟨c1, c2⟩, h6, h7, h8, h9, Or.inl rfl⟩ (by omega) (show ¬ r (220 + s) = 0 by omega)
        have e0 : rpR r p 0 = r 0 + 1 := by rw [← er, u1_n (by omega)]; exact q0
        have x1 : exq r dm p code = r 0 := by unfold exq; rw [if_pos rp]
        have x2 : ex2 r dm p code = rpR r p := by unfold ex2; rw [if_pos rp]
        have x3 : exd r dm p code = u1 dm (r 0) 0 := by unfold exd; rw [if_pos rp]
        rw [x1, x2, x3, pcx_p (by omega)]
        refine ⟨_, rfl, ⟨h.1, (IT_w I2 (by omega)).1, E2.1, CK_to K3 (fun i i0 i1 => ?_), fun i i0 i1 => ?_, ?_⟩, (IT_w I2 (by omega)).2⟩
        · refine (kids_eq ?_ (fun j j0 j1 => ?_)).symm
          · rw [e0, m0]
          · rw [m0] at j1
            rw [← er]
            exact ⟨by rw [u1_n (by omega), u1_n (by omega), u1_n (by omega)], by rw [u1_n (by omega), u1_n (by omega), u1_n (by omega)]⟩
        · have bi := pc_b (T := S) (i := i) (by omega)
          rw [pU_n (by omega), y13 i i0 i1]
          by_cases y : i = r 0
          · rw [if_pos y, y, u1_s]
          · rw [if_neg y, u1_n y]
            exact h.2.2.2.2.1 i i0 i1
        · rw [← er]
          exact LR_e h.2.2.2.2.2 (by rw [u1_n (by omega), u1_n (by omega), u1_n (by omega), ho 3 (by omega)]) (by rw [u1_n (by omega), u1_n (by omega), u1_n (by omega), ho 60 (by omega)]) (by rw [u1_n (by omega), u1_n (by omega), u1_n (by omega), ho 380 (by omega)])
    · rw [if_neg d2]
      exact fin (fun z => z.2.2.1 (by rw [a2]; omega))
  · rw [if_neg d1]
    exact fin (fun z => d1 (by rw [← a2]; exact z.2.1))
/-- duties pass on -/
theorem aT_duties (hp : 0 < p) : ∀ (m n : Nat) (k : Int) (G : gH) (r : Int → Int), (8 - k).toNat = m → m < n → 0 ≤ k → k ≤ 8 → QQ S G r dm → EP r p s q → HP r p k → ∃ G', lT_passDuties_2 S (pc S p) (pcx S q) n k G = some (0, G') ∧ QQ S G' (fd (fun k r => dutS dm p q k r) m k r) dm ∧ TF S G G' := by
  intro m
  induction m with
  | zero =>
    intro n k G r hm hn k0 k1 h he hh
    obtain ⟨n, rfl⟩ : ∃ k, n = k + 1 := ⟨n - 1, by omega⟩
    refine ⟨G, ?_, h, TF_r⟩
    show bT_passDuties_2 S (pc S p) (pcx S q) (lT_passDuties_2 S (pc S p) (pcx S q) n) k G = _
    rw [bT_passDuties_2, if_neg (by omega)]
  | succ m ih =>
    intro n k G r hm hn k0 k1 h he hh
    obtain ⟨n, rfl⟩ : ∃ k, n = k + 1 := ⟨n - 1, by omega⟩
    have hb := QQ_b h
    have hpr := he.2.1.2.2.1
    have hc1 := he.2.2.2.2.1.1
    have hq := he.2.2.2.2.2.2.2.2.2
    obtain ⟨d1, d2, d3⟩ := dut_step (dm := dm) he hh ⟨k0, by omega⟩
    have g3 : kd (S + 3) = 20 ∧ (0 : Int) ≤ k ∧ k < sz (S + 3) := ⟨kdT3 h.1, k0, by rw [szT3 h.1]; omega⟩
    have ef : fd (fun k r => dutS dm p q k r) (m + 1) k r = fd (fun k r => dutS dm p q k r) m (k + 1) (dutS dm p q k r) := rfl
    -- a holder is written
    have wr : ∀ v, 0 ≤ v → v < r 0 → dutS dm p q k r = u1 r (11 + k) v → ∃ G', lT_passDuties_2 S (pc S p) (pcx S q) n (w32 (k + 1)) (pU G (S + 3) k (G (pc S v) 0)) = some (0, G') ∧ QQ S G' (fd (fun k r => dutS dm p q k r) (m + 1) k r) dm ∧ TF S G G' := by
      intro v v0 v1 ev
      rw [TS_n h.2.1.1 ⟨v0, by omega⟩, w32_r (by omega), ef]
      have hI := IT_w (a := S + 3) (b := k) (v := v) (IT_r h.2.1) (by omega)
      have h' : QQ S (pU G (S + 3) k v) (dutS dm p q k r) dm := by
        rw [ev] at d1 d3 ⊢
        refine ⟨h.1, hI.1, d1.1, CP_d h.2.2.2.1 (by omega) (by omega) ⟨k0, by omega⟩, fun i i0 i1 => ?_, ?_⟩
        · have bi := pc_b (T := S) (i := i) (by omega)
          rw [pU_n (by omega)]
          exact h.2.2.2.2.1 i i0 i1
        · exact LR_e h.2.2.2.2.2 (u1_n (by omega)) (u1_n (by omega)) (u1_n (by omega))
      obtain ⟨G', e1, e2, e3⟩ := ih n (k + 1) _ _ (by omega) (by omega) (by omega) (by omega) h' d1 d2
      exact ⟨G', e1, e2, TF_t hI.2 e3⟩
    show ∃ G', bT_passDuties_2 S (pc S p) (pcx S q) (lT_passDuties_2 S (pc S p) (pcx S q) n) k G = some (0, G') ∧ _
    rw [bT_passDuties_2, if_pos (by omega), TS_2 h.2.1.1, if_pos g3, if_pos (kdp h.1 (by omega)), h.2.2.2.1.2.2.1 k k0 (by omega), TS_n h.2.1.1 (by omega)]
    by_cases c : r (11 + k) = p
    · rw [if_pos c]
      by_cases c2 : q = -1
      · rw [c2, pcx_n, if_pos (show (-1 : Int) < 0 by omega), qT_inherit h (by omega) (by omega), bdP_s]
        have hv : 0 ≤ HO r dm p k ∧ HO r dm p k < r 0 := by
          rcases HO_f (dm := dm) he.1 (p := p) (by omega) ⟨k0, by omega⟩ with z | z
          · rw [z]; exact QQ_rg h (by omega)
          · exact ⟨z.1, z.2.1⟩
        rw [if_pos (kdp h.1 (by omega)), if_pos g3, bnd_s]
        have := wr (HO r dm p k) hv.1 hv.2 (by unfold dutS; rw [if_pos c, if_pos c2])
        rw [c2, pcx_n] at this
        exact this
      · have hq : 0 < q ∧ q < r 0 := by
          rcases hq with z | z
          · exact absurd z c2
          · exact ⟨z.1, z.2.1⟩
        rw [pcx_p (by omega), if_neg (pc_pos h.1 (by omega)), if_pos (kdp h.1 (by omega)), if_pos g3, bnd_s]
        have := wr q (by omega) hq.2 (by unfold dutS; rw [if_pos c, if_neg c2])
        rw [pcx_p (by omega)] at this
        exact this
    · rw [if_neg c, w32_r (by omega), ef]
      have e1 : dutS dm p q k r = r := by unfold dutS; rw [if_neg c]
      rw [e1] at d2 ⊢
      exact ih n (k + 1) G r (by omega) (by omega) (by omega) (by omega) h he d2
/-- whom an orphan goes to -/
theorem orp_t (hd : ∃ g : gH, MS g ∧ g 630 = dm) (h : EP r p s q) (hc : 0 < c ∧ c < r 0) (hi : ic r c p 0 = true) : (0 ≤ (if ¬ q = -1 ∧ 0 < room r q then q else AD r dm c p) ∧ (if ¬ q = -1 ∧ 0 < room r q then q else AD r dm c p) < r 0) ∧ ¬ (if ¬ q = -1 ∧ 0 < room r q then q else AD r dm c p) = c ∧ OV (up r) c (if ¬ q = -1 ∧ 0 < room r q then q else AD r dm c p) = false := by
  obtain ⟨g, hs, rfl⟩ := hd
  have hM := h.1.1
  obtain ⟨a1, a2, a3, a4, a5, a6⟩ := h.2.1
  obtain ⟨i1, i2, i3⟩ := ic_t.mp hi
  have hcq : c ≠ q := by
    intro e
    rcases h.2.2.2.2.2.2.2.2.2 with e2 | ⟨q1, q2, q3, q4, q5⟩
    · omega
    · rw [e, q4] at i2; exact a5 i2
  obtain ⟨d1, d2, d3⟩ := EP_dp h hc i2
  by_cases e : ¬ q = -1 ∧ 0 < room r q
  · rw [if_pos e]
    rcases h.2.2.2.2.2.2.2.2.2 with e2 | ⟨q1, q2, q3, q4, q5⟩
    · exact absurd e2 e.1
    · exact ⟨⟨by omega, q2⟩, fun z => hcq z.symm, d3 e.1 hcq⟩
  · rw [if_neg e]
    have hAD := (vM_adopterOf (g := sw g r) (o := c) (wo := p) (MS_sw hs) (by rw [sw_s]; exact h.1) (by rw [sw_s]; omega) (by rw [sw_s]; omega)).2
    rw [sw_s, sw_n (show ¬ (630 : Int) = 625 by omega)] at hAD
    rcases hAD with e2 | ⟨e2, e3, e4, e5⟩
    · rw [e2]
      exact ⟨by omega, by omega, OV_0⟩
    · obtain ⟨f1, f2, f3⟩ := canA_f e5
      exact ⟨⟨by omega, e3⟩, f2, f3⟩
theorem MM_of (hd : ∃ g : gH, MS g ∧ g 630 = dm) : MM r dm := by
  obtain ⟨g, h1, h2⟩ := hd
  exact ⟨sw g r, MS_sw h1, sw_s, by rw [sw_n (by omega)]; exact h2⟩
/-- orphans -/
theorem aT_orphans (hd : ∃ g : gH, MS g ∧ g 630 = dm) : ∀ (m n : Nat) (c : Int) (G : gH) (r : Int → Int), (r 0 - c).toNat = m → (40 - c).toNat < n → 1 ≤ c → c ≤ 40 → QQ S G r dm → EP r p s q → HP r p 8 → NC r p 0 c → ∃ G', lT_letExit_92 S (pc S p) (pc S s) b (pcx S q) (S + 2) 40 n c G = jT_letExit_163 G' S (pc S p) (pc S s) b ∧ QQ S G' (fd (fun c r => orpS dm p q c r) m c r) dm ∧ TF S G G' := by
  have skip : ∀ (m n : Nat) (c : Int) (G : gH) (r : Int → Int), (40 - c).toNat = m → m < n → r 0 ≤ c → 1 ≤ c → QQ S G r dm → (0 ≤ p ∧ p < 40) → lT_letExit_92 S (pc S p) (pc S s) b (pcx S q) (S + 2) 40 n c G = jT_letExit_163 G S (pc S p) (pc S s) b := by
    intro m
    induction m with
    | zero =>
      intro n c G r hm hn c0 c1 h hp
      obtain ⟨n, rfl⟩ : ∃ k, n = k + 1 := ⟨n - 1, by omega⟩
      show bT_letExit_92 S (pc S p) (pc S s) b (pcx S q) (S + 2) 40 (lT_letExit_92 S (pc S p) (pc S s) b (pcx S q) (S + 2) 40 n) c G = _
      rw [bT_letExit_92, if_neg (by omega)]
    | succ m ih =>
      intro n c G r hm hn c0 c1 h hp
      obtain ⟨n, rfl⟩ : ∃ k, n = k + 1 := ⟨n - 1, by omega⟩
      show bT_letExit_92 S (pc S p) (pc S s) b (pcx S q) (S + 2) 40 (lT_letExit_92 S (pc S p) (pc S s) b (pcx S q) (S + 2) 40 n) c G = _
      rw [bT_letExit_92, if_pos (by omega), if_pos ⟨kdT2 h.1, by omega, by rw [szT2 h.1]; omega⟩, TS_p h.2.1.1 (by omega), if_pos (kdp h.1 (by omega)), qP_child h (by omega) hp, if_neg (by omega), bdP_s, if_pos rfl, w32_r (by omega)]
      exact ih n (c + 1) G r (by omega) (by omega) (by omega) (by omega) h hp
  intro m
  induction m with
  | zero =>
    intro n c G r hm hn c0 c1 h he hh hn0
    have hb := QQ_b h
    have hp := he.2.1.2.2.1
    exact ⟨G, skip _ n c G r rfl hn (by omega) c0 h (by omega), h, TF_r⟩
  | succ m ih =>
    intro n c G r hm hn c0 c1 h he hh hn0
    obtain ⟨n, rfl⟩ : ∃ k, n = k + 1 := ⟨n - 1, by omega⟩
    have hb := QQ_b h
    have hp := he.2.1.2.2.1
    have hc1 := he.2.2.2.2.1.1
    have hcr : 0 < c ∧ c < r 0 := by omega
    have os : EP (orpS dm p q c r) p s q ∧ HP (orpS dm p q c r) p 8 ∧ NC (orpS dm p q c r) p 0 (c + 1) ∧ orpS dm p q c r 0 = r 0 := by
      obtain ⟨g, hs, rfl⟩ := hd
      exact orp_step hs he hh hn0 hcr
    obtain ⟨o1, o2, o3, o4⟩ := os
    have ef : fd (fun c r => orpS dm p q c r) (m + 1) c r = fd (fun c r => orpS dm p q c r) m (c + 1) (orpS dm p q c r) := rfl
    have nx : ∀ G1, QQ S G1 (orpS dm p q c r) dm → TF S G G1 → ∃ G', lT_letExit_92 S (pc S p) (pc S s) b (pcx S q) (S + 2) 40 n (w32 (c + 1)) G1 = jT_letExit_163 G' S (pc S p) (pc S s) b ∧ QQ S G' (fd (fun c r => orpS dm p q c r) (m + 1) c r) dm ∧ TF S G G' := by
      intro G1 h1 f1
      rw [w32_r (by omega), ef]
      obtain ⟨G', e1, e2, e3⟩ := ih n (c + 1) G1 _ (by rw [o4]; omega) (by omega) (by omega) (by omega) h1 o1 o2 o3
      exact ⟨G', e1, e2, TF_t f1 e3⟩
    show ∃ G', bT_letExit_92 S (pc S p) (pc S s) b (pcx S q) (S + 2) 40 (lT_letExit_92 S (pc S p) (pc S s) b (pcx S q) (S + 2) 40 n) c G = _ ∧ _
    rw [bT_letExit_92, if_pos (by omega), if_pos ⟨kdT2 h.1, by omega, by rw [szT2 h.1]; omega⟩, TS_p h.2.1.1 (by omega), if_pos (kdp h.1 (by omega)), qP_child h (by omega) (by omega), bdP_s]
    by_cases hi : ic r c p 0 = true
    · have eo : orpS dm p q c r = adR r (if ¬ q = -1 ∧ 0 < room r q then q else AD r dm c p) c := by unfold orpS; rw [if_pos hi]
      obtain ⟨t1, t2, t3⟩ := orp_t hd he hcr hi
      obtain ⟨i1, i2, i3⟩ := ic_t.mp hi
      have iu : up r c = p := i2
      have hq := he.2.2.2.2.2.2.2.2.2
      rw [if_pos (show c < r 0 ∧ ic r c p 0 = true from ⟨hcr.2, hi⟩), if_neg f0]
      obtain ⟨G1, eA, hA, fA⟩ := aT_adopt h (by omega) hcr i1 t1 t2 t3
      rw [← eo] at hA
      have e132 : ¬ (¬ q = -1 ∧ 0 < room r q) → jT_letExit_132 (lT_letExit_92 S (pc S p) (pc S s) b (pcx S q) (S + 2) 40 n) G S (pc S p) (pc S s) b (pcx S q) (S + 2) 40 c (pc S c) = lT_letExit_92 S (pc S p) (pc S s) b (pcx S q) (S + 2) 40 n (w32 (c + 1)) G1 := fun z => by
        have ea := qT_adopter h (MM_of hd) hcr
        rw [iu] at ea
        rw [if_neg z] at eA
        rw [jT_letExit_132, jT_letExit_133, if_pos rfl, ea, bdP_s, eA, bdN_s]
      by_cases c2 : q = -1
      · rw [if_pos (show pcx S q < 0 by rw [c2, pcx_n]; omega), e132 (fun z => z.1 c2)]
        exact nx G1 hA fA
      · have hq : 0 < q ∧ q < r 0 := by
          rcases hq with z | z
          · exact absurd z c2
          · exact ⟨z.1, z.2.1⟩
        have epq : pcx S q = pc S q := pcx_p (by omega)
        rw [if_neg (show ¬ pcx S q < 0 by rw [epq]; exact pc_pos h.1 (by omega)), if_pos (show kd (pcx S q) = 3 by rw [epq]; exact kdp h.1 (by omega)), show fP_room G (pcx S q) = some (room r q) by rw [epq]; exact qP_room h (by omega), bdP_s]
        by_cases c3 : 0 < room r q
        · rw [if_pos ⟨c2, c3⟩] at eA
          rw [if_pos c3, jT_letExit_133, if_neg f0]
          rw [show fT_adopt G S (pc S c) (pcx S q) = some (0, G1) by rw [epq]; exact eA, bdN_s]
          exact nx G1 hA fA
        · rw [if_neg c3, e132 (fun z => c3 z.2)]
          exact nx G1 hA fA
    · have eo : orpS dm p q c r = r := by unfold orpS; rw [if_neg hi]
      rw [if_neg (show ¬ (c < r 0 ∧ ic r c p 0 = true) from fun z => hi z.2), if_pos rfl]
      exact nx G (by rw [eo]; exact h) TF_r
/-- zombies -/
theorem aT_zombies : ∀ (m n : Nat) (c : Int) (G : gH) (r : Int → Int), (r 0 - c).toNat = m → (40 - c).toNat < n → 1 ≤ c → c ≤ 40 → QQ S G r dm → EP r p s q → HP r p 8 → NC r p 0 (r 0) → NC r p 1 c → ∃ G', lT_letExit_177 S (pc S p) (pc S s) b (S + 2) 40 n c G = jT_letExit_212 G' S (pc S s) b ∧ QQ S G' (fd (fun c r => zomS p s c r) m c r) dm ∧ TF S G G' := by
  have skip : ∀ (m n : Nat) (c : Int) (G : gH) (r : Int → Int), (40 - c).toNat = m → m < n → r 0 ≤ c → 1 ≤ c → QQ S G r dm → (0 ≤ p ∧ p < 40) → lT_letExit_177 S (pc S p) (pc S s) b (S + 2) 40 n c G = jT_letExit_212 G S (pc S s) b := by
    intro m
    induction m with
    | zero =>
      intro n c G r hm hn c0 c1 h hp
      obtain ⟨n, rfl⟩ : ∃ k, n = k + 1 := ⟨n - 1, by omega⟩
      show bT_letExit_177 S (pc S p) (pc S s) b (S + 2) 40 (lT_letExit_177 S (pc S p) (pc S s) b (S + 2) 40 n) c G = _
      rw [bT_letExit_177, if_neg (by omega)]
    | succ m ih =>
      intro n c G r hm hn c0 c1 h hp
      obtain ⟨n, rfl⟩ : ∃ k, n = k + 1 := ⟨n - 1, by omega⟩
      show bT_letExit_177 S (pc S p) (pc S s) b (S + 2) 40 (lT_letExit_177 S (pc S p) (pc S s) b (S + 2) 40 n) c G = _
      rw [bT_letExit_177, if_pos (by omega), if_pos ⟨kdT2 h.1, by omega, by rw [szT2 h.1]; omega⟩, TS_p h.2.1.1 (by omega), if_pos (kdp h.1 (by omega)), qP_zombie h (by omega) hp, if_neg (by omega), bdP_s, if_pos rfl, w32_r (by omega)]
      exact ih n (c + 1) G r (by omega) (by omega) (by omega) (by omega) h hp
  intro m
  induction m with
  | zero =>
    intro n c G r hm hn c0 c1 h he hh hn0 hn1
    have hb := QQ_b h
    have hp := he.2.1.2.2.1
    exact ⟨G, skip _ n c G r rfl hn (by omega) c0 h (by omega), h, TF_r⟩
  | succ m ih =>
    intro n c G r hm hn c0 c1 h he hh hn0 hn1
    obtain ⟨n, rfl⟩ : ∃ k, n = k + 1 := ⟨n - 1, by omega⟩
    have hb := QQ_b h
    have hp := he.2.1.2.2.1
    have ha4 := he.2.1.2.2.2.1
    have hc1 := he.2.2.2.2.1.1
    have hcr : 0 < c ∧ c < r 0 := by omega
    obtain ⟨o1, o2, o3, o4, o5⟩ := zom_step he hh hn0 hn1 hcr
    have ef : fd (fun c r => zomS p s c r) (m + 1) c r = fd (fun c r => zomS p s c r) m (c + 1) (zomS p s c r) := rfl
    have nx : ∀ G1, QQ S G1 (zomS p s c r) dm → TF S G G1 → ∃ G', lT_letExit_177 S (pc S p) (pc S s) b (S + 2) 40 n (w32 (c + 1)) G1 = jT_letExit_212 G' S (pc S s) b ∧ QQ S G' (fd (fun c r => zomS p s c r) (m + 1) c r) dm ∧ TF S G G' := by
      intro G1 h1 f1
      rw [w32_r (by omega), ef]
      obtain ⟨G', e1, e2, e3⟩ := ih n (c + 1) G1 _ (by rw [o5]; omega) (by omega) (by omega) (by omega) h1 o1 o2 (by rw [o5]; exact o3) o4
      exact ⟨G', e1, e2, TF_t f1 e3⟩
    show ∃ G', bT_letExit_177 S (pc S p) (pc S s) b (S + 2) 40 (lT_letExit_177 S (pc S p) (pc S s) b (S + 2) 40 n) c G = _ ∧ _
    rw [bT_letExit_177, if_pos (by omega), if_pos ⟨kdT2 h.1, by omega, by rw [szT2 h.1]; omega⟩, TS_p h.2.1.1 (by omega), if_pos (kdp h.1 (by omega)), qP_zombie h (by omega) (by omega), bdP_s]
    by_cases hi : ic r c p 1 = true
    · have eo : zomS p s c r = u1 r (60 + c) s := by unfold zomS; rw [if_pos hi]
      obtain ⟨i1, i2, i3⟩ := ic_t.mp hi
      have i1c := i1
      obtain ⟨d1, d2, -⟩ := EP_dp he hcr i2
      have bc := pc_b (T := S) (i := c) (by omega)
      rw [if_pos (show c < r 0 ∧ ic r c p 1 = true from ⟨hcr.2, hi⟩), if_neg f0, bnd_s]
      have hT : TI (pU G (pc S c) 2 (pc S s)) S := TI_sup h.2.1 (by rw [QQ_0 h]; exact hcr) (by rw [QQ_0 h]; exact ha4) d1 (by rw [QQ_OV h ha4]; exact d2)
      have K1 := CK_2 (p := c) (t := s) (CK_of h.2.2.2.1) (by omega) (by omega) hcr
      refine nx _ ?_ (TF_pU TF_r (by omega))
      rw [eo] at o1 o5 ⊢
      refine ⟨h.1, hT, o1.1, CK_to K1 (fun i i0 i1 => ?_), fun i i0 i1 => ?_, ?_⟩
      · have kk := kids_1 (r := r) (r' := u1 r (60 + c) s) (o := c) (i := i) (by omega) o5 hcr (fun j j0 j1 j2 => ⟨u1_n (by omega), u1_n (by omega)⟩)
        rw [u1_n (show ¬ 140 + c = 60 + c by omega), if_neg (show ¬ (r (140 + c) = 0 ∧ r (60 + c) = i) by rw [i1c]; omega), if_neg (show ¬ (r (140 + c) = 0 ∧ u1 r (60 + c) s (60 + c) = i) by rw [i1c]; omega)] at kk
        show kids r i 0 = _
        omega
      · rw [pU_y (by omega)]
        exact h.2.2.2.2.1 i i0 i1
      · exact LR_e h.2.2.2.2.2 (u1_n (by omega)) (u1_n (by omega)) (u1_n (by omega))
    · have eo : zomS p s c r = r := by unfold zomS; rw [if_neg hi]
      rw [if_neg (show ¬ (c < r 0 ∧ ic r c p 1 = true) from fun z => hi z.2), if_pos rfl]
      exact nx G (by rw [eo]; exact h) TF_r
/-- testaments are read: the row, and what is summed -/
theorem aT_readZ (h : QQ S G r dm) (h1 : 0 ≤ r 1 ∧ r 1 ≤ 40) (hcd : CD r) (hp : 0 ≤ p ∧ p < r 0) (hwb : WB (rdR r p)) : ∃ G', fT_readZombiesOf G S (pc S p) = some (SZ r p, G') ∧ QQ S G' (rdR r p) dm ∧ TF S G G' := by
  have hf := fu_ge
  have hb := QQ_b h
  -- the row behind the first c
  have key : ∀ (m n : Nat) (c v : Int) (A : gH) (ρ : Int → Int), (40 - c).toNat = m → m < n → 0 ≤ c → c ≤ 40 → (0 ≤ v ∧ v ≤ 255 * c) → QQ S A ρ dm → (∀ k, ρ k = if 140 ≤ k ∧ k < 140 + r 0 ∧ k < 140 + c ∧ ic r (k - 140) p 1 = true then 2 else r k) → ∃ G', lT_readZombiesOf_14 (pc S p) (S + 2) 40 n v c A = some (v + sm (fun c => ic r c p 1) (fun c => r (300 + c)) (r 0 - c).toNat c, G') ∧ QQ S G' (rdR r p) dm ∧ TF S A G' := by
    intro m
    induction m with
    | zero =>
      intro n c v A ρ hm hn c0 c1 hv hA hρ
      obtain ⟨n, rfl⟩ : ∃ k, n = k + 1 := ⟨n - 1, by omega⟩
      have er : ρ = rdR r p := by
        funext k
        rw [hρ k]
        unfold rdR
        by_cases z : 140 ≤ k ∧ k < 140 + r 0 ∧ ic r (k - 140) p 1 = true
        · rw [if_pos z, if_pos ⟨z.1, z.2.1, by omega, z.2.2⟩]
        · rw [if_neg z, if_neg (fun y => z ⟨y.1, y.2.1, y.2.2.2⟩)]
      rw [er] at hA
      refine ⟨A, ?_, hA, TF_r⟩
      show bT_readZombiesOf_14 (pc S p) (S + 2) 40 (lT_readZombiesOf_14 (pc S p) (S + 2) 40 n) v c A = _
      rw [bT_readZombiesOf_14, if_neg (by omega), show (r 0 - c).toNat = 0 by omega]
      show some (v, A) = some (v + 0, A)
      rw [Int.add_zero]
    | succ m ih =>
      intro n c v A ρ hm hn c0 c1 hv hA hρ
      obtain ⟨n, rfl⟩ : ∃ k, n = k + 1 := ⟨n - 1, by omega⟩
      have e0 : ρ 0 = r 0 := by rw [hρ 0, if_neg (by omega)]
      have e1 : ρ 1 = r 1 := by rw [hρ 1, if_neg (by omega)]
      have bc := pc_b (T := S) (i := c) (by omega)
      have eic : ic ρ c p 1 = ic r c p 1 := by
        unfold ic
        rw [hρ (140 + c), if_neg (by omega), hρ (60 + c), if_neg (by omega)]
      show ∃ G', bT_readZombiesOf_14 (pc S p) (S + 2) 40 (lT_readZombiesOf_14 (pc S p) (S + 2) 40 n) v c A = _ ∧ _
      rw [bT_readZombiesOf_14, if_pos (by omega), if_pos ⟨kdT2 h.1, by omega, by rw [szT2 h.1]; omega⟩, TS_p hA.2.1.1 (by omega), if_pos (kdp h.1 (by omega)), qP_zombie hA (by omega) (by omega), bdP_s, e0, eic]
      by_cases z : c < r 0 ∧ ic r c p 1 = true
      · obtain ⟨i1, i2, i3⟩ := ic_t.mp z.2
        have cc := hcd c c0 z.1 i1
        have es : sm (fun c => ic r c p 1) (fun c => r (300 + c)) (r 0 - c).toNat c = r (300 + c) + sm (fun c => ic r c p 1) (fun c => r (300 + c)) (r 0 - (c + 1)).toNat (c + 1) := by
          rw [show (r 0 - c).toNat = (r 0 - (c + 1)).toNat + 1 by omega]
          show (if ic r c p 1 = true then r (300 + c) else 0) + _ = _
          rw [if_pos z.2]
        have f9 : pU A (pc S c) 1 2 (pc S c) 9 = r (300 + c) := by
          rw [pU_y (by omega), (QQ_pe hA (i := c) (by rw [e0]; omega)).1.2.2.2.2.2.2.1, hρ (300 + c), if_neg (by omega)]
        rw [if_pos z, if_neg f0, bnd_s, f9, w32_r (by omega), w32_r (by omega), es]
        have hρc : ρ (140 + c) = 1 := by rw [hρ (140 + c), if_neg (by omega)]; exact i1
        have K1 := CK_1 (p := c) (v := 2) (CK_of hA.2.2.2.1) (by omega) (by omega) (by rw [e0]; omega) (by rw [hρc]; omega) (by omega)
        have q0 : u1 ρ (140 + c) 2 0 = r 0 := by rw [u1_n (by omega)]; exact e0
        have hA' : QQ S (pU A (pc S c) 1 2) (u1 ρ (140 + c) 2) dm := by
          refine ⟨h.1, TI_st hA.2.1 ⟨c, by omega, rfl⟩ (by omega), WB_eq hA.2.2.1 (fun k hk => u1_n (by omega)), CK_to K1 (fun i i0 i1 => ?_), fun i i0 i1 => ?_, LR_e hA.2.2.2.2.2 (u1_n (by omega)) (u1_n (by omega)) (u1_n (by omega))⟩
          · have kk := kids_1 (r := ρ) (r' := u1 ρ (140 + c) 2) (o := c) (i := i) (by omega) (by rw [q0, e0]) (by rw [e0]; omega) (fun j j0 j1 j2 => ⟨u1_n (by omega), u1_n (by omega)⟩)
            rw [u1_s, if_neg (show ¬ (ρ (140 + c) = 0 ∧ ρ (60 + c) = i) by rw [hρc]; omega), if_neg (show ¬ ((2 : Int) = 0 ∧ u1 ρ (140 + c) 2 (60 + c) = i) by omega)] at kk
            show kids ρ i 0 = _
            omega
          · rw [pU_y (by omega)]
            exact hA.2.2.2.2.1 i i0 i1
        obtain ⟨G', g1, g2, g3⟩ := ih n (c + 1) (v + r (300 + c)) _ _ (by omega) (by omega) (by omega) (by omega) (by omega) hA' (fun k => by
          by_cases y : k = 140 + c
          · rw [y, u1_s, if_pos ⟨by omega, by omega, by omega, by rw [show 140 + c - 140 = c by omega]; exact z.2⟩]
          · rw [u1_n y, hρ k]
            by_cases y2 : 140 ≤ k ∧ k < 140 + r 0 ∧ k < 140 + c ∧ ic r (k - 140) p 1 = true
            · rw [if_pos y2, if_pos ⟨y2.1, y2.2.1, by omega, y2.2.2.2⟩]
            · rw [if_neg y2, if_neg (fun x => y2 ⟨x.1, x.2.1, by omega, x.2.2.2⟩)])
        refine ⟨G', ?_, g2, TF_t (TF_pU TF_r (by omega)) g3⟩
        rw [g1, show v + r (300 + c) + sm (fun c => ic r c p 1) (fun c => r (300 + c)) (r 0 - (c + 1)).toNat (c + 1) = v + (r (300 + c) + sm (fun c => ic r c p 1) (fun c => r (300 + c)) (r 0 - (c + 1)).toNat (c + 1)) by omega]
      · have es : sm (fun c => ic r c p 1) (fun c => r (300 + c)) (r 0 - c).toNat c = sm (fun c => ic r c p 1) (fun c => r (300 + c)) (r 0 - (c + 1)).toNat (c + 1) := by
          by_cases y : c < r 0
          · rw [show (r 0 - c).toNat = (r 0 - (c + 1)).toNat + 1 by omega]
            show (if ic r c p 1 = true then r (300 + c) else 0) + _ = _
            rw [if_neg (fun x => z ⟨y, x⟩), Int.zero_add]
          · rw [show (r 0 - c).toNat = 0 by omega, show (r 0 - (c + 1)).toNat = 0 by omega]
            rfl
        rw [if_neg z, if_pos rfl, w32_r (by omega), es]
        exact ih n (c + 1) v A ρ (by omega) (by omega) (by omega) (by omega) (by omega) hA (fun k => by
          rw [hρ k]
          by_cases y2 : 140 ≤ k ∧ k < 140 + r 0 ∧ k < 140 + c ∧ ic r (k - 140) p 1 = true
          · rw [if_pos y2, if_pos ⟨y2.1, y2.2.1, by omega, y2.2.2.2⟩]
          · rw [if_neg y2, if_neg (fun x => by
              by_cases y3 : k = 140 + c
              · rw [y3, show 140 + c - 140 = c by omega] at x
                exact z ⟨by omega, x.2.2.2⟩
              · exact y2 ⟨x.1, x.2.1, by omega, x.2.2.2⟩)])
  rw [fT_readZombiesOf, TS_1 h.2.1.1, if_pos (kdT2 h.1), szT2 h.1]
  obtain ⟨G', g1, g2, g3⟩ := key 40 fu 0 0 G r (by omega) (by omega) (by omega) (by omega) (by omega) h (fun k => by rw [if_neg (by omega)])
  refine ⟨G', ?_, g2, g3⟩
  rw [g1, show r 0 - 0 = r 0 by omega, Int.zero_add]
  rfl
end PAR24
