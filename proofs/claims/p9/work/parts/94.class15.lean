/-! ===== the class's reader: statements, loadTree (own work) ===== -/
section CLS15
variable {g g' G H K : gH} {T S i j k a b c v w d o p q r s m x y z l : Int}
theorem tS_takeNumber (h : RJ g G H) : WN (fun _ K => RJ g G K) (fS_takeNumber H 575 a b) := by
  rw [fS_takeNumber]
  refine W_bdN (tS_advance h) (fun _ A hA => ?_)
  have l34 : WN (fun _ K => RJ g G K) (jS_takeNumber_34 A 575) := by
    rw [jS_takeNumber_34]
    exact W_bdN (tS_fail hA) (fun _ B hB => W_ite (fun _ => WN_i hB) (fun _ => WN_i hB))
  exact W_ite (fun _ => W_ite (fun _ => l34) (fun _ => W_ite (fun _ => l34) (fun _ => WN_i hA))) (fun _ => W_bdN (tS_fail hA) (fun _ B hB => WN_i hB))
theorem tS_takeSemicolon (h : RI g H) : WN (fun _ K => RI g K) (fS_takeSemicolon H 575) := by
  rw [fS_takeSemicolon]
  exact W_bdN (tS_advance (RI_J h)) (fun _ A hA => W_ite (fun _ => WN_i (RJ_I hA)) (fun _ => W_bdN (tS_fail hA) (fun _ B hB => W_ite (fun _ => WN_i (RJ_I hB)) (fun _ => WN_i (RJ_I hB)))))
theorem tS_failI (h : RI g H) : WN (fun _ K => RI g K) (fS_fail H 575 v) := WN_m (tS_fail (RI_J h)) (fun _ _ hk => RJ_I hk)
theorem kd578 (h : CR g H) : kd (H 575 1) = 5 := by rw [r578 h]; exact kdT T578
theorem tS_takeNamed (h : RJ g G H) : WN (fun y K => RJ g G K ∧ (y = -1 ∨ Pn K 578 y)) (fS_takeNamed H 575 a) := by
  rw [fS_takeNamed, if_pos (kd578 h.1.1)]
  refine W_bdN (tS_takeNumber h) (fun _ A hA => W_ite (fun _ => WN_i ⟨hA, Or.inl rfl⟩) (fun _ => W_g (kd578 hA.1.1) ?_))
  rw [r578 hA.1.1]
  exact W_bdP (tT_at (CR_T hA.1.1 T578) T578) (fun y hy => WN_i ⟨hA, hy⟩)
theorem RI_IT (h : RI g G) (hi : IT 578 G H) : RI g H := by
  have e5 := hi.2 575 (by omega)
  have e6 := hi.2 576 (by omega)
  exact ⟨CR_IT h.1 T578 hi, by rw [e5, e6]; exact h.2⟩
theorem RI_w (h : RI g G) (hab : a = 578 + 3 ∨ a = 578 + 4 ∨ (a = 578 ∧ (b = 4 ∨ 5 < b)) ∨ (578 < a ∧ a < 578 + 44 ∧ ¬ a = 578 + 2 ∧ ¬ b = 0 ∧ ¬ b = 2 ∧ ¬ b = 1 ∧ ¬ b = 9)) : RI g (pU G a b v) := RI_IT h (IT_w (IT_r (CR_T h.1 T578)) hab)
theorem RI_5 (h : RI g G) (hb : 2 ≤ b ∧ ¬ b = 6) : RI g (pU G 575 b v) := RJ_I (RJ_w (RI_J h) hb)
theorem Pn_x (h1 : RJ g G H) (hp : Pn G 578 c) : Pn H 578 c := by
  obtain ⟨i, hi, e⟩ := hp
  exact ⟨i, by rw [h1.1.2 578 (by omega)]; exact hi, e⟩
theorem IT_e4 (h : TI G T) (e : ∀ x, ¬ x = T + 4 → H x = G x) : IT T G H := by
  refine ⟨TI_eq h (fun k _ _ => by rw [e T (by omega)]) (by rw [e T (by omega)]) (e _ (by omega)) (fun i i0 i1 => ?_) (fun i i0 i1 => ?_), fun x hx => e x (by omega)⟩
  · have := pc_b (T := T) ⟨i0, i1⟩
    rw [e _ (by omega)]; exact ⟨rfl, rfl⟩
  · have := pc_b (T := T) ⟨i0, i1⟩
    rw [e _ (by omega)]; exact h.2.2.2.2.2.2 i i0 i1
theorem tT_hasRule (h : TI G T) (hT : isT T) : WP (fun _ => True) (fT_hasRule G T v) := by
  have hf := fu_ge
  rw [fT_hasRule, TS_3 h.1, if_pos (kdT4 hT), szT4 hT]
  refine W_loop (W := WP (fun _ => True)) (fun n (i : Int) => lT_hasRule_11 G v (T + 4) 5 n i) (fun i => (5 - i).toNat) (fun i => 0 ≤ i ∧ i ≤ 5) ?_ fu 0 (by omega) (by omega)
  intro n i hI ih
  show WP _ (bT_hasRule_11 G v (T + 4) 5 (lT_hasRule_11 G v (T + 4) 5 n) i)
  rw [bT_hasRule_11]
  refine W_ite (fun hi => ?_) (fun _ => WP_i trivial)
  rw [if_pos ⟨kdT4 hT, hI.1, by rw [szT4 hT]; exact hi⟩, w32_r (by omega)]
  exact W_ite (fun _ => WP_i trivial) (fun _ => ih (i + 1) (by omega) (by omega))
theorem lx_119 (h : RI g G) : WN (fun _ K => RI g K) (jS_takeOrder_119 G 575 v) := by
  rw [jS_takeOrder_119, if_pos kd_575]
  exact W_bdN (tS_failI h) (fun _ B hB => W_ite (fun _ => WN_i hB) (fun _ => WN_i hB))
theorem lx_97 (h : RI g G) : WN (fun _ K => RI g K) (jS_takeOrder_97 G 575) := by
  rw [jS_takeOrder_97]
  exact W_ite (fun _ => WN_i h) (fun _ => W_bdP (tS_ruleOfWord h.1) (fun _ _ => W_ite (fun _ => lx_119 h) (fun _ => lx_119 h)))
theorem tS_takeOrder (h : RI g G) : WN (fun _ K => RI g K) (fS_takeOrder G 575) := by
  have hf := fu_ge
  rw [fS_takeOrder]
  refine W_ite (fun _ => ?_) (fun _ => W_bdN (tS_failI h) (fun _ B hB => WN_i hB))
  rw [bnd_s]
  have hA := RI_5 (b := 8) (v := 1) h (by omega)
  generalize pU G 575 8 1 = A at *
  rw [if_pos (kd578 hA.1), r578 hA.1]
  refine W_bdN (tT_clearRules (CR_T hA.1 T578).1 T578) (fun _ B hB => ?_)
  have hB := RI_IT hA (IT_e4 (CR_T hA.1 T578) hB)
  refine W_bdN (tS_advance (RI_J hB)) (fun _ C hC => ?_)
  have hC := RJ_I hC
  refine W_loop (W := WN (fun _ K => RI g K)) (fun n (a : Int × gH) => lS_takeOrder_31 575 n a.1 a.2) (fun a => (5 - a.1).toNat) (fun a => (0 ≤ a.1 ∧ a.1 ≤ 5) ∧ RI g a.2) ?_ fu (0, C) ⟨by dsimp only; omega, hC⟩ (by dsimp only; omega)
  clear h
  rintro n ⟨i, K⟩ hI ih
  have i0 : 0 ≤ i := hI.1.1
  have h : RI g K := hI.2
  show WN _ (bS_takeOrder_31 575 (lS_takeOrder_31 575 n) i K)
  rw [bS_takeOrder_31]
  refine W_ite (fun hi => W_ite (fun _ => W_bdP (tS_ruleOfWord h.1) (fun u _ => W_ite (fun _ => W_bdN (tS_failI h) (fun _ B hB => WN_i hB)) (fun _ => W_g (kd578 h.1) ?_))) (fun _ => lx_97 h)) (fun _ => lx_97 h)
  have ht := CR_T h.1 T578
  rw [r578 h.1]
  refine W_bdP (tT_hasRule ht T578) (fun _ _ => W_ite (fun _ => ?_) (fun _ => W_bdN (tS_failI h) (fun _ B hB => WN_i hB)))
  rw [TS_3 ht.1, if_pos ⟨kdT4 T578, i0, by rw [szT4 T578]; exact hi⟩, bnd_s]
  refine W_bdN (tS_advance (RI_J (RI_w h (by omega)))) (fun _ B hB => ?_)
  rw [w32_r (by omega)]
  exact ih (i + 1, B) ⟨by dsimp only; omega, RJ_I hB⟩ (by dsimp only; omega)
theorem tS_takeDeep (h : RI g G) : WN (fun _ K => RI g K) (fS_takeDeep G 575) := by
  rw [fS_takeDeep]
  refine W_ite (fun _ => ?_) (fun _ => W_bdN (tS_failI h) (fun _ B hB => WN_i hB))
  rw [bnd_s]
  refine W_bdN (tS_takeNumber (RI_J (RI_5 h (by omega)))) (fun _ B hB => ?_)
  have hB := RJ_I hB
  refine W_ite (fun _ => WN_i hB) (fun _ => W_g (kd578 hB.1) ?_)
  rw [bnd_s, r578 hB.1]
  exact W_bdN (tS_takeSemicolon (RI_w hB (by omega))) (fun _ C hC => WN_i hC)
theorem root578 (h : RI g G) : Pa 578 (G 578 0) := by
  have ht := CR_T h.1 T578
  rw [TS_0 ht.1]
  exact Pn_a ht (Pn_0 ht)
theorem tS_takeRoot (h : RI g G) : WN (fun _ K => RI g K) (fS_takeRoot G 575) := by
  rw [fS_takeRoot]
  refine W_ite (fun _ => ?_) (fun _ => W_bdN (tS_failI h) (fun _ B hB => WN_i hB))
  rw [bnd_s]
  refine W_bdN (tS_takeNumber (RI_J (RI_5 h (by omega)))) (fun _ B hB => ?_)
  have hB := RJ_I hB
  have rB := root578 hB
  have bB := Pa_b rB
  refine W_ite (fun _ => WN_i hB) (fun _ => W_g (kd578 hB.1) ?_)
  rw [r578 hB.1, if_pos (Pa_kd T578 rB), bnd_s]
  refine W_bdN (tS_takeNumber (RI_J (RI_w hB (by omega)))) (fun _ C hC => ?_)
  have hC := RJ_I hC
  have rC := root578 hC
  have bC := Pa_b rC
  refine W_ite (fun _ => WN_i hC) (fun _ => W_g (kd578 hC.1) ?_)
  rw [r578 hC.1, if_pos (Pa_kd T578 rC), bnd_s]
  exact W_bdN (tS_takeSemicolon (RI_w hC (by omega))) (fun _ D hD => WN_i hD)
/-- a process named, or none -/
theorem nm_ (h : y = -1 ∨ Pn K 578 y) (hn : ¬ y < 0) : Pn K 578 y := by
  rcases h with e | e
  · exact absurd (by omega) hn
  · exact e
theorem tS_takeProcess (h : RI g G) : WN (fun _ K => RI g K) (fS_takeProcess G 575) := by
  rw [fS_takeProcess, if_pos (kd578 h.1)]
  refine W_ite (fun _ => W_bdN (tS_failI h) (fun _ B hB => WN_i hB)) (fun _ => ?_)
  refine W_bdN (tS_takeNamed (RI_J h)) (fun c A hA => ?_)
  have hAI := RJ_I hA.1
  refine W_ite (fun _ => WN_i hAI) (fun hn => ?_)
  have pc_ := nm_ hA.2 hn
  rw [if_pos (Pa_kd T578 (Pn_a (CR_T hAI.1 T578) pc_))]
  refine W_bdP tP_room (fun _ _ => W_ite (fun _ => W_bdN (tS_failI hAI) (fun _ B hB => WN_i hB)) (fun _ => ?_))
  refine W_bdN (tS_takeNumber (RI_J hAI)) (fun _ B hB => W_ite (fun _ => WN_i (RJ_I hB)) (fun _ => ?_))
  refine W_bdN (tS_takeNumber hB) (fun _ C hC => W_ite (fun _ => WN_i (RJ_I hC)) (fun _ => ?_))
  refine W_bdN (tS_takeNumber hC) (fun _ D hD => W_ite (fun _ => WN_i (RJ_I hD)) (fun _ => ?_))
  rw [if_pos (kd578 hD.1.1), r578 hD.1.1]
  obtain ⟨j, hj, rfl⟩ := Pn_x hD pc_
  exact W_bdN (tT_arrive (CR_T hD.1.1 T578) T578 hj) (fun _ E hE => W_bdN (tS_takeSemicolon (RI_IT (RJ_I hD) hE.1)) (fun _ F hF => WN_i hF))
theorem tS_takeHeir (h : RI g G) : WN (fun _ K => RI g K) (fS_takeHeir G 575) := by
  rw [fS_takeHeir]
  refine W_bdN (tS_takeNamed (RI_J h)) (fun c A hA => ?_)
  have hAI := RJ_I hA.1
  refine W_ite (fun _ => WN_i hAI) (fun hn => ?_)
  have pa := Pn_a (CR_T hAI.1 T578) (nm_ hA.2 hn)
  have ba := Pa_b pa
  rw [if_pos (Pa_kd T578 pa)]
  refine W_ite (fun _ => ?_) (fun _ => W_bdN (tS_failI hAI) (fun _ B hB => WN_i hB))
  refine W_bdN (tS_takeNamed (RI_J hAI)) (fun d B hB => ?_)
  have hBI := RJ_I hB.1
  refine W_ite (fun _ => WN_i hBI) (fun hn2 => W_ite (fun _ => W_bdN (tS_failI hBI) (fun _ C hC => WN_i hC)) (fun _ => ?_))
  have pd := Pn_a (CR_T hBI.1 T578) (nm_ hB.2 hn2)
  rw [if_pos (Pa_kd T578 pd), bnd_s]
  exact W_bdN (tS_takeSemicolon (RI_w hBI (by omega))) (fun _ C hC => WN_i hC)
theorem tS_takeDuty (h : RI g G) : WN (fun _ K => RI g K) (fS_takeDuty G 575) := by
  rw [fS_takeDuty]
  refine W_bdN (tS_takeNumber (RI_J h)) (fun _ A hA => W_ite (fun _ => WN_i (RJ_I hA)) (fun _ => ?_))
  refine W_bdN (tS_takeNamed (RI_J (RJ_I hA))) (fun c B hB => ?_)
  have hBI := RJ_I hB.1
  refine W_ite (fun _ => WN_i hBI) (fun hn => W_g (kd578 hBI.1) ?_)
  have ht := CR_T hBI.1 T578
  rw [r578 hBI.1]
  exact W_bdN (tT_giveDuty ht T578 (Pn_a ht (nm_ hB.2 hn))) (fun _ C hC => W_bdN (tS_takeSemicolon (RI_IT hBI hC.1)) (fun _ D hD => WN_i hD))
theorem tS_takeRefusal (h : RI g G) : WN (fun _ K => RI g K) (fS_takeRefusal G 575) := by
  rw [fS_takeRefusal]
  refine W_bdN (tS_takeNamed (RI_J h)) (fun c A hA => ?_)
  have hAI := RJ_I hA.1
  refine W_ite (fun _ => WN_i hAI) (fun hn => ?_)
  have pa := Pn_a (CR_T hAI.1 T578) (nm_ hA.2 hn)
  have ba := Pa_b pa
  refine W_bdN (tS_takeNumber (RI_J hAI)) (fun _ B hB => W_ite (fun _ => WN_i (RJ_I hB)) (fun _ => ?_))
  have hBI := RJ_I hB
  rw [if_pos (Pa_kd T578 pa)]
  refine W_bdP tP_refuses (fun _ _ => W_ite (fun _ => ?_) (fun _ => W_bdN (tS_failI hBI) (fun _ C hC => WN_i hC)))
  rw [bnd_s]
  exact W_bdN (tS_takeSemicolon (RI_w hBI (by omega))) (fun _ C hC => WN_i hC)
theorem tS_takeWill (h : RI g G) : WN (fun _ K => RI g K) (fS_takeWill G 575) := by
  rw [fS_takeWill]
  refine W_bdN (tS_takeNamed (RI_J h)) (fun c A hA => ?_)
  have hAI := RJ_I hA.1
  refine W_ite (fun _ => WN_i hAI) (fun hn => ?_)
  have pa := Pn_a (CR_T hAI.1 T578) (nm_ hA.2 hn)
  have ba := Pa_b pa
  refine W_bdN (tS_takeNumber (RI_J hAI)) (fun _ B hB => W_ite (fun _ => WN_i (RJ_I hB)) (fun _ => ?_))
  have hBI := RJ_I hB
  rw [if_pos (Pa_kd T578 pa)]
  refine W_bdP tP_willFor (fun _ _ => W_ite (fun _ => ?_) (fun _ => W_bdN (tS_failI hBI) (fun _ C hC => WN_i hC)))
  refine W_bdN (tS_takeNamed (RI_J hBI)) (fun d C hC => ?_)
  have hCI := RJ_I hC.1
  refine W_ite (fun _ => WN_i hCI) (fun hn2 => W_ite (fun _ => W_bdN (tS_failI hCI) (fun _ D hD => WN_i hD)) (fun _ => ?_))
  have pd := Pn_a (CR_T hCI.1 T578) (nm_ hC.2 hn2)
  rw [if_pos (Pa_kd T578 pd), fP_addWill, bnd_s, bdN_s]
  exact W_bdN (tS_takeSemicolon (RI_w hCI (by omega))) (fun _ D hD => WN_i hD)
theorem tS_takeStatement (h : RI g G) : WN (fun _ K => RI g K) (fS_takeStatement G 575) := by
  rw [fS_takeStatement]
  refine W_bdN (tS_advance (RI_J h)) (fun _ A hA => ?_)
  have hI := RJ_I hA
  have fin : ∀ {X : Option (Int × gH)}, WN (fun _ K => RI g K) X → WN (fun _ K => RI g K) (bdN X (fun y G => some (y, G))) := fun hX => W_bdN hX (fun _ B hB => WN_i hB)
  exact W_ite (fun _ => WN_i hI) (fun _ => W_bdP (tS_isWord hI.1 (by omega)) (fun _ _ => W_ite (fun _ => W_bdP (tS_isWord hI.1 (by omega)) (fun _ _ => W_ite (fun _ => W_bdP (tS_isWord hI.1 (by omega)) (fun _ _ => W_ite (fun _ => W_bdP (tS_isWord hI.1 (by omega)) (fun _ _ => W_ite (fun _ => W_bdP (tS_isWord hI.1 (by omega)) (fun _ _ => W_ite (fun _ => W_bdP (tS_isWord hI.1 (by omega)) (fun _ _ => W_ite (fun _ => W_bdP (tS_isWord hI.1 (by omega)) (fun _ _ => W_ite (fun _ => W_bdP (tS_isWord hI.1 (by omega)) (fun _ _ => W_ite (fun _ => fin (tS_failI hI)) (fun _ => fin (tS_takeWill hI)))) (fun _ => fin (tS_takeRefusal hI)))) (fun _ => fin (tS_takeDuty hI)))) (fun _ => fin (tS_takeHeir hI)))) (fun _ => fin (tS_takeProcess hI)))) (fun _ => fin (tS_takeRoot hI)))) (fun _ => fin (tS_takeDeep hI)))) (fun _ => fin (tS_takeOrder hI))))
theorem cr4 (h : CR g G) : G 0 4 = 575 := h.1.1.1.2.2.2.2.1
theorem lx_36 (h : CR g G) : WN (fun _ K => CL g K 0) (jC_loadTree_36 G 0) := by
  rw [jC_loadTree_36, cr4 h, if_pos kd_575, r576 h, if_pos kd_576, bnd_s]
  have c1 := CI_len h.1 (l := 0) (by omega)
  have hx : ∀ x, 624 ≤ x → pU G 576 1 0 x = g x := fun x x0 => by rw [pU_n (by omega)]; exact h.2.1 x x0
  have e0 : pU G 576 1 0 576 1 = 0 := by rw [pU_s, u1_s]
  generalize pU G 576 1 0 = A at *
  have w1 := CR_r c1
  have fin : ∀ B, CR A B → CL g B 0 := fun B hB => ⟨hB.1, fun x x0 => (hB.2.1 x x0).trans (hx x x0), hB.2.2.trans e0⟩
  rw [cr4 w1, if_pos kd_575]
  refine W_ite (fun _ => W_g (kdr1 w1) ?_) (fun _ => WN_i (fin A w1))
  rw [cr0 w1, r578 w1]
  refine W_bdN (tT_take (CR_T w1 T1).1 T1 T578 (CR_T w1 T578) (by omega)) (fun _ B hB => ?_)
  have w2 := CR_IT w1 T1 hB
  rw [cr3 w2, if_pos kd_133, bnd_s, bnd_s]
  have w3 := CR_w (a := 0) (b := 6) (v := 0) (CR_w (a := 133) (b := 1) (v := 0) w2 (by omega)) (by omega)
  generalize pU (pU B 133 1 0) 0 6 0 = C at *
  rw [cr5 w3, if_pos kd_622, bnd_s]
  have w4 := CR_w (a := 622) (b := 1) (v := 0) w3 (by omega)
  exact W_g (kdr1 w4) (WN_i (fin _ w4))
theorem tC_loadTree (h : CInv g) : WN (fun _ K => CL g K 0) (fC_loadTree g 0) := by
  have hf := fu_ge
  have h0 := CR_r h
  rw [fC_loadTree, cr4 h0, if_pos kd_575, fS_begin, if_pos (kd578 h0), r578 h0]
  have hres := tT_reset (CR_T h0 T578).1 T578
  obtain ⟨y, A, eA, hA⟩ := hres
  rw [eA, bdN_s]
  simp only [bnd_s, bdN_s]
  have w := CR_IT h0 T578 hA
  have hI : RI g (pU (pU (pU (pU (pU (pU A 575 2 0) 575 3 (-1)) 575 8 0) 575 9 0) 575 10 0) 575 6 0) := by
    refine ⟨CR_w (CR_w (CR_w (CR_w (CR_w (CR_w w (by omega)) (by omega)) (by omega)) (by omega)) (by omega)) (by omega), ?_⟩
    have := rlen w
    rw [pU_s, u1_s]
    simp (disch := omega) only [pU_n]
    omega
  generalize pU (pU (pU (pU (pU (pU A 575 2 0) 575 3 (-1)) 575 8 0) 575 9 0) 575 10 0) 575 6 0 = B at *
  refine W_loop (W := WN (fun _ K => CL g K 0)) (fun n (a : Int × Int × gH) => lC_loadTree_11 0 n a.1 a.2.1 a.2.2) (fun a => (500 - a.2.1).toNat) (fun a => (0 ≤ a.2.1 ∧ a.2.1 ≤ 500) ∧ RI g a.2.2) ?_ fu (1, 0, B) ⟨by dsimp only; omega, hI⟩ (by dsimp only; omega)
  clear hI
  rintro n ⟨x, i, K⟩ hJ ih
  have i0 : 0 ≤ i := hJ.1.1
  have h : RI g K := hJ.2
  show WN _ (bC_loadTree_11 0 (lC_loadTree_11 0 n) x i K)
  rw [bC_loadTree_11]
  refine W_ite (fun hi => W_ite (fun _ => lx_36 h.1) (fun _ => ?_)) (fun _ => lx_36 h.1)
  rw [cr4 h.1, if_pos kd_575]
  refine W_bdN (tS_takeStatement h) (fun y C hC => ?_)
  rw [w32_r (by omega)]
  exact ih (y, i + 1, C) ⟨by dsimp only; omega, hC⟩ (by dsimp only; omega)
end CLS15
