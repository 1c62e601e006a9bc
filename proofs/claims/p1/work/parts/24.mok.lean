/-! ===== every method of the program is what the class file has (own work, by program: wip/p1/gen4.py) ===== -/
def pr_K (x : ev_Im × ev_M) : Prop := plainName x.1.1.cls = true ∧ ev_cok pr_I pr_P pr_S (ev_wm x.1 x.2.1) x.1.1 x.1.2.1 x.1.2.2.1 x.2.1 x.2.2.2.2.2 ∧ ev_hok x.1.1.cls (ev_wm x.1 x.2.1) x.1.2.2.2 x.2.2.2.2.1 ∧ (x.1.2.2.2 ≠ [] → ∀ pc, (x.2.2.2.2.2 pc).1 ≠ 37) ∧ ∀ pc, (x.2.2.2.2.2 pc).1 ≠ 46
theorem pm_br {n : Nat} {f g : Nat → ev_Im × ev_M} (hf : ∀ i, pr_K (f i)) (hg : ∀ i, pr_K (g i)) : ∀ i, pr_K (pr_br n f g i) := by
  intro i
  unfold pr_br
  cases Nat.ble i n
  · exact hg i
  · exact hf i
theorem pm_hn {own : String} {Ts : List Cond} : ev_hok own Ts [] [] := ⟨fun _ => 0, rfl, fun q hq => absurd hq List.not_mem_nil⟩
theorem pm_d : pr_K pr_d := ⟨by decide +kernel, fun _ => trivial, pm_hn, fun h => absurd rfl h, fun _ => (show (0 : Nat) ≠ 46 by decide)⟩
theorem pm_lf {n : Nat} {x : ev_Im × ev_M} (h : pr_K x) : ∀ i, pr_K (pr_lf n x i) := by
  intro i
  unfold pr_lf
  cases Nat.beq i n
  · exact pm_d
  · exact h
theorem nn_ct {k n : Nat} {f g : Nat → ev_E} (hf : ∀ pc, Nat.beq (f pc).1 k = false) (hg : ∀ pc, Nat.beq (g pc).1 k = false) : ∀ pc, Nat.beq (ev_ct n f g pc).1 k = false := by
  intro pc
  unfold ev_ct
  cases Nat.ble pc n
  · exact hg pc
  · exact hf pc
theorem nn_q {k n : Nat} {x : ev_E} (h0 : Nat.beq 0 k = false) (h : Nat.beq x.1 k = false) : ∀ pc, Nat.beq (pr_q n x pc).1 k = false := by
  intro pc
  unfold pr_q
  cases Nat.beq pc n
  · exact h0
  · exact h
theorem nn_ne {k : Nat} {f : Nat → ev_E} (h : ∀ pc, Nat.beq (f pc).1 k = false) : ∀ pc, (f pc).1 ≠ k := fun pc => Nat.ne_of_beq_eq_false (h pc)
theorem pm_1 {x : ev_Im × ev_M} (h1 : plainName x.1.1.cls = true) (h2 : ev_cok pr_I pr_P pr_S (ev_wm x.1 x.2.1) x.1.1 x.1.2.1 x.1.2.2.1 x.2.1 x.2.2.2.2.2) (h3 : x.1.2.2.2 = [] ∧ x.2.2.2.2.1 = []) (h4 : ∀ pc, Nat.beq (x.2.2.2.2.2 pc).1 46 = false) : pr_K x :=
  ⟨h1, h2, by rw [h3.1, h3.2]; exact pm_hn, fun h => absurd h3.1 h, nn_ne h4⟩
def pr_cn : Nat → Nat := fun n => match n with
  | 13 => 0
  | 19 => 2
  | 27 => 1
  | 42 => 3
  | _ => 0
def pr_hw (n : Nat) : Prop := pr_cn n < 4 ∧ n ≠ 0 ∧ Cond.classLink "OrphanTreeLaw" n (ev_ex (pr_cn n)) ∈ ev_UW
theorem ph_13 : pr_hw 13 := ⟨by decide, by decide, ev_uwat 696 (by decide +kernel) (by decide +kernel)⟩
theorem ph_19 : pr_hw 19 := ⟨by decide, by decide, ev_uwat 782 (by decide +kernel) (by decide +kernel)⟩
theorem ph_27 : pr_hw 27 := ⟨by decide, by decide, ev_uwat 843 (by decide +kernel) (by decide +kernel)⟩
theorem ph_42 : pr_hw 42 := ⟨by decide, by decide, ev_uwat 904 (by decide +kernel) (by decide +kernel)⟩
def ph_L (Ts : List Cond) (l : List (Nat × Nat × Nat × Nat)) : Prop := ∀ q ∈ l, pr_cn q.2.2.2 < 4 ∧ q.2.2.2 ≠ 0 ∧ Cond.classLink "OrphanTreeLaw" q.2.2.2 (ev_ex (pr_cn q.2.2.2)) ∈ Ts
theorem ph_n {Ts : List Cond} : ph_L Ts [] := fun q hq => absurd hq List.not_mem_nil
theorem ph_c {im : ev_Im} {ml : Nat} {l : List (Nat × Nat × Nat × Nat)} {q : Nat × Nat × Nat × Nat} (h : pr_hw q.2.2.2) (t : ph_L (ev_wm im ml) l) : ph_L (ev_wm im ml) (q :: l) := by
  intro z hz
  rcases List.mem_cons.mp hz with rfl | hz
  · exact ⟨h.1, h.2.1, en_up h.2.2⟩
  · exact t z hz
theorem pz_0 : ∀ pc, Nat.beq (pr_c0 pc).1 46 = false := by
  unfold pr_c0
  exact (nn_ct (nn_ct (nn_ct (nn_ct (nn_ct (nn_ct (nn_q rfl rfl) (nn_q rfl rfl)) (nn_q rfl rfl)) (nn_ct (nn_q rfl rfl) (nn_q rfl rfl))) (nn_ct (nn_ct (nn_q rfl rfl) (nn_q rfl rfl)) (nn_ct (nn_q rfl rfl) (nn_q rfl rfl)))) (nn_ct (nn_ct (nn_ct (nn_ct (nn_q rfl rfl) (nn_q rfl rfl)) (nn_q rfl rfl)) (nn_ct (nn_q rfl rfl) (nn_q rfl rfl))) (nn_ct (nn_ct (nn_q rfl rfl) (nn_q rfl rfl)) (nn_ct (nn_q rfl rfl) (nn_q rfl rfl))))) (nn_ct (nn_ct (nn_ct (nn_ct (nn_ct (nn_q rfl rfl) (nn_q rfl rfl)) (nn_q rfl rfl)) (nn_ct (nn_q rfl rfl) (nn_q rfl rfl))) (nn_ct (nn_ct (nn_q rfl rfl) (nn_q rfl rfl)) (nn_ct (nn_q rfl rfl) (nn_q rfl rfl)))) (nn_ct (nn_ct (nn_ct (nn_ct (nn_q rfl rfl) (nn_q rfl rfl)) (nn_q rfl rfl)) (nn_ct (nn_q rfl rfl) (nn_q rfl rfl))) (nn_ct (nn_ct (nn_q rfl rfl) (nn_q rfl rfl)) (nn_ct (nn_q rfl rfl) (nn_q rfl rfl))))))
theorem pj_0 : pr_K (pr_i0, pr_m0) := pm_1 (by decide +kernel) pk_0 ⟨rfl, rfl⟩ pz_0
theorem pz_1 : ∀ pc, Nat.beq (pr_c1 pc).1 46 = false := by
  unfold pr_c1
  exact (nn_ct (nn_ct (nn_ct (nn_ct (nn_ct (nn_q rfl rfl) (nn_q rfl rfl)) (nn_ct (nn_q rfl rfl) (nn_q rfl rfl))) (nn_ct (nn_ct (nn_q rfl rfl) (nn_q rfl rfl)) (nn_q rfl rfl))) (nn_ct (nn_ct (nn_ct (nn_q rfl rfl) (nn_q rfl rfl)) (nn_ct (nn_q rfl rfl) (nn_q rfl rfl))) (nn_ct (nn_ct (nn_q rfl rfl) (nn_q rfl rfl)) (nn_q rfl rfl)))) (nn_ct (nn_ct (nn_ct (nn_ct (nn_q rfl rfl) (nn_q rfl rfl)) (nn_ct (nn_q rfl rfl) (nn_q rfl rfl))) (nn_ct (nn_ct (nn_q rfl rfl) (nn_q rfl rfl)) (nn_q rfl rfl))) (nn_ct (nn_ct (nn_ct (nn_q rfl rfl) (nn_q rfl rfl)) (nn_ct (nn_q rfl rfl) (nn_q rfl rfl))) (nn_ct (nn_ct (nn_q rfl rfl) (nn_q rfl rfl)) (nn_q rfl rfl)))))
theorem pj_1 : pr_K (pr_i1, pr_m1) := pm_1 (by decide +kernel) pk_1 ⟨rfl, rfl⟩ pz_1
theorem pz_2 : ∀ pc, Nat.beq (pr_c2 pc).1 46 = false := by
  unfold pr_c2
  exact (nn_ct (nn_ct (nn_ct (nn_ct (nn_ct (nn_q rfl rfl) (nn_q rfl rfl)) (nn_q rfl rfl)) (nn_ct (nn_q rfl rfl) (nn_q rfl rfl))) (nn_ct (nn_ct (nn_q rfl rfl) (nn_q rfl rfl)) (nn_ct (nn_q rfl rfl) (nn_q rfl rfl)))) (nn_ct (nn_ct (nn_ct (nn_q rfl rfl) (nn_q rfl rfl)) (nn_ct (nn_q rfl rfl) (nn_q rfl rfl))) (nn_ct (nn_ct (nn_q rfl rfl) (nn_q rfl rfl)) (nn_ct (nn_q rfl rfl) (nn_q rfl rfl)))))
theorem pj_2 : pr_K (pr_i2, pr_m2) := pm_1 (by decide +kernel) pk_2 ⟨rfl, rfl⟩ pz_2
theorem pz_3 : ∀ pc, Nat.beq (pr_c3 pc).1 46 = false := by
  unfold pr_c3
  exact (nn_ct (nn_ct (nn_ct (nn_ct (nn_ct (nn_ct (nn_q rfl rfl) (nn_q rfl rfl)) (nn_q rfl rfl)) (nn_ct (nn_ct (nn_q rfl rfl) (nn_q rfl rfl)) (nn_q rfl rfl))) (nn_ct (nn_ct (nn_ct (nn_q rfl rfl) (nn_q rfl rfl)) (nn_q rfl rfl)) (nn_ct (nn_ct (nn_q rfl rfl) (nn_q rfl rfl)) (nn_q rfl rfl)))) (nn_ct (nn_ct (nn_ct (nn_ct (nn_q rfl rfl) (nn_q rfl rfl)) (nn_q rfl rfl)) (nn_ct (nn_ct (nn_q rfl rfl) (nn_q rfl rfl)) (nn_q rfl rfl))) (nn_ct (nn_ct (nn_ct (nn_q rfl rfl) (nn_q rfl rfl)) (nn_q rfl rfl)) (nn_ct (nn_ct (nn_q rfl rfl) (nn_q rfl rfl)) (nn_q rfl rfl))))) (nn_ct (nn_ct (nn_ct (nn_ct (nn_ct (nn_q rfl rfl) (nn_q rfl rfl)) (nn_q rfl rfl)) (nn_ct (nn_ct (nn_q rfl rfl) (nn_q rfl rfl)) (nn_q rfl rfl))) (nn_ct (nn_ct (nn_ct (nn_q rfl rfl) (nn_q rfl rfl)) (nn_q rfl rfl)) (nn_ct (nn_ct (nn_q rfl rfl) (nn_q rfl rfl)) (nn_q rfl rfl)))) (nn_ct (nn_ct (nn_ct (nn_ct (nn_q rfl rfl) (nn_q rfl rfl)) (nn_q rfl rfl)) (nn_ct (nn_ct (nn_q rfl rfl) (nn_q rfl rfl)) (nn_q rfl rfl))) (nn_ct (nn_ct (nn_ct (nn_q rfl rfl) (nn_q rfl rfl)) (nn_q rfl rfl)) (nn_ct (nn_ct (nn_q rfl rfl) (nn_q rfl rfl)) (nn_q rfl rfl))))))
theorem pj_3 : pr_K (pr_i3, pr_m3) := pm_1 (by decide +kernel) pk_3 ⟨rfl, rfl⟩ pz_3
theorem pz_4 : ∀ pc, Nat.beq (pr_c4 pc).1 46 = false := by
  unfold pr_c4
  exact (nn_ct (nn_ct (nn_q rfl rfl) (nn_q rfl rfl)) (nn_ct (nn_q rfl rfl) (nn_q rfl rfl)))
theorem pj_4 : pr_K (pr_i4, pr_m4) := pm_1 (by decide +kernel) pk_4 ⟨rfl, rfl⟩ pz_4
theorem pz_5 : ∀ pc, Nat.beq (pr_c5 pc).1 46 = false := by
  unfold pr_c5
  exact (nn_ct (nn_ct (nn_q rfl rfl) (nn_q rfl rfl)) (nn_ct (nn_q rfl rfl) (nn_q rfl rfl)))
theorem pj_5 : pr_K (pr_i5, pr_m5) := pm_1 (by decide +kernel) pk_5 ⟨rfl, rfl⟩ pz_5
theorem pz_6 : ∀ pc, Nat.beq (pr_c6 pc).1 46 = false := by
  unfold pr_c6
  exact (nn_ct (nn_ct (nn_ct (nn_ct (nn_ct (nn_ct (nn_q rfl rfl) (nn_q rfl rfl)) (nn_ct (nn_q rfl rfl) (nn_q rfl rfl))) (nn_ct (nn_ct (nn_q rfl rfl) (nn_q rfl rfl)) (nn_q rfl rfl))) (nn_ct (nn_ct (nn_ct (nn_q rfl rfl) (nn_q rfl rfl)) (nn_ct (nn_q rfl rfl) (nn_q rfl rfl))) (nn_ct (nn_ct (nn_q rfl rfl) (nn_q rfl rfl)) (nn_q rfl rfl)))) (nn_ct (nn_ct (nn_ct (nn_ct (nn_q rfl rfl) (nn_q rfl rfl)) (nn_ct (nn_q rfl rfl) (nn_q rfl rfl))) (nn_ct (nn_ct (nn_q rfl rfl) (nn_q rfl rfl)) (nn_q rfl rfl))) (nn_ct (nn_ct (nn_ct (nn_q rfl rfl) (nn_q rfl rfl)) (nn_q rfl rfl)) (nn_ct (nn_ct (nn_q rfl rfl) (nn_q rfl rfl)) (nn_q rfl rfl))))) (nn_ct (nn_ct (nn_ct (nn_ct (nn_ct (nn_q rfl rfl) (nn_q rfl rfl)) (nn_ct (nn_q rfl rfl) (nn_q rfl rfl))) (nn_ct (nn_ct (nn_q rfl rfl) (nn_q rfl rfl)) (nn_q rfl rfl))) (nn_ct (nn_ct (nn_ct (nn_q rfl rfl) (nn_q rfl rfl)) (nn_ct (nn_q rfl rfl) (nn_q rfl rfl))) (nn_ct (nn_ct (nn_q rfl rfl) (nn_q rfl rfl)) (nn_q rfl rfl)))) (nn_ct (nn_ct (nn_ct (nn_ct (nn_q rfl rfl) (nn_q rfl rfl)) (nn_ct (nn_q rfl rfl) (nn_q rfl rfl))) (nn_ct (nn_ct (nn_q rfl rfl) (nn_q rfl rfl)) (nn_q rfl rfl))) (nn_ct (nn_ct (nn_ct (nn_q rfl rfl) (nn_q rfl rfl)) (nn_q rfl rfl)) (nn_ct (nn_ct (nn_q rfl rfl) (nn_q rfl rfl)) (nn_q rfl rfl))))))
theorem pj_6 : pr_K (pr_i6, pr_m6) := pm_1 (by decide +kernel) pk_6 ⟨rfl, rfl⟩ pz_6
theorem pz_7 : ∀ pc, Nat.beq (pr_c7 pc).1 46 = false := by
  unfold pr_c7
  exact (nn_ct (nn_ct (nn_ct (nn_ct (nn_ct (nn_ct (nn_q rfl rfl) (nn_q rfl rfl)) (nn_ct (nn_q rfl rfl) (nn_q rfl rfl))) (nn_ct (nn_ct (nn_q rfl rfl) (nn_q rfl rfl)) (nn_ct (nn_q rfl rfl) (nn_q rfl rfl)))) (nn_ct (nn_ct (nn_ct (nn_q rfl rfl) (nn_q rfl rfl)) (nn_ct (nn_q rfl rfl) (nn_q rfl rfl))) (nn_ct (nn_ct (nn_q rfl rfl) (nn_q rfl rfl)) (nn_q rfl rfl)))) (nn_ct (nn_ct (nn_ct (nn_ct (nn_q rfl rfl) (nn_q rfl rfl)) (nn_ct (nn_q rfl rfl) (nn_q rfl rfl))) (nn_ct (nn_ct (nn_q rfl rfl) (nn_q rfl rfl)) (nn_q rfl rfl))) (nn_ct (nn_ct (nn_ct (nn_q rfl rfl) (nn_q rfl rfl)) (nn_ct (nn_q rfl rfl) (nn_q rfl rfl))) (nn_ct (nn_ct (nn_q rfl rfl) (nn_q rfl rfl)) (nn_q rfl rfl))))) (nn_ct (nn_ct (nn_ct (nn_ct (nn_ct (nn_q rfl rfl) (nn_q rfl rfl)) (nn_ct (nn_q rfl rfl) (nn_q rfl rfl))) (nn_ct (nn_ct (nn_q rfl rfl) (nn_q rfl rfl)) (nn_q rfl rfl))) (nn_ct (nn_ct (nn_ct (nn_q rfl rfl) (nn_q rfl rfl)) (nn_ct (nn_q rfl rfl) (nn_q rfl rfl))) (nn_ct (nn_ct (nn_q rfl rfl) (nn_q rfl rfl)) (nn_q rfl rfl)))) (nn_ct (nn_ct (nn_ct (nn_ct (nn_q rfl rfl) (nn_q rfl rfl)) (nn_ct (nn_q rfl rfl) (nn_q rfl rfl))) (nn_ct (nn_ct (nn_q rfl rfl) (nn_q rfl rfl)) (nn_q rfl rfl))) (nn_ct (nn_ct (nn_ct (nn_q rfl rfl) (nn_q rfl rfl)) (nn_ct (nn_q rfl rfl) (nn_q rfl rfl))) (nn_ct (nn_ct (nn_q rfl rfl) (nn_q rfl rfl)) (nn_q rfl rfl))))))
theorem pj_7 : pr_K (pr_i7, pr_m7) := pm_1 (by decide +kernel) pk_7 ⟨rfl, rfl⟩ pz_7
theorem pz_8 : ∀ pc, Nat.beq (pr_c8 pc).1 46 = false := by
  unfold pr_c8
  exact (nn_ct (nn_ct (nn_ct (nn_ct (nn_q rfl rfl) (nn_q rfl rfl)) (nn_q rfl rfl)) (nn_ct (nn_q rfl rfl) (nn_q rfl rfl))) (nn_ct (nn_ct (nn_q rfl rfl) (nn_q rfl rfl)) (nn_ct (nn_q rfl rfl) (nn_q rfl rfl))))
theorem pj_8 : pr_K (pr_i8, pr_m8) := pm_1 (by decide +kernel) pk_8 ⟨rfl, rfl⟩ pz_8
theorem pz_9 : ∀ pc, Nat.beq (pr_c9 pc).1 46 = false := by
  unfold pr_c9
  exact (nn_ct (nn_ct (nn_ct (nn_ct (nn_q rfl rfl) (nn_q rfl rfl)) (nn_ct (nn_q rfl rfl) (nn_q rfl rfl))) (nn_ct (nn_ct (nn_q rfl rfl) (nn_q rfl rfl)) (nn_q rfl rfl))) (nn_ct (nn_ct (nn_ct (nn_q rfl rfl) (nn_q rfl rfl)) (nn_q rfl rfl)) (nn_ct (nn_ct (nn_q rfl rfl) (nn_q rfl rfl)) (nn_q rfl rfl))))
theorem pj_9 : pr_K (pr_i9, pr_m9) := pm_1 (by decide +kernel) pk_9 ⟨rfl, rfl⟩ pz_9
theorem pz_10 : ∀ pc, Nat.beq (pr_c10 pc).1 46 = false := by
  unfold pr_c10
  exact (nn_ct (nn_ct (nn_ct (nn_ct (nn_q rfl rfl) (nn_q rfl rfl)) (nn_ct (nn_q rfl rfl) (nn_q rfl rfl))) (nn_ct (nn_ct (nn_q rfl rfl) (nn_q rfl rfl)) (nn_q rfl rfl))) (nn_ct (nn_ct (nn_ct (nn_q rfl rfl) (nn_q rfl rfl)) (nn_ct (nn_q rfl rfl) (nn_q rfl rfl))) (nn_ct (nn_ct (nn_q rfl rfl) (nn_q rfl rfl)) (nn_q rfl rfl))))
theorem pj_10 : pr_K (pr_i10, pr_m10) := pm_1 (by decide +kernel) pk_10 ⟨rfl, rfl⟩ pz_10
theorem pz_11 : ∀ pc, Nat.beq (pr_c11 pc).1 46 = false := by
  unfold pr_c11
  exact (nn_ct (nn_ct (nn_ct (nn_ct (nn_ct (nn_q rfl rfl) (nn_q rfl rfl)) (nn_q rfl rfl)) (nn_ct (nn_ct (nn_q rfl rfl) (nn_q rfl rfl)) (nn_q rfl rfl))) (nn_ct (nn_ct (nn_ct (nn_q rfl rfl) (nn_q rfl rfl)) (nn_q rfl rfl)) (nn_ct (nn_q rfl rfl) (nn_q rfl rfl)))) (nn_ct (nn_ct (nn_ct (nn_ct (nn_q rfl rfl) (nn_q rfl rfl)) (nn_q rfl rfl)) (nn_ct (nn_ct (nn_q rfl rfl) (nn_q rfl rfl)) (nn_q rfl rfl))) (nn_ct (nn_ct (nn_ct (nn_q rfl rfl) (nn_q rfl rfl)) (nn_q rfl rfl)) (nn_ct (nn_q rfl rfl) (nn_q rfl rfl)))))
theorem pj_11 : pr_K (pr_i11, pr_m11) := pm_1 (by decide +kernel) pk_11 ⟨rfl, rfl⟩ pz_11
theorem pz_12 : ∀ pc, Nat.beq (pr_c12 pc).1 46 = false := by
  unfold pr_c12
  exact (nn_ct (nn_ct (nn_ct (nn_ct (nn_ct (nn_q rfl rfl) (nn_q rfl rfl)) (nn_ct (nn_q rfl rfl) (nn_q rfl rfl))) (nn_ct (nn_ct (nn_q rfl rfl) (nn_q rfl rfl)) (nn_q rfl rfl))) (nn_ct (nn_ct (nn_ct (nn_q rfl rfl) (nn_q rfl rfl)) (nn_q rfl rfl)) (nn_ct (nn_ct (nn_q rfl rfl) (nn_q rfl rfl)) (nn_q rfl rfl)))) (nn_ct (nn_ct (nn_ct (nn_ct (nn_q rfl rfl) (nn_q rfl rfl)) (nn_ct (nn_q rfl rfl) (nn_q rfl rfl))) (nn_ct (nn_ct (nn_q rfl rfl) (nn_q rfl rfl)) (nn_q rfl rfl))) (nn_ct (nn_ct (nn_ct (nn_q rfl rfl) (nn_q rfl rfl)) (nn_q rfl rfl)) (nn_ct (nn_ct (nn_q rfl rfl) (nn_q rfl rfl)) (nn_q rfl rfl)))))
theorem pj_12 : pr_K (pr_i12, pr_m12) := pm_1 (by decide +kernel) pk_12 ⟨rfl, rfl⟩ pz_12
theorem pz_13 : ∀ pc, Nat.beq (pr_c13 pc).1 46 = false := by
  unfold pr_c13
  exact (nn_ct (nn_ct (nn_ct (nn_q rfl rfl) (nn_q rfl rfl)) (nn_ct (nn_q rfl rfl) (nn_q rfl rfl))) (nn_ct (nn_ct (nn_q rfl rfl) (nn_q rfl rfl)) (nn_ct (nn_q rfl rfl) (nn_q rfl rfl))))
theorem pj_13 : pr_K (pr_i13, pr_m13) := pm_1 (by decide +kernel) pk_13 ⟨rfl, rfl⟩ pz_13
theorem pz_14 : ∀ pc, Nat.beq (pr_c14 pc).1 46 = false := by
  unfold pr_c14
  exact (nn_ct (nn_ct (nn_ct (nn_ct (nn_ct (nn_q rfl rfl) (nn_q rfl rfl)) (nn_ct (nn_q rfl rfl) (nn_q rfl rfl))) (nn_ct (nn_ct (nn_q rfl rfl) (nn_q rfl rfl)) (nn_ct (nn_q rfl rfl) (nn_q rfl rfl)))) (nn_ct (nn_ct (nn_ct (nn_q rfl rfl) (nn_q rfl rfl)) (nn_ct (nn_q rfl rfl) (nn_q rfl rfl))) (nn_ct (nn_ct (nn_q rfl rfl) (nn_q rfl rfl)) (nn_ct (nn_q rfl rfl) (nn_q rfl rfl))))) (nn_ct (nn_ct (nn_ct (nn_ct (nn_q rfl rfl) (nn_q rfl rfl)) (nn_ct (nn_q rfl rfl) (nn_q rfl rfl))) (nn_ct (nn_ct (nn_q rfl rfl) (nn_q rfl rfl)) (nn_ct (nn_q rfl rfl) (nn_q rfl rfl)))) (nn_ct (nn_ct (nn_ct (nn_q rfl rfl) (nn_q rfl rfl)) (nn_ct (nn_q rfl rfl) (nn_q rfl rfl))) (nn_ct (nn_ct (nn_q rfl rfl) (nn_q rfl rfl)) (nn_q rfl rfl)))))
theorem pj_14 : pr_K (pr_i14, pr_m14) := pm_1 (by decide +kernel) pk_14 ⟨rfl, rfl⟩ pz_14
theorem pz_15 : ∀ pc, Nat.beq (pr_c15 pc).1 46 = false := by
  unfold pr_c15
  exact (nn_ct (nn_ct (nn_ct (nn_ct (nn_ct (nn_q rfl rfl) (nn_q rfl rfl)) (nn_ct (nn_q rfl rfl) (nn_q rfl rfl))) (nn_ct (nn_ct (nn_q rfl rfl) (nn_q rfl rfl)) (nn_ct (nn_q rfl rfl) (nn_q rfl rfl)))) (nn_ct (nn_ct (nn_ct (nn_q rfl rfl) (nn_q rfl rfl)) (nn_ct (nn_q rfl rfl) (nn_q rfl rfl))) (nn_ct (nn_ct (nn_q rfl rfl) (nn_q rfl rfl)) (nn_q rfl rfl)))) (nn_ct (nn_ct (nn_ct (nn_ct (nn_q rfl rfl) (nn_q rfl rfl)) (nn_ct (nn_q rfl rfl) (nn_q rfl rfl))) (nn_ct (nn_ct (nn_q rfl rfl) (nn_q rfl rfl)) (nn_ct (nn_q rfl rfl) (nn_q rfl rfl)))) (nn_ct (nn_ct (nn_ct (nn_q rfl rfl) (nn_q rfl rfl)) (nn_ct (nn_q rfl rfl) (nn_q rfl rfl))) (nn_ct (nn_ct (nn_q rfl rfl) (nn_q rfl rfl)) (nn_q rfl rfl)))))
theorem pj_15 : pr_K (pr_i15, pr_m15) := pm_1 (by decide +kernel) pk_15 ⟨rfl, rfl⟩ pz_15
theorem pz_16 : ∀ pc, Nat.beq (pr_c16 pc).1 46 = false := by
  unfold pr_c16
  exact (nn_ct (nn_ct (nn_q rfl rfl) (nn_q rfl rfl)) (nn_ct (nn_q rfl rfl) (nn_q rfl rfl)))
theorem pj_16 : pr_K (pr_i16, pr_m16) := pm_1 (by decide +kernel) pk_16 ⟨rfl, rfl⟩ pz_16
theorem pz_17 : ∀ pc, Nat.beq (pr_c17 pc).1 46 = false := by
  unfold pr_c17
  exact (nn_ct (nn_ct (nn_ct (nn_ct (nn_ct (nn_ct (nn_q rfl rfl) (nn_q rfl rfl)) (nn_q rfl rfl)) (nn_ct (nn_q rfl rfl) (nn_q rfl rfl))) (nn_ct (nn_ct (nn_ct (nn_q rfl rfl) (nn_q rfl rfl)) (nn_q rfl rfl)) (nn_ct (nn_q rfl rfl) (nn_q rfl rfl)))) (nn_ct (nn_ct (nn_ct (nn_ct (nn_q rfl rfl) (nn_q rfl rfl)) (nn_q rfl rfl)) (nn_ct (nn_q rfl rfl) (nn_q rfl rfl))) (nn_ct (nn_ct (nn_q rfl rfl) (nn_q rfl rfl)) (nn_ct (nn_q rfl rfl) (nn_q rfl rfl))))) (nn_ct (nn_ct (nn_ct (nn_ct (nn_ct (nn_q rfl rfl) (nn_q rfl rfl)) (nn_q rfl rfl)) (nn_ct (nn_q rfl rfl) (nn_q rfl rfl))) (nn_ct (nn_ct (nn_ct (nn_q rfl rfl) (nn_q rfl rfl)) (nn_q rfl rfl)) (nn_ct (nn_q rfl rfl) (nn_q rfl rfl)))) (nn_ct (nn_ct (nn_ct (nn_ct (nn_q rfl rfl) (nn_q rfl rfl)) (nn_q rfl rfl)) (nn_ct (nn_q rfl rfl) (nn_q rfl rfl))) (nn_ct (nn_ct (nn_q rfl rfl) (nn_q rfl rfl)) (nn_ct (nn_q rfl rfl) (nn_q rfl rfl))))))
theorem pj_17 : pr_K (pr_i17, pr_m17) := pm_1 (by decide +kernel) pk_17 ⟨rfl, rfl⟩ pz_17
theorem pz_18 : ∀ pc, Nat.beq (pr_c18 pc).1 46 = false := by
  unfold pr_c18
  exact (nn_ct (nn_ct (nn_q rfl rfl) (nn_q rfl rfl)) (nn_ct (nn_q rfl rfl) (nn_q rfl rfl)))
theorem pj_18 : pr_K (pr_i18, pr_m18) := pm_1 (by decide +kernel) pk_18 ⟨rfl, rfl⟩ pz_18
theorem pz_19 : ∀ pc, Nat.beq (pr_c19 pc).1 46 = false := by
  unfold pr_c19
  exact (nn_ct (nn_ct (nn_ct (nn_ct (nn_q rfl rfl) (nn_q rfl rfl)) (nn_ct (nn_q rfl rfl) (nn_q rfl rfl))) (nn_ct (nn_ct (nn_q rfl rfl) (nn_q rfl rfl)) (nn_q rfl rfl))) (nn_ct (nn_ct (nn_ct (nn_q rfl rfl) (nn_q rfl rfl)) (nn_ct (nn_q rfl rfl) (nn_q rfl rfl))) (nn_ct (nn_ct (nn_q rfl rfl) (nn_q rfl rfl)) (nn_q rfl rfl))))
theorem pj_19 : pr_K (pr_i19, pr_m19) := pm_1 (by decide +kernel) pk_19 ⟨rfl, rfl⟩ pz_19
theorem pz_20 : ∀ pc, Nat.beq (pr_c20 pc).1 46 = false := by
  unfold pr_c20
  exact (nn_ct (nn_ct (nn_ct (nn_ct (nn_q rfl rfl) (nn_q rfl rfl)) (nn_ct (nn_q rfl rfl) (nn_q rfl rfl))) (nn_ct (nn_ct (nn_q rfl rfl) (nn_q rfl rfl)) (nn_ct (nn_q rfl rfl) (nn_q rfl rfl)))) (nn_ct (nn_ct (nn_ct (nn_q rfl rfl) (nn_q rfl rfl)) (nn_ct (nn_q rfl rfl) (nn_q rfl rfl))) (nn_ct (nn_ct (nn_q rfl rfl) (nn_q rfl rfl)) (nn_ct (nn_q rfl rfl) (nn_q rfl rfl)))))
theorem pj_20 : pr_K (pr_i20, pr_m20) := pm_1 (by decide +kernel) pk_20 ⟨rfl, rfl⟩ pz_20
theorem pz_21 : ∀ pc, Nat.beq (pr_c21 pc).1 46 = false := by
  unfold pr_c21
  exact (nn_ct (nn_ct (nn_ct (nn_ct (nn_q rfl rfl) (nn_q rfl rfl)) (nn_q rfl rfl)) (nn_ct (nn_q rfl rfl) (nn_q rfl rfl))) (nn_ct (nn_ct (nn_ct (nn_q rfl rfl) (nn_q rfl rfl)) (nn_q rfl rfl)) (nn_ct (nn_q rfl rfl) (nn_q rfl rfl))))
theorem pj_21 : pr_K (pr_i21, pr_m21) := pm_1 (by decide +kernel) pk_21 ⟨rfl, rfl⟩ pz_21
theorem pz_22 : ∀ pc, Nat.beq (pr_c22 pc).1 46 = false := by
  unfold pr_c22
  exact (nn_ct (nn_ct (nn_ct (nn_ct (nn_ct (nn_q rfl rfl) (nn_q rfl rfl)) (nn_ct (nn_q rfl rfl) (nn_q rfl rfl))) (nn_ct (nn_ct (nn_q rfl rfl) (nn_q rfl rfl)) (nn_ct (nn_q rfl rfl) (nn_q rfl rfl)))) (nn_ct (nn_ct (nn_ct (nn_q rfl rfl) (nn_q rfl rfl)) (nn_ct (nn_q rfl rfl) (nn_q rfl rfl))) (nn_ct (nn_ct (nn_q rfl rfl) (nn_q rfl rfl)) (nn_ct (nn_q rfl rfl) (nn_q rfl rfl))))) (nn_ct (nn_ct (nn_ct (nn_ct (nn_q rfl rfl) (nn_q rfl rfl)) (nn_ct (nn_q rfl rfl) (nn_q rfl rfl))) (nn_ct (nn_ct (nn_q rfl rfl) (nn_q rfl rfl)) (nn_ct (nn_q rfl rfl) (nn_q rfl rfl)))) (nn_ct (nn_ct (nn_ct (nn_q rfl rfl) (nn_q rfl rfl)) (nn_ct (nn_q rfl rfl) (nn_q rfl rfl))) (nn_ct (nn_ct (nn_q rfl rfl) (nn_q rfl rfl)) (nn_q rfl rfl)))))
theorem pj_22 : pr_K (pr_i22, pr_m22) := pm_1 (by decide +kernel) pk_22 ⟨rfl, rfl⟩ pz_22
theorem pz_23 : ∀ pc, Nat.beq (pr_c23 pc).1 46 = false := by
  unfold pr_c23
  exact (nn_ct (nn_ct (nn_ct (nn_ct (nn_q rfl rfl) (nn_q rfl rfl)) (nn_ct (nn_q rfl rfl) (nn_q rfl rfl))) (nn_ct (nn_ct (nn_q rfl rfl) (nn_q rfl rfl)) (nn_q rfl rfl))) (nn_ct (nn_ct (nn_ct (nn_q rfl rfl) (nn_q rfl rfl)) (nn_q rfl rfl)) (nn_ct (nn_ct (nn_q rfl rfl) (nn_q rfl rfl)) (nn_q rfl rfl))))
theorem pj_23 : pr_K (pr_i23, pr_m23) := pm_1 (by decide +kernel) pk_23 ⟨rfl, rfl⟩ pz_23
theorem pz_24 : ∀ pc, Nat.beq (pr_c24 pc).1 46 = false := by
  unfold pr_c24
  exact (nn_ct (nn_ct (nn_ct (nn_ct (nn_ct (nn_q rfl rfl) (nn_q rfl rfl)) (nn_q rfl rfl)) (nn_ct (nn_ct (nn_q rfl rfl) (nn_q rfl rfl)) (nn_q rfl rfl))) (nn_ct (nn_ct (nn_ct (nn_q rfl rfl) (nn_q rfl rfl)) (nn_q rfl rfl)) (nn_ct (nn_ct (nn_q rfl rfl) (nn_q rfl rfl)) (nn_q rfl rfl)))) (nn_ct (nn_ct (nn_ct (nn_ct (nn_q rfl rfl) (nn_q rfl rfl)) (nn_q rfl rfl)) (nn_ct (nn_ct (nn_q rfl rfl) (nn_q rfl rfl)) (nn_q rfl rfl))) (nn_ct (nn_ct (nn_ct (nn_q rfl rfl) (nn_q rfl rfl)) (nn_q rfl rfl)) (nn_ct (nn_q rfl rfl) (nn_q rfl rfl)))))
theorem pj_24 : pr_K (pr_i24, pr_m24) := pm_1 (by decide +kernel) pk_24 ⟨rfl, rfl⟩ pz_24
theorem pz_25 : ∀ pc, Nat.beq (pr_c25 pc).1 46 = false := by
  unfold pr_c25
  exact (nn_ct (nn_ct (nn_ct (nn_ct (nn_ct (nn_q rfl rfl) (nn_q rfl rfl)) (nn_q rfl rfl)) (nn_ct (nn_ct (nn_q rfl rfl) (nn_q rfl rfl)) (nn_q rfl rfl))) (nn_ct (nn_ct (nn_ct (nn_q rfl rfl) (nn_q rfl rfl)) (nn_q rfl rfl)) (nn_ct (nn_ct (nn_q rfl rfl) (nn_q rfl rfl)) (nn_q rfl rfl)))) (nn_ct (nn_ct (nn_ct (nn_ct (nn_q rfl rfl) (nn_q rfl rfl)) (nn_q rfl rfl)) (nn_ct (nn_ct (nn_q rfl rfl) (nn_q rfl rfl)) (nn_q rfl rfl))) (nn_ct (nn_ct (nn_ct (nn_q rfl rfl) (nn_q rfl rfl)) (nn_q rfl rfl)) (nn_ct (nn_q rfl rfl) (nn_q rfl rfl)))))
theorem pj_25 : pr_K (pr_i25, pr_m25) := pm_1 (by decide +kernel) pk_25 ⟨rfl, rfl⟩ pz_25
theorem pz_26 : ∀ pc, Nat.beq (pr_c26 pc).1 46 = false := by
  unfold pr_c26
  exact (nn_ct (nn_ct (nn_ct (nn_ct (nn_q rfl rfl) (nn_q rfl rfl)) (nn_ct (nn_q rfl rfl) (nn_q rfl rfl))) (nn_ct (nn_ct (nn_q rfl rfl) (nn_q rfl rfl)) (nn_ct (nn_q rfl rfl) (nn_q rfl rfl)))) (nn_ct (nn_ct (nn_ct (nn_q rfl rfl) (nn_q rfl rfl)) (nn_ct (nn_q rfl rfl) (nn_q rfl rfl))) (nn_ct (nn_ct (nn_q rfl rfl) (nn_q rfl rfl)) (nn_ct (nn_q rfl rfl) (nn_q rfl rfl)))))
theorem pj_26 : pr_K (pr_i26, pr_m26) := pm_1 (by decide +kernel) pk_26 ⟨rfl, rfl⟩ pz_26
theorem pz_27 : ∀ pc, Nat.beq (pr_c27 pc).1 46 = false := by
  unfold pr_c27
  exact (nn_ct (nn_ct (nn_ct (nn_ct (nn_ct (nn_q rfl rfl) (nn_q rfl rfl)) (nn_ct (nn_q rfl rfl) (nn_q rfl rfl))) (nn_ct (nn_ct (nn_q rfl rfl) (nn_q rfl rfl)) (nn_q rfl rfl))) (nn_ct (nn_ct (nn_ct (nn_q rfl rfl) (nn_q rfl rfl)) (nn_ct (nn_q rfl rfl) (nn_q rfl rfl))) (nn_ct (nn_ct (nn_q rfl rfl) (nn_q rfl rfl)) (nn_q rfl rfl)))) (nn_ct (nn_ct (nn_ct (nn_ct (nn_q rfl rfl) (nn_q rfl rfl)) (nn_ct (nn_q rfl rfl) (nn_q rfl rfl))) (nn_ct (nn_ct (nn_q rfl rfl) (nn_q rfl rfl)) (nn_q rfl rfl))) (nn_ct (nn_ct (nn_ct (nn_q rfl rfl) (nn_q rfl rfl)) (nn_ct (nn_q rfl rfl) (nn_q rfl rfl))) (nn_ct (nn_ct (nn_q rfl rfl) (nn_q rfl rfl)) (nn_q rfl rfl)))))
theorem pj_27 : pr_K (pr_i27, pr_m27) := pm_1 (by decide +kernel) pk_27 ⟨rfl, rfl⟩ pz_27
theorem pz_28 : ∀ pc, Nat.beq (pr_c28 pc).1 46 = false := by
  unfold pr_c28
  exact (nn_ct (nn_ct (nn_ct (nn_q rfl rfl) (nn_q rfl rfl)) (nn_ct (nn_q rfl rfl) (nn_q rfl rfl))) (nn_ct (nn_ct (nn_q rfl rfl) (nn_q rfl rfl)) (nn_q rfl rfl)))
theorem pj_28 : pr_K (pr_i28, pr_m28) := pm_1 (by decide +kernel) pk_28 ⟨rfl, rfl⟩ pz_28
theorem pz_29 : ∀ pc, Nat.beq (pr_c29 pc).1 46 = false := by
  unfold pr_c29
  exact (nn_ct (nn_ct (nn_ct (nn_q rfl rfl) (nn_q rfl rfl)) (nn_ct (nn_q rfl rfl) (nn_q rfl rfl))) (nn_ct (nn_ct (nn_q rfl rfl) (nn_q rfl rfl)) (nn_q rfl rfl)))
theorem pj_29 : pr_K (pr_i29, pr_m29) := pm_1 (by decide +kernel) pk_29 ⟨rfl, rfl⟩ pz_29
theorem pz_30 : ∀ pc, Nat.beq (pr_c30 pc).1 46 = false := by
  unfold pr_c30
  exact (nn_ct (nn_ct (nn_q rfl rfl) (nn_q rfl rfl)) (nn_ct (nn_q rfl rfl) (nn_q rfl rfl)))
theorem pj_30 : pr_K (pr_i30, pr_m30) := pm_1 (by decide +kernel) pk_30 ⟨rfl, rfl⟩ pz_30
theorem pz_31 : ∀ pc, Nat.beq (pr_c31 pc).1 46 = false := by
  unfold pr_c31
  exact (nn_ct (nn_ct (nn_q rfl rfl) (nn_q rfl rfl)) (nn_ct (nn_q rfl rfl) (nn_q rfl rfl)))
theorem pj_31 : pr_K (pr_i31, pr_m31) := pm_1 (by decide +kernel) pk_31 ⟨rfl, rfl⟩ pz_31
theorem pz_32 : ∀ pc, Nat.beq (pr_c32 pc).1 46 = false := by
  unfold pr_c32
  exact (nn_ct (nn_ct (nn_ct (nn_q rfl rfl) (nn_q rfl rfl)) (nn_ct (nn_q rfl rfl) (nn_q rfl rfl))) (nn_ct (nn_ct (nn_q rfl rfl) (nn_q rfl rfl)) (nn_ct (nn_q rfl rfl) (nn_q rfl rfl))))
theorem pj_32 : pr_K (pr_i32, pr_m32) := pm_1 (by decide +kernel) pk_32 ⟨rfl, rfl⟩ pz_32
theorem pz_33 : ∀ pc, Nat.beq (pr_c33 pc).1 46 = false := by
  unfold pr_c33
  exact (nn_ct (nn_ct (nn_ct (nn_ct (nn_ct (nn_q rfl rfl) (nn_q rfl rfl)) (nn_q rfl rfl)) (nn_ct (nn_ct (nn_q rfl rfl) (nn_q rfl rfl)) (nn_q rfl rfl))) (nn_ct (nn_ct (nn_ct (nn_q rfl rfl) (nn_q rfl rfl)) (nn_q rfl rfl)) (nn_ct (nn_q rfl rfl) (nn_q rfl rfl)))) (nn_ct (nn_ct (nn_ct (nn_ct (nn_q rfl rfl) (nn_q rfl rfl)) (nn_q rfl rfl)) (nn_ct (nn_ct (nn_q rfl rfl) (nn_q rfl rfl)) (nn_q rfl rfl))) (nn_ct (nn_ct (nn_ct (nn_q rfl rfl) (nn_q rfl rfl)) (nn_q rfl rfl)) (nn_ct (nn_q rfl rfl) (nn_q rfl rfl)))))
theorem pj_33 : pr_K (pr_i33, pr_m33) := pm_1 (by decide +kernel) pk_33 ⟨rfl, rfl⟩ pz_33
theorem pz_34 : ∀ pc, Nat.beq (pr_c34 pc).1 46 = false := by
  unfold pr_c34
  exact (nn_ct (nn_ct (nn_ct (nn_ct (nn_ct (nn_ct (nn_q rfl rfl) (nn_q rfl rfl)) (nn_q rfl rfl)) (nn_ct (nn_q rfl rfl) (nn_q rfl rfl))) (nn_ct (nn_ct (nn_q rfl rfl) (nn_q rfl rfl)) (nn_ct (nn_q rfl rfl) (nn_q rfl rfl)))) (nn_ct (nn_ct (nn_ct (nn_ct (nn_q rfl rfl) (nn_q rfl rfl)) (nn_q rfl rfl)) (nn_ct (nn_q rfl rfl) (nn_q rfl rfl))) (nn_ct (nn_ct (nn_q rfl rfl) (nn_q rfl rfl)) (nn_ct (nn_q rfl rfl) (nn_q rfl rfl))))) (nn_ct (nn_ct (nn_ct (nn_ct (nn_ct (nn_q rfl rfl) (nn_q rfl rfl)) (nn_q rfl rfl)) (nn_ct (nn_q rfl rfl) (nn_q rfl rfl))) (nn_ct (nn_ct (nn_q rfl rfl) (nn_q rfl rfl)) (nn_ct (nn_q rfl rfl) (nn_q rfl rfl)))) (nn_ct (nn_ct (nn_ct (nn_q rfl rfl) (nn_q rfl rfl)) (nn_ct (nn_q rfl rfl) (nn_q rfl rfl))) (nn_ct (nn_ct (nn_q rfl rfl) (nn_q rfl rfl)) (nn_ct (nn_q rfl rfl) (nn_q rfl rfl))))))
theorem pj_34 : pr_K (pr_i34, pr_m34) := pm_1 (by decide +kernel) pk_34 ⟨rfl, rfl⟩ pz_34
theorem pz_35 : ∀ pc, Nat.beq (pr_c35 pc).1 46 = false := by
  unfold pr_c35
  exact (nn_ct (nn_ct (nn_ct (nn_ct (nn_ct (nn_q rfl rfl) (nn_q rfl rfl)) (nn_ct (nn_q rfl rfl) (nn_q rfl rfl))) (nn_ct (nn_ct (nn_q rfl rfl) (nn_q rfl rfl)) (nn_ct (nn_q rfl rfl) (nn_q rfl rfl)))) (nn_ct (nn_ct (nn_ct (nn_q rfl rfl) (nn_q rfl rfl)) (nn_ct (nn_q rfl rfl) (nn_q rfl rfl))) (nn_ct (nn_ct (nn_q rfl rfl) (nn_q rfl rfl)) (nn_q rfl rfl)))) (nn_ct (nn_ct (nn_ct (nn_ct (nn_q rfl rfl) (nn_q rfl rfl)) (nn_ct (nn_q rfl rfl) (nn_q rfl rfl))) (nn_ct (nn_ct (nn_q rfl rfl) (nn_q rfl rfl)) (nn_ct (nn_q rfl rfl) (nn_q rfl rfl)))) (nn_ct (nn_ct (nn_ct (nn_q rfl rfl) (nn_q rfl rfl)) (nn_ct (nn_q rfl rfl) (nn_q rfl rfl))) (nn_ct (nn_ct (nn_q rfl rfl) (nn_q rfl rfl)) (nn_q rfl rfl)))))
theorem pj_35 : pr_K (pr_i35, pr_m35) := pm_1 (by decide +kernel) pk_35 ⟨rfl, rfl⟩ pz_35
theorem pz_36 : ∀ pc, Nat.beq (pr_c36 pc).1 46 = false := by
  unfold pr_c36
  exact (nn_ct (nn_ct (nn_ct (nn_ct (nn_ct (nn_q rfl rfl) (nn_q rfl rfl)) (nn_ct (nn_q rfl rfl) (nn_q rfl rfl))) (nn_ct (nn_ct (nn_q rfl rfl) (nn_q rfl rfl)) (nn_q rfl rfl))) (nn_ct (nn_ct (nn_ct (nn_q rfl rfl) (nn_q rfl rfl)) (nn_ct (nn_q rfl rfl) (nn_q rfl rfl))) (nn_ct (nn_ct (nn_q rfl rfl) (nn_q rfl rfl)) (nn_q rfl rfl)))) (nn_ct (nn_ct (nn_ct (nn_ct (nn_q rfl rfl) (nn_q rfl rfl)) (nn_ct (nn_q rfl rfl) (nn_q rfl rfl))) (nn_ct (nn_ct (nn_q rfl rfl) (nn_q rfl rfl)) (nn_q rfl rfl))) (nn_ct (nn_ct (nn_ct (nn_q rfl rfl) (nn_q rfl rfl)) (nn_q rfl rfl)) (nn_ct (nn_ct (nn_q rfl rfl) (nn_q rfl rfl)) (nn_q rfl rfl)))))
theorem pj_36 : pr_K (pr_i36, pr_m36) := pm_1 (by decide +kernel) pk_36 ⟨rfl, rfl⟩ pz_36
theorem pz_37 : ∀ pc, Nat.beq (pr_c37 pc).1 46 = false := by
  unfold pr_c37
  exact (nn_ct (nn_ct (nn_ct (nn_ct (nn_ct (nn_q rfl rfl) (nn_q rfl rfl)) (nn_ct (nn_q rfl rfl) (nn_q rfl rfl))) (nn_ct (nn_ct (nn_q rfl rfl) (nn_q rfl rfl)) (nn_ct (nn_q rfl rfl) (nn_q rfl rfl)))) (nn_ct (nn_ct (nn_ct (nn_q rfl rfl) (nn_q rfl rfl)) (nn_ct (nn_q rfl rfl) (nn_q rfl rfl))) (nn_ct (nn_ct (nn_q rfl rfl) (nn_q rfl rfl)) (nn_q rfl rfl)))) (nn_ct (nn_ct (nn_ct (nn_ct (nn_q rfl rfl) (nn_q rfl rfl)) (nn_ct (nn_q rfl rfl) (nn_q rfl rfl))) (nn_ct (nn_ct (nn_q rfl rfl) (nn_q rfl rfl)) (nn_ct (nn_q rfl rfl) (nn_q rfl rfl)))) (nn_ct (nn_ct (nn_ct (nn_q rfl rfl) (nn_q rfl rfl)) (nn_ct (nn_q rfl rfl) (nn_q rfl rfl))) (nn_ct (nn_ct (nn_q rfl rfl) (nn_q rfl rfl)) (nn_q rfl rfl)))))
theorem pj_37 : pr_K (pr_i37, pr_m37) := pm_1 (by decide +kernel) pk_37 ⟨rfl, rfl⟩ pz_37
theorem pz_38 : ∀ pc, Nat.beq (pr_c38 pc).1 46 = false := by
  unfold pr_c38
  exact (nn_ct (nn_ct (nn_ct (nn_ct (nn_ct (nn_ct (nn_q rfl rfl) (nn_q rfl rfl)) (nn_q rfl rfl)) (nn_ct (nn_q rfl rfl) (nn_q rfl rfl))) (nn_ct (nn_ct (nn_q rfl rfl) (nn_q rfl rfl)) (nn_ct (nn_q rfl rfl) (nn_q rfl rfl)))) (nn_ct (nn_ct (nn_ct (nn_q rfl rfl) (nn_q rfl rfl)) (nn_ct (nn_q rfl rfl) (nn_q rfl rfl))) (nn_ct (nn_ct (nn_q rfl rfl) (nn_q rfl rfl)) (nn_ct (nn_q rfl rfl) (nn_q rfl rfl))))) (nn_ct (nn_ct (nn_ct (nn_ct (nn_q rfl rfl) (nn_q rfl rfl)) (nn_ct (nn_q rfl rfl) (nn_q rfl rfl))) (nn_ct (nn_ct (nn_q rfl rfl) (nn_q rfl rfl)) (nn_ct (nn_q rfl rfl) (nn_q rfl rfl)))) (nn_ct (nn_ct (nn_ct (nn_q rfl rfl) (nn_q rfl rfl)) (nn_ct (nn_q rfl rfl) (nn_q rfl rfl))) (nn_ct (nn_ct (nn_q rfl rfl) (nn_q rfl rfl)) (nn_ct (nn_q rfl rfl) (nn_q rfl rfl))))))
theorem pj_38 : pr_K (pr_i38, pr_m38) := pm_1 (by decide +kernel) pk_38 ⟨rfl, rfl⟩ pz_38
theorem pz_39 : ∀ pc, Nat.beq (pr_c39 pc).1 46 = false := by
  unfold pr_c39
  exact (nn_ct (nn_ct (nn_ct (nn_ct (nn_q rfl rfl) (nn_q rfl rfl)) (nn_q rfl rfl)) (nn_ct (nn_q rfl rfl) (nn_q rfl rfl))) (nn_ct (nn_ct (nn_q rfl rfl) (nn_q rfl rfl)) (nn_ct (nn_q rfl rfl) (nn_q rfl rfl))))
theorem pj_39 : pr_K (pr_i39, pr_m39) := pm_1 (by decide +kernel) pk_39 ⟨rfl, rfl⟩ pz_39
theorem pz_40 : ∀ pc, Nat.beq (pr_c40 pc).1 46 = false := by
  unfold pr_c40
  exact (nn_ct (nn_ct (nn_ct (nn_ct (nn_ct (nn_q rfl rfl) (nn_q rfl rfl)) (nn_ct (nn_q rfl rfl) (nn_q rfl rfl))) (nn_ct (nn_ct (nn_q rfl rfl) (nn_q rfl rfl)) (nn_q rfl rfl))) (nn_ct (nn_ct (nn_ct (nn_q rfl rfl) (nn_q rfl rfl)) (nn_q rfl rfl)) (nn_ct (nn_ct (nn_q rfl rfl) (nn_q rfl rfl)) (nn_q rfl rfl)))) (nn_ct (nn_ct (nn_ct (nn_ct (nn_q rfl rfl) (nn_q rfl rfl)) (nn_ct (nn_q rfl rfl) (nn_q rfl rfl))) (nn_ct (nn_ct (nn_q rfl rfl) (nn_q rfl rfl)) (nn_q rfl rfl))) (nn_ct (nn_ct (nn_ct (nn_q rfl rfl) (nn_q rfl rfl)) (nn_q rfl rfl)) (nn_ct (nn_ct (nn_q rfl rfl) (nn_q rfl rfl)) (nn_q rfl rfl)))))
theorem pj_40 : pr_K (pr_i40, pr_m40) := pm_1 (by decide +kernel) pk_40 ⟨rfl, rfl⟩ pz_40
theorem pz_41 : ∀ pc, Nat.beq (pr_c41 pc).1 46 = false := by
  unfold pr_c41
  exact (nn_ct (nn_ct (nn_ct (nn_ct (nn_ct (nn_ct (nn_q rfl rfl) (nn_q rfl rfl)) (nn_q rfl rfl)) (nn_ct (nn_q rfl rfl) (nn_q rfl rfl))) (nn_ct (nn_ct (nn_ct (nn_q rfl rfl) (nn_q rfl rfl)) (nn_q rfl rfl)) (nn_ct (nn_q rfl rfl) (nn_q rfl rfl)))) (nn_ct (nn_ct (nn_ct (nn_ct (nn_q rfl rfl) (nn_q rfl rfl)) (nn_q rfl rfl)) (nn_ct (nn_q rfl rfl) (nn_q rfl rfl))) (nn_ct (nn_ct (nn_ct (nn_q rfl rfl) (nn_q rfl rfl)) (nn_q rfl rfl)) (nn_ct (nn_q rfl rfl) (nn_q rfl rfl))))) (nn_ct (nn_ct (nn_ct (nn_ct (nn_ct (nn_q rfl rfl) (nn_q rfl rfl)) (nn_q rfl rfl)) (nn_ct (nn_q rfl rfl) (nn_q rfl rfl))) (nn_ct (nn_ct (nn_ct (nn_q rfl rfl) (nn_q rfl rfl)) (nn_q rfl rfl)) (nn_ct (nn_q rfl rfl) (nn_q rfl rfl)))) (nn_ct (nn_ct (nn_ct (nn_ct (nn_q rfl rfl) (nn_q rfl rfl)) (nn_q rfl rfl)) (nn_ct (nn_q rfl rfl) (nn_q rfl rfl))) (nn_ct (nn_ct (nn_q rfl rfl) (nn_q rfl rfl)) (nn_ct (nn_q rfl rfl) (nn_q rfl rfl))))))
theorem pj_41 : pr_K (pr_i41, pr_m41) := pm_1 (by decide +kernel) pk_41 ⟨rfl, rfl⟩ pz_41
theorem pz_42 : ∀ pc, Nat.beq (pr_c42 pc).1 46 = false := by
  unfold pr_c42
  exact (nn_ct (nn_ct (nn_ct (nn_q rfl rfl) (nn_q rfl rfl)) (nn_ct (nn_q rfl rfl) (nn_q rfl rfl))) (nn_ct (nn_ct (nn_q rfl rfl) (nn_q rfl rfl)) (nn_q rfl rfl)))
theorem pj_42 : pr_K (pr_i42, pr_m42) := pm_1 (by decide +kernel) pk_42 ⟨rfl, rfl⟩ pz_42
theorem pz_43 : ∀ pc, Nat.beq (pr_c43 pc).1 46 = false := by
  unfold pr_c43
  exact (nn_ct (nn_ct (nn_ct (nn_ct (nn_ct (nn_q rfl rfl) (nn_q rfl rfl)) (nn_q rfl rfl)) (nn_ct (nn_ct (nn_q rfl rfl) (nn_q rfl rfl)) (nn_q rfl rfl))) (nn_ct (nn_ct (nn_ct (nn_q rfl rfl) (nn_q rfl rfl)) (nn_q rfl rfl)) (nn_ct (nn_q rfl rfl) (nn_q rfl rfl)))) (nn_ct (nn_ct (nn_ct (nn_ct (nn_q rfl rfl) (nn_q rfl rfl)) (nn_q rfl rfl)) (nn_ct (nn_q rfl rfl) (nn_q rfl rfl))) (nn_ct (nn_ct (nn_ct (nn_q rfl rfl) (nn_q rfl rfl)) (nn_q rfl rfl)) (nn_ct (nn_q rfl rfl) (nn_q rfl rfl)))))
theorem pj_43 : pr_K (pr_i43, pr_m43) := pm_1 (by decide +kernel) pk_43 ⟨rfl, rfl⟩ pz_43
theorem pz_44 : ∀ pc, Nat.beq (pr_c44 pc).1 46 = false := by
  unfold pr_c44
  exact (nn_ct (nn_ct (nn_ct (nn_ct (nn_q rfl rfl) (nn_q rfl rfl)) (nn_ct (nn_q rfl rfl) (nn_q rfl rfl))) (nn_ct (nn_ct (nn_q rfl rfl) (nn_q rfl rfl)) (nn_q rfl rfl))) (nn_ct (nn_ct (nn_ct (nn_q rfl rfl) (nn_q rfl rfl)) (nn_q rfl rfl)) (nn_ct (nn_ct (nn_q rfl rfl) (nn_q rfl rfl)) (nn_q rfl rfl))))
theorem pj_44 : pr_K (pr_i44, pr_m44) := pm_1 (by decide +kernel) pk_44 ⟨rfl, rfl⟩ pz_44
theorem pz_45 : ∀ pc, Nat.beq (pr_c45 pc).1 46 = false := by
  unfold pr_c45
  exact (nn_ct (nn_ct (nn_ct (nn_ct (nn_ct (nn_q rfl rfl) (nn_q rfl rfl)) (nn_q rfl rfl)) (nn_ct (nn_q rfl rfl) (nn_q rfl rfl))) (nn_ct (nn_ct (nn_q rfl rfl) (nn_q rfl rfl)) (nn_ct (nn_q rfl rfl) (nn_q rfl rfl)))) (nn_ct (nn_ct (nn_ct (nn_q rfl rfl) (nn_q rfl rfl)) (nn_ct (nn_q rfl rfl) (nn_q rfl rfl))) (nn_ct (nn_ct (nn_q rfl rfl) (nn_q rfl rfl)) (nn_ct (nn_q rfl rfl) (nn_q rfl rfl)))))
theorem pj_45 : pr_K (pr_i45, pr_m45) := pm_1 (by decide +kernel) pk_45 ⟨rfl, rfl⟩ pz_45
theorem pz_46 : ∀ pc, Nat.beq (pr_c46 pc).1 46 = false := by
  unfold pr_c46
  exact (nn_ct (nn_ct (nn_ct (nn_q rfl rfl) (nn_q rfl rfl)) (nn_ct (nn_q rfl rfl) (nn_q rfl rfl))) (nn_ct (nn_ct (nn_q rfl rfl) (nn_q rfl rfl)) (nn_ct (nn_q rfl rfl) (nn_q rfl rfl))))
theorem pj_46 : pr_K (pr_i46, pr_m46) := pm_1 (by decide +kernel) pk_46 ⟨rfl, rfl⟩ pz_46
theorem pz_47 : ∀ pc, Nat.beq (pr_c47 pc).1 46 = false := by
  unfold pr_c47
  exact (nn_ct (nn_ct (nn_ct (nn_ct (nn_ct (nn_ct (nn_q rfl rfl) (nn_q rfl rfl)) (nn_q rfl rfl)) (nn_ct (nn_q rfl rfl) (nn_q rfl rfl))) (nn_ct (nn_ct (nn_q rfl rfl) (nn_q rfl rfl)) (nn_ct (nn_q rfl rfl) (nn_q rfl rfl)))) (nn_ct (nn_ct (nn_ct (nn_q rfl rfl) (nn_q rfl rfl)) (nn_ct (nn_q rfl rfl) (nn_q rfl rfl))) (nn_ct (nn_ct (nn_q rfl rfl) (nn_q rfl rfl)) (nn_ct (nn_q rfl rfl) (nn_q rfl rfl))))) (nn_ct (nn_ct (nn_ct (nn_ct (nn_q rfl rfl) (nn_q rfl rfl)) (nn_ct (nn_q rfl rfl) (nn_q rfl rfl))) (nn_ct (nn_ct (nn_q rfl rfl) (nn_q rfl rfl)) (nn_ct (nn_q rfl rfl) (nn_q rfl rfl)))) (nn_ct (nn_ct (nn_ct (nn_q rfl rfl) (nn_q rfl rfl)) (nn_ct (nn_q rfl rfl) (nn_q rfl rfl))) (nn_ct (nn_ct (nn_q rfl rfl) (nn_q rfl rfl)) (nn_ct (nn_q rfl rfl) (nn_q rfl rfl))))))
theorem pj_47 : pr_K (pr_i47, pr_m47) := pm_1 (by decide +kernel) pk_47 ⟨rfl, rfl⟩ pz_47
theorem pz_48 : ∀ pc, Nat.beq (pr_c48 pc).1 46 = false := by
  unfold pr_c48
  exact (nn_ct (nn_ct (nn_ct (nn_ct (nn_ct (nn_q rfl rfl) (nn_q rfl rfl)) (nn_ct (nn_q rfl rfl) (nn_q rfl rfl))) (nn_ct (nn_ct (nn_q rfl rfl) (nn_q rfl rfl)) (nn_ct (nn_q rfl rfl) (nn_q rfl rfl)))) (nn_ct (nn_ct (nn_ct (nn_q rfl rfl) (nn_q rfl rfl)) (nn_ct (nn_q rfl rfl) (nn_q rfl rfl))) (nn_ct (nn_ct (nn_q rfl rfl) (nn_q rfl rfl)) (nn_ct (nn_q rfl rfl) (nn_q rfl rfl))))) (nn_ct (nn_ct (nn_ct (nn_ct (nn_q rfl rfl) (nn_q rfl rfl)) (nn_ct (nn_q rfl rfl) (nn_q rfl rfl))) (nn_ct (nn_ct (nn_q rfl rfl) (nn_q rfl rfl)) (nn_ct (nn_q rfl rfl) (nn_q rfl rfl)))) (nn_ct (nn_ct (nn_ct (nn_q rfl rfl) (nn_q rfl rfl)) (nn_ct (nn_q rfl rfl) (nn_q rfl rfl))) (nn_ct (nn_ct (nn_q rfl rfl) (nn_q rfl rfl)) (nn_q rfl rfl)))))
theorem pj_48 : pr_K (pr_i48, pr_m48) := pm_1 (by decide +kernel) pk_48 ⟨rfl, rfl⟩ pz_48
theorem pz_49 : ∀ pc, Nat.beq (pr_c49 pc).1 46 = false := by
  unfold pr_c49
  exact (nn_ct (nn_ct (nn_ct (nn_q rfl rfl) (nn_q rfl rfl)) (nn_ct (nn_q rfl rfl) (nn_q rfl rfl))) (nn_ct (nn_ct (nn_q rfl rfl) (nn_q rfl rfl)) (nn_q rfl rfl)))
theorem pj_49 : pr_K (pr_i49, pr_m49) := pm_1 (by decide +kernel) pk_49 ⟨rfl, rfl⟩ pz_49
theorem pz_50 : ∀ pc, Nat.beq (pr_c50 pc).1 46 = false := by
  unfold pr_c50
  exact (nn_ct (nn_ct (nn_ct (nn_q rfl rfl) (nn_q rfl rfl)) (nn_q rfl rfl)) (nn_ct (nn_q rfl rfl) (nn_q rfl rfl)))
theorem pj_50 : pr_K (pr_i50, pr_m50) := pm_1 (by decide +kernel) pk_50 ⟨rfl, rfl⟩ pz_50
theorem pz_51 : ∀ pc, Nat.beq (pr_c51 pc).1 46 = false := by
  unfold pr_c51
  exact (nn_ct (nn_ct (nn_ct (nn_ct (nn_ct (nn_q rfl rfl) (nn_q rfl rfl)) (nn_q rfl rfl)) (nn_ct (nn_q rfl rfl) (nn_q rfl rfl))) (nn_ct (nn_ct (nn_ct (nn_q rfl rfl) (nn_q rfl rfl)) (nn_q rfl rfl)) (nn_ct (nn_q rfl rfl) (nn_q rfl rfl)))) (nn_ct (nn_ct (nn_ct (nn_ct (nn_q rfl rfl) (nn_q rfl rfl)) (nn_q rfl rfl)) (nn_ct (nn_q rfl rfl) (nn_q rfl rfl))) (nn_ct (nn_ct (nn_q rfl rfl) (nn_q rfl rfl)) (nn_ct (nn_q rfl rfl) (nn_q rfl rfl)))))
theorem pj_51 : pr_K (pr_i51, pr_m51) := pm_1 (by decide +kernel) pk_51 ⟨rfl, rfl⟩ pz_51
theorem pz_52 : ∀ pc, Nat.beq (pr_c52 pc).1 46 = false := by
  unfold pr_c52
  exact (nn_ct (nn_ct (nn_ct (nn_q rfl rfl) (nn_q rfl rfl)) (nn_ct (nn_q rfl rfl) (nn_q rfl rfl))) (nn_ct (nn_ct (nn_q rfl rfl) (nn_q rfl rfl)) (nn_q rfl rfl)))
theorem pj_52 : pr_K (pr_i52, pr_m52) := pm_1 (by decide +kernel) pk_52 ⟨rfl, rfl⟩ pz_52
theorem pz_53 : ∀ pc, Nat.beq (pr_c53 pc).1 46 = false := by
  unfold pr_c53
  exact (nn_ct (nn_ct (nn_ct (nn_ct (nn_ct (nn_ct (nn_q rfl rfl) (nn_q rfl rfl)) (nn_q rfl rfl)) (nn_ct (nn_q rfl rfl) (nn_q rfl rfl))) (nn_ct (nn_ct (nn_q rfl rfl) (nn_q rfl rfl)) (nn_ct (nn_q rfl rfl) (nn_q rfl rfl)))) (nn_ct (nn_ct (nn_ct (nn_q rfl rfl) (nn_q rfl rfl)) (nn_ct (nn_q rfl rfl) (nn_q rfl rfl))) (nn_ct (nn_ct (nn_q rfl rfl) (nn_q rfl rfl)) (nn_ct (nn_q rfl rfl) (nn_q rfl rfl))))) (nn_ct (nn_ct (nn_ct (nn_ct (nn_ct (nn_q rfl rfl) (nn_q rfl rfl)) (nn_q rfl rfl)) (nn_ct (nn_q rfl rfl) (nn_q rfl rfl))) (nn_ct (nn_ct (nn_q rfl rfl) (nn_q rfl rfl)) (nn_ct (nn_q rfl rfl) (nn_q rfl rfl)))) (nn_ct (nn_ct (nn_ct (nn_q rfl rfl) (nn_q rfl rfl)) (nn_ct (nn_q rfl rfl) (nn_q rfl rfl))) (nn_ct (nn_ct (nn_q rfl rfl) (nn_q rfl rfl)) (nn_ct (nn_q rfl rfl) (nn_q rfl rfl))))))
theorem pj_53 : pr_K (pr_i53, pr_m53) := pm_1 (by decide +kernel) pk_53 ⟨rfl, rfl⟩ pz_53
theorem pz_54 : ∀ pc, Nat.beq (pr_c54 pc).1 46 = false := by
  unfold pr_c54
  exact (nn_ct (nn_ct (nn_ct (nn_q rfl rfl) (nn_q rfl rfl)) (nn_ct (nn_q rfl rfl) (nn_q rfl rfl))) (nn_ct (nn_ct (nn_q rfl rfl) (nn_q rfl rfl)) (nn_q rfl rfl)))
theorem pj_54 : pr_K (pr_i54, pr_m54) := pm_1 (by decide +kernel) pk_54 ⟨rfl, rfl⟩ pz_54
theorem pz_55 : ∀ pc, Nat.beq (pr_c55 pc).1 46 = false := by
  unfold pr_c55
  exact (nn_ct (nn_ct (nn_ct (nn_ct (nn_q rfl rfl) (nn_q rfl rfl)) (nn_q rfl rfl)) (nn_ct (nn_ct (nn_q rfl rfl) (nn_q rfl rfl)) (nn_q rfl rfl))) (nn_ct (nn_ct (nn_ct (nn_q rfl rfl) (nn_q rfl rfl)) (nn_q rfl rfl)) (nn_ct (nn_q rfl rfl) (nn_q rfl rfl))))
theorem pj_55 : pr_K (pr_i55, pr_m55) := pm_1 (by decide +kernel) pk_55 ⟨rfl, rfl⟩ pz_55
theorem pz_56 : ∀ pc, Nat.beq (pr_c56 pc).1 46 = false := by
  unfold pr_c56
  exact (nn_ct (nn_ct (nn_ct (nn_ct (nn_ct (nn_q rfl rfl) (nn_q rfl rfl)) (nn_q rfl rfl)) (nn_ct (nn_ct (nn_q rfl rfl) (nn_q rfl rfl)) (nn_q rfl rfl))) (nn_ct (nn_ct (nn_ct (nn_q rfl rfl) (nn_q rfl rfl)) (nn_q rfl rfl)) (nn_ct (nn_ct (nn_q rfl rfl) (nn_q rfl rfl)) (nn_q rfl rfl)))) (nn_ct (nn_ct (nn_ct (nn_ct (nn_q rfl rfl) (nn_q rfl rfl)) (nn_q rfl rfl)) (nn_ct (nn_ct (nn_q rfl rfl) (nn_q rfl rfl)) (nn_q rfl rfl))) (nn_ct (nn_ct (nn_ct (nn_q rfl rfl) (nn_q rfl rfl)) (nn_q rfl rfl)) (nn_ct (nn_q rfl rfl) (nn_q rfl rfl)))))
theorem pj_56 : pr_K (pr_i56, pr_m56) := pm_1 (by decide +kernel) pk_56 ⟨rfl, rfl⟩ pz_56
theorem pz_57 : ∀ pc, Nat.beq (pr_c57 pc).1 46 = false := by
  unfold pr_c57
  exact (nn_ct (nn_ct (nn_ct (nn_ct (nn_ct (nn_ct (nn_q rfl rfl) (nn_q rfl rfl)) (nn_q rfl rfl)) (nn_ct (nn_q rfl rfl) (nn_q rfl rfl))) (nn_ct (nn_ct (nn_ct (nn_q rfl rfl) (nn_q rfl rfl)) (nn_q rfl rfl)) (nn_ct (nn_q rfl rfl) (nn_q rfl rfl)))) (nn_ct (nn_ct (nn_ct (nn_ct (nn_q rfl rfl) (nn_q rfl rfl)) (nn_q rfl rfl)) (nn_ct (nn_q rfl rfl) (nn_q rfl rfl))) (nn_ct (nn_ct (nn_q rfl rfl) (nn_q rfl rfl)) (nn_ct (nn_q rfl rfl) (nn_q rfl rfl))))) (nn_ct (nn_ct (nn_ct (nn_ct (nn_ct (nn_q rfl rfl) (nn_q rfl rfl)) (nn_q rfl rfl)) (nn_ct (nn_q rfl rfl) (nn_q rfl rfl))) (nn_ct (nn_ct (nn_q rfl rfl) (nn_q rfl rfl)) (nn_ct (nn_q rfl rfl) (nn_q rfl rfl)))) (nn_ct (nn_ct (nn_ct (nn_ct (nn_q rfl rfl) (nn_q rfl rfl)) (nn_q rfl rfl)) (nn_ct (nn_q rfl rfl) (nn_q rfl rfl))) (nn_ct (nn_ct (nn_q rfl rfl) (nn_q rfl rfl)) (nn_ct (nn_q rfl rfl) (nn_q rfl rfl))))))
theorem pj_57 : pr_K (pr_i57, pr_m57) := pm_1 (by decide +kernel) pk_57 ⟨rfl, rfl⟩ pz_57
theorem pz_58 : ∀ pc, Nat.beq (pr_c58 pc).1 46 = false := by
  unfold pr_c58
  exact (nn_ct (nn_ct (nn_ct (nn_ct (nn_ct (nn_ct (nn_q rfl rfl) (nn_q rfl rfl)) (nn_q rfl rfl)) (nn_ct (nn_q rfl rfl) (nn_q rfl rfl))) (nn_ct (nn_ct (nn_q rfl rfl) (nn_q rfl rfl)) (nn_ct (nn_q rfl rfl) (nn_q rfl rfl)))) (nn_ct (nn_ct (nn_ct (nn_q rfl rfl) (nn_q rfl rfl)) (nn_ct (nn_q rfl rfl) (nn_q rfl rfl))) (nn_ct (nn_ct (nn_q rfl rfl) (nn_q rfl rfl)) (nn_ct (nn_q rfl rfl) (nn_q rfl rfl))))) (nn_ct (nn_ct (nn_ct (nn_ct (nn_q rfl rfl) (nn_q rfl rfl)) (nn_ct (nn_q rfl rfl) (nn_q rfl rfl))) (nn_ct (nn_ct (nn_q rfl rfl) (nn_q rfl rfl)) (nn_ct (nn_q rfl rfl) (nn_q rfl rfl)))) (nn_ct (nn_ct (nn_ct (nn_q rfl rfl) (nn_q rfl rfl)) (nn_ct (nn_q rfl rfl) (nn_q rfl rfl))) (nn_ct (nn_ct (nn_q rfl rfl) (nn_q rfl rfl)) (nn_ct (nn_q rfl rfl) (nn_q rfl rfl))))))
theorem pj_58 : pr_K (pr_i58, pr_m58) := pm_1 (by decide +kernel) pk_58 ⟨rfl, rfl⟩ pz_58
theorem pz_59 : ∀ pc, Nat.beq (pr_c59 pc).1 46 = false := by
  unfold pr_c59
  exact (nn_ct (nn_ct (nn_ct (nn_ct (nn_ct (nn_q rfl rfl) (nn_q rfl rfl)) (nn_ct (nn_q rfl rfl) (nn_q rfl rfl))) (nn_ct (nn_ct (nn_q rfl rfl) (nn_q rfl rfl)) (nn_ct (nn_q rfl rfl) (nn_q rfl rfl)))) (nn_ct (nn_ct (nn_ct (nn_q rfl rfl) (nn_q rfl rfl)) (nn_ct (nn_q rfl rfl) (nn_q rfl rfl))) (nn_ct (nn_ct (nn_q rfl rfl) (nn_q rfl rfl)) (nn_q rfl rfl)))) (nn_ct (nn_ct (nn_ct (nn_ct (nn_q rfl rfl) (nn_q rfl rfl)) (nn_ct (nn_q rfl rfl) (nn_q rfl rfl))) (nn_ct (nn_ct (nn_q rfl rfl) (nn_q rfl rfl)) (nn_ct (nn_q rfl rfl) (nn_q rfl rfl)))) (nn_ct (nn_ct (nn_ct (nn_q rfl rfl) (nn_q rfl rfl)) (nn_ct (nn_q rfl rfl) (nn_q rfl rfl))) (nn_ct (nn_ct (nn_q rfl rfl) (nn_q rfl rfl)) (nn_q rfl rfl)))))
theorem pj_59 : pr_K (pr_i59, pr_m59) := pm_1 (by decide +kernel) pk_59 ⟨rfl, rfl⟩ pz_59
theorem pz_60 : ∀ pc, Nat.beq (pr_c60 pc).1 46 = false := by
  unfold pr_c60
  exact (nn_ct (nn_ct (nn_ct (nn_ct (nn_ct (nn_ct (nn_ct (nn_q rfl rfl) (nn_q rfl rfl)) (nn_q rfl rfl)) (nn_ct (nn_q rfl rfl) (nn_q rfl rfl))) (nn_ct (nn_ct (nn_q rfl rfl) (nn_q rfl rfl)) (nn_ct (nn_q rfl rfl) (nn_q rfl rfl)))) (nn_ct (nn_ct (nn_ct (nn_q rfl rfl) (nn_q rfl rfl)) (nn_ct (nn_q rfl rfl) (nn_q rfl rfl))) (nn_ct (nn_ct (nn_q rfl rfl) (nn_q rfl rfl)) (nn_ct (nn_q rfl rfl) (nn_q rfl rfl))))) (nn_ct (nn_ct (nn_ct (nn_ct (nn_q rfl rfl) (nn_q rfl rfl)) (nn_ct (nn_q rfl rfl) (nn_q rfl rfl))) (nn_ct (nn_ct (nn_q rfl rfl) (nn_q rfl rfl)) (nn_ct (nn_q rfl rfl) (nn_q rfl rfl)))) (nn_ct (nn_ct (nn_ct (nn_q rfl rfl) (nn_q rfl rfl)) (nn_ct (nn_q rfl rfl) (nn_q rfl rfl))) (nn_ct (nn_ct (nn_q rfl rfl) (nn_q rfl rfl)) (nn_ct (nn_q rfl rfl) (nn_q rfl rfl)))))) (nn_ct (nn_ct (nn_ct (nn_ct (nn_ct (nn_q rfl rfl) (nn_q rfl rfl)) (nn_ct (nn_q rfl rfl) (nn_q rfl rfl))) (nn_ct (nn_ct (nn_q rfl rfl) (nn_q rfl rfl)) (nn_ct (nn_q rfl rfl) (nn_q rfl rfl)))) (nn_ct (nn_ct (nn_ct (nn_q rfl rfl) (nn_q rfl rfl)) (nn_ct (nn_q rfl rfl) (nn_q rfl rfl))) (nn_ct (nn_ct (nn_q rfl rfl) (nn_q rfl rfl)) (nn_ct (nn_q rfl rfl) (nn_q rfl rfl))))) (nn_ct (nn_ct (nn_ct (nn_ct (nn_q rfl rfl) (nn_q rfl rfl)) (nn_ct (nn_q rfl rfl) (nn_q rfl rfl))) (nn_ct (nn_ct (nn_q rfl rfl) (nn_q rfl rfl)) (nn_ct (nn_q rfl rfl) (nn_q rfl rfl)))) (nn_ct (nn_ct (nn_ct (nn_q rfl rfl) (nn_q rfl rfl)) (nn_ct (nn_q rfl rfl) (nn_q rfl rfl))) (nn_ct (nn_ct (nn_q rfl rfl) (nn_q rfl rfl)) (nn_ct (nn_q rfl rfl) (nn_q rfl rfl)))))))
theorem pj_60 : pr_K (pr_i60, pr_m60) := pm_1 (by decide +kernel) pk_60 ⟨rfl, rfl⟩ pz_60
theorem pz_61 : ∀ pc, Nat.beq (pr_c61 pc).1 46 = false := by
  unfold pr_c61
  exact (nn_ct (nn_ct (nn_ct (nn_ct (nn_q rfl rfl) (nn_q rfl rfl)) (nn_q rfl rfl)) (nn_ct (nn_q rfl rfl) (nn_q rfl rfl))) (nn_ct (nn_ct (nn_ct (nn_q rfl rfl) (nn_q rfl rfl)) (nn_q rfl rfl)) (nn_ct (nn_q rfl rfl) (nn_q rfl rfl))))
theorem pj_61 : pr_K (pr_i61, pr_m61) := pm_1 (by decide +kernel) pk_61 ⟨rfl, rfl⟩ pz_61
theorem pz_62 : ∀ pc, Nat.beq (pr_c62 pc).1 46 = false := by
  unfold pr_c62
  exact (nn_ct (nn_ct (nn_ct (nn_q rfl rfl) (nn_q rfl rfl)) (nn_ct (nn_q rfl rfl) (nn_q rfl rfl))) (nn_ct (nn_ct (nn_q rfl rfl) (nn_q rfl rfl)) (nn_ct (nn_q rfl rfl) (nn_q rfl rfl))))
theorem pj_62 : pr_K (pr_i62, pr_m62) := pm_1 (by decide +kernel) pk_62 ⟨rfl, rfl⟩ pz_62
theorem pz_63 : ∀ pc, Nat.beq (pr_c63 pc).1 46 = false := by
  unfold pr_c63
  exact (nn_ct (nn_ct (nn_ct (nn_ct (nn_q rfl rfl) (nn_q rfl rfl)) (nn_ct (nn_q rfl rfl) (nn_q rfl rfl))) (nn_ct (nn_ct (nn_q rfl rfl) (nn_q rfl rfl)) (nn_q rfl rfl))) (nn_ct (nn_ct (nn_ct (nn_q rfl rfl) (nn_q rfl rfl)) (nn_q rfl rfl)) (nn_ct (nn_ct (nn_q rfl rfl) (nn_q rfl rfl)) (nn_q rfl rfl))))
theorem pj_63 : pr_K (pr_i63, pr_m63) := pm_1 (by decide +kernel) pk_63 ⟨rfl, rfl⟩ pz_63
theorem pz_64 : ∀ pc, Nat.beq (pr_c64 pc).1 46 = false := by
  unfold pr_c64
  exact (nn_ct (nn_ct (nn_q rfl rfl) (nn_q rfl rfl)) (nn_q rfl rfl))
theorem pj_64 : pr_K (pr_i64, pr_m64) := pm_1 (by decide +kernel) pk_64 ⟨rfl, rfl⟩ pz_64
theorem pz_65 : ∀ pc, Nat.beq (pr_c65 pc).1 46 = false := by
  unfold pr_c65
  exact (nn_ct (nn_ct (nn_ct (nn_ct (nn_q rfl rfl) (nn_q rfl rfl)) (nn_q rfl rfl)) (nn_ct (nn_q rfl rfl) (nn_q rfl rfl))) (nn_ct (nn_ct (nn_ct (nn_q rfl rfl) (nn_q rfl rfl)) (nn_q rfl rfl)) (nn_ct (nn_q rfl rfl) (nn_q rfl rfl))))
theorem pj_65 : pr_K (pr_i65, pr_m65) := pm_1 (by decide +kernel) pk_65 ⟨rfl, rfl⟩ pz_65
theorem pz_66 : ∀ pc, Nat.beq (pr_c66 pc).1 46 = false := by
  unfold pr_c66
  exact (nn_ct (nn_ct (nn_ct (nn_q rfl rfl) (nn_q rfl rfl)) (nn_ct (nn_q rfl rfl) (nn_q rfl rfl))) (nn_ct (nn_ct (nn_q rfl rfl) (nn_q rfl rfl)) (nn_q rfl rfl)))
theorem pj_66 : pr_K (pr_i66, pr_m66) := pm_1 (by decide +kernel) pk_66 ⟨rfl, rfl⟩ pz_66
theorem pz_67 : ∀ pc, Nat.beq (pr_c67 pc).1 46 = false := by
  unfold pr_c67
  exact (nn_ct (nn_ct (nn_q rfl rfl) (nn_q rfl rfl)) (nn_ct (nn_q rfl rfl) (nn_q rfl rfl)))
theorem pj_67 : pr_K (pr_i67, pr_m67) := pm_1 (by decide +kernel) pk_67 ⟨rfl, rfl⟩ pz_67
theorem pz_68 : ∀ pc, Nat.beq (pr_c68 pc).1 46 = false := by
  unfold pr_c68
  exact (nn_ct (nn_ct (nn_ct (nn_q rfl rfl) (nn_q rfl rfl)) (nn_ct (nn_q rfl rfl) (nn_q rfl rfl))) (nn_ct (nn_ct (nn_q rfl rfl) (nn_q rfl rfl)) (nn_q rfl rfl)))
theorem pj_68 : pr_K (pr_i68, pr_m68) := pm_1 (by decide +kernel) pk_68 ⟨rfl, rfl⟩ pz_68
theorem pz_69 : ∀ pc, Nat.beq (pr_c69 pc).1 46 = false := by
  unfold pr_c69
  exact (nn_ct (nn_ct (nn_ct (nn_ct (nn_q rfl rfl) (nn_q rfl rfl)) (nn_q rfl rfl)) (nn_ct (nn_q rfl rfl) (nn_q rfl rfl))) (nn_ct (nn_ct (nn_ct (nn_q rfl rfl) (nn_q rfl rfl)) (nn_q rfl rfl)) (nn_ct (nn_q rfl rfl) (nn_q rfl rfl))))
theorem pj_69 : pr_K (pr_i69, pr_m69) := pm_1 (by decide +kernel) pk_69 ⟨rfl, rfl⟩ pz_69
theorem pz_70 : ∀ pc, Nat.beq (pr_c70 pc).1 46 = false := by
  unfold pr_c70
  exact (nn_ct (nn_ct (nn_ct (nn_q rfl rfl) (nn_q rfl rfl)) (nn_ct (nn_q rfl rfl) (nn_q rfl rfl))) (nn_ct (nn_ct (nn_q rfl rfl) (nn_q rfl rfl)) (nn_q rfl rfl)))
theorem pj_70 : pr_K (pr_i70, pr_m70) := pm_1 (by decide +kernel) pk_70 ⟨rfl, rfl⟩ pz_70
theorem pz_72 : ∀ pc, Nat.beq (pr_c72 pc).1 46 = false := by
  unfold pr_c72
  exact (nn_ct (nn_ct (nn_ct (nn_q rfl rfl) (nn_q rfl rfl)) (nn_ct (nn_q rfl rfl) (nn_q rfl rfl))) (nn_ct (nn_ct (nn_q rfl rfl) (nn_q rfl rfl)) (nn_ct (nn_q rfl rfl) (nn_q rfl rfl))))
theorem pj_72 : pr_K (pr_i72, pr_m72) := pm_1 (by decide +kernel) pk_72 ⟨rfl, rfl⟩ pz_72
theorem pz_73 : ∀ pc, Nat.beq (pr_c73 pc).1 46 = false := by
  unfold pr_c73
  exact (nn_ct (nn_ct (nn_ct (nn_ct (nn_ct (nn_ct (nn_q rfl rfl) (nn_q rfl rfl)) (nn_q rfl rfl)) (nn_ct (nn_ct (nn_q rfl rfl) (nn_q rfl rfl)) (nn_q rfl rfl))) (nn_ct (nn_ct (nn_ct (nn_q rfl rfl) (nn_q rfl rfl)) (nn_q rfl rfl)) (nn_ct (nn_ct (nn_q rfl rfl) (nn_q rfl rfl)) (nn_q rfl rfl)))) (nn_ct (nn_ct (nn_ct (nn_ct (nn_q rfl rfl) (nn_q rfl rfl)) (nn_q rfl rfl)) (nn_ct (nn_ct (nn_q rfl rfl) (nn_q rfl rfl)) (nn_q rfl rfl))) (nn_ct (nn_ct (nn_ct (nn_q rfl rfl) (nn_q rfl rfl)) (nn_q rfl rfl)) (nn_ct (nn_ct (nn_q rfl rfl) (nn_q rfl rfl)) (nn_q rfl rfl))))) (nn_ct (nn_ct (nn_ct (nn_ct (nn_ct (nn_q rfl rfl) (nn_q rfl rfl)) (nn_q rfl rfl)) (nn_ct (nn_ct (nn_q rfl rfl) (nn_q rfl rfl)) (nn_q rfl rfl))) (nn_ct (nn_ct (nn_ct (nn_q rfl rfl) (nn_q rfl rfl)) (nn_q rfl rfl)) (nn_ct (nn_ct (nn_q rfl rfl) (nn_q rfl rfl)) (nn_q rfl rfl)))) (nn_ct (nn_ct (nn_ct (nn_ct (nn_q rfl rfl) (nn_q rfl rfl)) (nn_q rfl rfl)) (nn_ct (nn_ct (nn_q rfl rfl) (nn_q rfl rfl)) (nn_q rfl rfl))) (nn_ct (nn_ct (nn_ct (nn_q rfl rfl) (nn_q rfl rfl)) (nn_q rfl rfl)) (nn_ct (nn_ct (nn_q rfl rfl) (nn_q rfl rfl)) (nn_q rfl rfl))))))
theorem pj_73 : pr_K (pr_i73, pr_m73) := pm_1 (by decide +kernel) pk_73 ⟨rfl, rfl⟩ pz_73
theorem pz_74 : ∀ pc, Nat.beq (pr_c74 pc).1 46 = false := by
  unfold pr_c74
  exact (nn_ct (nn_ct (nn_q rfl rfl) (nn_q rfl rfl)) (nn_q rfl rfl))
theorem pj_74 : pr_K (pr_i74, pr_m74) := pm_1 (by decide +kernel) pk_74 ⟨rfl, rfl⟩ pz_74
theorem pz_75 : ∀ pc, Nat.beq (pr_c75 pc).1 46 = false := by
  unfold pr_c75
  exact (nn_ct (nn_ct (nn_ct (nn_ct (nn_q rfl rfl) (nn_q rfl rfl)) (nn_q rfl rfl)) (nn_ct (nn_q rfl rfl) (nn_q rfl rfl))) (nn_ct (nn_ct (nn_ct (nn_q rfl rfl) (nn_q rfl rfl)) (nn_q rfl rfl)) (nn_ct (nn_q rfl rfl) (nn_q rfl rfl))))
theorem pj_75 : pr_K (pr_i75, pr_m75) := pm_1 (by decide +kernel) pk_75 ⟨rfl, rfl⟩ pz_75
theorem pz_76 : ∀ pc, Nat.beq (pr_c76 pc).1 46 = false := by
  unfold pr_c76
  exact (nn_ct (nn_ct (nn_ct (nn_q rfl rfl) (nn_q rfl rfl)) (nn_ct (nn_q rfl rfl) (nn_q rfl rfl))) (nn_ct (nn_ct (nn_q rfl rfl) (nn_q rfl rfl)) (nn_q rfl rfl)))
theorem pj_76 : pr_K (pr_i76, pr_m76) := pm_1 (by decide +kernel) pk_76 ⟨rfl, rfl⟩ pz_76
theorem pz_77 : ∀ pc, Nat.beq (pr_c77 pc).1 46 = false := by
  unfold pr_c77
  exact (nn_ct (nn_ct (nn_ct (nn_ct (nn_ct (nn_q rfl rfl) (nn_q rfl rfl)) (nn_q rfl rfl)) (nn_ct (nn_q rfl rfl) (nn_q rfl rfl))) (nn_ct (nn_ct (nn_q rfl rfl) (nn_q rfl rfl)) (nn_ct (nn_q rfl rfl) (nn_q rfl rfl)))) (nn_ct (nn_ct (nn_ct (nn_ct (nn_q rfl rfl) (nn_q rfl rfl)) (nn_q rfl rfl)) (nn_ct (nn_q rfl rfl) (nn_q rfl rfl))) (nn_ct (nn_ct (nn_q rfl rfl) (nn_q rfl rfl)) (nn_ct (nn_q rfl rfl) (nn_q rfl rfl)))))
theorem pj_77 : pr_K (pr_i77, pr_m77) := pm_1 (by decide +kernel) pk_77 ⟨rfl, rfl⟩ pz_77
theorem pz_78 : ∀ pc, Nat.beq (pr_c78 pc).1 46 = false := by
  unfold pr_c78
  exact (nn_ct (nn_ct (nn_ct (nn_ct (nn_ct (nn_ct (nn_q rfl rfl) (nn_q rfl rfl)) (nn_q rfl rfl)) (nn_ct (nn_ct (nn_q rfl rfl) (nn_q rfl rfl)) (nn_q rfl rfl))) (nn_ct (nn_ct (nn_ct (nn_q rfl rfl) (nn_q rfl rfl)) (nn_q rfl rfl)) (nn_ct (nn_q rfl rfl) (nn_q rfl rfl)))) (nn_ct (nn_ct (nn_ct (nn_ct (nn_q rfl rfl) (nn_q rfl rfl)) (nn_q rfl rfl)) (nn_ct (nn_ct (nn_q rfl rfl) (nn_q rfl rfl)) (nn_q rfl rfl))) (nn_ct (nn_ct (nn_ct (nn_q rfl rfl) (nn_q rfl rfl)) (nn_q rfl rfl)) (nn_ct (nn_q rfl rfl) (nn_q rfl rfl))))) (nn_ct (nn_ct (nn_ct (nn_ct (nn_ct (nn_q rfl rfl) (nn_q rfl rfl)) (nn_q rfl rfl)) (nn_ct (nn_ct (nn_q rfl rfl) (nn_q rfl rfl)) (nn_q rfl rfl))) (nn_ct (nn_ct (nn_ct (nn_q rfl rfl) (nn_q rfl rfl)) (nn_q rfl rfl)) (nn_ct (nn_q rfl rfl) (nn_q rfl rfl)))) (nn_ct (nn_ct (nn_ct (nn_ct (nn_q rfl rfl) (nn_q rfl rfl)) (nn_q rfl rfl)) (nn_ct (nn_ct (nn_q rfl rfl) (nn_q rfl rfl)) (nn_q rfl rfl))) (nn_ct (nn_ct (nn_ct (nn_q rfl rfl) (nn_q rfl rfl)) (nn_q rfl rfl)) (nn_ct (nn_q rfl rfl) (nn_q rfl rfl))))))
theorem pj_78 : pr_K (pr_i78, pr_m78) := pm_1 (by decide +kernel) pk_78 ⟨rfl, rfl⟩ pz_78
theorem pz_79 : ∀ pc, Nat.beq (pr_c79 pc).1 46 = false := by
  unfold pr_c79
  exact (nn_ct (nn_ct (nn_ct (nn_ct (nn_ct (nn_ct (nn_ct (nn_q rfl rfl) (nn_q rfl rfl)) (nn_ct (nn_q rfl rfl) (nn_q rfl rfl))) (nn_ct (nn_ct (nn_q rfl rfl) (nn_q rfl rfl)) (nn_q rfl rfl))) (nn_ct (nn_ct (nn_ct (nn_q rfl rfl) (nn_q rfl rfl)) (nn_q rfl rfl)) (nn_ct (nn_ct (nn_q rfl rfl) (nn_q rfl rfl)) (nn_q rfl rfl)))) (nn_ct (nn_ct (nn_ct (nn_ct (nn_q rfl rfl) (nn_q rfl rfl)) (nn_ct (nn_q rfl rfl) (nn_q rfl rfl))) (nn_ct (nn_ct (nn_q rfl rfl) (nn_q rfl rfl)) (nn_q rfl rfl))) (nn_ct (nn_ct (nn_ct (nn_q rfl rfl) (nn_q rfl rfl)) (nn_q rfl rfl)) (nn_ct (nn_ct (nn_q rfl rfl) (nn_q rfl rfl)) (nn_q rfl rfl))))) (nn_ct (nn_ct (nn_ct (nn_ct (nn_ct (nn_q rfl rfl) (nn_q rfl rfl)) (nn_ct (nn_q rfl rfl) (nn_q rfl rfl))) (nn_ct (nn_ct (nn_q rfl rfl) (nn_q rfl rfl)) (nn_q rfl rfl))) (nn_ct (nn_ct (nn_ct (nn_q rfl rfl) (nn_q rfl rfl)) (nn_q rfl rfl)) (nn_ct (nn_ct (nn_q rfl rfl) (nn_q rfl rfl)) (nn_q rfl rfl)))) (nn_ct (nn_ct (nn_ct (nn_ct (nn_q rfl rfl) (nn_q rfl rfl)) (nn_ct (nn_q rfl rfl) (nn_q rfl rfl))) (nn_ct (nn_ct (nn_q rfl rfl) (nn_q rfl rfl)) (nn_q rfl rfl))) (nn_ct (nn_ct (nn_ct (nn_q rfl rfl) (nn_q rfl rfl)) (nn_q rfl rfl)) (nn_ct (nn_ct (nn_q rfl rfl) (nn_q rfl rfl)) (nn_q rfl rfl)))))) (nn_ct (nn_ct (nn_ct (nn_ct (nn_ct (nn_ct (nn_q rfl rfl) (nn_q rfl rfl)) (nn_ct (nn_q rfl rfl) (nn_q rfl rfl))) (nn_ct (nn_ct (nn_q rfl rfl) (nn_q rfl rfl)) (nn_q rfl rfl))) (nn_ct (nn_ct (nn_ct (nn_q rfl rfl) (nn_q rfl rfl)) (nn_q rfl rfl)) (nn_ct (nn_ct (nn_q rfl rfl) (nn_q rfl rfl)) (nn_q rfl rfl)))) (nn_ct (nn_ct (nn_ct (nn_ct (nn_q rfl rfl) (nn_q rfl rfl)) (nn_ct (nn_q rfl rfl) (nn_q rfl rfl))) (nn_ct (nn_ct (nn_q rfl rfl) (nn_q rfl rfl)) (nn_q rfl rfl))) (nn_ct (nn_ct (nn_ct (nn_q rfl rfl) (nn_q rfl rfl)) (nn_q rfl rfl)) (nn_ct (nn_ct (nn_q rfl rfl) (nn_q rfl rfl)) (nn_q rfl rfl))))) (nn_ct (nn_ct (nn_ct (nn_ct (nn_ct (nn_q rfl rfl) (nn_q rfl rfl)) (nn_ct (nn_q rfl rfl) (nn_q rfl rfl))) (nn_ct (nn_ct (nn_q rfl rfl) (nn_q rfl rfl)) (nn_q rfl rfl))) (nn_ct (nn_ct (nn_ct (nn_q rfl rfl) (nn_q rfl rfl)) (nn_q rfl rfl)) (nn_ct (nn_ct (nn_q rfl rfl) (nn_q rfl rfl)) (nn_q rfl rfl)))) (nn_ct (nn_ct (nn_ct (nn_ct (nn_q rfl rfl) (nn_q rfl rfl)) (nn_q rfl rfl)) (nn_ct (nn_ct (nn_q rfl rfl) (nn_q rfl rfl)) (nn_q rfl rfl))) (nn_ct (nn_ct (nn_ct (nn_q rfl rfl) (nn_q rfl rfl)) (nn_q rfl rfl)) (nn_ct (nn_ct (nn_q rfl rfl) (nn_q rfl rfl)) (nn_q rfl rfl)))))))
theorem pj_79 : pr_K (pr_i79, pr_m79) := pm_1 (by decide +kernel) pk_79 ⟨rfl, rfl⟩ pz_79
theorem pz_80 : ∀ pc, Nat.beq (pr_c80 pc).1 46 = false := by
  unfold pr_c80
  exact (nn_ct (nn_ct (nn_ct (nn_ct (nn_ct (nn_q rfl rfl) (nn_q rfl rfl)) (nn_q rfl rfl)) (nn_ct (nn_ct (nn_q rfl rfl) (nn_q rfl rfl)) (nn_q rfl rfl))) (nn_ct (nn_ct (nn_ct (nn_q rfl rfl) (nn_q rfl rfl)) (nn_q rfl rfl)) (nn_ct (nn_q rfl rfl) (nn_q rfl rfl)))) (nn_ct (nn_ct (nn_ct (nn_ct (nn_q rfl rfl) (nn_q rfl rfl)) (nn_q rfl rfl)) (nn_ct (nn_ct (nn_q rfl rfl) (nn_q rfl rfl)) (nn_q rfl rfl))) (nn_ct (nn_ct (nn_ct (nn_q rfl rfl) (nn_q rfl rfl)) (nn_q rfl rfl)) (nn_ct (nn_q rfl rfl) (nn_q rfl rfl)))))
theorem pj_80 : pr_K (pr_i80, pr_m80) := pm_1 (by decide +kernel) pk_80 ⟨rfl, rfl⟩ pz_80
theorem pz_81 : ∀ pc, Nat.beq (pr_c81 pc).1 46 = false := by
  unfold pr_c81
  exact (nn_ct (nn_ct (nn_ct (nn_ct (nn_q rfl rfl) (nn_q rfl rfl)) (nn_q rfl rfl)) (nn_ct (nn_q rfl rfl) (nn_q rfl rfl))) (nn_ct (nn_ct (nn_q rfl rfl) (nn_q rfl rfl)) (nn_ct (nn_q rfl rfl) (nn_q rfl rfl))))
theorem pj_81 : pr_K (pr_i81, pr_m81) := pm_1 (by decide +kernel) pk_81 ⟨rfl, rfl⟩ pz_81
theorem pz_82 : ∀ pc, Nat.beq (pr_c82 pc).1 46 = false := by
  unfold pr_c82
  exact (nn_ct (nn_ct (nn_ct (nn_ct (nn_q rfl rfl) (nn_q rfl rfl)) (nn_q rfl rfl)) (nn_ct (nn_q rfl rfl) (nn_q rfl rfl))) (nn_ct (nn_ct (nn_q rfl rfl) (nn_q rfl rfl)) (nn_ct (nn_q rfl rfl) (nn_q rfl rfl))))
theorem pj_82 : pr_K (pr_i82, pr_m82) := pm_1 (by decide +kernel) pk_82 ⟨rfl, rfl⟩ pz_82
theorem pz_83 : ∀ pc, Nat.beq (pr_c83 pc).1 46 = false := by
  unfold pr_c83
  exact (nn_ct (nn_ct (nn_ct (nn_ct (nn_q rfl rfl) (nn_q rfl rfl)) (nn_q rfl rfl)) (nn_ct (nn_q rfl rfl) (nn_q rfl rfl))) (nn_ct (nn_ct (nn_ct (nn_q rfl rfl) (nn_q rfl rfl)) (nn_q rfl rfl)) (nn_ct (nn_q rfl rfl) (nn_q rfl rfl))))
theorem pj_83 : pr_K (pr_i83, pr_m83) := pm_1 (by decide +kernel) pk_83 ⟨rfl, rfl⟩ pz_83
theorem pz_84 : ∀ pc, Nat.beq (pr_c84 pc).1 46 = false := by
  unfold pr_c84
  exact (nn_ct (nn_ct (nn_ct (nn_ct (nn_ct (nn_q rfl rfl) (nn_q rfl rfl)) (nn_q rfl rfl)) (nn_ct (nn_q rfl rfl) (nn_q rfl rfl))) (nn_ct (nn_ct (nn_q rfl rfl) (nn_q rfl rfl)) (nn_ct (nn_q rfl rfl) (nn_q rfl rfl)))) (nn_ct (nn_ct (nn_ct (nn_ct (nn_q rfl rfl) (nn_q rfl rfl)) (nn_q rfl rfl)) (nn_ct (nn_q rfl rfl) (nn_q rfl rfl))) (nn_ct (nn_ct (nn_q rfl rfl) (nn_q rfl rfl)) (nn_ct (nn_q rfl rfl) (nn_q rfl rfl)))))
theorem pj_84 : pr_K (pr_i84, pr_m84) := pm_1 (by decide +kernel) pk_84 ⟨rfl, rfl⟩ pz_84
theorem pz_85 : ∀ pc, Nat.beq (pr_c85 pc).1 46 = false := by
  unfold pr_c85
  exact (nn_ct (nn_ct (nn_ct (nn_ct (nn_ct (nn_q rfl rfl) (nn_q rfl rfl)) (nn_q rfl rfl)) (nn_ct (nn_ct (nn_q rfl rfl) (nn_q rfl rfl)) (nn_q rfl rfl))) (nn_ct (nn_ct (nn_ct (nn_q rfl rfl) (nn_q rfl rfl)) (nn_q rfl rfl)) (nn_ct (nn_ct (nn_q rfl rfl) (nn_q rfl rfl)) (nn_q rfl rfl)))) (nn_ct (nn_ct (nn_ct (nn_ct (nn_q rfl rfl) (nn_q rfl rfl)) (nn_q rfl rfl)) (nn_ct (nn_ct (nn_q rfl rfl) (nn_q rfl rfl)) (nn_q rfl rfl))) (nn_ct (nn_ct (nn_ct (nn_q rfl rfl) (nn_q rfl rfl)) (nn_q rfl rfl)) (nn_ct (nn_ct (nn_q rfl rfl) (nn_q rfl rfl)) (nn_q rfl rfl)))))
theorem pj_85 : pr_K (pr_i85, pr_m85) := pm_1 (by decide +kernel) pk_85 ⟨rfl, rfl⟩ pz_85
theorem pz_86 : ∀ pc, Nat.beq (pr_c86 pc).1 46 = false := by
  unfold pr_c86
  exact (nn_ct (nn_ct (nn_ct (nn_ct (nn_ct (nn_q rfl rfl) (nn_q rfl rfl)) (nn_q rfl rfl)) (nn_ct (nn_q rfl rfl) (nn_q rfl rfl))) (nn_ct (nn_ct (nn_ct (nn_q rfl rfl) (nn_q rfl rfl)) (nn_q rfl rfl)) (nn_ct (nn_q rfl rfl) (nn_q rfl rfl)))) (nn_ct (nn_ct (nn_ct (nn_ct (nn_q rfl rfl) (nn_q rfl rfl)) (nn_q rfl rfl)) (nn_ct (nn_q rfl rfl) (nn_q rfl rfl))) (nn_ct (nn_ct (nn_q rfl rfl) (nn_q rfl rfl)) (nn_ct (nn_q rfl rfl) (nn_q rfl rfl)))))
theorem pj_86 : pr_K (pr_i86, pr_m86) := pm_1 (by decide +kernel) pk_86 ⟨rfl, rfl⟩ pz_86
theorem pz_87 : ∀ pc, Nat.beq (pr_c87 pc).1 46 = false := by
  unfold pr_c87
  exact (nn_ct (nn_ct (nn_ct (nn_ct (nn_q rfl rfl) (nn_q rfl rfl)) (nn_ct (nn_q rfl rfl) (nn_q rfl rfl))) (nn_ct (nn_ct (nn_q rfl rfl) (nn_q rfl rfl)) (nn_q rfl rfl))) (nn_ct (nn_ct (nn_ct (nn_q rfl rfl) (nn_q rfl rfl)) (nn_ct (nn_q rfl rfl) (nn_q rfl rfl))) (nn_ct (nn_ct (nn_q rfl rfl) (nn_q rfl rfl)) (nn_q rfl rfl))))
theorem pj_87 : pr_K (pr_i87, pr_m87) := pm_1 (by decide +kernel) pk_87 ⟨rfl, rfl⟩ pz_87
theorem pz_89 : ∀ pc, Nat.beq (pr_c89 pc).1 46 = false := by
  unfold pr_c89
  exact (nn_ct (nn_ct (nn_ct (nn_q rfl rfl) (nn_q rfl rfl)) (nn_ct (nn_q rfl rfl) (nn_q rfl rfl))) (nn_ct (nn_ct (nn_q rfl rfl) (nn_q rfl rfl)) (nn_ct (nn_q rfl rfl) (nn_q rfl rfl))))
theorem pj_89 : pr_K (pr_i89, pr_m89) := pm_1 (by decide +kernel) pk_89 ⟨rfl, rfl⟩ pz_89
theorem pz_90 : ∀ pc, Nat.beq (pr_c90 pc).1 46 = false := by
  unfold pr_c90
  exact (nn_ct (nn_ct (nn_ct (nn_ct (nn_ct (nn_q rfl rfl) (nn_q rfl rfl)) (nn_q rfl rfl)) (nn_ct (nn_ct (nn_q rfl rfl) (nn_q rfl rfl)) (nn_q rfl rfl))) (nn_ct (nn_ct (nn_ct (nn_q rfl rfl) (nn_q rfl rfl)) (nn_q rfl rfl)) (nn_ct (nn_ct (nn_q rfl rfl) (nn_q rfl rfl)) (nn_q rfl rfl)))) (nn_ct (nn_ct (nn_ct (nn_ct (nn_q rfl rfl) (nn_q rfl rfl)) (nn_q rfl rfl)) (nn_ct (nn_ct (nn_q rfl rfl) (nn_q rfl rfl)) (nn_q rfl rfl))) (nn_ct (nn_ct (nn_ct (nn_q rfl rfl) (nn_q rfl rfl)) (nn_q rfl rfl)) (nn_ct (nn_q rfl rfl) (nn_q rfl rfl)))))
theorem pj_90 : pr_K (pr_i90, pr_m90) := pm_1 (by decide +kernel) pk_90 ⟨rfl, rfl⟩ pz_90
theorem pz_102 : ∀ pc, Nat.beq (pr_c102 pc).1 46 = false := by
  unfold pr_c102
  exact (nn_ct (nn_ct (nn_ct (nn_ct (nn_q rfl rfl) (nn_q rfl rfl)) (nn_q rfl rfl)) (nn_ct (nn_q rfl rfl) (nn_q rfl rfl))) (nn_ct (nn_ct (nn_ct (nn_q rfl rfl) (nn_q rfl rfl)) (nn_q rfl rfl)) (nn_ct (nn_q rfl rfl) (nn_q rfl rfl))))
theorem pj_102 : pr_K (pr_i102, pr_m102) := pm_1 (by decide +kernel) pk_102 ⟨rfl, rfl⟩ pz_102
theorem pz_103 : ∀ pc, Nat.beq (pr_c103 pc).1 46 = false := by
  unfold pr_c103
  exact (nn_ct (nn_ct (nn_ct (nn_ct (nn_q rfl rfl) (nn_q rfl rfl)) (nn_q rfl rfl)) (nn_ct (nn_ct (nn_q rfl rfl) (nn_q rfl rfl)) (nn_q rfl rfl))) (nn_ct (nn_ct (nn_ct (nn_q rfl rfl) (nn_q rfl rfl)) (nn_q rfl rfl)) (nn_ct (nn_q rfl rfl) (nn_q rfl rfl))))
theorem pj_103 : pr_K (pr_i103, pr_m103) := pm_1 (by decide +kernel) pk_103 ⟨rfl, rfl⟩ pz_103
theorem pz_105 : ∀ pc, Nat.beq (pr_c105 pc).1 46 = false := by
  unfold pr_c105
  exact (nn_ct (nn_ct (nn_ct (nn_ct (nn_ct (nn_ct (nn_q rfl rfl) (nn_q rfl rfl)) (nn_q rfl rfl)) (nn_ct (nn_ct (nn_q rfl rfl) (nn_q rfl rfl)) (nn_q rfl rfl))) (nn_ct (nn_ct (nn_ct (nn_q rfl rfl) (nn_q rfl rfl)) (nn_q rfl rfl)) (nn_ct (nn_q rfl rfl) (nn_q rfl rfl)))) (nn_ct (nn_ct (nn_ct (nn_ct (nn_q rfl rfl) (nn_q rfl rfl)) (nn_q rfl rfl)) (nn_ct (nn_ct (nn_q rfl rfl) (nn_q rfl rfl)) (nn_q rfl rfl))) (nn_ct (nn_ct (nn_ct (nn_q rfl rfl) (nn_q rfl rfl)) (nn_q rfl rfl)) (nn_ct (nn_q rfl rfl) (nn_q rfl rfl))))) (nn_ct (nn_ct (nn_ct (nn_ct (nn_ct (nn_q rfl rfl) (nn_q rfl rfl)) (nn_q rfl rfl)) (nn_ct (nn_ct (nn_q rfl rfl) (nn_q rfl rfl)) (nn_q rfl rfl))) (nn_ct (nn_ct (nn_ct (nn_q rfl rfl) (nn_q rfl rfl)) (nn_q rfl rfl)) (nn_ct (nn_q rfl rfl) (nn_q rfl rfl)))) (nn_ct (nn_ct (nn_ct (nn_ct (nn_q rfl rfl) (nn_q rfl rfl)) (nn_q rfl rfl)) (nn_ct (nn_q rfl rfl) (nn_q rfl rfl))) (nn_ct (nn_ct (nn_ct (nn_q rfl rfl) (nn_q rfl rfl)) (nn_q rfl rfl)) (nn_ct (nn_q rfl rfl) (nn_q rfl rfl))))))
theorem pj_105 : pr_K (pr_i105, pr_m105) := pm_1 (by decide +kernel) pk_105 ⟨rfl, rfl⟩ pz_105
theorem pz_106 : ∀ pc, Nat.beq (pr_c106 pc).1 46 = false := by
  unfold pr_c106
  exact (nn_ct (nn_ct (nn_ct (nn_ct (nn_ct (nn_q rfl rfl) (nn_q rfl rfl)) (nn_q rfl rfl)) (nn_ct (nn_ct (nn_q rfl rfl) (nn_q rfl rfl)) (nn_q rfl rfl))) (nn_ct (nn_ct (nn_ct (nn_q rfl rfl) (nn_q rfl rfl)) (nn_q rfl rfl)) (nn_ct (nn_ct (nn_q rfl rfl) (nn_q rfl rfl)) (nn_q rfl rfl)))) (nn_ct (nn_ct (nn_ct (nn_ct (nn_q rfl rfl) (nn_q rfl rfl)) (nn_q rfl rfl)) (nn_ct (nn_ct (nn_q rfl rfl) (nn_q rfl rfl)) (nn_q rfl rfl))) (nn_ct (nn_ct (nn_ct (nn_q rfl rfl) (nn_q rfl rfl)) (nn_q rfl rfl)) (nn_ct (nn_q rfl rfl) (nn_q rfl rfl)))))
theorem pj_106 : pr_K (pr_i106, pr_m106) := pm_1 (by decide +kernel) pk_106 ⟨rfl, rfl⟩ pz_106
theorem pz_107 : ∀ pc, Nat.beq (pr_c107 pc).1 46 = false := by
  unfold pr_c107
  exact (nn_ct (nn_ct (nn_ct (nn_ct (nn_ct (nn_q rfl rfl) (nn_q rfl rfl)) (nn_ct (nn_q rfl rfl) (nn_q rfl rfl))) (nn_ct (nn_ct (nn_q rfl rfl) (nn_q rfl rfl)) (nn_q rfl rfl))) (nn_ct (nn_ct (nn_ct (nn_q rfl rfl) (nn_q rfl rfl)) (nn_ct (nn_q rfl rfl) (nn_q rfl rfl))) (nn_ct (nn_ct (nn_q rfl rfl) (nn_q rfl rfl)) (nn_q rfl rfl)))) (nn_ct (nn_ct (nn_ct (nn_ct (nn_q rfl rfl) (nn_q rfl rfl)) (nn_ct (nn_q rfl rfl) (nn_q rfl rfl))) (nn_ct (nn_ct (nn_q rfl rfl) (nn_q rfl rfl)) (nn_q rfl rfl))) (nn_ct (nn_ct (nn_ct (nn_q rfl rfl) (nn_q rfl rfl)) (nn_q rfl rfl)) (nn_ct (nn_ct (nn_q rfl rfl) (nn_q rfl rfl)) (nn_q rfl rfl)))))
theorem pj_107 : pr_K (pr_i107, pr_m107) := pm_1 (by decide +kernel) pk_107 ⟨rfl, rfl⟩ pz_107
theorem pz_108 : ∀ pc, Nat.beq (pr_c108 pc).1 46 = false := by
  unfold pr_c108
  exact (nn_ct (nn_ct (nn_ct (nn_ct (nn_q rfl rfl) (nn_q rfl rfl)) (nn_ct (nn_q rfl rfl) (nn_q rfl rfl))) (nn_ct (nn_ct (nn_q rfl rfl) (nn_q rfl rfl)) (nn_ct (nn_q rfl rfl) (nn_q rfl rfl)))) (nn_ct (nn_ct (nn_ct (nn_q rfl rfl) (nn_q rfl rfl)) (nn_ct (nn_q rfl rfl) (nn_q rfl rfl))) (nn_ct (nn_ct (nn_q rfl rfl) (nn_q rfl rfl)) (nn_ct (nn_q rfl rfl) (nn_q rfl rfl)))))
theorem pj_108 : pr_K (pr_i108, pr_m108) := pm_1 (by decide +kernel) pk_108 ⟨rfl, rfl⟩ pz_108
theorem pz_109 : ∀ pc, Nat.beq (pr_c109 pc).1 46 = false := by
  unfold pr_c109
  exact (nn_ct (nn_ct (nn_ct (nn_q rfl rfl) (nn_q rfl rfl)) (nn_q rfl rfl)) (nn_ct (nn_ct (nn_q rfl rfl) (nn_q rfl rfl)) (nn_q rfl rfl)))
theorem pj_109 : pr_K (pr_i109, pr_m109) := pm_1 (by decide +kernel) pk_109 ⟨rfl, rfl⟩ pz_109
theorem pz_110 : ∀ pc, Nat.beq (pr_c110 pc).1 46 = false := by
  unfold pr_c110
  exact (nn_ct (nn_ct (nn_ct (nn_ct (nn_ct (nn_q rfl rfl) (nn_q rfl rfl)) (nn_ct (nn_q rfl rfl) (nn_q rfl rfl))) (nn_ct (nn_ct (nn_q rfl rfl) (nn_q rfl rfl)) (nn_ct (nn_q rfl rfl) (nn_q rfl rfl)))) (nn_ct (nn_ct (nn_ct (nn_q rfl rfl) (nn_q rfl rfl)) (nn_ct (nn_q rfl rfl) (nn_q rfl rfl))) (nn_ct (nn_ct (nn_q rfl rfl) (nn_q rfl rfl)) (nn_ct (nn_q rfl rfl) (nn_q rfl rfl))))) (nn_ct (nn_ct (nn_ct (nn_ct (nn_q rfl rfl) (nn_q rfl rfl)) (nn_ct (nn_q rfl rfl) (nn_q rfl rfl))) (nn_ct (nn_ct (nn_q rfl rfl) (nn_q rfl rfl)) (nn_ct (nn_q rfl rfl) (nn_q rfl rfl)))) (nn_ct (nn_ct (nn_ct (nn_q rfl rfl) (nn_q rfl rfl)) (nn_ct (nn_q rfl rfl) (nn_q rfl rfl))) (nn_ct (nn_ct (nn_q rfl rfl) (nn_q rfl rfl)) (nn_ct (nn_q rfl rfl) (nn_q rfl rfl))))))
theorem pj_110 : pr_K (pr_i110, pr_m110) := pm_1 (by decide +kernel) pk_110 ⟨rfl, rfl⟩ pz_110
theorem pz_127 : ∀ pc, Nat.beq (pr_c127 pc).1 46 = false := by
  unfold pr_c127
  exact (nn_ct (nn_ct (nn_ct (nn_q rfl rfl) (nn_q rfl rfl)) (nn_q rfl rfl)) (nn_ct (nn_q rfl rfl) (nn_q rfl rfl)))
theorem pj_127 : pr_K (pr_i127, pr_m127) := pm_1 (by decide +kernel) pk_127 ⟨rfl, rfl⟩ pz_127
theorem pz_128 : ∀ pc, Nat.beq (pr_c128 pc).1 46 = false := by
  unfold pr_c128
  exact (nn_ct (nn_ct (nn_ct (nn_ct (nn_ct (nn_ct (nn_q rfl rfl) (nn_q rfl rfl)) (nn_ct (nn_q rfl rfl) (nn_q rfl rfl))) (nn_ct (nn_ct (nn_q rfl rfl) (nn_q rfl rfl)) (nn_q rfl rfl))) (nn_ct (nn_ct (nn_ct (nn_q rfl rfl) (nn_q rfl rfl)) (nn_ct (nn_q rfl rfl) (nn_q rfl rfl))) (nn_ct (nn_ct (nn_q rfl rfl) (nn_q rfl rfl)) (nn_q rfl rfl)))) (nn_ct (nn_ct (nn_ct (nn_ct (nn_q rfl rfl) (nn_q rfl rfl)) (nn_ct (nn_q rfl rfl) (nn_q rfl rfl))) (nn_ct (nn_ct (nn_q rfl rfl) (nn_q rfl rfl)) (nn_q rfl rfl))) (nn_ct (nn_ct (nn_ct (nn_q rfl rfl) (nn_q rfl rfl)) (nn_q rfl rfl)) (nn_ct (nn_ct (nn_q rfl rfl) (nn_q rfl rfl)) (nn_q rfl rfl))))) (nn_ct (nn_ct (nn_ct (nn_ct (nn_ct (nn_q rfl rfl) (nn_q rfl rfl)) (nn_ct (nn_q rfl rfl) (nn_q rfl rfl))) (nn_ct (nn_ct (nn_q rfl rfl) (nn_q rfl rfl)) (nn_q rfl rfl))) (nn_ct (nn_ct (nn_ct (nn_q rfl rfl) (nn_q rfl rfl)) (nn_ct (nn_q rfl rfl) (nn_q rfl rfl))) (nn_ct (nn_ct (nn_q rfl rfl) (nn_q rfl rfl)) (nn_q rfl rfl)))) (nn_ct (nn_ct (nn_ct (nn_ct (nn_q rfl rfl) (nn_q rfl rfl)) (nn_ct (nn_q rfl rfl) (nn_q rfl rfl))) (nn_ct (nn_ct (nn_q rfl rfl) (nn_q rfl rfl)) (nn_q rfl rfl))) (nn_ct (nn_ct (nn_ct (nn_q rfl rfl) (nn_q rfl rfl)) (nn_q rfl rfl)) (nn_ct (nn_ct (nn_q rfl rfl) (nn_q rfl rfl)) (nn_q rfl rfl))))))
theorem pj_128 : pr_K (pr_i128, pr_m128) := pm_1 (by decide +kernel) pk_128 ⟨rfl, rfl⟩ pz_128
theorem pz_129 : ∀ pc, Nat.beq (pr_c129 pc).1 46 = false := by
  unfold pr_c129
  exact (nn_ct (nn_ct (nn_ct (nn_q rfl rfl) (nn_q rfl rfl)) (nn_q rfl rfl)) (nn_ct (nn_ct (nn_q rfl rfl) (nn_q rfl rfl)) (nn_q rfl rfl)))
theorem pj_129 : pr_K (pr_i129, pr_m129) := pm_1 (by decide +kernel) pk_129 ⟨rfl, rfl⟩ pz_129
theorem pz_130 : ∀ pc, Nat.beq (pr_c130 pc).1 46 = false := by
  unfold pr_c130
  exact (nn_ct (nn_ct (nn_ct (nn_q rfl rfl) (nn_q rfl rfl)) (nn_q rfl rfl)) (nn_ct (nn_ct (nn_q rfl rfl) (nn_q rfl rfl)) (nn_q rfl rfl)))
theorem pj_130 : pr_K (pr_i130, pr_m130) := pm_1 (by decide +kernel) pk_130 ⟨rfl, rfl⟩ pz_130
theorem pz_131 : ∀ pc, Nat.beq (pr_c131 pc).1 46 = false := by
  unfold pr_c131
  exact (nn_ct (nn_ct (nn_ct (nn_ct (nn_ct (nn_q rfl rfl) (nn_q rfl rfl)) (nn_ct (nn_q rfl rfl) (nn_q rfl rfl))) (nn_ct (nn_ct (nn_q rfl rfl) (nn_q rfl rfl)) (nn_q rfl rfl))) (nn_ct (nn_ct (nn_ct (nn_q rfl rfl) (nn_q rfl rfl)) (nn_ct (nn_q rfl rfl) (nn_q rfl rfl))) (nn_ct (nn_ct (nn_q rfl rfl) (nn_q rfl rfl)) (nn_q rfl rfl)))) (nn_ct (nn_ct (nn_ct (nn_ct (nn_q rfl rfl) (nn_q rfl rfl)) (nn_ct (nn_q rfl rfl) (nn_q rfl rfl))) (nn_ct (nn_ct (nn_q rfl rfl) (nn_q rfl rfl)) (nn_q rfl rfl))) (nn_ct (nn_ct (nn_ct (nn_q rfl rfl) (nn_q rfl rfl)) (nn_ct (nn_q rfl rfl) (nn_q rfl rfl))) (nn_ct (nn_ct (nn_q rfl rfl) (nn_q rfl rfl)) (nn_q rfl rfl)))))
theorem pj_131 : pr_K (pr_i131, pr_m131) := pm_1 (by decide +kernel) pk_131 ⟨rfl, rfl⟩ pz_131
theorem pz_132 : ∀ pc, Nat.beq (pr_c132 pc).1 46 = false := by
  unfold pr_c132
  exact (nn_ct (nn_ct (nn_ct (nn_ct (nn_ct (nn_q rfl rfl) (nn_q rfl rfl)) (nn_ct (nn_q rfl rfl) (nn_q rfl rfl))) (nn_ct (nn_ct (nn_q rfl rfl) (nn_q rfl rfl)) (nn_q rfl rfl))) (nn_ct (nn_ct (nn_ct (nn_q rfl rfl) (nn_q rfl rfl)) (nn_q rfl rfl)) (nn_ct (nn_ct (nn_q rfl rfl) (nn_q rfl rfl)) (nn_q rfl rfl)))) (nn_ct (nn_ct (nn_ct (nn_ct (nn_q rfl rfl) (nn_q rfl rfl)) (nn_ct (nn_q rfl rfl) (nn_q rfl rfl))) (nn_ct (nn_ct (nn_q rfl rfl) (nn_q rfl rfl)) (nn_q rfl rfl))) (nn_ct (nn_ct (nn_ct (nn_q rfl rfl) (nn_q rfl rfl)) (nn_q rfl rfl)) (nn_ct (nn_ct (nn_q rfl rfl) (nn_q rfl rfl)) (nn_q rfl rfl)))))
theorem pj_132 : pr_K (pr_i132, pr_m132) := pm_1 (by decide +kernel) pk_132 ⟨rfl, rfl⟩ pz_132
theorem pz_133 : ∀ pc, Nat.beq (pr_c133 pc).1 46 = false := by
  unfold pr_c133
  exact (nn_ct (nn_ct (nn_ct (nn_ct (nn_ct (nn_q rfl rfl) (nn_q rfl rfl)) (nn_ct (nn_q rfl rfl) (nn_q rfl rfl))) (nn_ct (nn_ct (nn_q rfl rfl) (nn_q rfl rfl)) (nn_q rfl rfl))) (nn_ct (nn_ct (nn_ct (nn_q rfl rfl) (nn_q rfl rfl)) (nn_ct (nn_q rfl rfl) (nn_q rfl rfl))) (nn_ct (nn_ct (nn_q rfl rfl) (nn_q rfl rfl)) (nn_q rfl rfl)))) (nn_ct (nn_ct (nn_ct (nn_ct (nn_q rfl rfl) (nn_q rfl rfl)) (nn_ct (nn_q rfl rfl) (nn_q rfl rfl))) (nn_ct (nn_ct (nn_q rfl rfl) (nn_q rfl rfl)) (nn_q rfl rfl))) (nn_ct (nn_ct (nn_ct (nn_q rfl rfl) (nn_q rfl rfl)) (nn_q rfl rfl)) (nn_ct (nn_ct (nn_q rfl rfl) (nn_q rfl rfl)) (nn_q rfl rfl)))))
theorem pj_133 : pr_K (pr_i133, pr_m133) := pm_1 (by decide +kernel) pk_133 ⟨rfl, rfl⟩ pz_133
theorem pz_134 : ∀ pc, Nat.beq (pr_c134 pc).1 46 = false := by
  unfold pr_c134
  exact (nn_ct (nn_ct (nn_ct (nn_ct (nn_ct (nn_ct (nn_q rfl rfl) (nn_q rfl rfl)) (nn_ct (nn_q rfl rfl) (nn_q rfl rfl))) (nn_ct (nn_ct (nn_q rfl rfl) (nn_q rfl rfl)) (nn_q rfl rfl))) (nn_ct (nn_ct (nn_ct (nn_q rfl rfl) (nn_q rfl rfl)) (nn_q rfl rfl)) (nn_ct (nn_ct (nn_q rfl rfl) (nn_q rfl rfl)) (nn_q rfl rfl)))) (nn_ct (nn_ct (nn_ct (nn_ct (nn_q rfl rfl) (nn_q rfl rfl)) (nn_ct (nn_q rfl rfl) (nn_q rfl rfl))) (nn_ct (nn_ct (nn_q rfl rfl) (nn_q rfl rfl)) (nn_q rfl rfl))) (nn_ct (nn_ct (nn_ct (nn_q rfl rfl) (nn_q rfl rfl)) (nn_q rfl rfl)) (nn_ct (nn_ct (nn_q rfl rfl) (nn_q rfl rfl)) (nn_q rfl rfl))))) (nn_ct (nn_ct (nn_ct (nn_ct (nn_ct (nn_q rfl rfl) (nn_q rfl rfl)) (nn_ct (nn_q rfl rfl) (nn_q rfl rfl))) (nn_ct (nn_ct (nn_q rfl rfl) (nn_q rfl rfl)) (nn_q rfl rfl))) (nn_ct (nn_ct (nn_ct (nn_q rfl rfl) (nn_q rfl rfl)) (nn_q rfl rfl)) (nn_ct (nn_ct (nn_q rfl rfl) (nn_q rfl rfl)) (nn_q rfl rfl)))) (nn_ct (nn_ct (nn_ct (nn_ct (nn_q rfl rfl) (nn_q rfl rfl)) (nn_ct (nn_q rfl rfl) (nn_q rfl rfl))) (nn_ct (nn_ct (nn_q rfl rfl) (nn_q rfl rfl)) (nn_q rfl rfl))) (nn_ct (nn_ct (nn_ct (nn_q rfl rfl) (nn_q rfl rfl)) (nn_q rfl rfl)) (nn_ct (nn_ct (nn_q rfl rfl) (nn_q rfl rfl)) (nn_q rfl rfl))))))
theorem pj_134 : pr_K (pr_i134, pr_m134) := pm_1 (by decide +kernel) pk_134 ⟨rfl, rfl⟩ pz_134
theorem pz_135 : ∀ pc, Nat.beq (pr_c135 pc).1 46 = false := by
  unfold pr_c135
  exact (nn_ct (nn_ct (nn_ct (nn_ct (nn_ct (nn_q rfl rfl) (nn_q rfl rfl)) (nn_q rfl rfl)) (nn_ct (nn_q rfl rfl) (nn_q rfl rfl))) (nn_ct (nn_ct (nn_ct (nn_q rfl rfl) (nn_q rfl rfl)) (nn_q rfl rfl)) (nn_ct (nn_q rfl rfl) (nn_q rfl rfl)))) (nn_ct (nn_ct (nn_ct (nn_ct (nn_q rfl rfl) (nn_q rfl rfl)) (nn_q rfl rfl)) (nn_ct (nn_q rfl rfl) (nn_q rfl rfl))) (nn_ct (nn_ct (nn_ct (nn_q rfl rfl) (nn_q rfl rfl)) (nn_q rfl rfl)) (nn_ct (nn_q rfl rfl) (nn_q rfl rfl)))))
theorem pj_135 : pr_K (pr_i135, pr_m135) := pm_1 (by decide +kernel) pk_135 ⟨rfl, rfl⟩ pz_135
theorem pz_136 : ∀ pc, Nat.beq (pr_c136 pc).1 46 = false := by
  unfold pr_c136
  exact (nn_ct (nn_ct (nn_ct (nn_ct (nn_ct (nn_q rfl rfl) (nn_q rfl rfl)) (nn_q rfl rfl)) (nn_ct (nn_q rfl rfl) (nn_q rfl rfl))) (nn_ct (nn_ct (nn_q rfl rfl) (nn_q rfl rfl)) (nn_ct (nn_q rfl rfl) (nn_q rfl rfl)))) (nn_ct (nn_ct (nn_ct (nn_q rfl rfl) (nn_q rfl rfl)) (nn_ct (nn_q rfl rfl) (nn_q rfl rfl))) (nn_ct (nn_ct (nn_q rfl rfl) (nn_q rfl rfl)) (nn_ct (nn_q rfl rfl) (nn_q rfl rfl)))))
theorem pj_136 : pr_K (pr_i136, pr_m136) := pm_1 (by decide +kernel) pk_136 ⟨rfl, rfl⟩ pz_136
theorem pz_137 : ∀ pc, Nat.beq (pr_c137 pc).1 46 = false := by
  unfold pr_c137
  exact (nn_ct (nn_ct (nn_ct (nn_ct (nn_q rfl rfl) (nn_q rfl rfl)) (nn_ct (nn_q rfl rfl) (nn_q rfl rfl))) (nn_ct (nn_ct (nn_q rfl rfl) (nn_q rfl rfl)) (nn_ct (nn_q rfl rfl) (nn_q rfl rfl)))) (nn_ct (nn_ct (nn_ct (nn_q rfl rfl) (nn_q rfl rfl)) (nn_ct (nn_q rfl rfl) (nn_q rfl rfl))) (nn_ct (nn_ct (nn_q rfl rfl) (nn_q rfl rfl)) (nn_q rfl rfl))))
theorem pj_137 : pr_K (pr_i137, pr_m137) := pm_1 (by decide +kernel) pk_137 ⟨rfl, rfl⟩ pz_137
theorem pz_138 : ∀ pc, Nat.beq (pr_c138 pc).1 46 = false := by
  unfold pr_c138
  exact (nn_ct (nn_ct (nn_ct (nn_ct (nn_ct (nn_ct (nn_ct (nn_q rfl rfl) (nn_q rfl rfl)) (nn_ct (nn_q rfl rfl) (nn_q rfl rfl))) (nn_ct (nn_ct (nn_q rfl rfl) (nn_q rfl rfl)) (nn_q rfl rfl))) (nn_ct (nn_ct (nn_ct (nn_q rfl rfl) (nn_q rfl rfl)) (nn_ct (nn_q rfl rfl) (nn_q rfl rfl))) (nn_ct (nn_ct (nn_q rfl rfl) (nn_q rfl rfl)) (nn_q rfl rfl)))) (nn_ct (nn_ct (nn_ct (nn_ct (nn_q rfl rfl) (nn_q rfl rfl)) (nn_ct (nn_q rfl rfl) (nn_q rfl rfl))) (nn_ct (nn_ct (nn_q rfl rfl) (nn_q rfl rfl)) (nn_q rfl rfl))) (nn_ct (nn_ct (nn_ct (nn_q rfl rfl) (nn_q rfl rfl)) (nn_ct (nn_q rfl rfl) (nn_q rfl rfl))) (nn_ct (nn_ct (nn_q rfl rfl) (nn_q rfl rfl)) (nn_q rfl rfl))))) (nn_ct (nn_ct (nn_ct (nn_ct (nn_ct (nn_q rfl rfl) (nn_q rfl rfl)) (nn_ct (nn_q rfl rfl) (nn_q rfl rfl))) (nn_ct (nn_ct (nn_q rfl rfl) (nn_q rfl rfl)) (nn_q rfl rfl))) (nn_ct (nn_ct (nn_ct (nn_q rfl rfl) (nn_q rfl rfl)) (nn_ct (nn_q rfl rfl) (nn_q rfl rfl))) (nn_ct (nn_ct (nn_q rfl rfl) (nn_q rfl rfl)) (nn_q rfl rfl)))) (nn_ct (nn_ct (nn_ct (nn_ct (nn_q rfl rfl) (nn_q rfl rfl)) (nn_ct (nn_q rfl rfl) (nn_q rfl rfl))) (nn_ct (nn_ct (nn_q rfl rfl) (nn_q rfl rfl)) (nn_q rfl rfl))) (nn_ct (nn_ct (nn_ct (nn_q rfl rfl) (nn_q rfl rfl)) (nn_ct (nn_q rfl rfl) (nn_q rfl rfl))) (nn_ct (nn_ct (nn_q rfl rfl) (nn_q rfl rfl)) (nn_q rfl rfl)))))) (nn_ct (nn_ct (nn_ct (nn_ct (nn_ct (nn_ct (nn_q rfl rfl) (nn_q rfl rfl)) (nn_ct (nn_q rfl rfl) (nn_q rfl rfl))) (nn_ct (nn_ct (nn_q rfl rfl) (nn_q rfl rfl)) (nn_q rfl rfl))) (nn_ct (nn_ct (nn_ct (nn_q rfl rfl) (nn_q rfl rfl)) (nn_ct (nn_q rfl rfl) (nn_q rfl rfl))) (nn_ct (nn_ct (nn_q rfl rfl) (nn_q rfl rfl)) (nn_q rfl rfl)))) (nn_ct (nn_ct (nn_ct (nn_ct (nn_q rfl rfl) (nn_q rfl rfl)) (nn_ct (nn_q rfl rfl) (nn_q rfl rfl))) (nn_ct (nn_ct (nn_q rfl rfl) (nn_q rfl rfl)) (nn_q rfl rfl))) (nn_ct (nn_ct (nn_ct (nn_q rfl rfl) (nn_q rfl rfl)) (nn_ct (nn_q rfl rfl) (nn_q rfl rfl))) (nn_ct (nn_ct (nn_q rfl rfl) (nn_q rfl rfl)) (nn_q rfl rfl))))) (nn_ct (nn_ct (nn_ct (nn_ct (nn_ct (nn_q rfl rfl) (nn_q rfl rfl)) (nn_ct (nn_q rfl rfl) (nn_q rfl rfl))) (nn_ct (nn_ct (nn_q rfl rfl) (nn_q rfl rfl)) (nn_q rfl rfl))) (nn_ct (nn_ct (nn_ct (nn_q rfl rfl) (nn_q rfl rfl)) (nn_ct (nn_q rfl rfl) (nn_q rfl rfl))) (nn_ct (nn_ct (nn_q rfl rfl) (nn_q rfl rfl)) (nn_q rfl rfl)))) (nn_ct (nn_ct (nn_ct (nn_ct (nn_q rfl rfl) (nn_q rfl rfl)) (nn_ct (nn_q rfl rfl) (nn_q rfl rfl))) (nn_ct (nn_ct (nn_q rfl rfl) (nn_q rfl rfl)) (nn_q rfl rfl))) (nn_ct (nn_ct (nn_ct (nn_q rfl rfl) (nn_q rfl rfl)) (nn_ct (nn_q rfl rfl) (nn_q rfl rfl))) (nn_ct (nn_ct (nn_q rfl rfl) (nn_q rfl rfl)) (nn_q rfl rfl)))))))
theorem pj_138 : pr_K (pr_i138, pr_m138) := pm_1 (by decide +kernel) pk_138 ⟨rfl, rfl⟩ pz_138
theorem pz_139 : ∀ pc, Nat.beq (pr_c139 pc).1 46 = false := by
  unfold pr_c139
  exact (nn_ct (nn_ct (nn_ct (nn_ct (nn_q rfl rfl) (nn_q rfl rfl)) (nn_q rfl rfl)) (nn_ct (nn_ct (nn_q rfl rfl) (nn_q rfl rfl)) (nn_q rfl rfl))) (nn_ct (nn_ct (nn_ct (nn_q rfl rfl) (nn_q rfl rfl)) (nn_q rfl rfl)) (nn_ct (nn_ct (nn_q rfl rfl) (nn_q rfl rfl)) (nn_q rfl rfl))))
theorem pj_139 : pr_K (pr_i139, pr_m139) := pm_1 (by decide +kernel) pk_139 ⟨rfl, rfl⟩ pz_139
theorem pz_140 : ∀ pc, Nat.beq (pr_c140 pc).1 46 = false := by
  unfold pr_c140
  exact (nn_ct (nn_ct (nn_ct (nn_ct (nn_ct (nn_q rfl rfl) (nn_q rfl rfl)) (nn_q rfl rfl)) (nn_ct (nn_q rfl rfl) (nn_q rfl rfl))) (nn_ct (nn_ct (nn_q rfl rfl) (nn_q rfl rfl)) (nn_ct (nn_q rfl rfl) (nn_q rfl rfl)))) (nn_ct (nn_ct (nn_ct (nn_q rfl rfl) (nn_q rfl rfl)) (nn_ct (nn_q rfl rfl) (nn_q rfl rfl))) (nn_ct (nn_ct (nn_q rfl rfl) (nn_q rfl rfl)) (nn_ct (nn_q rfl rfl) (nn_q rfl rfl)))))
theorem pj_140 : pr_K (pr_i140, pr_m140) := pm_1 (by decide +kernel) pk_140 ⟨rfl, rfl⟩ pz_140
theorem pz_141 : ∀ pc, Nat.beq (pr_c141 pc).1 46 = false := by
  unfold pr_c141
  exact (nn_ct (nn_ct (nn_ct (nn_ct (nn_ct (nn_q rfl rfl) (nn_q rfl rfl)) (nn_q rfl rfl)) (nn_ct (nn_ct (nn_q rfl rfl) (nn_q rfl rfl)) (nn_q rfl rfl))) (nn_ct (nn_ct (nn_ct (nn_q rfl rfl) (nn_q rfl rfl)) (nn_q rfl rfl)) (nn_ct (nn_q rfl rfl) (nn_q rfl rfl)))) (nn_ct (nn_ct (nn_ct (nn_ct (nn_q rfl rfl) (nn_q rfl rfl)) (nn_q rfl rfl)) (nn_ct (nn_ct (nn_q rfl rfl) (nn_q rfl rfl)) (nn_q rfl rfl))) (nn_ct (nn_ct (nn_ct (nn_q rfl rfl) (nn_q rfl rfl)) (nn_q rfl rfl)) (nn_ct (nn_q rfl rfl) (nn_q rfl rfl)))))
theorem pj_141 : pr_K (pr_i141, pr_m141) := pm_1 (by decide +kernel) pk_141 ⟨rfl, rfl⟩ pz_141
theorem pz_142 : ∀ pc, Nat.beq (pr_c142 pc).1 46 = false := by
  unfold pr_c142
  exact (nn_ct (nn_ct (nn_ct (nn_ct (nn_q rfl rfl) (nn_q rfl rfl)) (nn_q rfl rfl)) (nn_ct (nn_q rfl rfl) (nn_q rfl rfl))) (nn_ct (nn_ct (nn_ct (nn_q rfl rfl) (nn_q rfl rfl)) (nn_q rfl rfl)) (nn_ct (nn_q rfl rfl) (nn_q rfl rfl))))
theorem pj_142 : pr_K (pr_i142, pr_m142) := pm_1 (by decide +kernel) pk_142 ⟨rfl, rfl⟩ pz_142
theorem pz_143 : ∀ pc, Nat.beq (pr_c143 pc).1 46 = false := by
  unfold pr_c143
  exact (nn_ct (nn_ct (nn_ct (nn_ct (nn_ct (nn_q rfl rfl) (nn_q rfl rfl)) (nn_q rfl rfl)) (nn_ct (nn_q rfl rfl) (nn_q rfl rfl))) (nn_ct (nn_ct (nn_q rfl rfl) (nn_q rfl rfl)) (nn_ct (nn_q rfl rfl) (nn_q rfl rfl)))) (nn_ct (nn_ct (nn_ct (nn_q rfl rfl) (nn_q rfl rfl)) (nn_ct (nn_q rfl rfl) (nn_q rfl rfl))) (nn_ct (nn_ct (nn_q rfl rfl) (nn_q rfl rfl)) (nn_ct (nn_q rfl rfl) (nn_q rfl rfl)))))
theorem pj_143 : pr_K (pr_i143, pr_m143) := pm_1 (by decide +kernel) pk_143 ⟨rfl, rfl⟩ pz_143
theorem pz_144 : ∀ pc, Nat.beq (pr_c144 pc).1 46 = false := by
  unfold pr_c144
  exact (nn_ct (nn_ct (nn_ct (nn_ct (nn_ct (nn_q rfl rfl) (nn_q rfl rfl)) (nn_q rfl rfl)) (nn_ct (nn_ct (nn_q rfl rfl) (nn_q rfl rfl)) (nn_q rfl rfl))) (nn_ct (nn_ct (nn_ct (nn_q rfl rfl) (nn_q rfl rfl)) (nn_q rfl rfl)) (nn_ct (nn_ct (nn_q rfl rfl) (nn_q rfl rfl)) (nn_q rfl rfl)))) (nn_ct (nn_ct (nn_ct (nn_ct (nn_q rfl rfl) (nn_q rfl rfl)) (nn_q rfl rfl)) (nn_ct (nn_ct (nn_q rfl rfl) (nn_q rfl rfl)) (nn_q rfl rfl))) (nn_ct (nn_ct (nn_ct (nn_q rfl rfl) (nn_q rfl rfl)) (nn_q rfl rfl)) (nn_ct (nn_q rfl rfl) (nn_q rfl rfl)))))
theorem pj_144 : pr_K (pr_i144, pr_m144) := pm_1 (by decide +kernel) pk_144 ⟨rfl, rfl⟩ pz_144
theorem pz_145 : ∀ pc, Nat.beq (pr_c145 pc).1 46 = false := by
  unfold pr_c145
  exact (nn_ct (nn_ct (nn_ct (nn_q rfl rfl) (nn_q rfl rfl)) (nn_ct (nn_q rfl rfl) (nn_q rfl rfl))) (nn_ct (nn_ct (nn_q rfl rfl) (nn_q rfl rfl)) (nn_q rfl rfl)))
theorem pj_145 : pr_K (pr_i145, pr_m145) := pm_1 (by decide +kernel) pk_145 ⟨rfl, rfl⟩ pz_145
theorem pz_146 : ∀ pc, Nat.beq (pr_c146 pc).1 46 = false := by
  unfold pr_c146
  exact (nn_ct (nn_ct (nn_ct (nn_ct (nn_ct (nn_q rfl rfl) (nn_q rfl rfl)) (nn_ct (nn_q rfl rfl) (nn_q rfl rfl))) (nn_ct (nn_ct (nn_q rfl rfl) (nn_q rfl rfl)) (nn_q rfl rfl))) (nn_ct (nn_ct (nn_ct (nn_q rfl rfl) (nn_q rfl rfl)) (nn_q rfl rfl)) (nn_ct (nn_ct (nn_q rfl rfl) (nn_q rfl rfl)) (nn_q rfl rfl)))) (nn_ct (nn_ct (nn_ct (nn_ct (nn_q rfl rfl) (nn_q rfl rfl)) (nn_q rfl rfl)) (nn_ct (nn_ct (nn_q rfl rfl) (nn_q rfl rfl)) (nn_q rfl rfl))) (nn_ct (nn_ct (nn_ct (nn_q rfl rfl) (nn_q rfl rfl)) (nn_q rfl rfl)) (nn_ct (nn_ct (nn_q rfl rfl) (nn_q rfl rfl)) (nn_q rfl rfl)))))
theorem pj_146 : pr_K (pr_i146, pr_m146) := pm_1 (by decide +kernel) pk_146 ⟨rfl, rfl⟩ pz_146
theorem pz_147 : ∀ pc, Nat.beq (pr_c147 pc).1 46 = false := by
  unfold pr_c147
  exact (nn_ct (nn_ct (nn_ct (nn_ct (nn_q rfl rfl) (nn_q rfl rfl)) (nn_q rfl rfl)) (nn_ct (nn_ct (nn_q rfl rfl) (nn_q rfl rfl)) (nn_q rfl rfl))) (nn_ct (nn_ct (nn_ct (nn_q rfl rfl) (nn_q rfl rfl)) (nn_q rfl rfl)) (nn_ct (nn_ct (nn_q rfl rfl) (nn_q rfl rfl)) (nn_q rfl rfl))))
theorem pj_147 : pr_K (pr_i147, pr_m147) := pm_1 (by decide +kernel) pk_147 ⟨rfl, rfl⟩ pz_147
theorem pz_148 : ∀ pc, Nat.beq (pr_c148 pc).1 46 = false := by
  unfold pr_c148
  exact (nn_ct (nn_ct (nn_ct (nn_ct (nn_ct (nn_q rfl rfl) (nn_q rfl rfl)) (nn_q rfl rfl)) (nn_ct (nn_ct (nn_q rfl rfl) (nn_q rfl rfl)) (nn_q rfl rfl))) (nn_ct (nn_ct (nn_ct (nn_q rfl rfl) (nn_q rfl rfl)) (nn_q rfl rfl)) (nn_ct (nn_ct (nn_q rfl rfl) (nn_q rfl rfl)) (nn_q rfl rfl)))) (nn_ct (nn_ct (nn_ct (nn_ct (nn_q rfl rfl) (nn_q rfl rfl)) (nn_q rfl rfl)) (nn_ct (nn_ct (nn_q rfl rfl) (nn_q rfl rfl)) (nn_q rfl rfl))) (nn_ct (nn_ct (nn_ct (nn_q rfl rfl) (nn_q rfl rfl)) (nn_q rfl rfl)) (nn_ct (nn_ct (nn_q rfl rfl) (nn_q rfl rfl)) (nn_q rfl rfl)))))
theorem pj_148 : pr_K (pr_i148, pr_m148) := pm_1 (by decide +kernel) pk_148 ⟨rfl, rfl⟩ pz_148
theorem pz_149 : ∀ pc, Nat.beq (pr_c149 pc).1 46 = false := by
  unfold pr_c149
  exact (nn_ct (nn_ct (nn_ct (nn_ct (nn_q rfl rfl) (nn_q rfl rfl)) (nn_q rfl rfl)) (nn_ct (nn_ct (nn_q rfl rfl) (nn_q rfl rfl)) (nn_q rfl rfl))) (nn_ct (nn_ct (nn_ct (nn_q rfl rfl) (nn_q rfl rfl)) (nn_q rfl rfl)) (nn_ct (nn_ct (nn_q rfl rfl) (nn_q rfl rfl)) (nn_q rfl rfl))))
theorem pj_149 : pr_K (pr_i149, pr_m149) := pm_1 (by decide +kernel) pk_149 ⟨rfl, rfl⟩ pz_149
theorem pz_150 : ∀ pc, Nat.beq (pr_c150 pc).1 46 = false := by
  unfold pr_c150
  exact (nn_ct (nn_ct (nn_ct (nn_ct (nn_q rfl rfl) (nn_q rfl rfl)) (nn_ct (nn_q rfl rfl) (nn_q rfl rfl))) (nn_ct (nn_ct (nn_q rfl rfl) (nn_q rfl rfl)) (nn_q rfl rfl))) (nn_ct (nn_ct (nn_ct (nn_q rfl rfl) (nn_q rfl rfl)) (nn_ct (nn_q rfl rfl) (nn_q rfl rfl))) (nn_ct (nn_ct (nn_q rfl rfl) (nn_q rfl rfl)) (nn_q rfl rfl))))
theorem pj_150 : pr_K (pr_i150, pr_m150) := pm_1 (by decide +kernel) pk_150 ⟨rfl, rfl⟩ pz_150
theorem pz_152 : ∀ pc, Nat.beq (pr_c152 pc).1 46 = false := by
  unfold pr_c152
  exact (nn_ct (nn_ct (nn_ct (nn_ct (nn_ct (nn_q rfl rfl) (nn_q rfl rfl)) (nn_q rfl rfl)) (nn_ct (nn_ct (nn_q rfl rfl) (nn_q rfl rfl)) (nn_q rfl rfl))) (nn_ct (nn_ct (nn_ct (nn_q rfl rfl) (nn_q rfl rfl)) (nn_q rfl rfl)) (nn_ct (nn_ct (nn_q rfl rfl) (nn_q rfl rfl)) (nn_q rfl rfl)))) (nn_ct (nn_ct (nn_ct (nn_ct (nn_q rfl rfl) (nn_q rfl rfl)) (nn_q rfl rfl)) (nn_ct (nn_ct (nn_q rfl rfl) (nn_q rfl rfl)) (nn_q rfl rfl))) (nn_ct (nn_ct (nn_ct (nn_q rfl rfl) (nn_q rfl rfl)) (nn_q rfl rfl)) (nn_ct (nn_ct (nn_q rfl rfl) (nn_q rfl rfl)) (nn_q rfl rfl)))))
theorem pj_152 : pr_K (pr_i152, pr_m152) := pm_1 (by decide +kernel) pk_152 ⟨rfl, rfl⟩ pz_152
theorem pz_153 : ∀ pc, Nat.beq (pr_c153 pc).1 46 = false := by
  unfold pr_c153
  exact (nn_ct (nn_ct (nn_ct (nn_ct (nn_ct (nn_q rfl rfl) (nn_q rfl rfl)) (nn_ct (nn_q rfl rfl) (nn_q rfl rfl))) (nn_ct (nn_ct (nn_q rfl rfl) (nn_q rfl rfl)) (nn_ct (nn_q rfl rfl) (nn_q rfl rfl)))) (nn_ct (nn_ct (nn_ct (nn_q rfl rfl) (nn_q rfl rfl)) (nn_ct (nn_q rfl rfl) (nn_q rfl rfl))) (nn_ct (nn_ct (nn_q rfl rfl) (nn_q rfl rfl)) (nn_q rfl rfl)))) (nn_ct (nn_ct (nn_ct (nn_ct (nn_q rfl rfl) (nn_q rfl rfl)) (nn_ct (nn_q rfl rfl) (nn_q rfl rfl))) (nn_ct (nn_ct (nn_q rfl rfl) (nn_q rfl rfl)) (nn_q rfl rfl))) (nn_ct (nn_ct (nn_ct (nn_q rfl rfl) (nn_q rfl rfl)) (nn_ct (nn_q rfl rfl) (nn_q rfl rfl))) (nn_ct (nn_ct (nn_q rfl rfl) (nn_q rfl rfl)) (nn_q rfl rfl)))))
theorem pj_153 : pr_K (pr_i153, pr_m153) := pm_1 (by decide +kernel) pk_153 ⟨rfl, rfl⟩ pz_153
theorem pz_154 : ∀ pc, Nat.beq (pr_c154 pc).1 46 = false := by
  unfold pr_c154
  exact (nn_ct (nn_ct (nn_ct (nn_ct (nn_ct (nn_q rfl rfl) (nn_q rfl rfl)) (nn_ct (nn_q rfl rfl) (nn_q rfl rfl))) (nn_ct (nn_ct (nn_q rfl rfl) (nn_q rfl rfl)) (nn_ct (nn_q rfl rfl) (nn_q rfl rfl)))) (nn_ct (nn_ct (nn_ct (nn_q rfl rfl) (nn_q rfl rfl)) (nn_ct (nn_q rfl rfl) (nn_q rfl rfl))) (nn_ct (nn_ct (nn_q rfl rfl) (nn_q rfl rfl)) (nn_ct (nn_q rfl rfl) (nn_q rfl rfl))))) (nn_ct (nn_ct (nn_ct (nn_ct (nn_q rfl rfl) (nn_q rfl rfl)) (nn_ct (nn_q rfl rfl) (nn_q rfl rfl))) (nn_ct (nn_ct (nn_q rfl rfl) (nn_q rfl rfl)) (nn_ct (nn_q rfl rfl) (nn_q rfl rfl)))) (nn_ct (nn_ct (nn_ct (nn_q rfl rfl) (nn_q rfl rfl)) (nn_ct (nn_q rfl rfl) (nn_q rfl rfl))) (nn_ct (nn_ct (nn_q rfl rfl) (nn_q rfl rfl)) (nn_ct (nn_q rfl rfl) (nn_q rfl rfl))))))
theorem pj_154 : pr_K (pr_i154, pr_m154) := pm_1 (by decide +kernel) pk_154 ⟨rfl, rfl⟩ pz_154
theorem pz_155 : ∀ pc, Nat.beq (pr_c155 pc).1 46 = false := by
  unfold pr_c155
  exact (nn_ct (nn_ct (nn_ct (nn_ct (nn_ct (nn_q rfl rfl) (nn_q rfl rfl)) (nn_q rfl rfl)) (nn_ct (nn_ct (nn_q rfl rfl) (nn_q rfl rfl)) (nn_q rfl rfl))) (nn_ct (nn_ct (nn_ct (nn_q rfl rfl) (nn_q rfl rfl)) (nn_q rfl rfl)) (nn_ct (nn_ct (nn_q rfl rfl) (nn_q rfl rfl)) (nn_q rfl rfl)))) (nn_ct (nn_ct (nn_ct (nn_ct (nn_q rfl rfl) (nn_q rfl rfl)) (nn_q rfl rfl)) (nn_ct (nn_ct (nn_q rfl rfl) (nn_q rfl rfl)) (nn_q rfl rfl))) (nn_ct (nn_ct (nn_ct (nn_q rfl rfl) (nn_q rfl rfl)) (nn_q rfl rfl)) (nn_ct (nn_ct (nn_q rfl rfl) (nn_q rfl rfl)) (nn_q rfl rfl)))))
theorem pj_155 : pr_K (pr_i155, pr_m155) := pm_1 (by decide +kernel) pk_155 ⟨rfl, rfl⟩ pz_155
theorem pz_156 : ∀ pc, Nat.beq (pr_c156 pc).1 46 = false := by
  unfold pr_c156
  exact (nn_ct (nn_ct (nn_ct (nn_q rfl rfl) (nn_q rfl rfl)) (nn_q rfl rfl)) (nn_ct (nn_ct (nn_q rfl rfl) (nn_q rfl rfl)) (nn_q rfl rfl)))
theorem pj_156 : pr_K (pr_i156, pr_m156) := pm_1 (by decide +kernel) pk_156 ⟨rfl, rfl⟩ pz_156
theorem pz_157 : ∀ pc, Nat.beq (pr_c157 pc).1 46 = false := by
  unfold pr_c157
  exact (nn_ct (nn_ct (nn_ct (nn_q rfl rfl) (nn_q rfl rfl)) (nn_q rfl rfl)) (nn_ct (nn_q rfl rfl) (nn_q rfl rfl)))
theorem pj_157 : pr_K (pr_i157, pr_m157) := pm_1 (by decide +kernel) pk_157 ⟨rfl, rfl⟩ pz_157
theorem pz_158 : ∀ pc, Nat.beq (pr_c158 pc).1 46 = false := by
  unfold pr_c158
  exact (nn_ct (nn_ct (nn_ct (nn_ct (nn_ct (nn_ct (nn_q rfl rfl) (nn_q rfl rfl)) (nn_q rfl rfl)) (nn_ct (nn_ct (nn_q rfl rfl) (nn_q rfl rfl)) (nn_q rfl rfl))) (nn_ct (nn_ct (nn_ct (nn_q rfl rfl) (nn_q rfl rfl)) (nn_q rfl rfl)) (nn_ct (nn_ct (nn_q rfl rfl) (nn_q rfl rfl)) (nn_q rfl rfl)))) (nn_ct (nn_ct (nn_ct (nn_ct (nn_q rfl rfl) (nn_q rfl rfl)) (nn_q rfl rfl)) (nn_ct (nn_ct (nn_q rfl rfl) (nn_q rfl rfl)) (nn_q rfl rfl))) (nn_ct (nn_ct (nn_ct (nn_q rfl rfl) (nn_q rfl rfl)) (nn_q rfl rfl)) (nn_ct (nn_q rfl rfl) (nn_q rfl rfl))))) (nn_ct (nn_ct (nn_ct (nn_ct (nn_ct (nn_q rfl rfl) (nn_q rfl rfl)) (nn_q rfl rfl)) (nn_ct (nn_ct (nn_q rfl rfl) (nn_q rfl rfl)) (nn_q rfl rfl))) (nn_ct (nn_ct (nn_ct (nn_q rfl rfl) (nn_q rfl rfl)) (nn_q rfl rfl)) (nn_ct (nn_ct (nn_q rfl rfl) (nn_q rfl rfl)) (nn_q rfl rfl)))) (nn_ct (nn_ct (nn_ct (nn_ct (nn_q rfl rfl) (nn_q rfl rfl)) (nn_q rfl rfl)) (nn_ct (nn_ct (nn_q rfl rfl) (nn_q rfl rfl)) (nn_q rfl rfl))) (nn_ct (nn_ct (nn_ct (nn_q rfl rfl) (nn_q rfl rfl)) (nn_q rfl rfl)) (nn_ct (nn_q rfl rfl) (nn_q rfl rfl))))))
theorem pj_158 : pr_K (pr_i158, pr_m158) := pm_1 (by decide +kernel) pk_158 ⟨rfl, rfl⟩ pz_158
theorem pz_159 : ∀ pc, Nat.beq (pr_c159 pc).1 46 = false := by
  unfold pr_c159
  exact (nn_ct (nn_ct (nn_ct (nn_ct (nn_ct (nn_q rfl rfl) (nn_q rfl rfl)) (nn_ct (nn_q rfl rfl) (nn_q rfl rfl))) (nn_ct (nn_ct (nn_q rfl rfl) (nn_q rfl rfl)) (nn_q rfl rfl))) (nn_ct (nn_ct (nn_ct (nn_q rfl rfl) (nn_q rfl rfl)) (nn_ct (nn_q rfl rfl) (nn_q rfl rfl))) (nn_ct (nn_ct (nn_q rfl rfl) (nn_q rfl rfl)) (nn_q rfl rfl)))) (nn_ct (nn_ct (nn_ct (nn_ct (nn_q rfl rfl) (nn_q rfl rfl)) (nn_ct (nn_q rfl rfl) (nn_q rfl rfl))) (nn_ct (nn_ct (nn_q rfl rfl) (nn_q rfl rfl)) (nn_q rfl rfl))) (nn_ct (nn_ct (nn_ct (nn_q rfl rfl) (nn_q rfl rfl)) (nn_q rfl rfl)) (nn_ct (nn_ct (nn_q rfl rfl) (nn_q rfl rfl)) (nn_q rfl rfl)))))
theorem pj_159 : pr_K (pr_i159, pr_m159) := pm_1 (by decide +kernel) pk_159 ⟨rfl, rfl⟩ pz_159
theorem pz_160 : ∀ pc, Nat.beq (pr_c160 pc).1 46 = false := by
  unfold pr_c160
  exact (nn_ct (nn_ct (nn_ct (nn_q rfl rfl) (nn_q rfl rfl)) (nn_ct (nn_q rfl rfl) (nn_q rfl rfl))) (nn_ct (nn_ct (nn_q rfl rfl) (nn_q rfl rfl)) (nn_q rfl rfl)))
theorem pj_160 : pr_K (pr_i160, pr_m160) := pm_1 (by decide +kernel) pk_160 ⟨rfl, rfl⟩ pz_160
theorem pz_161 : ∀ pc, Nat.beq (pr_c161 pc).1 46 = false := by
  unfold pr_c161
  exact (nn_ct (nn_ct (nn_ct (nn_ct (nn_ct (nn_q rfl rfl) (nn_q rfl rfl)) (nn_q rfl rfl)) (nn_ct (nn_q rfl rfl) (nn_q rfl rfl))) (nn_ct (nn_ct (nn_q rfl rfl) (nn_q rfl rfl)) (nn_ct (nn_q rfl rfl) (nn_q rfl rfl)))) (nn_ct (nn_ct (nn_ct (nn_ct (nn_q rfl rfl) (nn_q rfl rfl)) (nn_q rfl rfl)) (nn_ct (nn_q rfl rfl) (nn_q rfl rfl))) (nn_ct (nn_ct (nn_q rfl rfl) (nn_q rfl rfl)) (nn_ct (nn_q rfl rfl) (nn_q rfl rfl)))))
theorem pj_161 : pr_K (pr_i161, pr_m161) := pm_1 (by decide +kernel) pk_161 ⟨rfl, rfl⟩ pz_161
theorem pz_162 : ∀ pc, Nat.beq (pr_c162 pc).1 46 = false := by
  unfold pr_c162
  exact (nn_ct (nn_ct (nn_ct (nn_ct (nn_q rfl rfl) (nn_q rfl rfl)) (nn_ct (nn_q rfl rfl) (nn_q rfl rfl))) (nn_ct (nn_ct (nn_q rfl rfl) (nn_q rfl rfl)) (nn_q rfl rfl))) (nn_ct (nn_ct (nn_ct (nn_q rfl rfl) (nn_q rfl rfl)) (nn_ct (nn_q rfl rfl) (nn_q rfl rfl))) (nn_ct (nn_ct (nn_q rfl rfl) (nn_q rfl rfl)) (nn_q rfl rfl))))
theorem pj_162 : pr_K (pr_i162, pr_m162) := pm_1 (by decide +kernel) pk_162 ⟨rfl, rfl⟩ pz_162
theorem pz_163 : ∀ pc, Nat.beq (pr_c163 pc).1 46 = false := by
  unfold pr_c163
  exact (nn_ct (nn_ct (nn_ct (nn_ct (nn_ct (nn_q rfl rfl) (nn_q rfl rfl)) (nn_q rfl rfl)) (nn_ct (nn_ct (nn_q rfl rfl) (nn_q rfl rfl)) (nn_q rfl rfl))) (nn_ct (nn_ct (nn_ct (nn_q rfl rfl) (nn_q rfl rfl)) (nn_q rfl rfl)) (nn_ct (nn_q rfl rfl) (nn_q rfl rfl)))) (nn_ct (nn_ct (nn_ct (nn_ct (nn_q rfl rfl) (nn_q rfl rfl)) (nn_q rfl rfl)) (nn_ct (nn_ct (nn_q rfl rfl) (nn_q rfl rfl)) (nn_q rfl rfl))) (nn_ct (nn_ct (nn_ct (nn_q rfl rfl) (nn_q rfl rfl)) (nn_q rfl rfl)) (nn_ct (nn_q rfl rfl) (nn_q rfl rfl)))))
theorem pj_163 : pr_K (pr_i163, pr_m163) := pm_1 (by decide +kernel) pk_163 ⟨rfl, rfl⟩ pz_163
theorem pz_164 : ∀ pc, Nat.beq (pr_c164 pc).1 46 = false := by
  unfold pr_c164
  exact (nn_ct (nn_ct (nn_ct (nn_ct (nn_q rfl rfl) (nn_q rfl rfl)) (nn_ct (nn_q rfl rfl) (nn_q rfl rfl))) (nn_ct (nn_ct (nn_q rfl rfl) (nn_q rfl rfl)) (nn_q rfl rfl))) (nn_ct (nn_ct (nn_ct (nn_q rfl rfl) (nn_q rfl rfl)) (nn_q rfl rfl)) (nn_ct (nn_ct (nn_q rfl rfl) (nn_q rfl rfl)) (nn_q rfl rfl))))
theorem pj_164 : pr_K (pr_i164, pr_m164) := pm_1 (by decide +kernel) pk_164 ⟨rfl, rfl⟩ pz_164
theorem pz_165 : ∀ pc, Nat.beq (pr_c165 pc).1 46 = false := by
  unfold pr_c165
  exact (nn_ct (nn_ct (nn_ct (nn_ct (nn_ct (nn_q rfl rfl) (nn_q rfl rfl)) (nn_q rfl rfl)) (nn_ct (nn_ct (nn_q rfl rfl) (nn_q rfl rfl)) (nn_q rfl rfl))) (nn_ct (nn_ct (nn_ct (nn_q rfl rfl) (nn_q rfl rfl)) (nn_q rfl rfl)) (nn_ct (nn_ct (nn_q rfl rfl) (nn_q rfl rfl)) (nn_q rfl rfl)))) (nn_ct (nn_ct (nn_ct (nn_ct (nn_q rfl rfl) (nn_q rfl rfl)) (nn_q rfl rfl)) (nn_ct (nn_ct (nn_q rfl rfl) (nn_q rfl rfl)) (nn_q rfl rfl))) (nn_ct (nn_ct (nn_ct (nn_q rfl rfl) (nn_q rfl rfl)) (nn_q rfl rfl)) (nn_ct (nn_ct (nn_q rfl rfl) (nn_q rfl rfl)) (nn_q rfl rfl)))))
theorem pj_165 : pr_K (pr_i165, pr_m165) := pm_1 (by decide +kernel) pk_165 ⟨rfl, rfl⟩ pz_165
theorem pz_166 : ∀ pc, Nat.beq (pr_c166 pc).1 46 = false := by
  unfold pr_c166
  exact (nn_ct (nn_ct (nn_ct (nn_ct (nn_ct (nn_ct (nn_q rfl rfl) (nn_q rfl rfl)) (nn_q rfl rfl)) (nn_ct (nn_ct (nn_q rfl rfl) (nn_q rfl rfl)) (nn_q rfl rfl))) (nn_ct (nn_ct (nn_ct (nn_q rfl rfl) (nn_q rfl rfl)) (nn_q rfl rfl)) (nn_ct (nn_ct (nn_q rfl rfl) (nn_q rfl rfl)) (nn_q rfl rfl)))) (nn_ct (nn_ct (nn_ct (nn_ct (nn_q rfl rfl) (nn_q rfl rfl)) (nn_q rfl rfl)) (nn_ct (nn_ct (nn_q rfl rfl) (nn_q rfl rfl)) (nn_q rfl rfl))) (nn_ct (nn_ct (nn_ct (nn_q rfl rfl) (nn_q rfl rfl)) (nn_q rfl rfl)) (nn_ct (nn_ct (nn_q rfl rfl) (nn_q rfl rfl)) (nn_q rfl rfl))))) (nn_ct (nn_ct (nn_ct (nn_ct (nn_ct (nn_q rfl rfl) (nn_q rfl rfl)) (nn_q rfl rfl)) (nn_ct (nn_ct (nn_q rfl rfl) (nn_q rfl rfl)) (nn_q rfl rfl))) (nn_ct (nn_ct (nn_ct (nn_q rfl rfl) (nn_q rfl rfl)) (nn_q rfl rfl)) (nn_ct (nn_ct (nn_q rfl rfl) (nn_q rfl rfl)) (nn_q rfl rfl)))) (nn_ct (nn_ct (nn_ct (nn_ct (nn_q rfl rfl) (nn_q rfl rfl)) (nn_q rfl rfl)) (nn_ct (nn_ct (nn_q rfl rfl) (nn_q rfl rfl)) (nn_q rfl rfl))) (nn_ct (nn_ct (nn_ct (nn_q rfl rfl) (nn_q rfl rfl)) (nn_q rfl rfl)) (nn_ct (nn_ct (nn_q rfl rfl) (nn_q rfl rfl)) (nn_q rfl rfl))))))
theorem pj_166 : pr_K (pr_i166, pr_m166) := pm_1 (by decide +kernel) pk_166 ⟨rfl, rfl⟩ pz_166
theorem pz_167 : ∀ pc, Nat.beq (pr_c167 pc).1 46 = false := by
  unfold pr_c167
  exact (nn_ct (nn_ct (nn_ct (nn_ct (nn_ct (nn_q rfl rfl) (nn_q rfl rfl)) (nn_q rfl rfl)) (nn_ct (nn_q rfl rfl) (nn_q rfl rfl))) (nn_ct (nn_ct (nn_ct (nn_q rfl rfl) (nn_q rfl rfl)) (nn_q rfl rfl)) (nn_ct (nn_q rfl rfl) (nn_q rfl rfl)))) (nn_ct (nn_ct (nn_ct (nn_ct (nn_q rfl rfl) (nn_q rfl rfl)) (nn_q rfl rfl)) (nn_ct (nn_q rfl rfl) (nn_q rfl rfl))) (nn_ct (nn_ct (nn_ct (nn_q rfl rfl) (nn_q rfl rfl)) (nn_q rfl rfl)) (nn_ct (nn_q rfl rfl) (nn_q rfl rfl)))))
theorem pj_167 : pr_K (pr_i167, pr_m167) := pm_1 (by decide +kernel) pk_167 ⟨rfl, rfl⟩ pz_167
theorem pz_168 : ∀ pc, Nat.beq (pr_c168 pc).1 46 = false := by
  unfold pr_c168
  exact (nn_ct (nn_ct (nn_ct (nn_ct (nn_ct (nn_ct (nn_q rfl rfl) (nn_q rfl rfl)) (nn_q rfl rfl)) (nn_ct (nn_ct (nn_q rfl rfl) (nn_q rfl rfl)) (nn_q rfl rfl))) (nn_ct (nn_ct (nn_ct (nn_q rfl rfl) (nn_q rfl rfl)) (nn_q rfl rfl)) (nn_ct (nn_q rfl rfl) (nn_q rfl rfl)))) (nn_ct (nn_ct (nn_ct (nn_ct (nn_q rfl rfl) (nn_q rfl rfl)) (nn_q rfl rfl)) (nn_ct (nn_ct (nn_q rfl rfl) (nn_q rfl rfl)) (nn_q rfl rfl))) (nn_ct (nn_ct (nn_ct (nn_q rfl rfl) (nn_q rfl rfl)) (nn_q rfl rfl)) (nn_ct (nn_q rfl rfl) (nn_q rfl rfl))))) (nn_ct (nn_ct (nn_ct (nn_ct (nn_ct (nn_q rfl rfl) (nn_q rfl rfl)) (nn_q rfl rfl)) (nn_ct (nn_ct (nn_q rfl rfl) (nn_q rfl rfl)) (nn_q rfl rfl))) (nn_ct (nn_ct (nn_ct (nn_q rfl rfl) (nn_q rfl rfl)) (nn_q rfl rfl)) (nn_ct (nn_q rfl rfl) (nn_q rfl rfl)))) (nn_ct (nn_ct (nn_ct (nn_ct (nn_q rfl rfl) (nn_q rfl rfl)) (nn_q rfl rfl)) (nn_ct (nn_q rfl rfl) (nn_q rfl rfl))) (nn_ct (nn_ct (nn_ct (nn_q rfl rfl) (nn_q rfl rfl)) (nn_q rfl rfl)) (nn_ct (nn_q rfl rfl) (nn_q rfl rfl))))))
theorem pj_168 : pr_K (pr_i168, pr_m168) := pm_1 (by decide +kernel) pk_168 ⟨rfl, rfl⟩ pz_168
theorem pz_169 : ∀ pc, Nat.beq (pr_c169 pc).1 46 = false := by
  unfold pr_c169
  exact (nn_ct (nn_ct (nn_ct (nn_q rfl rfl) (nn_q rfl rfl)) (nn_q rfl rfl)) (nn_ct (nn_ct (nn_q rfl rfl) (nn_q rfl rfl)) (nn_q rfl rfl)))
theorem pj_169 : pr_K (pr_i169, pr_m169) := pm_1 (by decide +kernel) pk_169 ⟨rfl, rfl⟩ pz_169
theorem pz_170 : ∀ pc, Nat.beq (pr_c170 pc).1 46 = false := by
  unfold pr_c170
  exact (nn_ct (nn_ct (nn_ct (nn_q rfl rfl) (nn_q rfl rfl)) (nn_q rfl rfl)) (nn_ct (nn_ct (nn_q rfl rfl) (nn_q rfl rfl)) (nn_q rfl rfl)))
theorem pj_170 : pr_K (pr_i170, pr_m170) := pm_1 (by decide +kernel) pk_170 ⟨rfl, rfl⟩ pz_170
theorem pz_171 : ∀ pc, Nat.beq (pr_c171 pc).1 46 = false := by
  unfold pr_c171
  exact (nn_ct (nn_ct (nn_ct (nn_ct (nn_ct (nn_ct (nn_q rfl rfl) (nn_q rfl rfl)) (nn_q rfl rfl)) (nn_ct (nn_ct (nn_q rfl rfl) (nn_q rfl rfl)) (nn_q rfl rfl))) (nn_ct (nn_ct (nn_ct (nn_q rfl rfl) (nn_q rfl rfl)) (nn_q rfl rfl)) (nn_ct (nn_q rfl rfl) (nn_q rfl rfl)))) (nn_ct (nn_ct (nn_ct (nn_ct (nn_q rfl rfl) (nn_q rfl rfl)) (nn_q rfl rfl)) (nn_ct (nn_q rfl rfl) (nn_q rfl rfl))) (nn_ct (nn_ct (nn_ct (nn_q rfl rfl) (nn_q rfl rfl)) (nn_q rfl rfl)) (nn_ct (nn_q rfl rfl) (nn_q rfl rfl))))) (nn_ct (nn_ct (nn_ct (nn_ct (nn_ct (nn_q rfl rfl) (nn_q rfl rfl)) (nn_q rfl rfl)) (nn_ct (nn_q rfl rfl) (nn_q rfl rfl))) (nn_ct (nn_ct (nn_ct (nn_q rfl rfl) (nn_q rfl rfl)) (nn_q rfl rfl)) (nn_ct (nn_q rfl rfl) (nn_q rfl rfl)))) (nn_ct (nn_ct (nn_ct (nn_ct (nn_q rfl rfl) (nn_q rfl rfl)) (nn_q rfl rfl)) (nn_ct (nn_q rfl rfl) (nn_q rfl rfl))) (nn_ct (nn_ct (nn_ct (nn_q rfl rfl) (nn_q rfl rfl)) (nn_q rfl rfl)) (nn_ct (nn_q rfl rfl) (nn_q rfl rfl))))))
theorem pj_171 : pr_K (pr_i171, pr_m171) := pm_1 (by decide +kernel) pk_171 ⟨rfl, rfl⟩ pz_171
theorem pz_172 : ∀ pc, Nat.beq (pr_c172 pc).1 46 = false := by
  unfold pr_c172
  exact (nn_ct (nn_ct (nn_ct (nn_ct (nn_ct (nn_ct (nn_q rfl rfl) (nn_q rfl rfl)) (nn_ct (nn_q rfl rfl) (nn_q rfl rfl))) (nn_ct (nn_ct (nn_q rfl rfl) (nn_q rfl rfl)) (nn_q rfl rfl))) (nn_ct (nn_ct (nn_ct (nn_q rfl rfl) (nn_q rfl rfl)) (nn_ct (nn_q rfl rfl) (nn_q rfl rfl))) (nn_ct (nn_ct (nn_q rfl rfl) (nn_q rfl rfl)) (nn_q rfl rfl)))) (nn_ct (nn_ct (nn_ct (nn_ct (nn_q rfl rfl) (nn_q rfl rfl)) (nn_ct (nn_q rfl rfl) (nn_q rfl rfl))) (nn_ct (nn_ct (nn_q rfl rfl) (nn_q rfl rfl)) (nn_q rfl rfl))) (nn_ct (nn_ct (nn_ct (nn_q rfl rfl) (nn_q rfl rfl)) (nn_q rfl rfl)) (nn_ct (nn_ct (nn_q rfl rfl) (nn_q rfl rfl)) (nn_q rfl rfl))))) (nn_ct (nn_ct (nn_ct (nn_ct (nn_ct (nn_q rfl rfl) (nn_q rfl rfl)) (nn_ct (nn_q rfl rfl) (nn_q rfl rfl))) (nn_ct (nn_ct (nn_q rfl rfl) (nn_q rfl rfl)) (nn_q rfl rfl))) (nn_ct (nn_ct (nn_ct (nn_q rfl rfl) (nn_q rfl rfl)) (nn_ct (nn_q rfl rfl) (nn_q rfl rfl))) (nn_ct (nn_ct (nn_q rfl rfl) (nn_q rfl rfl)) (nn_q rfl rfl)))) (nn_ct (nn_ct (nn_ct (nn_ct (nn_q rfl rfl) (nn_q rfl rfl)) (nn_ct (nn_q rfl rfl) (nn_q rfl rfl))) (nn_ct (nn_ct (nn_q rfl rfl) (nn_q rfl rfl)) (nn_q rfl rfl))) (nn_ct (nn_ct (nn_ct (nn_q rfl rfl) (nn_q rfl rfl)) (nn_q rfl rfl)) (nn_ct (nn_ct (nn_q rfl rfl) (nn_q rfl rfl)) (nn_q rfl rfl))))))
theorem pj_172 : pr_K (pr_i172, pr_m172) := pm_1 (by decide +kernel) pk_172 ⟨rfl, rfl⟩ pz_172
theorem pz_173 : ∀ pc, Nat.beq (pr_c173 pc).1 46 = false := by
  unfold pr_c173
  exact (nn_ct (nn_ct (nn_ct (nn_ct (nn_q rfl rfl) (nn_q rfl rfl)) (nn_q rfl rfl)) (nn_ct (nn_ct (nn_q rfl rfl) (nn_q rfl rfl)) (nn_q rfl rfl))) (nn_ct (nn_ct (nn_ct (nn_q rfl rfl) (nn_q rfl rfl)) (nn_q rfl rfl)) (nn_ct (nn_ct (nn_q rfl rfl) (nn_q rfl rfl)) (nn_q rfl rfl))))
theorem pj_173 : pr_K (pr_i173, pr_m173) := pm_1 (by decide +kernel) pk_173 ⟨rfl, rfl⟩ pz_173
theorem pz_174 : ∀ pc, Nat.beq (pr_c174 pc).1 46 = false := by
  unfold pr_c174
  exact (nn_ct (nn_ct (nn_ct (nn_ct (nn_ct (nn_ct (nn_q rfl rfl) (nn_q rfl rfl)) (nn_q rfl rfl)) (nn_ct (nn_q rfl rfl) (nn_q rfl rfl))) (nn_ct (nn_ct (nn_ct (nn_q rfl rfl) (nn_q rfl rfl)) (nn_q rfl rfl)) (nn_ct (nn_q rfl rfl) (nn_q rfl rfl)))) (nn_ct (nn_ct (nn_ct (nn_ct (nn_q rfl rfl) (nn_q rfl rfl)) (nn_q rfl rfl)) (nn_ct (nn_q rfl rfl) (nn_q rfl rfl))) (nn_ct (nn_ct (nn_ct (nn_q rfl rfl) (nn_q rfl rfl)) (nn_q rfl rfl)) (nn_ct (nn_q rfl rfl) (nn_q rfl rfl))))) (nn_ct (nn_ct (nn_ct (nn_ct (nn_ct (nn_q rfl rfl) (nn_q rfl rfl)) (nn_q rfl rfl)) (nn_ct (nn_q rfl rfl) (nn_q rfl rfl))) (nn_ct (nn_ct (nn_ct (nn_q rfl rfl) (nn_q rfl rfl)) (nn_q rfl rfl)) (nn_ct (nn_q rfl rfl) (nn_q rfl rfl)))) (nn_ct (nn_ct (nn_ct (nn_ct (nn_q rfl rfl) (nn_q rfl rfl)) (nn_q rfl rfl)) (nn_ct (nn_q rfl rfl) (nn_q rfl rfl))) (nn_ct (nn_ct (nn_ct (nn_q rfl rfl) (nn_q rfl rfl)) (nn_q rfl rfl)) (nn_ct (nn_q rfl rfl) (nn_q rfl rfl))))))
theorem pj_174 : pr_K (pr_i174, pr_m174) := pm_1 (by decide +kernel) pk_174 ⟨rfl, rfl⟩ pz_174
theorem pz_175 : ∀ pc, Nat.beq (pr_c175 pc).1 46 = false := by
  unfold pr_c175
  exact (nn_ct (nn_ct (nn_ct (nn_ct (nn_ct (nn_q rfl rfl) (nn_q rfl rfl)) (nn_q rfl rfl)) (nn_ct (nn_q rfl rfl) (nn_q rfl rfl))) (nn_ct (nn_ct (nn_ct (nn_q rfl rfl) (nn_q rfl rfl)) (nn_q rfl rfl)) (nn_ct (nn_q rfl rfl) (nn_q rfl rfl)))) (nn_ct (nn_ct (nn_ct (nn_ct (nn_q rfl rfl) (nn_q rfl rfl)) (nn_q rfl rfl)) (nn_ct (nn_q rfl rfl) (nn_q rfl rfl))) (nn_ct (nn_ct (nn_ct (nn_q rfl rfl) (nn_q rfl rfl)) (nn_q rfl rfl)) (nn_ct (nn_q rfl rfl) (nn_q rfl rfl)))))
theorem pj_175 : pr_K (pr_i175, pr_m175) := pm_1 (by decide +kernel) pk_175 ⟨rfl, rfl⟩ pz_175
theorem pz_176 : ∀ pc, Nat.beq (pr_c176 pc).1 46 = false := by
  unfold pr_c176
  exact (nn_ct (nn_ct (nn_ct (nn_q rfl rfl) (nn_q rfl rfl)) (nn_ct (nn_q rfl rfl) (nn_q rfl rfl))) (nn_ct (nn_ct (nn_q rfl rfl) (nn_q rfl rfl)) (nn_q rfl rfl)))
theorem pj_176 : pr_K (pr_i176, pr_m176) := pm_1 (by decide +kernel) pk_176 ⟨rfl, rfl⟩ pz_176
theorem pz_177 : ∀ pc, Nat.beq (pr_c177 pc).1 46 = false := by
  unfold pr_c177
  exact (nn_ct (nn_ct (nn_ct (nn_q rfl rfl) (nn_q rfl rfl)) (nn_ct (nn_q rfl rfl) (nn_q rfl rfl))) (nn_ct (nn_ct (nn_q rfl rfl) (nn_q rfl rfl)) (nn_ct (nn_q rfl rfl) (nn_q rfl rfl))))
theorem pj_177 : pr_K (pr_i177, pr_m177) := pm_1 (by decide +kernel) pk_177 ⟨rfl, rfl⟩ pz_177
theorem pz_178 : ∀ pc, Nat.beq (pr_c178 pc).1 46 = false := by
  unfold pr_c178
  exact (nn_ct (nn_ct (nn_ct (nn_q rfl rfl) (nn_q rfl rfl)) (nn_ct (nn_q rfl rfl) (nn_q rfl rfl))) (nn_ct (nn_ct (nn_q rfl rfl) (nn_q rfl rfl)) (nn_q rfl rfl)))
theorem pj_178 : pr_K (pr_i178, pr_m178) := pm_1 (by decide +kernel) pk_178 ⟨rfl, rfl⟩ pz_178
theorem pz_179 : ∀ pc, Nat.beq (pr_c179 pc).1 46 = false := by
  unfold pr_c179
  exact (nn_ct (nn_ct (nn_ct (nn_q rfl rfl) (nn_q rfl rfl)) (nn_ct (nn_q rfl rfl) (nn_q rfl rfl))) (nn_ct (nn_ct (nn_q rfl rfl) (nn_q rfl rfl)) (nn_ct (nn_q rfl rfl) (nn_q rfl rfl))))
theorem pj_179 : pr_K (pr_i179, pr_m179) := pm_1 (by decide +kernel) pk_179 ⟨rfl, rfl⟩ pz_179
theorem pz_181 : ∀ pc, Nat.beq (pr_c181 pc).1 46 = false := by
  unfold pr_c181
  exact (nn_ct (nn_ct (nn_ct (nn_q rfl rfl) (nn_q rfl rfl)) (nn_ct (nn_q rfl rfl) (nn_q rfl rfl))) (nn_ct (nn_ct (nn_q rfl rfl) (nn_q rfl rfl)) (nn_ct (nn_q rfl rfl) (nn_q rfl rfl))))
theorem pj_181 : pr_K (pr_i181, pr_m181) := pm_1 (by decide +kernel) pk_181 ⟨rfl, rfl⟩ pz_181
theorem pz_182 : ∀ pc, Nat.beq (pr_c182 pc).1 46 = false := by
  unfold pr_c182
  exact (nn_ct (nn_ct (nn_ct (nn_q rfl rfl) (nn_q rfl rfl)) (nn_ct (nn_q rfl rfl) (nn_q rfl rfl))) (nn_ct (nn_ct (nn_q rfl rfl) (nn_q rfl rfl)) (nn_q rfl rfl)))
theorem pj_182 : pr_K (pr_i182, pr_m182) := pm_1 (by decide +kernel) pk_182 ⟨rfl, rfl⟩ pz_182
theorem pz_183 : ∀ pc, Nat.beq (pr_c183 pc).1 46 = false := by
  unfold pr_c183
  exact (nn_ct (nn_ct (nn_ct (nn_ct (nn_q rfl rfl) (nn_q rfl rfl)) (nn_q rfl rfl)) (nn_ct (nn_ct (nn_q rfl rfl) (nn_q rfl rfl)) (nn_q rfl rfl))) (nn_ct (nn_ct (nn_ct (nn_q rfl rfl) (nn_q rfl rfl)) (nn_q rfl rfl)) (nn_ct (nn_q rfl rfl) (nn_q rfl rfl))))
theorem pj_183 : pr_K (pr_i183, pr_m183) := pm_1 (by decide +kernel) pk_183 ⟨rfl, rfl⟩ pz_183
theorem pz_184 : ∀ pc, Nat.beq (pr_c184 pc).1 46 = false := by
  unfold pr_c184
  exact (nn_ct (nn_ct (nn_ct (nn_ct (nn_q rfl rfl) (nn_q rfl rfl)) (nn_ct (nn_q rfl rfl) (nn_q rfl rfl))) (nn_ct (nn_ct (nn_q rfl rfl) (nn_q rfl rfl)) (nn_ct (nn_q rfl rfl) (nn_q rfl rfl)))) (nn_ct (nn_ct (nn_ct (nn_q rfl rfl) (nn_q rfl rfl)) (nn_ct (nn_q rfl rfl) (nn_q rfl rfl))) (nn_ct (nn_ct (nn_q rfl rfl) (nn_q rfl rfl)) (nn_ct (nn_q rfl rfl) (nn_q rfl rfl)))))
theorem pj_184 : pr_K (pr_i184, pr_m184) := pm_1 (by decide +kernel) pk_184 ⟨rfl, rfl⟩ pz_184
theorem pz_185 : ∀ pc, Nat.beq (pr_c185 pc).1 46 = false := by
  unfold pr_c185
  exact (nn_ct (nn_ct (nn_ct (nn_ct (nn_ct (nn_q rfl rfl) (nn_q rfl rfl)) (nn_ct (nn_q rfl rfl) (nn_q rfl rfl))) (nn_ct (nn_ct (nn_q rfl rfl) (nn_q rfl rfl)) (nn_ct (nn_q rfl rfl) (nn_q rfl rfl)))) (nn_ct (nn_ct (nn_ct (nn_q rfl rfl) (nn_q rfl rfl)) (nn_ct (nn_q rfl rfl) (nn_q rfl rfl))) (nn_ct (nn_ct (nn_q rfl rfl) (nn_q rfl rfl)) (nn_ct (nn_q rfl rfl) (nn_q rfl rfl))))) (nn_ct (nn_ct (nn_ct (nn_ct (nn_q rfl rfl) (nn_q rfl rfl)) (nn_ct (nn_q rfl rfl) (nn_q rfl rfl))) (nn_ct (nn_ct (nn_q rfl rfl) (nn_q rfl rfl)) (nn_ct (nn_q rfl rfl) (nn_q rfl rfl)))) (nn_ct (nn_ct (nn_ct (nn_q rfl rfl) (nn_q rfl rfl)) (nn_ct (nn_q rfl rfl) (nn_q rfl rfl))) (nn_ct (nn_ct (nn_q rfl rfl) (nn_q rfl rfl)) (nn_ct (nn_q rfl rfl) (nn_q rfl rfl))))))
theorem pj_185 : pr_K (pr_i185, pr_m185) := pm_1 (by decide +kernel) pk_185 ⟨rfl, rfl⟩ pz_185
theorem pz_186 : ∀ pc, Nat.beq (pr_c186 pc).1 46 = false := by
  unfold pr_c186
  exact (nn_ct (nn_ct (nn_ct (nn_ct (nn_ct (nn_q rfl rfl) (nn_q rfl rfl)) (nn_q rfl rfl)) (nn_ct (nn_ct (nn_q rfl rfl) (nn_q rfl rfl)) (nn_q rfl rfl))) (nn_ct (nn_ct (nn_ct (nn_q rfl rfl) (nn_q rfl rfl)) (nn_q rfl rfl)) (nn_ct (nn_ct (nn_q rfl rfl) (nn_q rfl rfl)) (nn_q rfl rfl)))) (nn_ct (nn_ct (nn_ct (nn_ct (nn_q rfl rfl) (nn_q rfl rfl)) (nn_q rfl rfl)) (nn_ct (nn_ct (nn_q rfl rfl) (nn_q rfl rfl)) (nn_q rfl rfl))) (nn_ct (nn_ct (nn_ct (nn_q rfl rfl) (nn_q rfl rfl)) (nn_q rfl rfl)) (nn_ct (nn_q rfl rfl) (nn_q rfl rfl)))))
theorem pj_186 : pr_K (pr_i186, pr_m186) := pm_1 (by decide +kernel) pk_186 ⟨rfl, rfl⟩ pz_186
theorem pz_187 : ∀ pc, Nat.beq (pr_c187 pc).1 46 = false := by
  unfold pr_c187
  exact (nn_ct (nn_ct (nn_ct (nn_ct (nn_ct (nn_q rfl rfl) (nn_q rfl rfl)) (nn_ct (nn_q rfl rfl) (nn_q rfl rfl))) (nn_ct (nn_ct (nn_q rfl rfl) (nn_q rfl rfl)) (nn_ct (nn_q rfl rfl) (nn_q rfl rfl)))) (nn_ct (nn_ct (nn_ct (nn_q rfl rfl) (nn_q rfl rfl)) (nn_ct (nn_q rfl rfl) (nn_q rfl rfl))) (nn_ct (nn_ct (nn_q rfl rfl) (nn_q rfl rfl)) (nn_ct (nn_q rfl rfl) (nn_q rfl rfl))))) (nn_ct (nn_ct (nn_ct (nn_ct (nn_q rfl rfl) (nn_q rfl rfl)) (nn_ct (nn_q rfl rfl) (nn_q rfl rfl))) (nn_ct (nn_ct (nn_q rfl rfl) (nn_q rfl rfl)) (nn_ct (nn_q rfl rfl) (nn_q rfl rfl)))) (nn_ct (nn_ct (nn_ct (nn_q rfl rfl) (nn_q rfl rfl)) (nn_ct (nn_q rfl rfl) (nn_q rfl rfl))) (nn_ct (nn_ct (nn_q rfl rfl) (nn_q rfl rfl)) (nn_q rfl rfl)))))
theorem pj_187 : pr_K (pr_i187, pr_m187) := pm_1 (by decide +kernel) pk_187 ⟨rfl, rfl⟩ pz_187
theorem pz_188 : ∀ pc, Nat.beq (pr_c188 pc).1 46 = false := by
  unfold pr_c188
  exact (nn_ct (nn_ct (nn_ct (nn_q rfl rfl) (nn_q rfl rfl)) (nn_ct (nn_q rfl rfl) (nn_q rfl rfl))) (nn_ct (nn_ct (nn_q rfl rfl) (nn_q rfl rfl)) (nn_ct (nn_q rfl rfl) (nn_q rfl rfl))))
theorem pj_188 : pr_K (pr_i188, pr_m188) := pm_1 (by decide +kernel) pk_188 ⟨rfl, rfl⟩ pz_188
theorem pz_189 : ∀ pc, Nat.beq (pr_c189 pc).1 46 = false := by
  unfold pr_c189
  exact (nn_ct (nn_ct (nn_ct (nn_ct (nn_ct (nn_q rfl rfl) (nn_q rfl rfl)) (nn_ct (nn_q rfl rfl) (nn_q rfl rfl))) (nn_ct (nn_ct (nn_q rfl rfl) (nn_q rfl rfl)) (nn_q rfl rfl))) (nn_ct (nn_ct (nn_ct (nn_q rfl rfl) (nn_q rfl rfl)) (nn_q rfl rfl)) (nn_ct (nn_ct (nn_q rfl rfl) (nn_q rfl rfl)) (nn_q rfl rfl)))) (nn_ct (nn_ct (nn_ct (nn_ct (nn_q rfl rfl) (nn_q rfl rfl)) (nn_q rfl rfl)) (nn_ct (nn_ct (nn_q rfl rfl) (nn_q rfl rfl)) (nn_q rfl rfl))) (nn_ct (nn_ct (nn_ct (nn_q rfl rfl) (nn_q rfl rfl)) (nn_q rfl rfl)) (nn_ct (nn_ct (nn_q rfl rfl) (nn_q rfl rfl)) (nn_q rfl rfl)))))
theorem pj_189 : pr_K (pr_i189, pr_m189) := pm_1 (by decide +kernel) pk_189 ⟨rfl, rfl⟩ pz_189
theorem pz_190 : ∀ pc, Nat.beq (pr_c190 pc).1 46 = false := by
  unfold pr_c190
  exact (nn_ct (nn_ct (nn_ct (nn_ct (nn_ct (nn_q rfl rfl) (nn_q rfl rfl)) (nn_ct (nn_q rfl rfl) (nn_q rfl rfl))) (nn_ct (nn_ct (nn_q rfl rfl) (nn_q rfl rfl)) (nn_q rfl rfl))) (nn_ct (nn_ct (nn_ct (nn_q rfl rfl) (nn_q rfl rfl)) (nn_ct (nn_q rfl rfl) (nn_q rfl rfl))) (nn_ct (nn_ct (nn_q rfl rfl) (nn_q rfl rfl)) (nn_q rfl rfl)))) (nn_ct (nn_ct (nn_ct (nn_ct (nn_q rfl rfl) (nn_q rfl rfl)) (nn_ct (nn_q rfl rfl) (nn_q rfl rfl))) (nn_ct (nn_ct (nn_q rfl rfl) (nn_q rfl rfl)) (nn_q rfl rfl))) (nn_ct (nn_ct (nn_ct (nn_q rfl rfl) (nn_q rfl rfl)) (nn_q rfl rfl)) (nn_ct (nn_ct (nn_q rfl rfl) (nn_q rfl rfl)) (nn_q rfl rfl)))))
theorem pj_190 : pr_K (pr_i190, pr_m190) := pm_1 (by decide +kernel) pk_190 ⟨rfl, rfl⟩ pz_190
theorem pz_191 : ∀ pc, Nat.beq (pr_c191 pc).1 46 = false := by
  unfold pr_c191
  exact (nn_ct (nn_ct (nn_ct (nn_ct (nn_ct (nn_q rfl rfl) (nn_q rfl rfl)) (nn_q rfl rfl)) (nn_ct (nn_ct (nn_q rfl rfl) (nn_q rfl rfl)) (nn_q rfl rfl))) (nn_ct (nn_ct (nn_ct (nn_q rfl rfl) (nn_q rfl rfl)) (nn_q rfl rfl)) (nn_ct (nn_ct (nn_q rfl rfl) (nn_q rfl rfl)) (nn_q rfl rfl)))) (nn_ct (nn_ct (nn_ct (nn_ct (nn_q rfl rfl) (nn_q rfl rfl)) (nn_q rfl rfl)) (nn_ct (nn_ct (nn_q rfl rfl) (nn_q rfl rfl)) (nn_q rfl rfl))) (nn_ct (nn_ct (nn_ct (nn_q rfl rfl) (nn_q rfl rfl)) (nn_q rfl rfl)) (nn_ct (nn_q rfl rfl) (nn_q rfl rfl)))))
theorem pj_191 : pr_K (pr_i191, pr_m191) := pm_1 (by decide +kernel) pk_191 ⟨rfl, rfl⟩ pz_191
theorem pz_192 : ∀ pc, Nat.beq (pr_c192 pc).1 46 = false := by
  unfold pr_c192
  exact (nn_ct (nn_ct (nn_ct (nn_ct (nn_ct (nn_ct (nn_q rfl rfl) (nn_q rfl rfl)) (nn_q rfl rfl)) (nn_ct (nn_q rfl rfl) (nn_q rfl rfl))) (nn_ct (nn_ct (nn_q rfl rfl) (nn_q rfl rfl)) (nn_ct (nn_q rfl rfl) (nn_q rfl rfl)))) (nn_ct (nn_ct (nn_ct (nn_ct (nn_q rfl rfl) (nn_q rfl rfl)) (nn_q rfl rfl)) (nn_ct (nn_q rfl rfl) (nn_q rfl rfl))) (nn_ct (nn_ct (nn_q rfl rfl) (nn_q rfl rfl)) (nn_ct (nn_q rfl rfl) (nn_q rfl rfl))))) (nn_ct (nn_ct (nn_ct (nn_ct (nn_ct (nn_q rfl rfl) (nn_q rfl rfl)) (nn_q rfl rfl)) (nn_ct (nn_q rfl rfl) (nn_q rfl rfl))) (nn_ct (nn_ct (nn_q rfl rfl) (nn_q rfl rfl)) (nn_ct (nn_q rfl rfl) (nn_q rfl rfl)))) (nn_ct (nn_ct (nn_ct (nn_ct (nn_q rfl rfl) (nn_q rfl rfl)) (nn_q rfl rfl)) (nn_ct (nn_q rfl rfl) (nn_q rfl rfl))) (nn_ct (nn_ct (nn_q rfl rfl) (nn_q rfl rfl)) (nn_ct (nn_q rfl rfl) (nn_q rfl rfl))))))
theorem pj_192 : pr_K (pr_i192, pr_m192) := pm_1 (by decide +kernel) pk_192 ⟨rfl, rfl⟩ pz_192
theorem pz_193 : ∀ pc, Nat.beq (pr_c193 pc).1 46 = false := by
  unfold pr_c193
  exact (nn_ct (nn_ct (nn_ct (nn_ct (nn_ct (nn_ct (nn_q rfl rfl) (nn_q rfl rfl)) (nn_q rfl rfl)) (nn_ct (nn_ct (nn_q rfl rfl) (nn_q rfl rfl)) (nn_q rfl rfl))) (nn_ct (nn_ct (nn_ct (nn_q rfl rfl) (nn_q rfl rfl)) (nn_q rfl rfl)) (nn_ct (nn_ct (nn_q rfl rfl) (nn_q rfl rfl)) (nn_q rfl rfl)))) (nn_ct (nn_ct (nn_ct (nn_ct (nn_q rfl rfl) (nn_q rfl rfl)) (nn_q rfl rfl)) (nn_ct (nn_ct (nn_q rfl rfl) (nn_q rfl rfl)) (nn_q rfl rfl))) (nn_ct (nn_ct (nn_ct (nn_q rfl rfl) (nn_q rfl rfl)) (nn_q rfl rfl)) (nn_ct (nn_ct (nn_q rfl rfl) (nn_q rfl rfl)) (nn_q rfl rfl))))) (nn_ct (nn_ct (nn_ct (nn_ct (nn_ct (nn_q rfl rfl) (nn_q rfl rfl)) (nn_q rfl rfl)) (nn_ct (nn_ct (nn_q rfl rfl) (nn_q rfl rfl)) (nn_q rfl rfl))) (nn_ct (nn_ct (nn_ct (nn_q rfl rfl) (nn_q rfl rfl)) (nn_q rfl rfl)) (nn_ct (nn_ct (nn_q rfl rfl) (nn_q rfl rfl)) (nn_q rfl rfl)))) (nn_ct (nn_ct (nn_ct (nn_ct (nn_q rfl rfl) (nn_q rfl rfl)) (nn_q rfl rfl)) (nn_ct (nn_ct (nn_q rfl rfl) (nn_q rfl rfl)) (nn_q rfl rfl))) (nn_ct (nn_ct (nn_ct (nn_q rfl rfl) (nn_q rfl rfl)) (nn_q rfl rfl)) (nn_ct (nn_q rfl rfl) (nn_q rfl rfl))))))
theorem pj_193 : pr_K (pr_i193, pr_m193) := pm_1 (by decide +kernel) pk_193 ⟨rfl, rfl⟩ pz_193
theorem pz_194 : ∀ pc, Nat.beq (pr_c194 pc).1 46 = false := by
  unfold pr_c194
  exact (nn_ct (nn_ct (nn_ct (nn_ct (nn_q rfl rfl) (nn_q rfl rfl)) (nn_q rfl rfl)) (nn_ct (nn_q rfl rfl) (nn_q rfl rfl))) (nn_ct (nn_ct (nn_ct (nn_q rfl rfl) (nn_q rfl rfl)) (nn_q rfl rfl)) (nn_ct (nn_q rfl rfl) (nn_q rfl rfl))))
theorem pj_194 : pr_K (pr_i194, pr_m194) := pm_1 (by decide +kernel) pk_194 ⟨rfl, rfl⟩ pz_194
theorem pz_195 : ∀ pc, Nat.beq (pr_c195 pc).1 46 = false := by
  unfold pr_c195
  exact (nn_ct (nn_ct (nn_ct (nn_ct (nn_ct (nn_q rfl rfl) (nn_q rfl rfl)) (nn_q rfl rfl)) (nn_ct (nn_ct (nn_q rfl rfl) (nn_q rfl rfl)) (nn_q rfl rfl))) (nn_ct (nn_ct (nn_ct (nn_q rfl rfl) (nn_q rfl rfl)) (nn_q rfl rfl)) (nn_ct (nn_q rfl rfl) (nn_q rfl rfl)))) (nn_ct (nn_ct (nn_ct (nn_ct (nn_q rfl rfl) (nn_q rfl rfl)) (nn_q rfl rfl)) (nn_ct (nn_ct (nn_q rfl rfl) (nn_q rfl rfl)) (nn_q rfl rfl))) (nn_ct (nn_ct (nn_ct (nn_q rfl rfl) (nn_q rfl rfl)) (nn_q rfl rfl)) (nn_ct (nn_q rfl rfl) (nn_q rfl rfl)))))
theorem pj_195 : pr_K (pr_i195, pr_m195) := pm_1 (by decide +kernel) pk_195 ⟨rfl, rfl⟩ pz_195
theorem pz_196 : ∀ pc, Nat.beq (pr_c196 pc).1 46 = false := by
  unfold pr_c196
  exact (nn_ct (nn_ct (nn_ct (nn_ct (nn_ct (nn_ct (nn_q rfl rfl) (nn_q rfl rfl)) (nn_q rfl rfl)) (nn_ct (nn_q rfl rfl) (nn_q rfl rfl))) (nn_ct (nn_ct (nn_q rfl rfl) (nn_q rfl rfl)) (nn_ct (nn_q rfl rfl) (nn_q rfl rfl)))) (nn_ct (nn_ct (nn_ct (nn_q rfl rfl) (nn_q rfl rfl)) (nn_ct (nn_q rfl rfl) (nn_q rfl rfl))) (nn_ct (nn_ct (nn_q rfl rfl) (nn_q rfl rfl)) (nn_ct (nn_q rfl rfl) (nn_q rfl rfl))))) (nn_ct (nn_ct (nn_ct (nn_ct (nn_q rfl rfl) (nn_q rfl rfl)) (nn_ct (nn_q rfl rfl) (nn_q rfl rfl))) (nn_ct (nn_ct (nn_q rfl rfl) (nn_q rfl rfl)) (nn_ct (nn_q rfl rfl) (nn_q rfl rfl)))) (nn_ct (nn_ct (nn_ct (nn_q rfl rfl) (nn_q rfl rfl)) (nn_ct (nn_q rfl rfl) (nn_q rfl rfl))) (nn_ct (nn_ct (nn_q rfl rfl) (nn_q rfl rfl)) (nn_ct (nn_q rfl rfl) (nn_q rfl rfl))))))
theorem pj_196 : pr_K (pr_i196, pr_m196) := pm_1 (by decide +kernel) pk_196 ⟨rfl, rfl⟩ pz_196
theorem pz_197 : ∀ pc, Nat.beq (pr_c197 pc).1 46 = false := by
  unfold pr_c197
  exact (nn_ct (nn_ct (nn_ct (nn_ct (nn_q rfl rfl) (nn_q rfl rfl)) (nn_q rfl rfl)) (nn_ct (nn_ct (nn_q rfl rfl) (nn_q rfl rfl)) (nn_q rfl rfl))) (nn_ct (nn_ct (nn_ct (nn_q rfl rfl) (nn_q rfl rfl)) (nn_q rfl rfl)) (nn_ct (nn_q rfl rfl) (nn_q rfl rfl))))
theorem pj_197 : pr_K (pr_i197, pr_m197) := pm_1 (by decide +kernel) pk_197 ⟨rfl, rfl⟩ pz_197
theorem pz_198 : ∀ pc, Nat.beq (pr_c198 pc).1 46 = false := by
  unfold pr_c198
  exact (nn_ct (nn_ct (nn_ct (nn_ct (nn_q rfl rfl) (nn_q rfl rfl)) (nn_q rfl rfl)) (nn_ct (nn_ct (nn_q rfl rfl) (nn_q rfl rfl)) (nn_q rfl rfl))) (nn_ct (nn_ct (nn_ct (nn_q rfl rfl) (nn_q rfl rfl)) (nn_q rfl rfl)) (nn_ct (nn_q rfl rfl) (nn_q rfl rfl))))
theorem pj_198 : pr_K (pr_i198, pr_m198) := pm_1 (by decide +kernel) pk_198 ⟨rfl, rfl⟩ pz_198
theorem pz_199 : ∀ pc, Nat.beq (pr_c199 pc).1 46 = false := by
  unfold pr_c199
  exact (nn_ct (nn_ct (nn_ct (nn_ct (nn_ct (nn_q rfl rfl) (nn_q rfl rfl)) (nn_q rfl rfl)) (nn_ct (nn_ct (nn_q rfl rfl) (nn_q rfl rfl)) (nn_q rfl rfl))) (nn_ct (nn_ct (nn_ct (nn_q rfl rfl) (nn_q rfl rfl)) (nn_q rfl rfl)) (nn_ct (nn_q rfl rfl) (nn_q rfl rfl)))) (nn_ct (nn_ct (nn_ct (nn_ct (nn_q rfl rfl) (nn_q rfl rfl)) (nn_q rfl rfl)) (nn_ct (nn_ct (nn_q rfl rfl) (nn_q rfl rfl)) (nn_q rfl rfl))) (nn_ct (nn_ct (nn_ct (nn_q rfl rfl) (nn_q rfl rfl)) (nn_q rfl rfl)) (nn_ct (nn_q rfl rfl) (nn_q rfl rfl)))))
theorem pj_199 : pr_K (pr_i199, pr_m199) := pm_1 (by decide +kernel) pk_199 ⟨rfl, rfl⟩ pz_199
theorem pz_200 : ∀ pc, Nat.beq (pr_c200 pc).1 46 = false := by
  unfold pr_c200
  exact (nn_ct (nn_ct (nn_ct (nn_ct (nn_ct (nn_q rfl rfl) (nn_q rfl rfl)) (nn_q rfl rfl)) (nn_ct (nn_ct (nn_q rfl rfl) (nn_q rfl rfl)) (nn_q rfl rfl))) (nn_ct (nn_ct (nn_ct (nn_q rfl rfl) (nn_q rfl rfl)) (nn_q rfl rfl)) (nn_ct (nn_q rfl rfl) (nn_q rfl rfl)))) (nn_ct (nn_ct (nn_ct (nn_ct (nn_q rfl rfl) (nn_q rfl rfl)) (nn_q rfl rfl)) (nn_ct (nn_ct (nn_q rfl rfl) (nn_q rfl rfl)) (nn_q rfl rfl))) (nn_ct (nn_ct (nn_ct (nn_q rfl rfl) (nn_q rfl rfl)) (nn_q rfl rfl)) (nn_ct (nn_q rfl rfl) (nn_q rfl rfl)))))
theorem pj_200 : pr_K (pr_i200, pr_m200) := pm_1 (by decide +kernel) pk_200 ⟨rfl, rfl⟩ pz_200
theorem pz_201 : ∀ pc, Nat.beq (pr_c201 pc).1 46 = false := by
  unfold pr_c201
  exact (nn_ct (nn_ct (nn_ct (nn_ct (nn_q rfl rfl) (nn_q rfl rfl)) (nn_ct (nn_q rfl rfl) (nn_q rfl rfl))) (nn_ct (nn_ct (nn_q rfl rfl) (nn_q rfl rfl)) (nn_ct (nn_q rfl rfl) (nn_q rfl rfl)))) (nn_ct (nn_ct (nn_ct (nn_q rfl rfl) (nn_q rfl rfl)) (nn_ct (nn_q rfl rfl) (nn_q rfl rfl))) (nn_ct (nn_ct (nn_q rfl rfl) (nn_q rfl rfl)) (nn_q rfl rfl))))
theorem pj_201 : pr_K (pr_i201, pr_m201) := pm_1 (by decide +kernel) pk_201 ⟨rfl, rfl⟩ pz_201
theorem pz_202 : ∀ pc, Nat.beq (pr_c202 pc).1 46 = false := by
  unfold pr_c202
  exact (nn_ct (nn_ct (nn_ct (nn_ct (nn_ct (nn_q rfl rfl) (nn_q rfl rfl)) (nn_q rfl rfl)) (nn_ct (nn_q rfl rfl) (nn_q rfl rfl))) (nn_ct (nn_ct (nn_q rfl rfl) (nn_q rfl rfl)) (nn_ct (nn_q rfl rfl) (nn_q rfl rfl)))) (nn_ct (nn_ct (nn_ct (nn_ct (nn_q rfl rfl) (nn_q rfl rfl)) (nn_q rfl rfl)) (nn_ct (nn_q rfl rfl) (nn_q rfl rfl))) (nn_ct (nn_ct (nn_q rfl rfl) (nn_q rfl rfl)) (nn_ct (nn_q rfl rfl) (nn_q rfl rfl)))))
theorem pj_202 : pr_K (pr_i202, pr_m202) := pm_1 (by decide +kernel) pk_202 ⟨rfl, rfl⟩ pz_202
theorem pz_203 : ∀ pc, Nat.beq (pr_c203 pc).1 46 = false := by
  unfold pr_c203
  exact (nn_ct (nn_ct (nn_ct (nn_ct (nn_ct (nn_q rfl rfl) (nn_q rfl rfl)) (nn_q rfl rfl)) (nn_ct (nn_ct (nn_q rfl rfl) (nn_q rfl rfl)) (nn_q rfl rfl))) (nn_ct (nn_ct (nn_ct (nn_q rfl rfl) (nn_q rfl rfl)) (nn_q rfl rfl)) (nn_ct (nn_q rfl rfl) (nn_q rfl rfl)))) (nn_ct (nn_ct (nn_ct (nn_ct (nn_q rfl rfl) (nn_q rfl rfl)) (nn_q rfl rfl)) (nn_ct (nn_ct (nn_q rfl rfl) (nn_q rfl rfl)) (nn_q rfl rfl))) (nn_ct (nn_ct (nn_ct (nn_q rfl rfl) (nn_q rfl rfl)) (nn_q rfl rfl)) (nn_ct (nn_q rfl rfl) (nn_q rfl rfl)))))
theorem pj_203 : pr_K (pr_i203, pr_m203) := pm_1 (by decide +kernel) pk_203 ⟨rfl, rfl⟩ pz_203
theorem pz_204 : ∀ pc, Nat.beq (pr_c204 pc).1 46 = false := by
  unfold pr_c204
  exact (nn_ct (nn_ct (nn_ct (nn_ct (nn_ct (nn_q rfl rfl) (nn_q rfl rfl)) (nn_q rfl rfl)) (nn_ct (nn_q rfl rfl) (nn_q rfl rfl))) (nn_ct (nn_ct (nn_q rfl rfl) (nn_q rfl rfl)) (nn_ct (nn_q rfl rfl) (nn_q rfl rfl)))) (nn_ct (nn_ct (nn_ct (nn_ct (nn_q rfl rfl) (nn_q rfl rfl)) (nn_q rfl rfl)) (nn_ct (nn_q rfl rfl) (nn_q rfl rfl))) (nn_ct (nn_ct (nn_q rfl rfl) (nn_q rfl rfl)) (nn_ct (nn_q rfl rfl) (nn_q rfl rfl)))))
theorem pj_204 : pr_K (pr_i204, pr_m204) := pm_1 (by decide +kernel) pk_204 ⟨rfl, rfl⟩ pz_204
theorem pz_205 : ∀ pc, Nat.beq (pr_c205 pc).1 46 = false := by
  unfold pr_c205
  exact (nn_ct (nn_ct (nn_ct (nn_ct (nn_q rfl rfl) (nn_q rfl rfl)) (nn_ct (nn_q rfl rfl) (nn_q rfl rfl))) (nn_ct (nn_ct (nn_q rfl rfl) (nn_q rfl rfl)) (nn_q rfl rfl))) (nn_ct (nn_ct (nn_ct (nn_q rfl rfl) (nn_q rfl rfl)) (nn_q rfl rfl)) (nn_ct (nn_ct (nn_q rfl rfl) (nn_q rfl rfl)) (nn_q rfl rfl))))
theorem pj_205 : pr_K (pr_i205, pr_m205) := pm_1 (by decide +kernel) pk_205 ⟨rfl, rfl⟩ pz_205
theorem pz_206 : ∀ pc, Nat.beq (pr_c206 pc).1 46 = false := by
  unfold pr_c206
  exact (nn_ct (nn_ct (nn_ct (nn_ct (nn_q rfl rfl) (nn_q rfl rfl)) (nn_q rfl rfl)) (nn_ct (nn_q rfl rfl) (nn_q rfl rfl))) (nn_ct (nn_ct (nn_q rfl rfl) (nn_q rfl rfl)) (nn_ct (nn_q rfl rfl) (nn_q rfl rfl))))
theorem pj_206 : pr_K (pr_i206, pr_m206) := pm_1 (by decide +kernel) pk_206 ⟨rfl, rfl⟩ pz_206
theorem pz_207 : ∀ pc, Nat.beq (pr_c207 pc).1 46 = false := by
  unfold pr_c207
  exact (nn_ct (nn_ct (nn_ct (nn_ct (nn_ct (nn_q rfl rfl) (nn_q rfl rfl)) (nn_q rfl rfl)) (nn_ct (nn_ct (nn_q rfl rfl) (nn_q rfl rfl)) (nn_q rfl rfl))) (nn_ct (nn_ct (nn_ct (nn_q rfl rfl) (nn_q rfl rfl)) (nn_q rfl rfl)) (nn_ct (nn_ct (nn_q rfl rfl) (nn_q rfl rfl)) (nn_q rfl rfl)))) (nn_ct (nn_ct (nn_ct (nn_ct (nn_q rfl rfl) (nn_q rfl rfl)) (nn_q rfl rfl)) (nn_ct (nn_ct (nn_q rfl rfl) (nn_q rfl rfl)) (nn_q rfl rfl))) (nn_ct (nn_ct (nn_ct (nn_q rfl rfl) (nn_q rfl rfl)) (nn_q rfl rfl)) (nn_ct (nn_ct (nn_q rfl rfl) (nn_q rfl rfl)) (nn_q rfl rfl)))))
theorem pj_207 : pr_K (pr_i207, pr_m207) := pm_1 (by decide +kernel) pk_207 ⟨rfl, rfl⟩ pz_207
theorem pz_208 : ∀ pc, Nat.beq (pr_c208 pc).1 46 = false := by
  unfold pr_c208
  exact (nn_ct (nn_ct (nn_q rfl rfl) (nn_q rfl rfl)) (nn_ct (nn_q rfl rfl) (nn_q rfl rfl)))
theorem pj_208 : pr_K (pr_i208, pr_m208) := pm_1 (by decide +kernel) pk_208 ⟨rfl, rfl⟩ pz_208
theorem pz_209 : ∀ pc, Nat.beq (pr_c209 pc).1 46 = false := by
  unfold pr_c209
  exact (nn_ct (nn_ct (nn_ct (nn_ct (nn_ct (nn_q rfl rfl) (nn_q rfl rfl)) (nn_q rfl rfl)) (nn_ct (nn_q rfl rfl) (nn_q rfl rfl))) (nn_ct (nn_ct (nn_ct (nn_q rfl rfl) (nn_q rfl rfl)) (nn_q rfl rfl)) (nn_ct (nn_q rfl rfl) (nn_q rfl rfl)))) (nn_ct (nn_ct (nn_ct (nn_ct (nn_q rfl rfl) (nn_q rfl rfl)) (nn_q rfl rfl)) (nn_ct (nn_q rfl rfl) (nn_q rfl rfl))) (nn_ct (nn_ct (nn_q rfl rfl) (nn_q rfl rfl)) (nn_ct (nn_q rfl rfl) (nn_q rfl rfl)))))
theorem pj_209 : pr_K (pr_i209, pr_m209) := pm_1 (by decide +kernel) pk_209 ⟨rfl, rfl⟩ pz_209
theorem pz_210 : ∀ pc, Nat.beq (pr_c210 pc).1 46 = false := by
  unfold pr_c210
  exact (nn_ct (nn_ct (nn_ct (nn_ct (nn_q rfl rfl) (nn_q rfl rfl)) (nn_q rfl rfl)) (nn_ct (nn_q rfl rfl) (nn_q rfl rfl))) (nn_ct (nn_ct (nn_q rfl rfl) (nn_q rfl rfl)) (nn_ct (nn_q rfl rfl) (nn_q rfl rfl))))
theorem pj_210 : pr_K (pr_i210, pr_m210) := pm_1 (by decide +kernel) pk_210 ⟨rfl, rfl⟩ pz_210
theorem pz_211 : ∀ pc, Nat.beq (pr_c211 pc).1 46 = false := by
  unfold pr_c211
  exact (nn_ct (nn_ct (nn_ct (nn_ct (nn_q rfl rfl) (nn_q rfl rfl)) (nn_q rfl rfl)) (nn_ct (nn_ct (nn_q rfl rfl) (nn_q rfl rfl)) (nn_q rfl rfl))) (nn_ct (nn_ct (nn_ct (nn_q rfl rfl) (nn_q rfl rfl)) (nn_q rfl rfl)) (nn_ct (nn_ct (nn_q rfl rfl) (nn_q rfl rfl)) (nn_q rfl rfl))))
theorem pj_211 : pr_K (pr_i211, pr_m211) := pm_1 (by decide +kernel) pk_211 ⟨rfl, rfl⟩ pz_211
theorem pz_212 : ∀ pc, Nat.beq (pr_c212 pc).1 46 = false := by
  unfold pr_c212
  exact (nn_ct (nn_ct (nn_ct (nn_ct (nn_q rfl rfl) (nn_q rfl rfl)) (nn_q rfl rfl)) (nn_ct (nn_q rfl rfl) (nn_q rfl rfl))) (nn_ct (nn_ct (nn_q rfl rfl) (nn_q rfl rfl)) (nn_ct (nn_q rfl rfl) (nn_q rfl rfl))))
theorem pj_212 : pr_K (pr_i212, pr_m212) := pm_1 (by decide +kernel) pk_212 ⟨rfl, rfl⟩ pz_212
theorem pz_213 : ∀ pc, Nat.beq (pr_c213 pc).1 46 = false := by
  unfold pr_c213
  exact (nn_ct (nn_ct (nn_ct (nn_ct (nn_ct (nn_ct (nn_ct (nn_q rfl rfl) (nn_q rfl rfl)) (nn_q rfl rfl)) (nn_ct (nn_ct (nn_q rfl rfl) (nn_q rfl rfl)) (nn_q rfl rfl))) (nn_ct (nn_ct (nn_ct (nn_q rfl rfl) (nn_q rfl rfl)) (nn_q rfl rfl)) (nn_ct (nn_q rfl rfl) (nn_q rfl rfl)))) (nn_ct (nn_ct (nn_ct (nn_ct (nn_q rfl rfl) (nn_q rfl rfl)) (nn_q rfl rfl)) (nn_ct (nn_q rfl rfl) (nn_q rfl rfl))) (nn_ct (nn_ct (nn_ct (nn_q rfl rfl) (nn_q rfl rfl)) (nn_q rfl rfl)) (nn_ct (nn_q rfl rfl) (nn_q rfl rfl))))) (nn_ct (nn_ct (nn_ct (nn_ct (nn_ct (nn_q rfl rfl) (nn_q rfl rfl)) (nn_q rfl rfl)) (nn_ct (nn_q rfl rfl) (nn_q rfl rfl))) (nn_ct (nn_ct (nn_ct (nn_q rfl rfl) (nn_q rfl rfl)) (nn_q rfl rfl)) (nn_ct (nn_q rfl rfl) (nn_q rfl rfl)))) (nn_ct (nn_ct (nn_ct (nn_ct (nn_q rfl rfl) (nn_q rfl rfl)) (nn_q rfl rfl)) (nn_ct (nn_q rfl rfl) (nn_q rfl rfl))) (nn_ct (nn_ct (nn_ct (nn_q rfl rfl) (nn_q rfl rfl)) (nn_q rfl rfl)) (nn_ct (nn_q rfl rfl) (nn_q rfl rfl)))))) (nn_ct (nn_ct (nn_ct (nn_ct (nn_ct (nn_ct (nn_q rfl rfl) (nn_q rfl rfl)) (nn_q rfl rfl)) (nn_ct (nn_q rfl rfl) (nn_q rfl rfl))) (nn_ct (nn_ct (nn_ct (nn_q rfl rfl) (nn_q rfl rfl)) (nn_q rfl rfl)) (nn_ct (nn_q rfl rfl) (nn_q rfl rfl)))) (nn_ct (nn_ct (nn_ct (nn_ct (nn_q rfl rfl) (nn_q rfl rfl)) (nn_q rfl rfl)) (nn_ct (nn_q rfl rfl) (nn_q rfl rfl))) (nn_ct (nn_ct (nn_ct (nn_q rfl rfl) (nn_q rfl rfl)) (nn_q rfl rfl)) (nn_ct (nn_q rfl rfl) (nn_q rfl rfl))))) (nn_ct (nn_ct (nn_ct (nn_ct (nn_ct (nn_q rfl rfl) (nn_q rfl rfl)) (nn_q rfl rfl)) (nn_ct (nn_q rfl rfl) (nn_q rfl rfl))) (nn_ct (nn_ct (nn_ct (nn_q rfl rfl) (nn_q rfl rfl)) (nn_q rfl rfl)) (nn_ct (nn_q rfl rfl) (nn_q rfl rfl)))) (nn_ct (nn_ct (nn_ct (nn_ct (nn_q rfl rfl) (nn_q rfl rfl)) (nn_q rfl rfl)) (nn_ct (nn_q rfl rfl) (nn_q rfl rfl))) (nn_ct (nn_ct (nn_ct (nn_q rfl rfl) (nn_q rfl rfl)) (nn_q rfl rfl)) (nn_ct (nn_q rfl rfl) (nn_q rfl rfl)))))))
theorem pj_213 : pr_K (pr_i213, pr_m213) := pm_1 (by decide +kernel) pk_213 ⟨rfl, rfl⟩ pz_213
theorem pz_214 : ∀ pc, Nat.beq (pr_c214 pc).1 46 = false := by
  unfold pr_c214
  exact (nn_ct (nn_ct (nn_ct (nn_ct (nn_q rfl rfl) (nn_q rfl rfl)) (nn_ct (nn_q rfl rfl) (nn_q rfl rfl))) (nn_ct (nn_ct (nn_q rfl rfl) (nn_q rfl rfl)) (nn_q rfl rfl))) (nn_ct (nn_ct (nn_ct (nn_q rfl rfl) (nn_q rfl rfl)) (nn_q rfl rfl)) (nn_ct (nn_ct (nn_q rfl rfl) (nn_q rfl rfl)) (nn_q rfl rfl))))
theorem pj_214 : pr_K (pr_i214, pr_m214) := pm_1 (by decide +kernel) pk_214 ⟨rfl, rfl⟩ pz_214
theorem pz_215 : ∀ pc, Nat.beq (pr_c215 pc).1 46 = false := by
  unfold pr_c215
  exact (nn_ct (nn_ct (nn_ct (nn_q rfl rfl) (nn_q rfl rfl)) (nn_ct (nn_q rfl rfl) (nn_q rfl rfl))) (nn_ct (nn_ct (nn_q rfl rfl) (nn_q rfl rfl)) (nn_ct (nn_q rfl rfl) (nn_q rfl rfl))))
theorem pj_215 : pr_K (pr_i215, pr_m215) := pm_1 (by decide +kernel) pk_215 ⟨rfl, rfl⟩ pz_215
theorem pz_216 : ∀ pc, Nat.beq (pr_c216 pc).1 46 = false := by
  unfold pr_c216
  exact (nn_ct (nn_ct (nn_ct (nn_ct (nn_ct (nn_q rfl rfl) (nn_q rfl rfl)) (nn_q rfl rfl)) (nn_ct (nn_q rfl rfl) (nn_q rfl rfl))) (nn_ct (nn_ct (nn_q rfl rfl) (nn_q rfl rfl)) (nn_ct (nn_q rfl rfl) (nn_q rfl rfl)))) (nn_ct (nn_ct (nn_ct (nn_q rfl rfl) (nn_q rfl rfl)) (nn_ct (nn_q rfl rfl) (nn_q rfl rfl))) (nn_ct (nn_ct (nn_q rfl rfl) (nn_q rfl rfl)) (nn_ct (nn_q rfl rfl) (nn_q rfl rfl)))))
theorem pj_216 : pr_K (pr_i216, pr_m216) := pm_1 (by decide +kernel) pk_216 ⟨rfl, rfl⟩ pz_216
theorem pz_217 : ∀ pc, Nat.beq (pr_c217 pc).1 46 = false := by
  unfold pr_c217
  exact (nn_ct (nn_ct (nn_ct (nn_ct (nn_q rfl rfl) (nn_q rfl rfl)) (nn_ct (nn_q rfl rfl) (nn_q rfl rfl))) (nn_ct (nn_ct (nn_q rfl rfl) (nn_q rfl rfl)) (nn_q rfl rfl))) (nn_ct (nn_ct (nn_ct (nn_q rfl rfl) (nn_q rfl rfl)) (nn_ct (nn_q rfl rfl) (nn_q rfl rfl))) (nn_ct (nn_ct (nn_q rfl rfl) (nn_q rfl rfl)) (nn_q rfl rfl))))
theorem pj_217 : pr_K (pr_i217, pr_m217) := pm_1 (by decide +kernel) pk_217 ⟨rfl, rfl⟩ pz_217
theorem pz_218 : ∀ pc, Nat.beq (pr_c218 pc).1 46 = false := by
  unfold pr_c218
  exact (nn_ct (nn_ct (nn_ct (nn_ct (nn_ct (nn_q rfl rfl) (nn_q rfl rfl)) (nn_ct (nn_q rfl rfl) (nn_q rfl rfl))) (nn_ct (nn_ct (nn_q rfl rfl) (nn_q rfl rfl)) (nn_q rfl rfl))) (nn_ct (nn_ct (nn_ct (nn_q rfl rfl) (nn_q rfl rfl)) (nn_ct (nn_q rfl rfl) (nn_q rfl rfl))) (nn_ct (nn_ct (nn_q rfl rfl) (nn_q rfl rfl)) (nn_q rfl rfl)))) (nn_ct (nn_ct (nn_ct (nn_ct (nn_q rfl rfl) (nn_q rfl rfl)) (nn_ct (nn_q rfl rfl) (nn_q rfl rfl))) (nn_ct (nn_ct (nn_q rfl rfl) (nn_q rfl rfl)) (nn_q rfl rfl))) (nn_ct (nn_ct (nn_ct (nn_q rfl rfl) (nn_q rfl rfl)) (nn_q rfl rfl)) (nn_ct (nn_ct (nn_q rfl rfl) (nn_q rfl rfl)) (nn_q rfl rfl)))))
theorem pj_218 : pr_K (pr_i218, pr_m218) := pm_1 (by decide +kernel) pk_218 ⟨rfl, rfl⟩ pz_218
theorem pz_219 : ∀ pc, Nat.beq (pr_c219 pc).1 46 = false := by
  unfold pr_c219
  exact (nn_ct (nn_ct (nn_ct (nn_ct (nn_ct (nn_q rfl rfl) (nn_q rfl rfl)) (nn_ct (nn_q rfl rfl) (nn_q rfl rfl))) (nn_ct (nn_ct (nn_q rfl rfl) (nn_q rfl rfl)) (nn_ct (nn_q rfl rfl) (nn_q rfl rfl)))) (nn_ct (nn_ct (nn_ct (nn_q rfl rfl) (nn_q rfl rfl)) (nn_ct (nn_q rfl rfl) (nn_q rfl rfl))) (nn_ct (nn_ct (nn_q rfl rfl) (nn_q rfl rfl)) (nn_ct (nn_q rfl rfl) (nn_q rfl rfl))))) (nn_ct (nn_ct (nn_ct (nn_ct (nn_q rfl rfl) (nn_q rfl rfl)) (nn_ct (nn_q rfl rfl) (nn_q rfl rfl))) (nn_ct (nn_ct (nn_q rfl rfl) (nn_q rfl rfl)) (nn_ct (nn_q rfl rfl) (nn_q rfl rfl)))) (nn_ct (nn_ct (nn_ct (nn_q rfl rfl) (nn_q rfl rfl)) (nn_ct (nn_q rfl rfl) (nn_q rfl rfl))) (nn_ct (nn_ct (nn_q rfl rfl) (nn_q rfl rfl)) (nn_q rfl rfl)))))
theorem pj_219 : pr_K (pr_i219, pr_m219) := pm_1 (by decide +kernel) pk_219 ⟨rfl, rfl⟩ pz_219
theorem pz_220 : ∀ pc, Nat.beq (pr_c220 pc).1 46 = false := by
  unfold pr_c220
  exact (nn_ct (nn_ct (nn_ct (nn_q rfl rfl) (nn_q rfl rfl)) (nn_q rfl rfl)) (nn_ct (nn_q rfl rfl) (nn_q rfl rfl)))
theorem pj_220 : pr_K (pr_i220, pr_m220) := pm_1 (by decide +kernel) pk_220 ⟨rfl, rfl⟩ pz_220
theorem pz_221 : ∀ pc, Nat.beq (pr_c221 pc).1 46 = false := by
  unfold pr_c221
  exact (nn_ct (nn_ct (nn_ct (nn_ct (nn_q rfl rfl) (nn_q rfl rfl)) (nn_q rfl rfl)) (nn_ct (nn_q rfl rfl) (nn_q rfl rfl))) (nn_ct (nn_ct (nn_ct (nn_q rfl rfl) (nn_q rfl rfl)) (nn_q rfl rfl)) (nn_ct (nn_q rfl rfl) (nn_q rfl rfl))))
theorem pj_221 : pr_K (pr_i221, pr_m221) := pm_1 (by decide +kernel) pk_221 ⟨rfl, rfl⟩ pz_221
theorem pz_222 : ∀ pc, Nat.beq (pr_c222 pc).1 46 = false := by
  unfold pr_c222
  exact (nn_ct (nn_ct (nn_ct (nn_ct (nn_ct (nn_q rfl rfl) (nn_q rfl rfl)) (nn_ct (nn_q rfl rfl) (nn_q rfl rfl))) (nn_ct (nn_ct (nn_q rfl rfl) (nn_q rfl rfl)) (nn_ct (nn_q rfl rfl) (nn_q rfl rfl)))) (nn_ct (nn_ct (nn_ct (nn_q rfl rfl) (nn_q rfl rfl)) (nn_ct (nn_q rfl rfl) (nn_q rfl rfl))) (nn_ct (nn_ct (nn_q rfl rfl) (nn_q rfl rfl)) (nn_q rfl rfl)))) (nn_ct (nn_ct (nn_ct (nn_ct (nn_q rfl rfl) (nn_q rfl rfl)) (nn_ct (nn_q rfl rfl) (nn_q rfl rfl))) (nn_ct (nn_ct (nn_q rfl rfl) (nn_q rfl rfl)) (nn_q rfl rfl))) (nn_ct (nn_ct (nn_ct (nn_q rfl rfl) (nn_q rfl rfl)) (nn_ct (nn_q rfl rfl) (nn_q rfl rfl))) (nn_ct (nn_ct (nn_q rfl rfl) (nn_q rfl rfl)) (nn_q rfl rfl)))))
theorem pj_222 : pr_K (pr_i222, pr_m222) := pm_1 (by decide +kernel) pk_222 ⟨rfl, rfl⟩ pz_222
theorem pz_223 : ∀ pc, Nat.beq (pr_c223 pc).1 46 = false := by
  unfold pr_c223
  exact (nn_ct (nn_ct (nn_ct (nn_ct (nn_q rfl rfl) (nn_q rfl rfl)) (nn_q rfl rfl)) (nn_ct (nn_q rfl rfl) (nn_q rfl rfl))) (nn_ct (nn_ct (nn_q rfl rfl) (nn_q rfl rfl)) (nn_ct (nn_q rfl rfl) (nn_q rfl rfl))))
theorem pj_223 : pr_K (pr_i223, pr_m223) := pm_1 (by decide +kernel) pk_223 ⟨rfl, rfl⟩ pz_223
theorem pz_224 : ∀ pc, Nat.beq (pr_c224 pc).1 46 = false := by
  unfold pr_c224
  exact (nn_ct (nn_ct (nn_ct (nn_ct (nn_q rfl rfl) (nn_q rfl rfl)) (nn_q rfl rfl)) (nn_ct (nn_q rfl rfl) (nn_q rfl rfl))) (nn_ct (nn_ct (nn_ct (nn_q rfl rfl) (nn_q rfl rfl)) (nn_q rfl rfl)) (nn_ct (nn_q rfl rfl) (nn_q rfl rfl))))
theorem pj_224 : pr_K (pr_i224, pr_m224) := pm_1 (by decide +kernel) pk_224 ⟨rfl, rfl⟩ pz_224
theorem pz_225 : ∀ pc, Nat.beq (pr_c225 pc).1 46 = false := by
  unfold pr_c225
  exact (nn_ct (nn_ct (nn_ct (nn_ct (nn_ct (nn_q rfl rfl) (nn_q rfl rfl)) (nn_q rfl rfl)) (nn_ct (nn_ct (nn_q rfl rfl) (nn_q rfl rfl)) (nn_q rfl rfl))) (nn_ct (nn_ct (nn_ct (nn_q rfl rfl) (nn_q rfl rfl)) (nn_q rfl rfl)) (nn_ct (nn_q rfl rfl) (nn_q rfl rfl)))) (nn_ct (nn_ct (nn_ct (nn_ct (nn_q rfl rfl) (nn_q rfl rfl)) (nn_q rfl rfl)) (nn_ct (nn_q rfl rfl) (nn_q rfl rfl))) (nn_ct (nn_ct (nn_ct (nn_q rfl rfl) (nn_q rfl rfl)) (nn_q rfl rfl)) (nn_ct (nn_q rfl rfl) (nn_q rfl rfl)))))
theorem pj_225 : pr_K (pr_i225, pr_m225) := pm_1 (by decide +kernel) pk_225 ⟨rfl, rfl⟩ pz_225
theorem pz_226 : ∀ pc, Nat.beq (pr_c226 pc).1 46 = false := by
  unfold pr_c226
  exact (nn_ct (nn_ct (nn_ct (nn_ct (nn_q rfl rfl) (nn_q rfl rfl)) (nn_ct (nn_q rfl rfl) (nn_q rfl rfl))) (nn_ct (nn_ct (nn_q rfl rfl) (nn_q rfl rfl)) (nn_ct (nn_q rfl rfl) (nn_q rfl rfl)))) (nn_ct (nn_ct (nn_ct (nn_q rfl rfl) (nn_q rfl rfl)) (nn_ct (nn_q rfl rfl) (nn_q rfl rfl))) (nn_ct (nn_ct (nn_q rfl rfl) (nn_q rfl rfl)) (nn_q rfl rfl))))
theorem pj_226 : pr_K (pr_i226, pr_m226) := pm_1 (by decide +kernel) pk_226 ⟨rfl, rfl⟩ pz_226
theorem pz_227 : ∀ pc, Nat.beq (pr_c227 pc).1 46 = false := by
  unfold pr_c227
  exact (nn_ct (nn_ct (nn_ct (nn_ct (nn_q rfl rfl) (nn_q rfl rfl)) (nn_q rfl rfl)) (nn_ct (nn_q rfl rfl) (nn_q rfl rfl))) (nn_ct (nn_ct (nn_ct (nn_q rfl rfl) (nn_q rfl rfl)) (nn_q rfl rfl)) (nn_ct (nn_q rfl rfl) (nn_q rfl rfl))))
theorem pj_227 : pr_K (pr_i227, pr_m227) := pm_1 (by decide +kernel) pk_227 ⟨rfl, rfl⟩ pz_227
theorem pz_228 : ∀ pc, Nat.beq (pr_c228 pc).1 46 = false := by
  unfold pr_c228
  exact (nn_ct (nn_ct (nn_ct (nn_ct (nn_ct (nn_q rfl rfl) (nn_q rfl rfl)) (nn_q rfl rfl)) (nn_ct (nn_ct (nn_q rfl rfl) (nn_q rfl rfl)) (nn_q rfl rfl))) (nn_ct (nn_ct (nn_ct (nn_q rfl rfl) (nn_q rfl rfl)) (nn_q rfl rfl)) (nn_ct (nn_q rfl rfl) (nn_q rfl rfl)))) (nn_ct (nn_ct (nn_ct (nn_ct (nn_q rfl rfl) (nn_q rfl rfl)) (nn_q rfl rfl)) (nn_ct (nn_ct (nn_q rfl rfl) (nn_q rfl rfl)) (nn_q rfl rfl))) (nn_ct (nn_ct (nn_ct (nn_q rfl rfl) (nn_q rfl rfl)) (nn_q rfl rfl)) (nn_ct (nn_q rfl rfl) (nn_q rfl rfl)))))
theorem pj_228 : pr_K (pr_i228, pr_m228) := pm_1 (by decide +kernel) pk_228 ⟨rfl, rfl⟩ pz_228
theorem pz_229 : ∀ pc, Nat.beq (pr_c229 pc).1 46 = false := by
  unfold pr_c229
  exact (nn_ct (nn_ct (nn_ct (nn_ct (nn_ct (nn_q rfl rfl) (nn_q rfl rfl)) (nn_q rfl rfl)) (nn_ct (nn_ct (nn_q rfl rfl) (nn_q rfl rfl)) (nn_q rfl rfl))) (nn_ct (nn_ct (nn_ct (nn_q rfl rfl) (nn_q rfl rfl)) (nn_q rfl rfl)) (nn_ct (nn_q rfl rfl) (nn_q rfl rfl)))) (nn_ct (nn_ct (nn_ct (nn_ct (nn_q rfl rfl) (nn_q rfl rfl)) (nn_q rfl rfl)) (nn_ct (nn_q rfl rfl) (nn_q rfl rfl))) (nn_ct (nn_ct (nn_ct (nn_q rfl rfl) (nn_q rfl rfl)) (nn_q rfl rfl)) (nn_ct (nn_q rfl rfl) (nn_q rfl rfl)))))
theorem pj_229 : pr_K (pr_i229, pr_m229) := pm_1 (by decide +kernel) pk_229 ⟨rfl, rfl⟩ pz_229
theorem pz_230 : ∀ pc, Nat.beq (pr_c230 pc).1 46 = false := by
  unfold pr_c230
  exact (nn_ct (nn_ct (nn_ct (nn_ct (nn_q rfl rfl) (nn_q rfl rfl)) (nn_ct (nn_q rfl rfl) (nn_q rfl rfl))) (nn_ct (nn_ct (nn_q rfl rfl) (nn_q rfl rfl)) (nn_q rfl rfl))) (nn_ct (nn_ct (nn_ct (nn_q rfl rfl) (nn_q rfl rfl)) (nn_q rfl rfl)) (nn_ct (nn_ct (nn_q rfl rfl) (nn_q rfl rfl)) (nn_q rfl rfl))))
theorem pj_230 : pr_K (pr_i230, pr_m230) := pm_1 (by decide +kernel) pk_230 ⟨rfl, rfl⟩ pz_230
theorem pz_232 : ∀ pc, Nat.beq (pr_c232 pc).1 46 = false := by
  unfold pr_c232
  exact (nn_ct (nn_ct (nn_ct (nn_ct (nn_ct (nn_ct (nn_q rfl rfl) (nn_q rfl rfl)) (nn_q rfl rfl)) (nn_ct (nn_ct (nn_q rfl rfl) (nn_q rfl rfl)) (nn_q rfl rfl))) (nn_ct (nn_ct (nn_ct (nn_q rfl rfl) (nn_q rfl rfl)) (nn_q rfl rfl)) (nn_ct (nn_ct (nn_q rfl rfl) (nn_q rfl rfl)) (nn_q rfl rfl)))) (nn_ct (nn_ct (nn_ct (nn_ct (nn_q rfl rfl) (nn_q rfl rfl)) (nn_q rfl rfl)) (nn_ct (nn_ct (nn_q rfl rfl) (nn_q rfl rfl)) (nn_q rfl rfl))) (nn_ct (nn_ct (nn_ct (nn_q rfl rfl) (nn_q rfl rfl)) (nn_q rfl rfl)) (nn_ct (nn_ct (nn_q rfl rfl) (nn_q rfl rfl)) (nn_q rfl rfl))))) (nn_ct (nn_ct (nn_ct (nn_ct (nn_ct (nn_q rfl rfl) (nn_q rfl rfl)) (nn_q rfl rfl)) (nn_ct (nn_ct (nn_q rfl rfl) (nn_q rfl rfl)) (nn_q rfl rfl))) (nn_ct (nn_ct (nn_ct (nn_q rfl rfl) (nn_q rfl rfl)) (nn_q rfl rfl)) (nn_ct (nn_ct (nn_q rfl rfl) (nn_q rfl rfl)) (nn_q rfl rfl)))) (nn_ct (nn_ct (nn_ct (nn_ct (nn_q rfl rfl) (nn_q rfl rfl)) (nn_q rfl rfl)) (nn_ct (nn_ct (nn_q rfl rfl) (nn_q rfl rfl)) (nn_q rfl rfl))) (nn_ct (nn_ct (nn_ct (nn_q rfl rfl) (nn_q rfl rfl)) (nn_q rfl rfl)) (nn_ct (nn_ct (nn_q rfl rfl) (nn_q rfl rfl)) (nn_q rfl rfl))))))
theorem pj_232 : pr_K (pr_i232, pr_m232) := pm_1 (by decide +kernel) pk_232 ⟨rfl, rfl⟩ pz_232
theorem pz_233 : ∀ pc, Nat.beq (pr_c233 pc).1 46 = false := by
  unfold pr_c233
  exact (nn_ct (nn_ct (nn_ct (nn_ct (nn_ct (nn_ct (nn_q rfl rfl) (nn_q rfl rfl)) (nn_q rfl rfl)) (nn_ct (nn_ct (nn_q rfl rfl) (nn_q rfl rfl)) (nn_q rfl rfl))) (nn_ct (nn_ct (nn_ct (nn_q rfl rfl) (nn_q rfl rfl)) (nn_q rfl rfl)) (nn_ct (nn_q rfl rfl) (nn_q rfl rfl)))) (nn_ct (nn_ct (nn_ct (nn_ct (nn_q rfl rfl) (nn_q rfl rfl)) (nn_q rfl rfl)) (nn_ct (nn_ct (nn_q rfl rfl) (nn_q rfl rfl)) (nn_q rfl rfl))) (nn_ct (nn_ct (nn_ct (nn_q rfl rfl) (nn_q rfl rfl)) (nn_q rfl rfl)) (nn_ct (nn_q rfl rfl) (nn_q rfl rfl))))) (nn_ct (nn_ct (nn_ct (nn_ct (nn_ct (nn_q rfl rfl) (nn_q rfl rfl)) (nn_q rfl rfl)) (nn_ct (nn_ct (nn_q rfl rfl) (nn_q rfl rfl)) (nn_q rfl rfl))) (nn_ct (nn_ct (nn_ct (nn_q rfl rfl) (nn_q rfl rfl)) (nn_q rfl rfl)) (nn_ct (nn_q rfl rfl) (nn_q rfl rfl)))) (nn_ct (nn_ct (nn_ct (nn_ct (nn_q rfl rfl) (nn_q rfl rfl)) (nn_q rfl rfl)) (nn_ct (nn_q rfl rfl) (nn_q rfl rfl))) (nn_ct (nn_ct (nn_ct (nn_q rfl rfl) (nn_q rfl rfl)) (nn_q rfl rfl)) (nn_ct (nn_q rfl rfl) (nn_q rfl rfl))))))
theorem pj_233 : pr_K (pr_i233, pr_m233) := pm_1 (by decide +kernel) pk_233 ⟨rfl, rfl⟩ pz_233
theorem pz_234 : ∀ pc, Nat.beq (pr_c234 pc).1 46 = false := by
  unfold pr_c234
  exact (nn_ct (nn_ct (nn_ct (nn_ct (nn_ct (nn_ct (nn_q rfl rfl) (nn_q rfl rfl)) (nn_ct (nn_q rfl rfl) (nn_q rfl rfl))) (nn_ct (nn_ct (nn_q rfl rfl) (nn_q rfl rfl)) (nn_q rfl rfl))) (nn_ct (nn_ct (nn_ct (nn_q rfl rfl) (nn_q rfl rfl)) (nn_ct (nn_q rfl rfl) (nn_q rfl rfl))) (nn_ct (nn_ct (nn_q rfl rfl) (nn_q rfl rfl)) (nn_q rfl rfl)))) (nn_ct (nn_ct (nn_ct (nn_ct (nn_q rfl rfl) (nn_q rfl rfl)) (nn_ct (nn_q rfl rfl) (nn_q rfl rfl))) (nn_ct (nn_ct (nn_q rfl rfl) (nn_q rfl rfl)) (nn_q rfl rfl))) (nn_ct (nn_ct (nn_ct (nn_q rfl rfl) (nn_q rfl rfl)) (nn_q rfl rfl)) (nn_ct (nn_ct (nn_q rfl rfl) (nn_q rfl rfl)) (nn_q rfl rfl))))) (nn_ct (nn_ct (nn_ct (nn_ct (nn_ct (nn_q rfl rfl) (nn_q rfl rfl)) (nn_ct (nn_q rfl rfl) (nn_q rfl rfl))) (nn_ct (nn_ct (nn_q rfl rfl) (nn_q rfl rfl)) (nn_q rfl rfl))) (nn_ct (nn_ct (nn_ct (nn_q rfl rfl) (nn_q rfl rfl)) (nn_q rfl rfl)) (nn_ct (nn_ct (nn_q rfl rfl) (nn_q rfl rfl)) (nn_q rfl rfl)))) (nn_ct (nn_ct (nn_ct (nn_ct (nn_q rfl rfl) (nn_q rfl rfl)) (nn_ct (nn_q rfl rfl) (nn_q rfl rfl))) (nn_ct (nn_ct (nn_q rfl rfl) (nn_q rfl rfl)) (nn_q rfl rfl))) (nn_ct (nn_ct (nn_ct (nn_q rfl rfl) (nn_q rfl rfl)) (nn_q rfl rfl)) (nn_ct (nn_ct (nn_q rfl rfl) (nn_q rfl rfl)) (nn_q rfl rfl))))))
theorem pj_234 : pr_K (pr_i234, pr_m234) := pm_1 (by decide +kernel) pk_234 ⟨rfl, rfl⟩ pz_234
theorem pz_235 : ∀ pc, Nat.beq (pr_c235 pc).1 46 = false := by
  unfold pr_c235
  exact (nn_ct (nn_ct (nn_ct (nn_q rfl rfl) (nn_q rfl rfl)) (nn_ct (nn_q rfl rfl) (nn_q rfl rfl))) (nn_ct (nn_ct (nn_q rfl rfl) (nn_q rfl rfl)) (nn_q rfl rfl)))
theorem pj_235 : pr_K (pr_i235, pr_m235) := pm_1 (by decide +kernel) pk_235 ⟨rfl, rfl⟩ pz_235
theorem pz_236 : ∀ pc, Nat.beq (pr_c236 pc).1 46 = false := by
  unfold pr_c236
  exact (nn_ct (nn_ct (nn_ct (nn_q rfl rfl) (nn_q rfl rfl)) (nn_ct (nn_q rfl rfl) (nn_q rfl rfl))) (nn_ct (nn_ct (nn_q rfl rfl) (nn_q rfl rfl)) (nn_ct (nn_q rfl rfl) (nn_q rfl rfl))))
theorem pj_236 : pr_K (pr_i236, pr_m236) := pm_1 (by decide +kernel) pk_236 ⟨rfl, rfl⟩ pz_236
theorem pz_237 : ∀ pc, Nat.beq (pr_c237 pc).1 46 = false := by
  unfold pr_c237
  exact (nn_ct (nn_ct (nn_ct (nn_ct (nn_q rfl rfl) (nn_q rfl rfl)) (nn_q rfl rfl)) (nn_ct (nn_q rfl rfl) (nn_q rfl rfl))) (nn_ct (nn_ct (nn_ct (nn_q rfl rfl) (nn_q rfl rfl)) (nn_q rfl rfl)) (nn_ct (nn_q rfl rfl) (nn_q rfl rfl))))
theorem pj_237 : pr_K (pr_i237, pr_m237) := pm_1 (by decide +kernel) pk_237 ⟨rfl, rfl⟩ pz_237
theorem pz_238 : ∀ pc, Nat.beq (pr_c238 pc).1 46 = false := by
  unfold pr_c238
  exact (nn_ct (nn_ct (nn_ct (nn_ct (nn_q rfl rfl) (nn_q rfl rfl)) (nn_q rfl rfl)) (nn_ct (nn_q rfl rfl) (nn_q rfl rfl))) (nn_ct (nn_ct (nn_q rfl rfl) (nn_q rfl rfl)) (nn_ct (nn_q rfl rfl) (nn_q rfl rfl))))
theorem pj_238 : pr_K (pr_i238, pr_m238) := pm_1 (by decide +kernel) pk_238 ⟨rfl, rfl⟩ pz_238
theorem pz_239 : ∀ pc, Nat.beq (pr_c239 pc).1 46 = false := by
  unfold pr_c239
  exact (nn_ct (nn_ct (nn_ct (nn_q rfl rfl) (nn_q rfl rfl)) (nn_q rfl rfl)) (nn_ct (nn_ct (nn_q rfl rfl) (nn_q rfl rfl)) (nn_q rfl rfl)))
theorem pj_239 : pr_K (pr_i239, pr_m239) := pm_1 (by decide +kernel) pk_239 ⟨rfl, rfl⟩ pz_239
theorem pz_241 : ∀ pc, Nat.beq (pr_c241 pc).1 46 = false := by
  unfold pr_c241
  exact (nn_ct (nn_ct (nn_ct (nn_ct (nn_q rfl rfl) (nn_q rfl rfl)) (nn_q rfl rfl)) (nn_ct (nn_q rfl rfl) (nn_q rfl rfl))) (nn_ct (nn_ct (nn_q rfl rfl) (nn_q rfl rfl)) (nn_ct (nn_q rfl rfl) (nn_q rfl rfl))))
theorem pj_241 : pr_K (pr_i241, pr_m241) := pm_1 (by decide +kernel) pk_241 ⟨rfl, rfl⟩ pz_241
theorem pz_242 : ∀ pc, Nat.beq (pr_c242 pc).1 46 = false := by
  unfold pr_c242
  exact (nn_ct (nn_ct (nn_ct (nn_ct (nn_q rfl rfl) (nn_q rfl rfl)) (nn_ct (nn_q rfl rfl) (nn_q rfl rfl))) (nn_ct (nn_ct (nn_q rfl rfl) (nn_q rfl rfl)) (nn_ct (nn_q rfl rfl) (nn_q rfl rfl)))) (nn_ct (nn_ct (nn_ct (nn_q rfl rfl) (nn_q rfl rfl)) (nn_ct (nn_q rfl rfl) (nn_q rfl rfl))) (nn_ct (nn_ct (nn_q rfl rfl) (nn_q rfl rfl)) (nn_ct (nn_q rfl rfl) (nn_q rfl rfl)))))
theorem pj_242 : pr_K (pr_i242, pr_m242) := pm_1 (by decide +kernel) pk_242 ⟨rfl, rfl⟩ pz_242
theorem pz_243 : ∀ pc, Nat.beq (pr_c243 pc).1 46 = false := by
  unfold pr_c243
  exact (nn_ct (nn_ct (nn_ct (nn_ct (nn_q rfl rfl) (nn_q rfl rfl)) (nn_q rfl rfl)) (nn_ct (nn_q rfl rfl) (nn_q rfl rfl))) (nn_ct (nn_ct (nn_q rfl rfl) (nn_q rfl rfl)) (nn_ct (nn_q rfl rfl) (nn_q rfl rfl))))
theorem pj_243 : pr_K (pr_i243, pr_m243) := pm_1 (by decide +kernel) pk_243 ⟨rfl, rfl⟩ pz_243
theorem pz_244 : ∀ pc, Nat.beq (pr_c244 pc).1 46 = false := by
  unfold pr_c244
  exact (nn_ct (nn_ct (nn_ct (nn_q rfl rfl) (nn_q rfl rfl)) (nn_ct (nn_q rfl rfl) (nn_q rfl rfl))) (nn_ct (nn_ct (nn_q rfl rfl) (nn_q rfl rfl)) (nn_q rfl rfl)))
theorem pj_244 : pr_K (pr_i244, pr_m244) := pm_1 (by decide +kernel) pk_244 ⟨rfl, rfl⟩ pz_244
theorem pz_245 : ∀ pc, Nat.beq (pr_c245 pc).1 46 = false := by
  unfold pr_c245
  exact (nn_ct (nn_ct (nn_ct (nn_ct (nn_q rfl rfl) (nn_q rfl rfl)) (nn_ct (nn_q rfl rfl) (nn_q rfl rfl))) (nn_ct (nn_ct (nn_q rfl rfl) (nn_q rfl rfl)) (nn_q rfl rfl))) (nn_ct (nn_ct (nn_ct (nn_q rfl rfl) (nn_q rfl rfl)) (nn_q rfl rfl)) (nn_ct (nn_ct (nn_q rfl rfl) (nn_q rfl rfl)) (nn_q rfl rfl))))
theorem pj_245 : pr_K (pr_i245, pr_m245) := pm_1 (by decide +kernel) pk_245 ⟨rfl, rfl⟩ pz_245
theorem pz_246 : ∀ pc, Nat.beq (pr_c246 pc).1 46 = false := by
  unfold pr_c246
  exact (nn_ct (nn_ct (nn_ct (nn_ct (nn_q rfl rfl) (nn_q rfl rfl)) (nn_q rfl rfl)) (nn_ct (nn_ct (nn_q rfl rfl) (nn_q rfl rfl)) (nn_q rfl rfl))) (nn_ct (nn_ct (nn_ct (nn_q rfl rfl) (nn_q rfl rfl)) (nn_q rfl rfl)) (nn_ct (nn_ct (nn_q rfl rfl) (nn_q rfl rfl)) (nn_q rfl rfl))))
theorem pj_246 : pr_K (pr_i246, pr_m246) := pm_1 (by decide +kernel) pk_246 ⟨rfl, rfl⟩ pz_246
theorem pz_248 : ∀ pc, Nat.beq (pr_c248 pc).1 46 = false := by
  unfold pr_c248
  exact (nn_ct (nn_ct (nn_ct (nn_ct (nn_q rfl rfl) (nn_q rfl rfl)) (nn_ct (nn_q rfl rfl) (nn_q rfl rfl))) (nn_ct (nn_ct (nn_q rfl rfl) (nn_q rfl rfl)) (nn_ct (nn_q rfl rfl) (nn_q rfl rfl)))) (nn_ct (nn_ct (nn_ct (nn_q rfl rfl) (nn_q rfl rfl)) (nn_ct (nn_q rfl rfl) (nn_q rfl rfl))) (nn_ct (nn_ct (nn_q rfl rfl) (nn_q rfl rfl)) (nn_ct (nn_q rfl rfl) (nn_q rfl rfl)))))
theorem pj_248 : pr_K (pr_i248, pr_m248) := pm_1 (by decide +kernel) pk_248 ⟨rfl, rfl⟩ pz_248
theorem pz_249 : ∀ pc, Nat.beq (pr_c249 pc).1 46 = false := by
  unfold pr_c249
  exact (nn_ct (nn_ct (nn_ct (nn_ct (nn_ct (nn_ct (nn_q rfl rfl) (nn_q rfl rfl)) (nn_q rfl rfl)) (nn_ct (nn_q rfl rfl) (nn_q rfl rfl))) (nn_ct (nn_ct (nn_ct (nn_q rfl rfl) (nn_q rfl rfl)) (nn_q rfl rfl)) (nn_ct (nn_q rfl rfl) (nn_q rfl rfl)))) (nn_ct (nn_ct (nn_ct (nn_ct (nn_q rfl rfl) (nn_q rfl rfl)) (nn_q rfl rfl)) (nn_ct (nn_q rfl rfl) (nn_q rfl rfl))) (nn_ct (nn_ct (nn_ct (nn_q rfl rfl) (nn_q rfl rfl)) (nn_q rfl rfl)) (nn_ct (nn_q rfl rfl) (nn_q rfl rfl))))) (nn_ct (nn_ct (nn_ct (nn_ct (nn_ct (nn_q rfl rfl) (nn_q rfl rfl)) (nn_q rfl rfl)) (nn_ct (nn_q rfl rfl) (nn_q rfl rfl))) (nn_ct (nn_ct (nn_ct (nn_q rfl rfl) (nn_q rfl rfl)) (nn_q rfl rfl)) (nn_ct (nn_q rfl rfl) (nn_q rfl rfl)))) (nn_ct (nn_ct (nn_ct (nn_ct (nn_q rfl rfl) (nn_q rfl rfl)) (nn_q rfl rfl)) (nn_ct (nn_q rfl rfl) (nn_q rfl rfl))) (nn_ct (nn_ct (nn_ct (nn_q rfl rfl) (nn_q rfl rfl)) (nn_q rfl rfl)) (nn_ct (nn_q rfl rfl) (nn_q rfl rfl))))))
theorem pj_249 : pr_K (pr_i249, pr_m249) := pm_1 (by decide +kernel) pk_249 ⟨rfl, rfl⟩ pz_249
theorem pz_250 : ∀ pc, Nat.beq (pr_c250 pc).1 46 = false := by
  unfold pr_c250
  exact (nn_ct (nn_ct (nn_ct (nn_ct (nn_ct (nn_q rfl rfl) (nn_q rfl rfl)) (nn_q rfl rfl)) (nn_ct (nn_ct (nn_q rfl rfl) (nn_q rfl rfl)) (nn_q rfl rfl))) (nn_ct (nn_ct (nn_ct (nn_q rfl rfl) (nn_q rfl rfl)) (nn_q rfl rfl)) (nn_ct (nn_q rfl rfl) (nn_q rfl rfl)))) (nn_ct (nn_ct (nn_ct (nn_ct (nn_q rfl rfl) (nn_q rfl rfl)) (nn_q rfl rfl)) (nn_ct (nn_ct (nn_q rfl rfl) (nn_q rfl rfl)) (nn_q rfl rfl))) (nn_ct (nn_ct (nn_ct (nn_q rfl rfl) (nn_q rfl rfl)) (nn_q rfl rfl)) (nn_ct (nn_q rfl rfl) (nn_q rfl rfl)))))
theorem pj_250 : pr_K (pr_i250, pr_m250) := pm_1 (by decide +kernel) pk_250 ⟨rfl, rfl⟩ pz_250
theorem pz_251 : ∀ pc, Nat.beq (pr_c251 pc).1 46 = false := by
  unfold pr_c251
  exact (nn_ct (nn_ct (nn_ct (nn_q rfl rfl) (nn_q rfl rfl)) (nn_ct (nn_q rfl rfl) (nn_q rfl rfl))) (nn_ct (nn_ct (nn_q rfl rfl) (nn_q rfl rfl)) (nn_q rfl rfl)))
theorem pj_251 : pr_K (pr_i251, pr_m251) := pm_1 (by decide +kernel) pk_251 ⟨rfl, rfl⟩ pz_251
theorem pz_265 : ∀ pc, Nat.beq (pr_c265 pc).1 46 = false := by
  unfold pr_c265
  exact (nn_ct (nn_ct (nn_ct (nn_ct (nn_ct (nn_ct (nn_q rfl rfl) (nn_q rfl rfl)) (nn_q rfl rfl)) (nn_ct (nn_ct (nn_q rfl rfl) (nn_q rfl rfl)) (nn_q rfl rfl))) (nn_ct (nn_ct (nn_ct (nn_q rfl rfl) (nn_q rfl rfl)) (nn_q rfl rfl)) (nn_ct (nn_ct (nn_q rfl rfl) (nn_q rfl rfl)) (nn_q rfl rfl)))) (nn_ct (nn_ct (nn_ct (nn_ct (nn_q rfl rfl) (nn_q rfl rfl)) (nn_q rfl rfl)) (nn_ct (nn_ct (nn_q rfl rfl) (nn_q rfl rfl)) (nn_q rfl rfl))) (nn_ct (nn_ct (nn_ct (nn_q rfl rfl) (nn_q rfl rfl)) (nn_q rfl rfl)) (nn_ct (nn_q rfl rfl) (nn_q rfl rfl))))) (nn_ct (nn_ct (nn_ct (nn_ct (nn_ct (nn_q rfl rfl) (nn_q rfl rfl)) (nn_q rfl rfl)) (nn_ct (nn_ct (nn_q rfl rfl) (nn_q rfl rfl)) (nn_q rfl rfl))) (nn_ct (nn_ct (nn_ct (nn_q rfl rfl) (nn_q rfl rfl)) (nn_q rfl rfl)) (nn_ct (nn_q rfl rfl) (nn_q rfl rfl)))) (nn_ct (nn_ct (nn_ct (nn_ct (nn_q rfl rfl) (nn_q rfl rfl)) (nn_q rfl rfl)) (nn_ct (nn_ct (nn_q rfl rfl) (nn_q rfl rfl)) (nn_q rfl rfl))) (nn_ct (nn_ct (nn_ct (nn_q rfl rfl) (nn_q rfl rfl)) (nn_q rfl rfl)) (nn_ct (nn_q rfl rfl) (nn_q rfl rfl))))))
theorem pj_265 : pr_K (pr_i265, pr_m265) := pm_1 (by decide +kernel) pk_265 ⟨rfl, rfl⟩ pz_265
theorem pz_269 : ∀ pc, Nat.beq (pr_c269 pc).1 46 = false := by
  unfold pr_c269
  exact (nn_ct (nn_ct (nn_ct (nn_ct (nn_ct (nn_ct (nn_q rfl rfl) (nn_q rfl rfl)) (nn_ct (nn_q rfl rfl) (nn_q rfl rfl))) (nn_ct (nn_ct (nn_q rfl rfl) (nn_q rfl rfl)) (nn_ct (nn_q rfl rfl) (nn_q rfl rfl)))) (nn_ct (nn_ct (nn_ct (nn_q rfl rfl) (nn_q rfl rfl)) (nn_ct (nn_q rfl rfl) (nn_q rfl rfl))) (nn_ct (nn_ct (nn_q rfl rfl) (nn_q rfl rfl)) (nn_ct (nn_q rfl rfl) (nn_q rfl rfl))))) (nn_ct (nn_ct (nn_ct (nn_ct (nn_q rfl rfl) (nn_q rfl rfl)) (nn_ct (nn_q rfl rfl) (nn_q rfl rfl))) (nn_ct (nn_ct (nn_q rfl rfl) (nn_q rfl rfl)) (nn_ct (nn_q rfl rfl) (nn_q rfl rfl)))) (nn_ct (nn_ct (nn_ct (nn_q rfl rfl) (nn_q rfl rfl)) (nn_ct (nn_q rfl rfl) (nn_q rfl rfl))) (nn_ct (nn_ct (nn_q rfl rfl) (nn_q rfl rfl)) (nn_q rfl rfl))))) (nn_ct (nn_ct (nn_ct (nn_ct (nn_ct (nn_q rfl rfl) (nn_q rfl rfl)) (nn_ct (nn_q rfl rfl) (nn_q rfl rfl))) (nn_ct (nn_ct (nn_q rfl rfl) (nn_q rfl rfl)) (nn_ct (nn_q rfl rfl) (nn_q rfl rfl)))) (nn_ct (nn_ct (nn_ct (nn_q rfl rfl) (nn_q rfl rfl)) (nn_ct (nn_q rfl rfl) (nn_q rfl rfl))) (nn_ct (nn_ct (nn_q rfl rfl) (nn_q rfl rfl)) (nn_q rfl rfl)))) (nn_ct (nn_ct (nn_ct (nn_ct (nn_q rfl rfl) (nn_q rfl rfl)) (nn_ct (nn_q rfl rfl) (nn_q rfl rfl))) (nn_ct (nn_ct (nn_q rfl rfl) (nn_q rfl rfl)) (nn_ct (nn_q rfl rfl) (nn_q rfl rfl)))) (nn_ct (nn_ct (nn_ct (nn_q rfl rfl) (nn_q rfl rfl)) (nn_ct (nn_q rfl rfl) (nn_q rfl rfl))) (nn_ct (nn_ct (nn_q rfl rfl) (nn_q rfl rfl)) (nn_q rfl rfl))))))
theorem pj_269 : pr_K (pr_i269, pr_m269) := pm_1 (by decide +kernel) pk_269 ⟨rfl, rfl⟩ pz_269
theorem pz_270 : ∀ pc, Nat.beq (pr_c270 pc).1 46 = false := by
  unfold pr_c270
  exact (nn_ct (nn_ct (nn_ct (nn_ct (nn_ct (nn_ct (nn_ct (nn_q rfl rfl) (nn_q rfl rfl)) (nn_q rfl rfl)) (nn_ct (nn_q rfl rfl) (nn_q rfl rfl))) (nn_ct (nn_ct (nn_ct (nn_q rfl rfl) (nn_q rfl rfl)) (nn_q rfl rfl)) (nn_ct (nn_q rfl rfl) (nn_q rfl rfl)))) (nn_ct (nn_ct (nn_ct (nn_ct (nn_q rfl rfl) (nn_q rfl rfl)) (nn_q rfl rfl)) (nn_ct (nn_q rfl rfl) (nn_q rfl rfl))) (nn_ct (nn_ct (nn_ct (nn_q rfl rfl) (nn_q rfl rfl)) (nn_q rfl rfl)) (nn_ct (nn_q rfl rfl) (nn_q rfl rfl))))) (nn_ct (nn_ct (nn_ct (nn_ct (nn_ct (nn_q rfl rfl) (nn_q rfl rfl)) (nn_q rfl rfl)) (nn_ct (nn_q rfl rfl) (nn_q rfl rfl))) (nn_ct (nn_ct (nn_ct (nn_q rfl rfl) (nn_q rfl rfl)) (nn_q rfl rfl)) (nn_ct (nn_q rfl rfl) (nn_q rfl rfl)))) (nn_ct (nn_ct (nn_ct (nn_ct (nn_q rfl rfl) (nn_q rfl rfl)) (nn_q rfl rfl)) (nn_ct (nn_q rfl rfl) (nn_q rfl rfl))) (nn_ct (nn_ct (nn_q rfl rfl) (nn_q rfl rfl)) (nn_ct (nn_q rfl rfl) (nn_q rfl rfl)))))) (nn_ct (nn_ct (nn_ct (nn_ct (nn_ct (nn_ct (nn_q rfl rfl) (nn_q rfl rfl)) (nn_q rfl rfl)) (nn_ct (nn_q rfl rfl) (nn_q rfl rfl))) (nn_ct (nn_ct (nn_ct (nn_q rfl rfl) (nn_q rfl rfl)) (nn_q rfl rfl)) (nn_ct (nn_q rfl rfl) (nn_q rfl rfl)))) (nn_ct (nn_ct (nn_ct (nn_ct (nn_q rfl rfl) (nn_q rfl rfl)) (nn_q rfl rfl)) (nn_ct (nn_q rfl rfl) (nn_q rfl rfl))) (nn_ct (nn_ct (nn_ct (nn_q rfl rfl) (nn_q rfl rfl)) (nn_q rfl rfl)) (nn_ct (nn_q rfl rfl) (nn_q rfl rfl))))) (nn_ct (nn_ct (nn_ct (nn_ct (nn_ct (nn_q rfl rfl) (nn_q rfl rfl)) (nn_q rfl rfl)) (nn_ct (nn_q rfl rfl) (nn_q rfl rfl))) (nn_ct (nn_ct (nn_ct (nn_q rfl rfl) (nn_q rfl rfl)) (nn_q rfl rfl)) (nn_ct (nn_q rfl rfl) (nn_q rfl rfl)))) (nn_ct (nn_ct (nn_ct (nn_ct (nn_q rfl rfl) (nn_q rfl rfl)) (nn_q rfl rfl)) (nn_ct (nn_q rfl rfl) (nn_q rfl rfl))) (nn_ct (nn_ct (nn_q rfl rfl) (nn_q rfl rfl)) (nn_ct (nn_q rfl rfl) (nn_q rfl rfl)))))))
theorem pj_270 : pr_K (pr_i270, pr_m270) := pm_1 (by decide +kernel) pk_270 ⟨rfl, rfl⟩ pz_270
theorem pz_272 : ∀ pc, Nat.beq (pr_c272 pc).1 46 = false := by
  unfold pr_c272
  exact (nn_ct (nn_ct (nn_ct (nn_ct (nn_q rfl rfl) (nn_q rfl rfl)) (nn_ct (nn_q rfl rfl) (nn_q rfl rfl))) (nn_ct (nn_ct (nn_q rfl rfl) (nn_q rfl rfl)) (nn_q rfl rfl))) (nn_ct (nn_ct (nn_ct (nn_q rfl rfl) (nn_q rfl rfl)) (nn_q rfl rfl)) (nn_ct (nn_ct (nn_q rfl rfl) (nn_q rfl rfl)) (nn_q rfl rfl))))
theorem pj_272 : pr_K (pr_i272, pr_m272) := pm_1 (by decide +kernel) pk_272 ⟨rfl, rfl⟩ pz_272
theorem pz_273 : ∀ pc, Nat.beq (pr_c273 pc).1 46 = false := by
  unfold pr_c273
  exact (nn_ct (nn_ct (nn_ct (nn_ct (nn_ct (nn_ct (nn_ct (nn_q rfl rfl) (nn_q rfl rfl)) (nn_q rfl rfl)) (nn_ct (nn_q rfl rfl) (nn_q rfl rfl))) (nn_ct (nn_ct (nn_q rfl rfl) (nn_q rfl rfl)) (nn_ct (nn_q rfl rfl) (nn_q rfl rfl)))) (nn_ct (nn_ct (nn_ct (nn_ct (nn_q rfl rfl) (nn_q rfl rfl)) (nn_q rfl rfl)) (nn_ct (nn_q rfl rfl) (nn_q rfl rfl))) (nn_ct (nn_ct (nn_q rfl rfl) (nn_q rfl rfl)) (nn_ct (nn_q rfl rfl) (nn_q rfl rfl))))) (nn_ct (nn_ct (nn_ct (nn_ct (nn_ct (nn_q rfl rfl) (nn_q rfl rfl)) (nn_q rfl rfl)) (nn_ct (nn_q rfl rfl) (nn_q rfl rfl))) (nn_ct (nn_ct (nn_q rfl rfl) (nn_q rfl rfl)) (nn_ct (nn_q rfl rfl) (nn_q rfl rfl)))) (nn_ct (nn_ct (nn_ct (nn_q rfl rfl) (nn_q rfl rfl)) (nn_ct (nn_q rfl rfl) (nn_q rfl rfl))) (nn_ct (nn_ct (nn_q rfl rfl) (nn_q rfl rfl)) (nn_ct (nn_q rfl rfl) (nn_q rfl rfl)))))) (nn_ct (nn_ct (nn_ct (nn_ct (nn_ct (nn_ct (nn_q rfl rfl) (nn_q rfl rfl)) (nn_q rfl rfl)) (nn_ct (nn_q rfl rfl) (nn_q rfl rfl))) (nn_ct (nn_ct (nn_q rfl rfl) (nn_q rfl rfl)) (nn_ct (nn_q rfl rfl) (nn_q rfl rfl)))) (nn_ct (nn_ct (nn_ct (nn_q rfl rfl) (nn_q rfl rfl)) (nn_ct (nn_q rfl rfl) (nn_q rfl rfl))) (nn_ct (nn_ct (nn_q rfl rfl) (nn_q rfl rfl)) (nn_ct (nn_q rfl rfl) (nn_q rfl rfl))))) (nn_ct (nn_ct (nn_ct (nn_ct (nn_ct (nn_q rfl rfl) (nn_q rfl rfl)) (nn_q rfl rfl)) (nn_ct (nn_q rfl rfl) (nn_q rfl rfl))) (nn_ct (nn_ct (nn_q rfl rfl) (nn_q rfl rfl)) (nn_ct (nn_q rfl rfl) (nn_q rfl rfl)))) (nn_ct (nn_ct (nn_ct (nn_q rfl rfl) (nn_q rfl rfl)) (nn_ct (nn_q rfl rfl) (nn_q rfl rfl))) (nn_ct (nn_ct (nn_q rfl rfl) (nn_q rfl rfl)) (nn_ct (nn_q rfl rfl) (nn_q rfl rfl)))))))
theorem pj_273 : pr_K (pr_i273, pr_m273) := pm_1 (by decide +kernel) pk_273 ⟨rfl, rfl⟩ pz_273
theorem pz_274 : ∀ pc, Nat.beq (pr_c274 pc).1 46 = false := by
  unfold pr_c274
  exact (nn_ct (nn_ct (nn_ct (nn_ct (nn_q rfl rfl) (nn_q rfl rfl)) (nn_ct (nn_q rfl rfl) (nn_q rfl rfl))) (nn_ct (nn_ct (nn_q rfl rfl) (nn_q rfl rfl)) (nn_ct (nn_q rfl rfl) (nn_q rfl rfl)))) (nn_ct (nn_ct (nn_ct (nn_q rfl rfl) (nn_q rfl rfl)) (nn_ct (nn_q rfl rfl) (nn_q rfl rfl))) (nn_ct (nn_ct (nn_q rfl rfl) (nn_q rfl rfl)) (nn_ct (nn_q rfl rfl) (nn_q rfl rfl)))))
theorem pj_274 : pr_K (pr_i274, pr_m274) := pm_1 (by decide +kernel) pk_274 ⟨rfl, rfl⟩ pz_274
theorem pz_275 : ∀ pc, Nat.beq (pr_c275 pc).1 46 = false := by
  unfold pr_c275
  exact (nn_ct (nn_ct (nn_ct (nn_ct (nn_ct (nn_q rfl rfl) (nn_q rfl rfl)) (nn_ct (nn_q rfl rfl) (nn_q rfl rfl))) (nn_ct (nn_ct (nn_q rfl rfl) (nn_q rfl rfl)) (nn_q rfl rfl))) (nn_ct (nn_ct (nn_ct (nn_q rfl rfl) (nn_q rfl rfl)) (nn_q rfl rfl)) (nn_ct (nn_ct (nn_q rfl rfl) (nn_q rfl rfl)) (nn_q rfl rfl)))) (nn_ct (nn_ct (nn_ct (nn_ct (nn_q rfl rfl) (nn_q rfl rfl)) (nn_ct (nn_q rfl rfl) (nn_q rfl rfl))) (nn_ct (nn_ct (nn_q rfl rfl) (nn_q rfl rfl)) (nn_q rfl rfl))) (nn_ct (nn_ct (nn_ct (nn_q rfl rfl) (nn_q rfl rfl)) (nn_q rfl rfl)) (nn_ct (nn_ct (nn_q rfl rfl) (nn_q rfl rfl)) (nn_q rfl rfl)))))
theorem pj_275 : pr_K (pr_i275, pr_m275) := pm_1 (by decide +kernel) pk_275 ⟨rfl, rfl⟩ pz_275
theorem pz_276 : ∀ pc, Nat.beq (pr_c276 pc).1 46 = false := by
  unfold pr_c276
  exact (nn_ct (nn_ct (nn_ct (nn_ct (nn_ct (nn_q rfl rfl) (nn_q rfl rfl)) (nn_ct (nn_q rfl rfl) (nn_q rfl rfl))) (nn_ct (nn_ct (nn_q rfl rfl) (nn_q rfl rfl)) (nn_ct (nn_q rfl rfl) (nn_q rfl rfl)))) (nn_ct (nn_ct (nn_ct (nn_q rfl rfl) (nn_q rfl rfl)) (nn_ct (nn_q rfl rfl) (nn_q rfl rfl))) (nn_ct (nn_ct (nn_q rfl rfl) (nn_q rfl rfl)) (nn_q rfl rfl)))) (nn_ct (nn_ct (nn_ct (nn_ct (nn_q rfl rfl) (nn_q rfl rfl)) (nn_ct (nn_q rfl rfl) (nn_q rfl rfl))) (nn_ct (nn_ct (nn_q rfl rfl) (nn_q rfl rfl)) (nn_q rfl rfl))) (nn_ct (nn_ct (nn_ct (nn_q rfl rfl) (nn_q rfl rfl)) (nn_ct (nn_q rfl rfl) (nn_q rfl rfl))) (nn_ct (nn_ct (nn_q rfl rfl) (nn_q rfl rfl)) (nn_q rfl rfl)))))
theorem pj_276 : pr_K (pr_i276, pr_m276) := pm_1 (by decide +kernel) pk_276 ⟨rfl, rfl⟩ pz_276
theorem pz_277 : ∀ pc, Nat.beq (pr_c277 pc).1 46 = false := by
  unfold pr_c277
  exact (nn_ct (nn_ct (nn_ct (nn_ct (nn_ct (nn_q rfl rfl) (nn_q rfl rfl)) (nn_ct (nn_q rfl rfl) (nn_q rfl rfl))) (nn_ct (nn_ct (nn_q rfl rfl) (nn_q rfl rfl)) (nn_q rfl rfl))) (nn_ct (nn_ct (nn_ct (nn_q rfl rfl) (nn_q rfl rfl)) (nn_q rfl rfl)) (nn_ct (nn_ct (nn_q rfl rfl) (nn_q rfl rfl)) (nn_q rfl rfl)))) (nn_ct (nn_ct (nn_ct (nn_ct (nn_q rfl rfl) (nn_q rfl rfl)) (nn_q rfl rfl)) (nn_ct (nn_ct (nn_q rfl rfl) (nn_q rfl rfl)) (nn_q rfl rfl))) (nn_ct (nn_ct (nn_ct (nn_q rfl rfl) (nn_q rfl rfl)) (nn_q rfl rfl)) (nn_ct (nn_ct (nn_q rfl rfl) (nn_q rfl rfl)) (nn_q rfl rfl)))))
theorem pj_277 : pr_K (pr_i277, pr_m277) := pm_1 (by decide +kernel) pk_277 ⟨rfl, rfl⟩ pz_277
theorem pz_278 : ∀ pc, Nat.beq (pr_c278 pc).1 46 = false := by
  unfold pr_c278
  exact (nn_ct (nn_ct (nn_ct (nn_ct (nn_ct (nn_q rfl rfl) (nn_q rfl rfl)) (nn_ct (nn_q rfl rfl) (nn_q rfl rfl))) (nn_ct (nn_ct (nn_q rfl rfl) (nn_q rfl rfl)) (nn_q rfl rfl))) (nn_ct (nn_ct (nn_ct (nn_q rfl rfl) (nn_q rfl rfl)) (nn_ct (nn_q rfl rfl) (nn_q rfl rfl))) (nn_ct (nn_ct (nn_q rfl rfl) (nn_q rfl rfl)) (nn_q rfl rfl)))) (nn_ct (nn_ct (nn_ct (nn_ct (nn_q rfl rfl) (nn_q rfl rfl)) (nn_ct (nn_q rfl rfl) (nn_q rfl rfl))) (nn_ct (nn_ct (nn_q rfl rfl) (nn_q rfl rfl)) (nn_q rfl rfl))) (nn_ct (nn_ct (nn_ct (nn_q rfl rfl) (nn_q rfl rfl)) (nn_ct (nn_q rfl rfl) (nn_q rfl rfl))) (nn_ct (nn_ct (nn_q rfl rfl) (nn_q rfl rfl)) (nn_q rfl rfl)))))
theorem pj_278 : pr_K (pr_i278, pr_m278) := pm_1 (by decide +kernel) pk_278 ⟨rfl, rfl⟩ pz_278
theorem pz_279 : ∀ pc, Nat.beq (pr_c279 pc).1 46 = false := by
  unfold pr_c279
  exact (nn_ct (nn_ct (nn_ct (nn_ct (nn_q rfl rfl) (nn_q rfl rfl)) (nn_q rfl rfl)) (nn_ct (nn_q rfl rfl) (nn_q rfl rfl))) (nn_ct (nn_ct (nn_q rfl rfl) (nn_q rfl rfl)) (nn_ct (nn_q rfl rfl) (nn_q rfl rfl))))
theorem pj_279 : pr_K (pr_i279, pr_m279) := pm_1 (by decide +kernel) pk_279 ⟨rfl, rfl⟩ pz_279
theorem pz_280 : ∀ pc, Nat.beq (pr_c280 pc).1 46 = false := by
  unfold pr_c280
  exact (nn_ct (nn_ct (nn_ct (nn_ct (nn_ct (nn_q rfl rfl) (nn_q rfl rfl)) (nn_ct (nn_q rfl rfl) (nn_q rfl rfl))) (nn_ct (nn_ct (nn_q rfl rfl) (nn_q rfl rfl)) (nn_q rfl rfl))) (nn_ct (nn_ct (nn_ct (nn_q rfl rfl) (nn_q rfl rfl)) (nn_ct (nn_q rfl rfl) (nn_q rfl rfl))) (nn_ct (nn_ct (nn_q rfl rfl) (nn_q rfl rfl)) (nn_q rfl rfl)))) (nn_ct (nn_ct (nn_ct (nn_ct (nn_q rfl rfl) (nn_q rfl rfl)) (nn_ct (nn_q rfl rfl) (nn_q rfl rfl))) (nn_ct (nn_ct (nn_q rfl rfl) (nn_q rfl rfl)) (nn_q rfl rfl))) (nn_ct (nn_ct (nn_ct (nn_q rfl rfl) (nn_q rfl rfl)) (nn_q rfl rfl)) (nn_ct (nn_ct (nn_q rfl rfl) (nn_q rfl rfl)) (nn_q rfl rfl)))))
theorem pj_280 : pr_K (pr_i280, pr_m280) := pm_1 (by decide +kernel) pk_280 ⟨rfl, rfl⟩ pz_280
theorem pz_281 : ∀ pc, Nat.beq (pr_c281 pc).1 46 = false := by
  unfold pr_c281
  exact (nn_ct (nn_ct (nn_ct (nn_ct (nn_ct (nn_q rfl rfl) (nn_q rfl rfl)) (nn_ct (nn_q rfl rfl) (nn_q rfl rfl))) (nn_ct (nn_ct (nn_q rfl rfl) (nn_q rfl rfl)) (nn_q rfl rfl))) (nn_ct (nn_ct (nn_ct (nn_q rfl rfl) (nn_q rfl rfl)) (nn_q rfl rfl)) (nn_ct (nn_ct (nn_q rfl rfl) (nn_q rfl rfl)) (nn_q rfl rfl)))) (nn_ct (nn_ct (nn_ct (nn_ct (nn_q rfl rfl) (nn_q rfl rfl)) (nn_q rfl rfl)) (nn_ct (nn_ct (nn_q rfl rfl) (nn_q rfl rfl)) (nn_q rfl rfl))) (nn_ct (nn_ct (nn_ct (nn_q rfl rfl) (nn_q rfl rfl)) (nn_q rfl rfl)) (nn_ct (nn_ct (nn_q rfl rfl) (nn_q rfl rfl)) (nn_q rfl rfl)))))
theorem pj_281 : pr_K (pr_i281, pr_m281) := pm_1 (by decide +kernel) pk_281 ⟨rfl, rfl⟩ pz_281
theorem pz_282 : ∀ pc, Nat.beq (pr_c282 pc).1 46 = false := by
  unfold pr_c282
  exact (nn_ct (nn_ct (nn_ct (nn_ct (nn_q rfl rfl) (nn_q rfl rfl)) (nn_ct (nn_q rfl rfl) (nn_q rfl rfl))) (nn_ct (nn_ct (nn_q rfl rfl) (nn_q rfl rfl)) (nn_q rfl rfl))) (nn_ct (nn_ct (nn_ct (nn_q rfl rfl) (nn_q rfl rfl)) (nn_ct (nn_q rfl rfl) (nn_q rfl rfl))) (nn_ct (nn_ct (nn_q rfl rfl) (nn_q rfl rfl)) (nn_q rfl rfl))))
theorem pj_282 : pr_K (pr_i282, pr_m282) := pm_1 (by decide +kernel) pk_282 ⟨rfl, rfl⟩ pz_282
theorem pz_283 : ∀ pc, Nat.beq (pr_c283 pc).1 46 = false := by
  unfold pr_c283
  exact (nn_ct (nn_ct (nn_ct (nn_ct (nn_q rfl rfl) (nn_q rfl rfl)) (nn_ct (nn_q rfl rfl) (nn_q rfl rfl))) (nn_ct (nn_ct (nn_q rfl rfl) (nn_q rfl rfl)) (nn_ct (nn_q rfl rfl) (nn_q rfl rfl)))) (nn_ct (nn_ct (nn_ct (nn_q rfl rfl) (nn_q rfl rfl)) (nn_ct (nn_q rfl rfl) (nn_q rfl rfl))) (nn_ct (nn_ct (nn_q rfl rfl) (nn_q rfl rfl)) (nn_ct (nn_q rfl rfl) (nn_q rfl rfl)))))
theorem pj_283 : pr_K (pr_i283, pr_m283) := pm_1 (by decide +kernel) pk_283 ⟨rfl, rfl⟩ pz_283
theorem pz_284 : ∀ pc, Nat.beq (pr_c284 pc).1 46 = false := by
  unfold pr_c284
  exact (nn_ct (nn_ct (nn_ct (nn_ct (nn_q rfl rfl) (nn_q rfl rfl)) (nn_q rfl rfl)) (nn_ct (nn_ct (nn_q rfl rfl) (nn_q rfl rfl)) (nn_q rfl rfl))) (nn_ct (nn_ct (nn_ct (nn_q rfl rfl) (nn_q rfl rfl)) (nn_q rfl rfl)) (nn_ct (nn_ct (nn_q rfl rfl) (nn_q rfl rfl)) (nn_q rfl rfl))))
theorem pj_284 : pr_K (pr_i284, pr_m284) := pm_1 (by decide +kernel) pk_284 ⟨rfl, rfl⟩ pz_284
theorem pz_285 : ∀ pc, Nat.beq (pr_c285 pc).1 46 = false := by
  unfold pr_c285
  exact (nn_ct (nn_ct (nn_ct (nn_ct (nn_ct (nn_q rfl rfl) (nn_q rfl rfl)) (nn_q rfl rfl)) (nn_ct (nn_ct (nn_q rfl rfl) (nn_q rfl rfl)) (nn_q rfl rfl))) (nn_ct (nn_ct (nn_ct (nn_q rfl rfl) (nn_q rfl rfl)) (nn_q rfl rfl)) (nn_ct (nn_ct (nn_q rfl rfl) (nn_q rfl rfl)) (nn_q rfl rfl)))) (nn_ct (nn_ct (nn_ct (nn_ct (nn_q rfl rfl) (nn_q rfl rfl)) (nn_q rfl rfl)) (nn_ct (nn_ct (nn_q rfl rfl) (nn_q rfl rfl)) (nn_q rfl rfl))) (nn_ct (nn_ct (nn_ct (nn_q rfl rfl) (nn_q rfl rfl)) (nn_q rfl rfl)) (nn_ct (nn_ct (nn_q rfl rfl) (nn_q rfl rfl)) (nn_q rfl rfl)))))
theorem pj_285 : pr_K (pr_i285, pr_m285) := pm_1 (by decide +kernel) pk_285 ⟨rfl, rfl⟩ pz_285
theorem pz_286 : ∀ pc, Nat.beq (pr_c286 pc).1 46 = false := by
  unfold pr_c286
  exact (nn_ct (nn_ct (nn_ct (nn_ct (nn_ct (nn_q rfl rfl) (nn_q rfl rfl)) (nn_ct (nn_q rfl rfl) (nn_q rfl rfl))) (nn_ct (nn_ct (nn_q rfl rfl) (nn_q rfl rfl)) (nn_ct (nn_q rfl rfl) (nn_q rfl rfl)))) (nn_ct (nn_ct (nn_ct (nn_q rfl rfl) (nn_q rfl rfl)) (nn_ct (nn_q rfl rfl) (nn_q rfl rfl))) (nn_ct (nn_ct (nn_q rfl rfl) (nn_q rfl rfl)) (nn_q rfl rfl)))) (nn_ct (nn_ct (nn_ct (nn_ct (nn_q rfl rfl) (nn_q rfl rfl)) (nn_ct (nn_q rfl rfl) (nn_q rfl rfl))) (nn_ct (nn_ct (nn_q rfl rfl) (nn_q rfl rfl)) (nn_ct (nn_q rfl rfl) (nn_q rfl rfl)))) (nn_ct (nn_ct (nn_ct (nn_q rfl rfl) (nn_q rfl rfl)) (nn_ct (nn_q rfl rfl) (nn_q rfl rfl))) (nn_ct (nn_ct (nn_q rfl rfl) (nn_q rfl rfl)) (nn_q rfl rfl)))))
theorem pj_286 : pr_K (pr_i286, pr_m286) := pm_1 (by decide +kernel) pk_286 ⟨rfl, rfl⟩ pz_286
theorem pz_299 : ∀ pc, Nat.beq (pr_c299 pc).1 46 = false := by
  unfold pr_c299
  exact (nn_ct (nn_ct (nn_ct (nn_ct (nn_ct (nn_ct (nn_ct (nn_q rfl rfl) (nn_q rfl rfl)) (nn_q rfl rfl)) (nn_ct (nn_q rfl rfl) (nn_q rfl rfl))) (nn_ct (nn_ct (nn_q rfl rfl) (nn_q rfl rfl)) (nn_ct (nn_q rfl rfl) (nn_q rfl rfl)))) (nn_ct (nn_ct (nn_ct (nn_q rfl rfl) (nn_q rfl rfl)) (nn_ct (nn_q rfl rfl) (nn_q rfl rfl))) (nn_ct (nn_ct (nn_q rfl rfl) (nn_q rfl rfl)) (nn_ct (nn_q rfl rfl) (nn_q rfl rfl))))) (nn_ct (nn_ct (nn_ct (nn_ct (nn_ct (nn_q rfl rfl) (nn_q rfl rfl)) (nn_q rfl rfl)) (nn_ct (nn_q rfl rfl) (nn_q rfl rfl))) (nn_ct (nn_ct (nn_q rfl rfl) (nn_q rfl rfl)) (nn_ct (nn_q rfl rfl) (nn_q rfl rfl)))) (nn_ct (nn_ct (nn_ct (nn_q rfl rfl) (nn_q rfl rfl)) (nn_ct (nn_q rfl rfl) (nn_q rfl rfl))) (nn_ct (nn_ct (nn_q rfl rfl) (nn_q rfl rfl)) (nn_ct (nn_q rfl rfl) (nn_q rfl rfl)))))) (nn_ct (nn_ct (nn_ct (nn_ct (nn_ct (nn_ct (nn_q rfl rfl) (nn_q rfl rfl)) (nn_q rfl rfl)) (nn_ct (nn_q rfl rfl) (nn_q rfl rfl))) (nn_ct (nn_ct (nn_q rfl rfl) (nn_q rfl rfl)) (nn_ct (nn_q rfl rfl) (nn_q rfl rfl)))) (nn_ct (nn_ct (nn_ct (nn_q rfl rfl) (nn_q rfl rfl)) (nn_ct (nn_q rfl rfl) (nn_q rfl rfl))) (nn_ct (nn_ct (nn_q rfl rfl) (nn_q rfl rfl)) (nn_ct (nn_q rfl rfl) (nn_q rfl rfl))))) (nn_ct (nn_ct (nn_ct (nn_ct (nn_q rfl rfl) (nn_q rfl rfl)) (nn_ct (nn_q rfl rfl) (nn_q rfl rfl))) (nn_ct (nn_ct (nn_q rfl rfl) (nn_q rfl rfl)) (nn_ct (nn_q rfl rfl) (nn_q rfl rfl)))) (nn_ct (nn_ct (nn_ct (nn_q rfl rfl) (nn_q rfl rfl)) (nn_ct (nn_q rfl rfl) (nn_q rfl rfl))) (nn_ct (nn_ct (nn_q rfl rfl) (nn_q rfl rfl)) (nn_ct (nn_q rfl rfl) (nn_q rfl rfl)))))))
theorem pj_299 : pr_K (pr_i299, pr_m299) := pm_1 (by decide +kernel) pk_299 ⟨rfl, rfl⟩ pz_299
theorem pz_302 : ∀ pc, Nat.beq (pr_c302 pc).1 46 = false := by
  unfold pr_c302
  exact (nn_ct (nn_ct (nn_ct (nn_ct (nn_ct (nn_q rfl rfl) (nn_q rfl rfl)) (nn_ct (nn_q rfl rfl) (nn_q rfl rfl))) (nn_ct (nn_ct (nn_q rfl rfl) (nn_q rfl rfl)) (nn_q rfl rfl))) (nn_ct (nn_ct (nn_ct (nn_q rfl rfl) (nn_q rfl rfl)) (nn_q rfl rfl)) (nn_ct (nn_ct (nn_q rfl rfl) (nn_q rfl rfl)) (nn_q rfl rfl)))) (nn_ct (nn_ct (nn_ct (nn_ct (nn_q rfl rfl) (nn_q rfl rfl)) (nn_q rfl rfl)) (nn_ct (nn_ct (nn_q rfl rfl) (nn_q rfl rfl)) (nn_q rfl rfl))) (nn_ct (nn_ct (nn_ct (nn_q rfl rfl) (nn_q rfl rfl)) (nn_q rfl rfl)) (nn_ct (nn_ct (nn_q rfl rfl) (nn_q rfl rfl)) (nn_q rfl rfl)))))
theorem pj_302 : pr_K (pr_i302, pr_m302) := pm_1 (by decide +kernel) pk_302 ⟨rfl, rfl⟩ pz_302
theorem pz_303 : ∀ pc, Nat.beq (pr_c303 pc).1 46 = false := by
  unfold pr_c303
  exact (nn_ct (nn_ct (nn_ct (nn_ct (nn_q rfl rfl) (nn_q rfl rfl)) (nn_q rfl rfl)) (nn_ct (nn_q rfl rfl) (nn_q rfl rfl))) (nn_ct (nn_ct (nn_ct (nn_q rfl rfl) (nn_q rfl rfl)) (nn_q rfl rfl)) (nn_ct (nn_q rfl rfl) (nn_q rfl rfl))))
theorem pj_303 : pr_K (pr_i303, pr_m303) := pm_1 (by decide +kernel) pk_303 ⟨rfl, rfl⟩ pz_303
theorem pz_304 : ∀ pc, Nat.beq (pr_c304 pc).1 46 = false := by
  unfold pr_c304
  exact (nn_ct (nn_ct (nn_ct (nn_ct (nn_ct (nn_q rfl rfl) (nn_q rfl rfl)) (nn_ct (nn_q rfl rfl) (nn_q rfl rfl))) (nn_ct (nn_ct (nn_q rfl rfl) (nn_q rfl rfl)) (nn_q rfl rfl))) (nn_ct (nn_ct (nn_ct (nn_q rfl rfl) (nn_q rfl rfl)) (nn_ct (nn_q rfl rfl) (nn_q rfl rfl))) (nn_ct (nn_ct (nn_q rfl rfl) (nn_q rfl rfl)) (nn_q rfl rfl)))) (nn_ct (nn_ct (nn_ct (nn_ct (nn_q rfl rfl) (nn_q rfl rfl)) (nn_ct (nn_q rfl rfl) (nn_q rfl rfl))) (nn_ct (nn_ct (nn_q rfl rfl) (nn_q rfl rfl)) (nn_q rfl rfl))) (nn_ct (nn_ct (nn_ct (nn_q rfl rfl) (nn_q rfl rfl)) (nn_ct (nn_q rfl rfl) (nn_q rfl rfl))) (nn_ct (nn_ct (nn_q rfl rfl) (nn_q rfl rfl)) (nn_q rfl rfl)))))
theorem pj_304 : pr_K (pr_i304, pr_m304) := pm_1 (by decide +kernel) pk_304 ⟨rfl, rfl⟩ pz_304
theorem pz_305 : ∀ pc, Nat.beq (pr_c305 pc).1 46 = false := by
  unfold pr_c305
  exact (nn_ct (nn_ct (nn_ct (nn_ct (nn_q rfl rfl) (nn_q rfl rfl)) (nn_ct (nn_q rfl rfl) (nn_q rfl rfl))) (nn_ct (nn_ct (nn_q rfl rfl) (nn_q rfl rfl)) (nn_q rfl rfl))) (nn_ct (nn_ct (nn_ct (nn_q rfl rfl) (nn_q rfl rfl)) (nn_q rfl rfl)) (nn_ct (nn_ct (nn_q rfl rfl) (nn_q rfl rfl)) (nn_q rfl rfl))))
theorem py_305 : ∀ pc, Nat.beq (pr_c305 pc).1 37 = false := by
  unfold pr_c305
  exact (nn_ct (nn_ct (nn_ct (nn_ct (nn_q rfl rfl) (nn_q rfl rfl)) (nn_ct (nn_q rfl rfl) (nn_q rfl rfl))) (nn_ct (nn_ct (nn_q rfl rfl) (nn_q rfl rfl)) (nn_q rfl rfl))) (nn_ct (nn_ct (nn_ct (nn_q rfl rfl) (nn_q rfl rfl)) (nn_q rfl rfl)) (nn_ct (nn_ct (nn_q rfl rfl) (nn_q rfl rfl)) (nn_q rfl rfl))))
theorem pj_305 : pr_K (pr_i305, pr_m305) := ⟨by decide +kernel, pk_305, ⟨pr_cn, rfl, (ph_c ph_13 ph_n)⟩, fun _ => nn_ne py_305, nn_ne pz_305⟩
theorem pz_306 : ∀ pc, Nat.beq (pr_c306 pc).1 46 = false := by
  unfold pr_c306
  exact (nn_ct (nn_ct (nn_ct (nn_ct (nn_ct (nn_q rfl rfl) (nn_q rfl rfl)) (nn_q rfl rfl)) (nn_ct (nn_q rfl rfl) (nn_q rfl rfl))) (nn_ct (nn_ct (nn_q rfl rfl) (nn_q rfl rfl)) (nn_ct (nn_q rfl rfl) (nn_q rfl rfl)))) (nn_ct (nn_ct (nn_ct (nn_q rfl rfl) (nn_q rfl rfl)) (nn_ct (nn_q rfl rfl) (nn_q rfl rfl))) (nn_ct (nn_ct (nn_q rfl rfl) (nn_q rfl rfl)) (nn_ct (nn_q rfl rfl) (nn_q rfl rfl)))))
theorem py_306 : ∀ pc, Nat.beq (pr_c306 pc).1 37 = false := by
  unfold pr_c306
  exact (nn_ct (nn_ct (nn_ct (nn_ct (nn_ct (nn_q rfl rfl) (nn_q rfl rfl)) (nn_q rfl rfl)) (nn_ct (nn_q rfl rfl) (nn_q rfl rfl))) (nn_ct (nn_ct (nn_q rfl rfl) (nn_q rfl rfl)) (nn_ct (nn_q rfl rfl) (nn_q rfl rfl)))) (nn_ct (nn_ct (nn_ct (nn_q rfl rfl) (nn_q rfl rfl)) (nn_ct (nn_q rfl rfl) (nn_q rfl rfl))) (nn_ct (nn_ct (nn_q rfl rfl) (nn_q rfl rfl)) (nn_ct (nn_q rfl rfl) (nn_q rfl rfl)))))
theorem pj_306 : pr_K (pr_i306, pr_m306) := ⟨by decide +kernel, pk_306, ⟨pr_cn, rfl, (ph_c ph_19 (ph_c ph_13 ph_n))⟩, fun _ => nn_ne py_306, nn_ne pz_306⟩
theorem pz_307 : ∀ pc, Nat.beq (pr_c307 pc).1 46 = false := by
  unfold pr_c307
  exact (nn_ct (nn_ct (nn_ct (nn_ct (nn_q rfl rfl) (nn_q rfl rfl)) (nn_ct (nn_q rfl rfl) (nn_q rfl rfl))) (nn_ct (nn_ct (nn_q rfl rfl) (nn_q rfl rfl)) (nn_q rfl rfl))) (nn_ct (nn_ct (nn_ct (nn_q rfl rfl) (nn_q rfl rfl)) (nn_q rfl rfl)) (nn_ct (nn_ct (nn_q rfl rfl) (nn_q rfl rfl)) (nn_q rfl rfl))))
theorem py_307 : ∀ pc, Nat.beq (pr_c307 pc).1 37 = false := by
  unfold pr_c307
  exact (nn_ct (nn_ct (nn_ct (nn_ct (nn_q rfl rfl) (nn_q rfl rfl)) (nn_ct (nn_q rfl rfl) (nn_q rfl rfl))) (nn_ct (nn_ct (nn_q rfl rfl) (nn_q rfl rfl)) (nn_q rfl rfl))) (nn_ct (nn_ct (nn_ct (nn_q rfl rfl) (nn_q rfl rfl)) (nn_q rfl rfl)) (nn_ct (nn_ct (nn_q rfl rfl) (nn_q rfl rfl)) (nn_q rfl rfl))))
theorem pj_307 : pr_K (pr_i307, pr_m307) := ⟨by decide +kernel, pk_307, ⟨pr_cn, rfl, (ph_c ph_13 ph_n)⟩, fun _ => nn_ne py_307, nn_ne pz_307⟩
theorem pz_308 : ∀ pc, Nat.beq (pr_c308 pc).1 46 = false := by
  unfold pr_c308
  exact (nn_ct (nn_ct (nn_ct (nn_ct (nn_q rfl rfl) (nn_q rfl rfl)) (nn_ct (nn_q rfl rfl) (nn_q rfl rfl))) (nn_ct (nn_ct (nn_q rfl rfl) (nn_q rfl rfl)) (nn_q rfl rfl))) (nn_ct (nn_ct (nn_ct (nn_q rfl rfl) (nn_q rfl rfl)) (nn_q rfl rfl)) (nn_ct (nn_ct (nn_q rfl rfl) (nn_q rfl rfl)) (nn_q rfl rfl))))
theorem py_308 : ∀ pc, Nat.beq (pr_c308 pc).1 37 = false := by
  unfold pr_c308
  exact (nn_ct (nn_ct (nn_ct (nn_ct (nn_q rfl rfl) (nn_q rfl rfl)) (nn_ct (nn_q rfl rfl) (nn_q rfl rfl))) (nn_ct (nn_ct (nn_q rfl rfl) (nn_q rfl rfl)) (nn_q rfl rfl))) (nn_ct (nn_ct (nn_ct (nn_q rfl rfl) (nn_q rfl rfl)) (nn_q rfl rfl)) (nn_ct (nn_ct (nn_q rfl rfl) (nn_q rfl rfl)) (nn_q rfl rfl))))
theorem pj_308 : pr_K (pr_i308, pr_m308) := ⟨by decide +kernel, pk_308, ⟨pr_cn, rfl, (ph_c ph_19 (ph_c ph_27 ph_n))⟩, fun _ => nn_ne py_308, nn_ne pz_308⟩
theorem pz_309 : ∀ pc, Nat.beq (pr_c309 pc).1 46 = false := by
  unfold pr_c309
  exact (nn_ct (nn_ct (nn_ct (nn_ct (nn_q rfl rfl) (nn_q rfl rfl)) (nn_ct (nn_q rfl rfl) (nn_q rfl rfl))) (nn_ct (nn_ct (nn_q rfl rfl) (nn_q rfl rfl)) (nn_ct (nn_q rfl rfl) (nn_q rfl rfl)))) (nn_ct (nn_ct (nn_ct (nn_q rfl rfl) (nn_q rfl rfl)) (nn_ct (nn_q rfl rfl) (nn_q rfl rfl))) (nn_ct (nn_ct (nn_q rfl rfl) (nn_q rfl rfl)) (nn_q rfl rfl))))
theorem py_309 : ∀ pc, Nat.beq (pr_c309 pc).1 37 = false := by
  unfold pr_c309
  exact (nn_ct (nn_ct (nn_ct (nn_ct (nn_q rfl rfl) (nn_q rfl rfl)) (nn_ct (nn_q rfl rfl) (nn_q rfl rfl))) (nn_ct (nn_ct (nn_q rfl rfl) (nn_q rfl rfl)) (nn_ct (nn_q rfl rfl) (nn_q rfl rfl)))) (nn_ct (nn_ct (nn_ct (nn_q rfl rfl) (nn_q rfl rfl)) (nn_ct (nn_q rfl rfl) (nn_q rfl rfl))) (nn_ct (nn_ct (nn_q rfl rfl) (nn_q rfl rfl)) (nn_q rfl rfl))))
theorem pj_309 : pr_K (pr_i309, pr_m309) := ⟨by decide +kernel, pk_309, ⟨pr_cn, rfl, (ph_c ph_19 ph_n)⟩, fun _ => nn_ne py_309, nn_ne pz_309⟩
theorem pz_310 : ∀ pc, Nat.beq (pr_c310 pc).1 46 = false := by
  unfold pr_c310
  exact (nn_ct (nn_ct (nn_ct (nn_ct (nn_q rfl rfl) (nn_q rfl rfl)) (nn_ct (nn_q rfl rfl) (nn_q rfl rfl))) (nn_ct (nn_ct (nn_q rfl rfl) (nn_q rfl rfl)) (nn_q rfl rfl))) (nn_ct (nn_ct (nn_ct (nn_q rfl rfl) (nn_q rfl rfl)) (nn_ct (nn_q rfl rfl) (nn_q rfl rfl))) (nn_ct (nn_ct (nn_q rfl rfl) (nn_q rfl rfl)) (nn_q rfl rfl))))
theorem py_310 : ∀ pc, Nat.beq (pr_c310 pc).1 37 = false := by
  unfold pr_c310
  exact (nn_ct (nn_ct (nn_ct (nn_ct (nn_q rfl rfl) (nn_q rfl rfl)) (nn_ct (nn_q rfl rfl) (nn_q rfl rfl))) (nn_ct (nn_ct (nn_q rfl rfl) (nn_q rfl rfl)) (nn_q rfl rfl))) (nn_ct (nn_ct (nn_ct (nn_q rfl rfl) (nn_q rfl rfl)) (nn_ct (nn_q rfl rfl) (nn_q rfl rfl))) (nn_ct (nn_ct (nn_q rfl rfl) (nn_q rfl rfl)) (nn_q rfl rfl))))
theorem pj_310 : pr_K (pr_i310, pr_m310) := ⟨by decide +kernel, pk_310, ⟨pr_cn, rfl, (ph_c ph_19 (ph_c ph_27 ph_n))⟩, fun _ => nn_ne py_310, nn_ne pz_310⟩
theorem pz_311 : ∀ pc, Nat.beq (pr_c311 pc).1 46 = false := by
  unfold pr_c311
  exact (nn_ct (nn_ct (nn_ct (nn_ct (nn_q rfl rfl) (nn_q rfl rfl)) (nn_ct (nn_q rfl rfl) (nn_q rfl rfl))) (nn_ct (nn_ct (nn_q rfl rfl) (nn_q rfl rfl)) (nn_q rfl rfl))) (nn_ct (nn_ct (nn_ct (nn_q rfl rfl) (nn_q rfl rfl)) (nn_q rfl rfl)) (nn_ct (nn_ct (nn_q rfl rfl) (nn_q rfl rfl)) (nn_q rfl rfl))))
theorem py_311 : ∀ pc, Nat.beq (pr_c311 pc).1 37 = false := by
  unfold pr_c311
  exact (nn_ct (nn_ct (nn_ct (nn_ct (nn_q rfl rfl) (nn_q rfl rfl)) (nn_ct (nn_q rfl rfl) (nn_q rfl rfl))) (nn_ct (nn_ct (nn_q rfl rfl) (nn_q rfl rfl)) (nn_q rfl rfl))) (nn_ct (nn_ct (nn_ct (nn_q rfl rfl) (nn_q rfl rfl)) (nn_q rfl rfl)) (nn_ct (nn_ct (nn_q rfl rfl) (nn_q rfl rfl)) (nn_q rfl rfl))))
theorem pj_311 : pr_K (pr_i311, pr_m311) := ⟨by decide +kernel, pk_311, ⟨pr_cn, rfl, (ph_c ph_19 ph_n)⟩, fun _ => nn_ne py_311, nn_ne pz_311⟩
theorem pz_312 : ∀ pc, Nat.beq (pr_c312 pc).1 46 = false := by
  unfold pr_c312
  exact (nn_ct (nn_ct (nn_ct (nn_ct (nn_q rfl rfl) (nn_q rfl rfl)) (nn_ct (nn_q rfl rfl) (nn_q rfl rfl))) (nn_ct (nn_ct (nn_q rfl rfl) (nn_q rfl rfl)) (nn_q rfl rfl))) (nn_ct (nn_ct (nn_ct (nn_q rfl rfl) (nn_q rfl rfl)) (nn_q rfl rfl)) (nn_ct (nn_ct (nn_q rfl rfl) (nn_q rfl rfl)) (nn_q rfl rfl))))
theorem py_312 : ∀ pc, Nat.beq (pr_c312 pc).1 37 = false := by
  unfold pr_c312
  exact (nn_ct (nn_ct (nn_ct (nn_ct (nn_q rfl rfl) (nn_q rfl rfl)) (nn_ct (nn_q rfl rfl) (nn_q rfl rfl))) (nn_ct (nn_ct (nn_q rfl rfl) (nn_q rfl rfl)) (nn_q rfl rfl))) (nn_ct (nn_ct (nn_ct (nn_q rfl rfl) (nn_q rfl rfl)) (nn_q rfl rfl)) (nn_ct (nn_ct (nn_q rfl rfl) (nn_q rfl rfl)) (nn_q rfl rfl))))
theorem pj_312 : pr_K (pr_i312, pr_m312) := ⟨by decide +kernel, pk_312, ⟨pr_cn, rfl, (ph_c ph_42 ph_n)⟩, fun _ => nn_ne py_312, nn_ne pz_312⟩
theorem pz_313 : ∀ pc, Nat.beq (pr_c313 pc).1 46 = false := by
  unfold pr_c313
  exact (nn_ct (nn_ct (nn_ct (nn_ct (nn_ct (nn_q rfl rfl) (nn_q rfl rfl)) (nn_q rfl rfl)) (nn_ct (nn_q rfl rfl) (nn_q rfl rfl))) (nn_ct (nn_ct (nn_ct (nn_q rfl rfl) (nn_q rfl rfl)) (nn_q rfl rfl)) (nn_ct (nn_q rfl rfl) (nn_q rfl rfl)))) (nn_ct (nn_ct (nn_ct (nn_ct (nn_q rfl rfl) (nn_q rfl rfl)) (nn_q rfl rfl)) (nn_ct (nn_q rfl rfl) (nn_q rfl rfl))) (nn_ct (nn_ct (nn_q rfl rfl) (nn_q rfl rfl)) (nn_ct (nn_q rfl rfl) (nn_q rfl rfl)))))
theorem py_313 : ∀ pc, Nat.beq (pr_c313 pc).1 37 = false := by
  unfold pr_c313
  exact (nn_ct (nn_ct (nn_ct (nn_ct (nn_ct (nn_q rfl rfl) (nn_q rfl rfl)) (nn_q rfl rfl)) (nn_ct (nn_q rfl rfl) (nn_q rfl rfl))) (nn_ct (nn_ct (nn_ct (nn_q rfl rfl) (nn_q rfl rfl)) (nn_q rfl rfl)) (nn_ct (nn_q rfl rfl) (nn_q rfl rfl)))) (nn_ct (nn_ct (nn_ct (nn_ct (nn_q rfl rfl) (nn_q rfl rfl)) (nn_q rfl rfl)) (nn_ct (nn_q rfl rfl) (nn_q rfl rfl))) (nn_ct (nn_ct (nn_q rfl rfl) (nn_q rfl rfl)) (nn_ct (nn_q rfl rfl) (nn_q rfl rfl)))))
theorem pj_313 : pr_K (pr_i313, pr_m313) := ⟨by decide +kernel, pk_313, ⟨pr_cn, rfl, (ph_c ph_19 (ph_c ph_13 (ph_c ph_27 ph_n)))⟩, fun _ => nn_ne py_313, nn_ne pz_313⟩
theorem pz_314 : ∀ pc, Nat.beq (pr_c314 pc).1 46 = false := by
  unfold pr_c314
  exact (nn_ct (nn_ct (nn_ct (nn_ct (nn_q rfl rfl) (nn_q rfl rfl)) (nn_ct (nn_q rfl rfl) (nn_q rfl rfl))) (nn_ct (nn_ct (nn_q rfl rfl) (nn_q rfl rfl)) (nn_ct (nn_q rfl rfl) (nn_q rfl rfl)))) (nn_ct (nn_ct (nn_ct (nn_q rfl rfl) (nn_q rfl rfl)) (nn_ct (nn_q rfl rfl) (nn_q rfl rfl))) (nn_ct (nn_ct (nn_q rfl rfl) (nn_q rfl rfl)) (nn_q rfl rfl))))
theorem py_314 : ∀ pc, Nat.beq (pr_c314 pc).1 37 = false := by
  unfold pr_c314
  exact (nn_ct (nn_ct (nn_ct (nn_ct (nn_q rfl rfl) (nn_q rfl rfl)) (nn_ct (nn_q rfl rfl) (nn_q rfl rfl))) (nn_ct (nn_ct (nn_q rfl rfl) (nn_q rfl rfl)) (nn_ct (nn_q rfl rfl) (nn_q rfl rfl)))) (nn_ct (nn_ct (nn_ct (nn_q rfl rfl) (nn_q rfl rfl)) (nn_ct (nn_q rfl rfl) (nn_q rfl rfl))) (nn_ct (nn_ct (nn_q rfl rfl) (nn_q rfl rfl)) (nn_q rfl rfl))))
theorem pj_314 : pr_K (pr_i314, pr_m314) := ⟨by decide +kernel, pk_314, ⟨pr_cn, rfl, (ph_c ph_19 (ph_c ph_13 (ph_c ph_27 ph_n)))⟩, fun _ => nn_ne py_314, nn_ne pz_314⟩
theorem pz_315 : ∀ pc, Nat.beq (pr_c315 pc).1 46 = false := by
  unfold pr_c315
  exact (nn_ct (nn_ct (nn_ct (nn_ct (nn_q rfl rfl) (nn_q rfl rfl)) (nn_ct (nn_q rfl rfl) (nn_q rfl rfl))) (nn_ct (nn_ct (nn_q rfl rfl) (nn_q rfl rfl)) (nn_q rfl rfl))) (nn_ct (nn_ct (nn_ct (nn_q rfl rfl) (nn_q rfl rfl)) (nn_ct (nn_q rfl rfl) (nn_q rfl rfl))) (nn_ct (nn_ct (nn_q rfl rfl) (nn_q rfl rfl)) (nn_q rfl rfl))))
theorem py_315 : ∀ pc, Nat.beq (pr_c315 pc).1 37 = false := by
  unfold pr_c315
  exact (nn_ct (nn_ct (nn_ct (nn_ct (nn_q rfl rfl) (nn_q rfl rfl)) (nn_ct (nn_q rfl rfl) (nn_q rfl rfl))) (nn_ct (nn_ct (nn_q rfl rfl) (nn_q rfl rfl)) (nn_q rfl rfl))) (nn_ct (nn_ct (nn_ct (nn_q rfl rfl) (nn_q rfl rfl)) (nn_ct (nn_q rfl rfl) (nn_q rfl rfl))) (nn_ct (nn_ct (nn_q rfl rfl) (nn_q rfl rfl)) (nn_q rfl rfl))))
theorem pj_315 : pr_K (pr_i315, pr_m315) := ⟨by decide +kernel, pk_315, ⟨pr_cn, rfl, (ph_c ph_13 ph_n)⟩, fun _ => nn_ne py_315, nn_ne pz_315⟩
theorem pz_316 : ∀ pc, Nat.beq (pr_c316 pc).1 46 = false := by
  unfold pr_c316
  exact (nn_ct (nn_ct (nn_ct (nn_ct (nn_q rfl rfl) (nn_q rfl rfl)) (nn_q rfl rfl)) (nn_ct (nn_ct (nn_q rfl rfl) (nn_q rfl rfl)) (nn_q rfl rfl))) (nn_ct (nn_ct (nn_ct (nn_q rfl rfl) (nn_q rfl rfl)) (nn_q rfl rfl)) (nn_ct (nn_q rfl rfl) (nn_q rfl rfl))))
theorem py_316 : ∀ pc, Nat.beq (pr_c316 pc).1 37 = false := by
  unfold pr_c316
  exact (nn_ct (nn_ct (nn_ct (nn_ct (nn_q rfl rfl) (nn_q rfl rfl)) (nn_q rfl rfl)) (nn_ct (nn_ct (nn_q rfl rfl) (nn_q rfl rfl)) (nn_q rfl rfl))) (nn_ct (nn_ct (nn_ct (nn_q rfl rfl) (nn_q rfl rfl)) (nn_q rfl rfl)) (nn_ct (nn_q rfl rfl) (nn_q rfl rfl))))
theorem pj_316 : pr_K (pr_i316, pr_m316) := ⟨by decide +kernel, pk_316, ⟨pr_cn, rfl, (ph_c ph_19 (ph_c ph_27 (ph_c ph_42 ph_n)))⟩, fun _ => nn_ne py_316, nn_ne pz_316⟩
theorem pz_317 : ∀ pc, Nat.beq (pr_c317 pc).1 46 = false := by
  unfold pr_c317
  exact (nn_ct (nn_ct (nn_ct (nn_ct (nn_q rfl rfl) (nn_q rfl rfl)) (nn_ct (nn_q rfl rfl) (nn_q rfl rfl))) (nn_ct (nn_ct (nn_q rfl rfl) (nn_q rfl rfl)) (nn_ct (nn_q rfl rfl) (nn_q rfl rfl)))) (nn_ct (nn_ct (nn_ct (nn_q rfl rfl) (nn_q rfl rfl)) (nn_ct (nn_q rfl rfl) (nn_q rfl rfl))) (nn_ct (nn_ct (nn_q rfl rfl) (nn_q rfl rfl)) (nn_q rfl rfl))))
theorem py_317 : ∀ pc, Nat.beq (pr_c317 pc).1 37 = false := by
  unfold pr_c317
  exact (nn_ct (nn_ct (nn_ct (nn_ct (nn_q rfl rfl) (nn_q rfl rfl)) (nn_ct (nn_q rfl rfl) (nn_q rfl rfl))) (nn_ct (nn_ct (nn_q rfl rfl) (nn_q rfl rfl)) (nn_ct (nn_q rfl rfl) (nn_q rfl rfl)))) (nn_ct (nn_ct (nn_ct (nn_q rfl rfl) (nn_q rfl rfl)) (nn_ct (nn_q rfl rfl) (nn_q rfl rfl))) (nn_ct (nn_ct (nn_q rfl rfl) (nn_q rfl rfl)) (nn_q rfl rfl))))
theorem pj_317 : pr_K (pr_i317, pr_m317) := ⟨by decide +kernel, pk_317, ⟨pr_cn, rfl, (ph_c ph_19 (ph_c ph_13 (ph_c ph_27 ph_n)))⟩, fun _ => nn_ne py_317, nn_ne pz_317⟩
theorem pz_318 : ∀ pc, Nat.beq (pr_c318 pc).1 46 = false := by
  unfold pr_c318
  exact (nn_ct (nn_ct (nn_ct (nn_ct (nn_ct (nn_q rfl rfl) (nn_q rfl rfl)) (nn_q rfl rfl)) (nn_ct (nn_q rfl rfl) (nn_q rfl rfl))) (nn_ct (nn_ct (nn_q rfl rfl) (nn_q rfl rfl)) (nn_ct (nn_q rfl rfl) (nn_q rfl rfl)))) (nn_ct (nn_ct (nn_ct (nn_ct (nn_q rfl rfl) (nn_q rfl rfl)) (nn_q rfl rfl)) (nn_ct (nn_q rfl rfl) (nn_q rfl rfl))) (nn_ct (nn_ct (nn_q rfl rfl) (nn_q rfl rfl)) (nn_ct (nn_q rfl rfl) (nn_q rfl rfl)))))
theorem py_318 : ∀ pc, Nat.beq (pr_c318 pc).1 37 = false := by
  unfold pr_c318
  exact (nn_ct (nn_ct (nn_ct (nn_ct (nn_ct (nn_q rfl rfl) (nn_q rfl rfl)) (nn_q rfl rfl)) (nn_ct (nn_q rfl rfl) (nn_q rfl rfl))) (nn_ct (nn_ct (nn_q rfl rfl) (nn_q rfl rfl)) (nn_ct (nn_q rfl rfl) (nn_q rfl rfl)))) (nn_ct (nn_ct (nn_ct (nn_ct (nn_q rfl rfl) (nn_q rfl rfl)) (nn_q rfl rfl)) (nn_ct (nn_q rfl rfl) (nn_q rfl rfl))) (nn_ct (nn_ct (nn_q rfl rfl) (nn_q rfl rfl)) (nn_ct (nn_q rfl rfl) (nn_q rfl rfl)))))
theorem pj_318 : pr_K (pr_i318, pr_m318) := ⟨by decide +kernel, pk_318, ⟨pr_cn, rfl, (ph_c ph_19 (ph_c ph_13 (ph_c ph_27 ph_n)))⟩, fun _ => nn_ne py_318, nn_ne pz_318⟩
theorem pz_319 : ∀ pc, Nat.beq (pr_c319 pc).1 46 = false := by
  unfold pr_c319
  exact (nn_ct (nn_ct (nn_ct (nn_ct (nn_q rfl rfl) (nn_q rfl rfl)) (nn_q rfl rfl)) (nn_ct (nn_ct (nn_q rfl rfl) (nn_q rfl rfl)) (nn_q rfl rfl))) (nn_ct (nn_ct (nn_ct (nn_q rfl rfl) (nn_q rfl rfl)) (nn_q rfl rfl)) (nn_ct (nn_ct (nn_q rfl rfl) (nn_q rfl rfl)) (nn_q rfl rfl))))
theorem py_319 : ∀ pc, Nat.beq (pr_c319 pc).1 37 = false := by
  unfold pr_c319
  exact (nn_ct (nn_ct (nn_ct (nn_ct (nn_q rfl rfl) (nn_q rfl rfl)) (nn_q rfl rfl)) (nn_ct (nn_ct (nn_q rfl rfl) (nn_q rfl rfl)) (nn_q rfl rfl))) (nn_ct (nn_ct (nn_ct (nn_q rfl rfl) (nn_q rfl rfl)) (nn_q rfl rfl)) (nn_ct (nn_ct (nn_q rfl rfl) (nn_q rfl rfl)) (nn_q rfl rfl))))
theorem pj_319 : pr_K (pr_i319, pr_m319) := ⟨by decide +kernel, pk_319, ⟨pr_cn, rfl, (ph_c ph_19 (ph_c ph_27 ph_n))⟩, fun _ => nn_ne py_319, nn_ne pz_319⟩
theorem pz_320 : ∀ pc, Nat.beq (pr_c320 pc).1 46 = false := by
  unfold pr_c320
  exact (nn_ct (nn_ct (nn_ct (nn_ct (nn_ct (nn_q rfl rfl) (nn_q rfl rfl)) (nn_q rfl rfl)) (nn_ct (nn_q rfl rfl) (nn_q rfl rfl))) (nn_ct (nn_ct (nn_q rfl rfl) (nn_q rfl rfl)) (nn_ct (nn_q rfl rfl) (nn_q rfl rfl)))) (nn_ct (nn_ct (nn_ct (nn_q rfl rfl) (nn_q rfl rfl)) (nn_ct (nn_q rfl rfl) (nn_q rfl rfl))) (nn_ct (nn_ct (nn_q rfl rfl) (nn_q rfl rfl)) (nn_ct (nn_q rfl rfl) (nn_q rfl rfl)))))
theorem py_320 : ∀ pc, Nat.beq (pr_c320 pc).1 37 = false := by
  unfold pr_c320
  exact (nn_ct (nn_ct (nn_ct (nn_ct (nn_ct (nn_q rfl rfl) (nn_q rfl rfl)) (nn_q rfl rfl)) (nn_ct (nn_q rfl rfl) (nn_q rfl rfl))) (nn_ct (nn_ct (nn_q rfl rfl) (nn_q rfl rfl)) (nn_ct (nn_q rfl rfl) (nn_q rfl rfl)))) (nn_ct (nn_ct (nn_ct (nn_q rfl rfl) (nn_q rfl rfl)) (nn_ct (nn_q rfl rfl) (nn_q rfl rfl))) (nn_ct (nn_ct (nn_q rfl rfl) (nn_q rfl rfl)) (nn_ct (nn_q rfl rfl) (nn_q rfl rfl)))))
theorem pj_320 : pr_K (pr_i320, pr_m320) := ⟨by decide +kernel, pk_320, ⟨pr_cn, rfl, (ph_c ph_19 (ph_c ph_13 (ph_c ph_27 ph_n)))⟩, fun _ => nn_ne py_320, nn_ne pz_320⟩
theorem pz_321 : ∀ pc, Nat.beq (pr_c321 pc).1 46 = false := by
  unfold pr_c321
  exact (nn_ct (nn_ct (nn_ct (nn_ct (nn_ct (nn_q rfl rfl) (nn_q rfl rfl)) (nn_q rfl rfl)) (nn_ct (nn_q rfl rfl) (nn_q rfl rfl))) (nn_ct (nn_ct (nn_q rfl rfl) (nn_q rfl rfl)) (nn_ct (nn_q rfl rfl) (nn_q rfl rfl)))) (nn_ct (nn_ct (nn_ct (nn_q rfl rfl) (nn_q rfl rfl)) (nn_ct (nn_q rfl rfl) (nn_q rfl rfl))) (nn_ct (nn_ct (nn_q rfl rfl) (nn_q rfl rfl)) (nn_ct (nn_q rfl rfl) (nn_q rfl rfl)))))
theorem py_321 : ∀ pc, Nat.beq (pr_c321 pc).1 37 = false := by
  unfold pr_c321
  exact (nn_ct (nn_ct (nn_ct (nn_ct (nn_ct (nn_q rfl rfl) (nn_q rfl rfl)) (nn_q rfl rfl)) (nn_ct (nn_q rfl rfl) (nn_q rfl rfl))) (nn_ct (nn_ct (nn_q rfl rfl) (nn_q rfl rfl)) (nn_ct (nn_q rfl rfl) (nn_q rfl rfl)))) (nn_ct (nn_ct (nn_ct (nn_q rfl rfl) (nn_q rfl rfl)) (nn_ct (nn_q rfl rfl) (nn_q rfl rfl))) (nn_ct (nn_ct (nn_q rfl rfl) (nn_q rfl rfl)) (nn_ct (nn_q rfl rfl) (nn_q rfl rfl)))))
theorem pj_321 : pr_K (pr_i321, pr_m321) := ⟨by decide +kernel, pk_321, ⟨pr_cn, rfl, (ph_c ph_19 (ph_c ph_13 (ph_c ph_27 ph_n)))⟩, fun _ => nn_ne py_321, nn_ne pz_321⟩
theorem pz_322 : ∀ pc, Nat.beq (pr_c322 pc).1 46 = false := by
  unfold pr_c322
  exact (nn_ct (nn_ct (nn_ct (nn_ct (nn_q rfl rfl) (nn_q rfl rfl)) (nn_ct (nn_q rfl rfl) (nn_q rfl rfl))) (nn_ct (nn_ct (nn_q rfl rfl) (nn_q rfl rfl)) (nn_ct (nn_q rfl rfl) (nn_q rfl rfl)))) (nn_ct (nn_ct (nn_ct (nn_q rfl rfl) (nn_q rfl rfl)) (nn_ct (nn_q rfl rfl) (nn_q rfl rfl))) (nn_ct (nn_ct (nn_q rfl rfl) (nn_q rfl rfl)) (nn_q rfl rfl))))
theorem py_322 : ∀ pc, Nat.beq (pr_c322 pc).1 37 = false := by
  unfold pr_c322
  exact (nn_ct (nn_ct (nn_ct (nn_ct (nn_q rfl rfl) (nn_q rfl rfl)) (nn_ct (nn_q rfl rfl) (nn_q rfl rfl))) (nn_ct (nn_ct (nn_q rfl rfl) (nn_q rfl rfl)) (nn_ct (nn_q rfl rfl) (nn_q rfl rfl)))) (nn_ct (nn_ct (nn_ct (nn_q rfl rfl) (nn_q rfl rfl)) (nn_ct (nn_q rfl rfl) (nn_q rfl rfl))) (nn_ct (nn_ct (nn_q rfl rfl) (nn_q rfl rfl)) (nn_q rfl rfl))))
theorem pj_322 : pr_K (pr_i322, pr_m322) := ⟨by decide +kernel, pk_322, ⟨pr_cn, rfl, (ph_c ph_19 (ph_c ph_13 (ph_c ph_27 ph_n)))⟩, fun _ => nn_ne py_322, nn_ne pz_322⟩
theorem pz_323 : ∀ pc, Nat.beq (pr_c323 pc).1 46 = false := by
  unfold pr_c323
  exact (nn_ct (nn_ct (nn_ct (nn_ct (nn_ct (nn_q rfl rfl) (nn_q rfl rfl)) (nn_q rfl rfl)) (nn_ct (nn_q rfl rfl) (nn_q rfl rfl))) (nn_ct (nn_ct (nn_q rfl rfl) (nn_q rfl rfl)) (nn_ct (nn_q rfl rfl) (nn_q rfl rfl)))) (nn_ct (nn_ct (nn_ct (nn_q rfl rfl) (nn_q rfl rfl)) (nn_ct (nn_q rfl rfl) (nn_q rfl rfl))) (nn_ct (nn_ct (nn_q rfl rfl) (nn_q rfl rfl)) (nn_ct (nn_q rfl rfl) (nn_q rfl rfl)))))
theorem py_323 : ∀ pc, Nat.beq (pr_c323 pc).1 37 = false := by
  unfold pr_c323
  exact (nn_ct (nn_ct (nn_ct (nn_ct (nn_ct (nn_q rfl rfl) (nn_q rfl rfl)) (nn_q rfl rfl)) (nn_ct (nn_q rfl rfl) (nn_q rfl rfl))) (nn_ct (nn_ct (nn_q rfl rfl) (nn_q rfl rfl)) (nn_ct (nn_q rfl rfl) (nn_q rfl rfl)))) (nn_ct (nn_ct (nn_ct (nn_q rfl rfl) (nn_q rfl rfl)) (nn_ct (nn_q rfl rfl) (nn_q rfl rfl))) (nn_ct (nn_ct (nn_q rfl rfl) (nn_q rfl rfl)) (nn_ct (nn_q rfl rfl) (nn_q rfl rfl)))))
theorem pj_323 : pr_K (pr_i323, pr_m323) := ⟨by decide +kernel, pk_323, ⟨pr_cn, rfl, (ph_c ph_13 (ph_c ph_19 (ph_c ph_27 ph_n)))⟩, fun _ => nn_ne py_323, nn_ne pz_323⟩
theorem pz_324 : ∀ pc, Nat.beq (pr_c324 pc).1 46 = false := by
  unfold pr_c324
  exact (nn_ct (nn_ct (nn_ct (nn_ct (nn_q rfl rfl) (nn_q rfl rfl)) (nn_q rfl rfl)) (nn_ct (nn_ct (nn_q rfl rfl) (nn_q rfl rfl)) (nn_q rfl rfl))) (nn_ct (nn_ct (nn_ct (nn_q rfl rfl) (nn_q rfl rfl)) (nn_q rfl rfl)) (nn_ct (nn_q rfl rfl) (nn_q rfl rfl))))
theorem py_324 : ∀ pc, Nat.beq (pr_c324 pc).1 37 = false := by
  unfold pr_c324
  exact (nn_ct (nn_ct (nn_ct (nn_ct (nn_q rfl rfl) (nn_q rfl rfl)) (nn_q rfl rfl)) (nn_ct (nn_ct (nn_q rfl rfl) (nn_q rfl rfl)) (nn_q rfl rfl))) (nn_ct (nn_ct (nn_ct (nn_q rfl rfl) (nn_q rfl rfl)) (nn_q rfl rfl)) (nn_ct (nn_q rfl rfl) (nn_q rfl rfl))))
theorem pj_324 : pr_K (pr_i324, pr_m324) := ⟨by decide +kernel, pk_324, ⟨pr_cn, rfl, (ph_c ph_19 (ph_c ph_27 ph_n))⟩, fun _ => nn_ne py_324, nn_ne pz_324⟩
theorem pz_325 : ∀ pc, Nat.beq (pr_c325 pc).1 46 = false := by
  unfold pr_c325
  exact (nn_ct (nn_ct (nn_ct (nn_ct (nn_q rfl rfl) (nn_q rfl rfl)) (nn_q rfl rfl)) (nn_ct (nn_ct (nn_q rfl rfl) (nn_q rfl rfl)) (nn_q rfl rfl))) (nn_ct (nn_ct (nn_ct (nn_q rfl rfl) (nn_q rfl rfl)) (nn_q rfl rfl)) (nn_ct (nn_q rfl rfl) (nn_q rfl rfl))))
theorem py_325 : ∀ pc, Nat.beq (pr_c325 pc).1 37 = false := by
  unfold pr_c325
  exact (nn_ct (nn_ct (nn_ct (nn_ct (nn_q rfl rfl) (nn_q rfl rfl)) (nn_q rfl rfl)) (nn_ct (nn_ct (nn_q rfl rfl) (nn_q rfl rfl)) (nn_q rfl rfl))) (nn_ct (nn_ct (nn_ct (nn_q rfl rfl) (nn_q rfl rfl)) (nn_q rfl rfl)) (nn_ct (nn_q rfl rfl) (nn_q rfl rfl))))
theorem pj_325 : pr_K (pr_i325, pr_m325) := ⟨by decide +kernel, pk_325, ⟨pr_cn, rfl, (ph_c ph_19 (ph_c ph_27 ph_n))⟩, fun _ => nn_ne py_325, nn_ne pz_325⟩
theorem pz_326 : ∀ pc, Nat.beq (pr_c326 pc).1 46 = false := by
  unfold pr_c326
  exact (nn_ct (nn_ct (nn_ct (nn_ct (nn_q rfl rfl) (nn_q rfl rfl)) (nn_ct (nn_q rfl rfl) (nn_q rfl rfl))) (nn_ct (nn_ct (nn_q rfl rfl) (nn_q rfl rfl)) (nn_ct (nn_q rfl rfl) (nn_q rfl rfl)))) (nn_ct (nn_ct (nn_ct (nn_q rfl rfl) (nn_q rfl rfl)) (nn_ct (nn_q rfl rfl) (nn_q rfl rfl))) (nn_ct (nn_ct (nn_q rfl rfl) (nn_q rfl rfl)) (nn_q rfl rfl))))
theorem py_326 : ∀ pc, Nat.beq (pr_c326 pc).1 37 = false := by
  unfold pr_c326
  exact (nn_ct (nn_ct (nn_ct (nn_ct (nn_q rfl rfl) (nn_q rfl rfl)) (nn_ct (nn_q rfl rfl) (nn_q rfl rfl))) (nn_ct (nn_ct (nn_q rfl rfl) (nn_q rfl rfl)) (nn_ct (nn_q rfl rfl) (nn_q rfl rfl)))) (nn_ct (nn_ct (nn_ct (nn_q rfl rfl) (nn_q rfl rfl)) (nn_ct (nn_q rfl rfl) (nn_q rfl rfl))) (nn_ct (nn_ct (nn_q rfl rfl) (nn_q rfl rfl)) (nn_q rfl rfl))))
theorem pj_326 : pr_K (pr_i326, pr_m326) := ⟨by decide +kernel, pk_326, ⟨pr_cn, rfl, (ph_c ph_19 (ph_c ph_13 (ph_c ph_27 ph_n)))⟩, fun _ => nn_ne py_326, nn_ne pz_326⟩
theorem pz_327 : ∀ pc, Nat.beq (pr_c327 pc).1 46 = false := by
  unfold pr_c327
  exact (nn_ct (nn_ct (nn_ct (nn_ct (nn_q rfl rfl) (nn_q rfl rfl)) (nn_ct (nn_q rfl rfl) (nn_q rfl rfl))) (nn_ct (nn_ct (nn_q rfl rfl) (nn_q rfl rfl)) (nn_ct (nn_q rfl rfl) (nn_q rfl rfl)))) (nn_ct (nn_ct (nn_ct (nn_q rfl rfl) (nn_q rfl rfl)) (nn_ct (nn_q rfl rfl) (nn_q rfl rfl))) (nn_ct (nn_ct (nn_q rfl rfl) (nn_q rfl rfl)) (nn_q rfl rfl))))
theorem py_327 : ∀ pc, Nat.beq (pr_c327 pc).1 37 = false := by
  unfold pr_c327
  exact (nn_ct (nn_ct (nn_ct (nn_ct (nn_q rfl rfl) (nn_q rfl rfl)) (nn_ct (nn_q rfl rfl) (nn_q rfl rfl))) (nn_ct (nn_ct (nn_q rfl rfl) (nn_q rfl rfl)) (nn_ct (nn_q rfl rfl) (nn_q rfl rfl)))) (nn_ct (nn_ct (nn_ct (nn_q rfl rfl) (nn_q rfl rfl)) (nn_ct (nn_q rfl rfl) (nn_q rfl rfl))) (nn_ct (nn_ct (nn_q rfl rfl) (nn_q rfl rfl)) (nn_q rfl rfl))))
theorem pj_327 : pr_K (pr_i327, pr_m327) := ⟨by decide +kernel, pk_327, ⟨pr_cn, rfl, (ph_c ph_19 (ph_c ph_13 (ph_c ph_27 ph_n)))⟩, fun _ => nn_ne py_327, nn_ne pz_327⟩
theorem pz_328 : ∀ pc, Nat.beq (pr_c328 pc).1 46 = false := by
  unfold pr_c328
  exact (nn_ct (nn_ct (nn_ct (nn_ct (nn_q rfl rfl) (nn_q rfl rfl)) (nn_ct (nn_q rfl rfl) (nn_q rfl rfl))) (nn_ct (nn_ct (nn_q rfl rfl) (nn_q rfl rfl)) (nn_ct (nn_q rfl rfl) (nn_q rfl rfl)))) (nn_ct (nn_ct (nn_ct (nn_q rfl rfl) (nn_q rfl rfl)) (nn_ct (nn_q rfl rfl) (nn_q rfl rfl))) (nn_ct (nn_ct (nn_q rfl rfl) (nn_q rfl rfl)) (nn_ct (nn_q rfl rfl) (nn_q rfl rfl)))))
theorem py_328 : ∀ pc, Nat.beq (pr_c328 pc).1 37 = false := by
  unfold pr_c328
  exact (nn_ct (nn_ct (nn_ct (nn_ct (nn_q rfl rfl) (nn_q rfl rfl)) (nn_ct (nn_q rfl rfl) (nn_q rfl rfl))) (nn_ct (nn_ct (nn_q rfl rfl) (nn_q rfl rfl)) (nn_ct (nn_q rfl rfl) (nn_q rfl rfl)))) (nn_ct (nn_ct (nn_ct (nn_q rfl rfl) (nn_q rfl rfl)) (nn_ct (nn_q rfl rfl) (nn_q rfl rfl))) (nn_ct (nn_ct (nn_q rfl rfl) (nn_q rfl rfl)) (nn_ct (nn_q rfl rfl) (nn_q rfl rfl)))))
theorem pj_328 : pr_K (pr_i328, pr_m328) := ⟨by decide +kernel, pk_328, ⟨pr_cn, rfl, (ph_c ph_19 (ph_c ph_13 (ph_c ph_27 ph_n)))⟩, fun _ => nn_ne py_328, nn_ne pz_328⟩
theorem pz_329 : ∀ pc, Nat.beq (pr_c329 pc).1 46 = false := by
  unfold pr_c329
  exact (nn_ct (nn_ct (nn_ct (nn_ct (nn_q rfl rfl) (nn_q rfl rfl)) (nn_ct (nn_q rfl rfl) (nn_q rfl rfl))) (nn_ct (nn_ct (nn_q rfl rfl) (nn_q rfl rfl)) (nn_q rfl rfl))) (nn_ct (nn_ct (nn_ct (nn_q rfl rfl) (nn_q rfl rfl)) (nn_ct (nn_q rfl rfl) (nn_q rfl rfl))) (nn_ct (nn_ct (nn_q rfl rfl) (nn_q rfl rfl)) (nn_q rfl rfl))))
theorem py_329 : ∀ pc, Nat.beq (pr_c329 pc).1 37 = false := by
  unfold pr_c329
  exact (nn_ct (nn_ct (nn_ct (nn_ct (nn_q rfl rfl) (nn_q rfl rfl)) (nn_ct (nn_q rfl rfl) (nn_q rfl rfl))) (nn_ct (nn_ct (nn_q rfl rfl) (nn_q rfl rfl)) (nn_q rfl rfl))) (nn_ct (nn_ct (nn_ct (nn_q rfl rfl) (nn_q rfl rfl)) (nn_ct (nn_q rfl rfl) (nn_q rfl rfl))) (nn_ct (nn_ct (nn_q rfl rfl) (nn_q rfl rfl)) (nn_q rfl rfl))))
theorem pj_329 : pr_K (pr_i329, pr_m329) := ⟨by decide +kernel, pk_329, ⟨pr_cn, rfl, (ph_c ph_13 ph_n)⟩, fun _ => nn_ne py_329, nn_ne pz_329⟩
theorem pz_330 : ∀ pc, Nat.beq (pr_c330 pc).1 46 = false := by
  unfold pr_c330
  exact (nn_ct (nn_ct (nn_ct (nn_ct (nn_q rfl rfl) (nn_q rfl rfl)) (nn_ct (nn_q rfl rfl) (nn_q rfl rfl))) (nn_ct (nn_ct (nn_q rfl rfl) (nn_q rfl rfl)) (nn_q rfl rfl))) (nn_ct (nn_ct (nn_ct (nn_q rfl rfl) (nn_q rfl rfl)) (nn_q rfl rfl)) (nn_ct (nn_ct (nn_q rfl rfl) (nn_q rfl rfl)) (nn_q rfl rfl))))
theorem py_330 : ∀ pc, Nat.beq (pr_c330 pc).1 37 = false := by
  unfold pr_c330
  exact (nn_ct (nn_ct (nn_ct (nn_ct (nn_q rfl rfl) (nn_q rfl rfl)) (nn_ct (nn_q rfl rfl) (nn_q rfl rfl))) (nn_ct (nn_ct (nn_q rfl rfl) (nn_q rfl rfl)) (nn_q rfl rfl))) (nn_ct (nn_ct (nn_ct (nn_q rfl rfl) (nn_q rfl rfl)) (nn_q rfl rfl)) (nn_ct (nn_ct (nn_q rfl rfl) (nn_q rfl rfl)) (nn_q rfl rfl))))
theorem pj_330 : pr_K (pr_i330, pr_m330) := ⟨by decide +kernel, pk_330, ⟨pr_cn, rfl, (ph_c ph_13 ph_n)⟩, fun _ => nn_ne py_330, nn_ne pz_330⟩
theorem pz_331 : ∀ pc, Nat.beq (pr_c331 pc).1 46 = false := by
  unfold pr_c331
  exact (nn_ct (nn_ct (nn_ct (nn_ct (nn_q rfl rfl) (nn_q rfl rfl)) (nn_ct (nn_q rfl rfl) (nn_q rfl rfl))) (nn_ct (nn_ct (nn_q rfl rfl) (nn_q rfl rfl)) (nn_q rfl rfl))) (nn_ct (nn_ct (nn_ct (nn_q rfl rfl) (nn_q rfl rfl)) (nn_q rfl rfl)) (nn_ct (nn_ct (nn_q rfl rfl) (nn_q rfl rfl)) (nn_q rfl rfl))))
theorem py_331 : ∀ pc, Nat.beq (pr_c331 pc).1 37 = false := by
  unfold pr_c331
  exact (nn_ct (nn_ct (nn_ct (nn_ct (nn_q rfl rfl) (nn_q rfl rfl)) (nn_ct (nn_q rfl rfl) (nn_q rfl rfl))) (nn_ct (nn_ct (nn_q rfl rfl) (nn_q rfl rfl)) (nn_q rfl rfl))) (nn_ct (nn_ct (nn_ct (nn_q rfl rfl) (nn_q rfl rfl)) (nn_q rfl rfl)) (nn_ct (nn_ct (nn_q rfl rfl) (nn_q rfl rfl)) (nn_q rfl rfl))))
theorem pj_331 : pr_K (pr_i331, pr_m331) := ⟨by decide +kernel, pk_331, ⟨pr_cn, rfl, (ph_c ph_13 ph_n)⟩, fun _ => nn_ne py_331, nn_ne pz_331⟩
theorem pz_332 : ∀ pc, Nat.beq (pr_c332 pc).1 46 = false := by
  unfold pr_c332
  exact (nn_ct (nn_ct (nn_ct (nn_ct (nn_q rfl rfl) (nn_q rfl rfl)) (nn_ct (nn_q rfl rfl) (nn_q rfl rfl))) (nn_ct (nn_ct (nn_q rfl rfl) (nn_q rfl rfl)) (nn_q rfl rfl))) (nn_ct (nn_ct (nn_ct (nn_q rfl rfl) (nn_q rfl rfl)) (nn_q rfl rfl)) (nn_ct (nn_ct (nn_q rfl rfl) (nn_q rfl rfl)) (nn_q rfl rfl))))
theorem py_332 : ∀ pc, Nat.beq (pr_c332 pc).1 37 = false := by
  unfold pr_c332
  exact (nn_ct (nn_ct (nn_ct (nn_ct (nn_q rfl rfl) (nn_q rfl rfl)) (nn_ct (nn_q rfl rfl) (nn_q rfl rfl))) (nn_ct (nn_ct (nn_q rfl rfl) (nn_q rfl rfl)) (nn_q rfl rfl))) (nn_ct (nn_ct (nn_ct (nn_q rfl rfl) (nn_q rfl rfl)) (nn_q rfl rfl)) (nn_ct (nn_ct (nn_q rfl rfl) (nn_q rfl rfl)) (nn_q rfl rfl))))
theorem pj_332 : pr_K (pr_i332, pr_m332) := ⟨by decide +kernel, pk_332, ⟨pr_cn, rfl, (ph_c ph_13 ph_n)⟩, fun _ => nn_ne py_332, nn_ne pz_332⟩
theorem pz_333 : ∀ pc, Nat.beq (pr_c333 pc).1 46 = false := by
  unfold pr_c333
  exact (nn_ct (nn_ct (nn_ct (nn_ct (nn_q rfl rfl) (nn_q rfl rfl)) (nn_ct (nn_q rfl rfl) (nn_q rfl rfl))) (nn_ct (nn_ct (nn_q rfl rfl) (nn_q rfl rfl)) (nn_q rfl rfl))) (nn_ct (nn_ct (nn_ct (nn_q rfl rfl) (nn_q rfl rfl)) (nn_q rfl rfl)) (nn_ct (nn_ct (nn_q rfl rfl) (nn_q rfl rfl)) (nn_q rfl rfl))))
theorem py_333 : ∀ pc, Nat.beq (pr_c333 pc).1 37 = false := by
  unfold pr_c333
  exact (nn_ct (nn_ct (nn_ct (nn_ct (nn_q rfl rfl) (nn_q rfl rfl)) (nn_ct (nn_q rfl rfl) (nn_q rfl rfl))) (nn_ct (nn_ct (nn_q rfl rfl) (nn_q rfl rfl)) (nn_q rfl rfl))) (nn_ct (nn_ct (nn_ct (nn_q rfl rfl) (nn_q rfl rfl)) (nn_q rfl rfl)) (nn_ct (nn_ct (nn_q rfl rfl) (nn_q rfl rfl)) (nn_q rfl rfl))))
theorem pj_333 : pr_K (pr_i333, pr_m333) := ⟨by decide +kernel, pk_333, ⟨pr_cn, rfl, (ph_c ph_19 ph_n)⟩, fun _ => nn_ne py_333, nn_ne pz_333⟩
theorem pz_334 : ∀ pc, Nat.beq (pr_c334 pc).1 46 = false := by
  unfold pr_c334
  exact (nn_ct (nn_ct (nn_ct (nn_q rfl rfl) (nn_q rfl rfl)) (nn_ct (nn_q rfl rfl) (nn_q rfl rfl))) (nn_ct (nn_ct (nn_q rfl rfl) (nn_q rfl rfl)) (nn_ct (nn_q rfl rfl) (nn_q rfl rfl))))
theorem py_334 : ∀ pc, Nat.beq (pr_c334 pc).1 37 = false := by
  unfold pr_c334
  exact (nn_ct (nn_ct (nn_ct (nn_q rfl rfl) (nn_q rfl rfl)) (nn_ct (nn_q rfl rfl) (nn_q rfl rfl))) (nn_ct (nn_ct (nn_q rfl rfl) (nn_q rfl rfl)) (nn_ct (nn_q rfl rfl) (nn_q rfl rfl))))
theorem pj_334 : pr_K (pr_i334, pr_m334) := ⟨by decide +kernel, pk_334, ⟨pr_cn, rfl, (ph_c ph_42 ph_n)⟩, fun _ => nn_ne py_334, nn_ne pz_334⟩
theorem pz_335 : ∀ pc, Nat.beq (pr_c335 pc).1 46 = false := by
  unfold pr_c335
  exact (nn_ct (nn_ct (nn_ct (nn_ct (nn_ct (nn_q rfl rfl) (nn_q rfl rfl)) (nn_q rfl rfl)) (nn_ct (nn_q rfl rfl) (nn_q rfl rfl))) (nn_ct (nn_ct (nn_q rfl rfl) (nn_q rfl rfl)) (nn_ct (nn_q rfl rfl) (nn_q rfl rfl)))) (nn_ct (nn_ct (nn_ct (nn_q rfl rfl) (nn_q rfl rfl)) (nn_ct (nn_q rfl rfl) (nn_q rfl rfl))) (nn_ct (nn_ct (nn_q rfl rfl) (nn_q rfl rfl)) (nn_ct (nn_q rfl rfl) (nn_q rfl rfl)))))
theorem py_335 : ∀ pc, Nat.beq (pr_c335 pc).1 37 = false := by
  unfold pr_c335
  exact (nn_ct (nn_ct (nn_ct (nn_ct (nn_ct (nn_q rfl rfl) (nn_q rfl rfl)) (nn_q rfl rfl)) (nn_ct (nn_q rfl rfl) (nn_q rfl rfl))) (nn_ct (nn_ct (nn_q rfl rfl) (nn_q rfl rfl)) (nn_ct (nn_q rfl rfl) (nn_q rfl rfl)))) (nn_ct (nn_ct (nn_ct (nn_q rfl rfl) (nn_q rfl rfl)) (nn_ct (nn_q rfl rfl) (nn_q rfl rfl))) (nn_ct (nn_ct (nn_q rfl rfl) (nn_q rfl rfl)) (nn_ct (nn_q rfl rfl) (nn_q rfl rfl)))))
theorem pj_335 : pr_K (pr_i335, pr_m335) := ⟨by decide +kernel, pk_335, ⟨pr_cn, rfl, (ph_c ph_19 (ph_c ph_13 (ph_c ph_27 ph_n)))⟩, fun _ => nn_ne py_335, nn_ne pz_335⟩
theorem pz_336 : ∀ pc, Nat.beq (pr_c336 pc).1 46 = false := by
  unfold pr_c336
  exact (nn_ct (nn_ct (nn_ct (nn_ct (nn_q rfl rfl) (nn_q rfl rfl)) (nn_q rfl rfl)) (nn_ct (nn_ct (nn_q rfl rfl) (nn_q rfl rfl)) (nn_q rfl rfl))) (nn_ct (nn_ct (nn_ct (nn_q rfl rfl) (nn_q rfl rfl)) (nn_q rfl rfl)) (nn_ct (nn_ct (nn_q rfl rfl) (nn_q rfl rfl)) (nn_q rfl rfl))))
theorem py_336 : ∀ pc, Nat.beq (pr_c336 pc).1 37 = false := by
  unfold pr_c336
  exact (nn_ct (nn_ct (nn_ct (nn_ct (nn_q rfl rfl) (nn_q rfl rfl)) (nn_q rfl rfl)) (nn_ct (nn_ct (nn_q rfl rfl) (nn_q rfl rfl)) (nn_q rfl rfl))) (nn_ct (nn_ct (nn_ct (nn_q rfl rfl) (nn_q rfl rfl)) (nn_q rfl rfl)) (nn_ct (nn_ct (nn_q rfl rfl) (nn_q rfl rfl)) (nn_q rfl rfl))))
theorem pj_336 : pr_K (pr_i336, pr_m336) := ⟨by decide +kernel, pk_336, ⟨pr_cn, rfl, (ph_c ph_19 (ph_c ph_27 ph_n))⟩, fun _ => nn_ne py_336, nn_ne pz_336⟩
theorem pz_337 : ∀ pc, Nat.beq (pr_c337 pc).1 46 = false := by
  unfold pr_c337
  exact (nn_ct (nn_ct (nn_ct (nn_ct (nn_q rfl rfl) (nn_q rfl rfl)) (nn_ct (nn_q rfl rfl) (nn_q rfl rfl))) (nn_ct (nn_ct (nn_q rfl rfl) (nn_q rfl rfl)) (nn_q rfl rfl))) (nn_ct (nn_ct (nn_ct (nn_q rfl rfl) (nn_q rfl rfl)) (nn_q rfl rfl)) (nn_ct (nn_ct (nn_q rfl rfl) (nn_q rfl rfl)) (nn_q rfl rfl))))
theorem py_337 : ∀ pc, Nat.beq (pr_c337 pc).1 37 = false := by
  unfold pr_c337
  exact (nn_ct (nn_ct (nn_ct (nn_ct (nn_q rfl rfl) (nn_q rfl rfl)) (nn_ct (nn_q rfl rfl) (nn_q rfl rfl))) (nn_ct (nn_ct (nn_q rfl rfl) (nn_q rfl rfl)) (nn_q rfl rfl))) (nn_ct (nn_ct (nn_ct (nn_q rfl rfl) (nn_q rfl rfl)) (nn_q rfl rfl)) (nn_ct (nn_ct (nn_q rfl rfl) (nn_q rfl rfl)) (nn_q rfl rfl))))
theorem pj_337 : pr_K (pr_i337, pr_m337) := ⟨by decide +kernel, pk_337, ⟨pr_cn, rfl, (ph_c ph_19 (ph_c ph_27 ph_n))⟩, fun _ => nn_ne py_337, nn_ne pz_337⟩
theorem pz_338 : ∀ pc, Nat.beq (pr_c338 pc).1 46 = false := by
  unfold pr_c338
  exact (nn_ct (nn_ct (nn_ct (nn_ct (nn_q rfl rfl) (nn_q rfl rfl)) (nn_ct (nn_q rfl rfl) (nn_q rfl rfl))) (nn_ct (nn_ct (nn_q rfl rfl) (nn_q rfl rfl)) (nn_q rfl rfl))) (nn_ct (nn_ct (nn_ct (nn_q rfl rfl) (nn_q rfl rfl)) (nn_q rfl rfl)) (nn_ct (nn_ct (nn_q rfl rfl) (nn_q rfl rfl)) (nn_q rfl rfl))))
theorem py_338 : ∀ pc, Nat.beq (pr_c338 pc).1 37 = false := by
  unfold pr_c338
  exact (nn_ct (nn_ct (nn_ct (nn_ct (nn_q rfl rfl) (nn_q rfl rfl)) (nn_ct (nn_q rfl rfl) (nn_q rfl rfl))) (nn_ct (nn_ct (nn_q rfl rfl) (nn_q rfl rfl)) (nn_q rfl rfl))) (nn_ct (nn_ct (nn_ct (nn_q rfl rfl) (nn_q rfl rfl)) (nn_q rfl rfl)) (nn_ct (nn_ct (nn_q rfl rfl) (nn_q rfl rfl)) (nn_q rfl rfl))))
theorem pj_338 : pr_K (pr_i338, pr_m338) := ⟨by decide +kernel, pk_338, ⟨pr_cn, rfl, (ph_c ph_19 ph_n)⟩, fun _ => nn_ne py_338, nn_ne pz_338⟩
theorem pz_339 : ∀ pc, Nat.beq (pr_c339 pc).1 46 = false := by
  unfold pr_c339
  exact (nn_ct (nn_ct (nn_ct (nn_ct (nn_q rfl rfl) (nn_q rfl rfl)) (nn_ct (nn_q rfl rfl) (nn_q rfl rfl))) (nn_ct (nn_ct (nn_q rfl rfl) (nn_q rfl rfl)) (nn_q rfl rfl))) (nn_ct (nn_ct (nn_ct (nn_q rfl rfl) (nn_q rfl rfl)) (nn_q rfl rfl)) (nn_ct (nn_ct (nn_q rfl rfl) (nn_q rfl rfl)) (nn_q rfl rfl))))
theorem py_339 : ∀ pc, Nat.beq (pr_c339 pc).1 37 = false := by
  unfold pr_c339
  exact (nn_ct (nn_ct (nn_ct (nn_ct (nn_q rfl rfl) (nn_q rfl rfl)) (nn_ct (nn_q rfl rfl) (nn_q rfl rfl))) (nn_ct (nn_ct (nn_q rfl rfl) (nn_q rfl rfl)) (nn_q rfl rfl))) (nn_ct (nn_ct (nn_ct (nn_q rfl rfl) (nn_q rfl rfl)) (nn_q rfl rfl)) (nn_ct (nn_ct (nn_q rfl rfl) (nn_q rfl rfl)) (nn_q rfl rfl))))
theorem pj_339 : pr_K (pr_i339, pr_m339) := ⟨by decide +kernel, pk_339, ⟨pr_cn, rfl, (ph_c ph_19 ph_n)⟩, fun _ => nn_ne py_339, nn_ne pz_339⟩
theorem pz_340 : ∀ pc, Nat.beq (pr_c340 pc).1 46 = false := by
  unfold pr_c340
  exact (nn_ct (nn_ct (nn_ct (nn_ct (nn_q rfl rfl) (nn_q rfl rfl)) (nn_q rfl rfl)) (nn_ct (nn_ct (nn_q rfl rfl) (nn_q rfl rfl)) (nn_q rfl rfl))) (nn_ct (nn_ct (nn_ct (nn_q rfl rfl) (nn_q rfl rfl)) (nn_q rfl rfl)) (nn_ct (nn_q rfl rfl) (nn_q rfl rfl))))
theorem py_340 : ∀ pc, Nat.beq (pr_c340 pc).1 37 = false := by
  unfold pr_c340
  exact (nn_ct (nn_ct (nn_ct (nn_ct (nn_q rfl rfl) (nn_q rfl rfl)) (nn_q rfl rfl)) (nn_ct (nn_ct (nn_q rfl rfl) (nn_q rfl rfl)) (nn_q rfl rfl))) (nn_ct (nn_ct (nn_ct (nn_q rfl rfl) (nn_q rfl rfl)) (nn_q rfl rfl)) (nn_ct (nn_q rfl rfl) (nn_q rfl rfl))))
theorem pj_340 : pr_K (pr_i340, pr_m340) := ⟨by decide +kernel, pk_340, ⟨pr_cn, rfl, (ph_c ph_19 (ph_c ph_27 ph_n))⟩, fun _ => nn_ne py_340, nn_ne pz_340⟩
theorem pz_341 : ∀ pc, Nat.beq (pr_c341 pc).1 46 = false := by
  unfold pr_c341
  exact (nn_ct (nn_ct (nn_ct (nn_ct (nn_q rfl rfl) (nn_q rfl rfl)) (nn_q rfl rfl)) (nn_ct (nn_ct (nn_q rfl rfl) (nn_q rfl rfl)) (nn_q rfl rfl))) (nn_ct (nn_ct (nn_ct (nn_q rfl rfl) (nn_q rfl rfl)) (nn_q rfl rfl)) (nn_ct (nn_q rfl rfl) (nn_q rfl rfl))))
theorem py_341 : ∀ pc, Nat.beq (pr_c341 pc).1 37 = false := by
  unfold pr_c341
  exact (nn_ct (nn_ct (nn_ct (nn_ct (nn_q rfl rfl) (nn_q rfl rfl)) (nn_q rfl rfl)) (nn_ct (nn_ct (nn_q rfl rfl) (nn_q rfl rfl)) (nn_q rfl rfl))) (nn_ct (nn_ct (nn_ct (nn_q rfl rfl) (nn_q rfl rfl)) (nn_q rfl rfl)) (nn_ct (nn_q rfl rfl) (nn_q rfl rfl))))
theorem pj_341 : pr_K (pr_i341, pr_m341) := ⟨by decide +kernel, pk_341, ⟨pr_cn, rfl, (ph_c ph_19 (ph_c ph_27 ph_n))⟩, fun _ => nn_ne py_341, nn_ne pz_341⟩
theorem pz_342 : ∀ pc, Nat.beq (pr_c342 pc).1 46 = false := by
  unfold pr_c342
  exact (nn_ct (nn_ct (nn_ct (nn_ct (nn_q rfl rfl) (nn_q rfl rfl)) (nn_ct (nn_q rfl rfl) (nn_q rfl rfl))) (nn_ct (nn_ct (nn_q rfl rfl) (nn_q rfl rfl)) (nn_q rfl rfl))) (nn_ct (nn_ct (nn_ct (nn_q rfl rfl) (nn_q rfl rfl)) (nn_ct (nn_q rfl rfl) (nn_q rfl rfl))) (nn_ct (nn_ct (nn_q rfl rfl) (nn_q rfl rfl)) (nn_q rfl rfl))))
theorem py_342 : ∀ pc, Nat.beq (pr_c342 pc).1 37 = false := by
  unfold pr_c342
  exact (nn_ct (nn_ct (nn_ct (nn_ct (nn_q rfl rfl) (nn_q rfl rfl)) (nn_ct (nn_q rfl rfl) (nn_q rfl rfl))) (nn_ct (nn_ct (nn_q rfl rfl) (nn_q rfl rfl)) (nn_q rfl rfl))) (nn_ct (nn_ct (nn_ct (nn_q rfl rfl) (nn_q rfl rfl)) (nn_ct (nn_q rfl rfl) (nn_q rfl rfl))) (nn_ct (nn_ct (nn_q rfl rfl) (nn_q rfl rfl)) (nn_q rfl rfl))))
theorem pj_342 : pr_K (pr_i342, pr_m342) := ⟨by decide +kernel, pk_342, ⟨pr_cn, rfl, (ph_c ph_13 ph_n)⟩, fun _ => nn_ne py_342, nn_ne pz_342⟩
theorem pz_343 : ∀ pc, Nat.beq (pr_c343 pc).1 46 = false := by
  unfold pr_c343
  exact (nn_ct (nn_ct (nn_ct (nn_ct (nn_q rfl rfl) (nn_q rfl rfl)) (nn_ct (nn_q rfl rfl) (nn_q rfl rfl))) (nn_ct (nn_ct (nn_q rfl rfl) (nn_q rfl rfl)) (nn_q rfl rfl))) (nn_ct (nn_ct (nn_ct (nn_q rfl rfl) (nn_q rfl rfl)) (nn_ct (nn_q rfl rfl) (nn_q rfl rfl))) (nn_ct (nn_ct (nn_q rfl rfl) (nn_q rfl rfl)) (nn_q rfl rfl))))
theorem py_343 : ∀ pc, Nat.beq (pr_c343 pc).1 37 = false := by
  unfold pr_c343
  exact (nn_ct (nn_ct (nn_ct (nn_ct (nn_q rfl rfl) (nn_q rfl rfl)) (nn_ct (nn_q rfl rfl) (nn_q rfl rfl))) (nn_ct (nn_ct (nn_q rfl rfl) (nn_q rfl rfl)) (nn_q rfl rfl))) (nn_ct (nn_ct (nn_ct (nn_q rfl rfl) (nn_q rfl rfl)) (nn_ct (nn_q rfl rfl) (nn_q rfl rfl))) (nn_ct (nn_ct (nn_q rfl rfl) (nn_q rfl rfl)) (nn_q rfl rfl))))
theorem pj_343 : pr_K (pr_i343, pr_m343) := ⟨by decide +kernel, pk_343, ⟨pr_cn, rfl, (ph_c ph_19 (ph_c ph_27 ph_n))⟩, fun _ => nn_ne py_343, nn_ne pz_343⟩
theorem pz_344 : ∀ pc, Nat.beq (pr_c344 pc).1 46 = false := by
  unfold pr_c344
  exact (nn_ct (nn_ct (nn_ct (nn_ct (nn_q rfl rfl) (nn_q rfl rfl)) (nn_q rfl rfl)) (nn_ct (nn_ct (nn_q rfl rfl) (nn_q rfl rfl)) (nn_q rfl rfl))) (nn_ct (nn_ct (nn_ct (nn_q rfl rfl) (nn_q rfl rfl)) (nn_q rfl rfl)) (nn_ct (nn_q rfl rfl) (nn_q rfl rfl))))
theorem py_344 : ∀ pc, Nat.beq (pr_c344 pc).1 37 = false := by
  unfold pr_c344
  exact (nn_ct (nn_ct (nn_ct (nn_ct (nn_q rfl rfl) (nn_q rfl rfl)) (nn_q rfl rfl)) (nn_ct (nn_ct (nn_q rfl rfl) (nn_q rfl rfl)) (nn_q rfl rfl))) (nn_ct (nn_ct (nn_ct (nn_q rfl rfl) (nn_q rfl rfl)) (nn_q rfl rfl)) (nn_ct (nn_q rfl rfl) (nn_q rfl rfl))))
theorem pj_344 : pr_K (pr_i344, pr_m344) := ⟨by decide +kernel, pk_344, ⟨pr_cn, rfl, (ph_c ph_19 (ph_c ph_27 ph_n))⟩, fun _ => nn_ne py_344, nn_ne pz_344⟩
theorem pz_345 : ∀ pc, Nat.beq (pr_c345 pc).1 46 = false := by
  unfold pr_c345
  exact (nn_ct (nn_ct (nn_ct (nn_ct (nn_q rfl rfl) (nn_q rfl rfl)) (nn_ct (nn_q rfl rfl) (nn_q rfl rfl))) (nn_ct (nn_ct (nn_q rfl rfl) (nn_q rfl rfl)) (nn_ct (nn_q rfl rfl) (nn_q rfl rfl)))) (nn_ct (nn_ct (nn_ct (nn_q rfl rfl) (nn_q rfl rfl)) (nn_ct (nn_q rfl rfl) (nn_q rfl rfl))) (nn_ct (nn_ct (nn_q rfl rfl) (nn_q rfl rfl)) (nn_ct (nn_q rfl rfl) (nn_q rfl rfl)))))
theorem py_345 : ∀ pc, Nat.beq (pr_c345 pc).1 37 = false := by
  unfold pr_c345
  exact (nn_ct (nn_ct (nn_ct (nn_ct (nn_q rfl rfl) (nn_q rfl rfl)) (nn_ct (nn_q rfl rfl) (nn_q rfl rfl))) (nn_ct (nn_ct (nn_q rfl rfl) (nn_q rfl rfl)) (nn_ct (nn_q rfl rfl) (nn_q rfl rfl)))) (nn_ct (nn_ct (nn_ct (nn_q rfl rfl) (nn_q rfl rfl)) (nn_ct (nn_q rfl rfl) (nn_q rfl rfl))) (nn_ct (nn_ct (nn_q rfl rfl) (nn_q rfl rfl)) (nn_ct (nn_q rfl rfl) (nn_q rfl rfl)))))
theorem pj_345 : pr_K (pr_i345, pr_m345) := ⟨by decide +kernel, pk_345, ⟨pr_cn, rfl, (ph_c ph_19 (ph_c ph_13 (ph_c ph_27 ph_n)))⟩, fun _ => nn_ne py_345, nn_ne pz_345⟩
theorem pz_346 : ∀ pc, Nat.beq (pr_c346 pc).1 46 = false := by
  unfold pr_c346
  exact (nn_ct (nn_ct (nn_ct (nn_ct (nn_q rfl rfl) (nn_q rfl rfl)) (nn_ct (nn_q rfl rfl) (nn_q rfl rfl))) (nn_ct (nn_ct (nn_q rfl rfl) (nn_q rfl rfl)) (nn_q rfl rfl))) (nn_ct (nn_ct (nn_ct (nn_q rfl rfl) (nn_q rfl rfl)) (nn_q rfl rfl)) (nn_ct (nn_ct (nn_q rfl rfl) (nn_q rfl rfl)) (nn_q rfl rfl))))
theorem py_346 : ∀ pc, Nat.beq (pr_c346 pc).1 37 = false := by
  unfold pr_c346
  exact (nn_ct (nn_ct (nn_ct (nn_ct (nn_q rfl rfl) (nn_q rfl rfl)) (nn_ct (nn_q rfl rfl) (nn_q rfl rfl))) (nn_ct (nn_ct (nn_q rfl rfl) (nn_q rfl rfl)) (nn_q rfl rfl))) (nn_ct (nn_ct (nn_ct (nn_q rfl rfl) (nn_q rfl rfl)) (nn_q rfl rfl)) (nn_ct (nn_ct (nn_q rfl rfl) (nn_q rfl rfl)) (nn_q rfl rfl))))
theorem pj_346 : pr_K (pr_i346, pr_m346) := ⟨by decide +kernel, pk_346, ⟨pr_cn, rfl, (ph_c ph_13 ph_n)⟩, fun _ => nn_ne py_346, nn_ne pz_346⟩
theorem pz_347 : ∀ pc, Nat.beq (pr_c347 pc).1 46 = false := by
  unfold pr_c347
  exact (nn_ct (nn_ct (nn_ct (nn_ct (nn_q rfl rfl) (nn_q rfl rfl)) (nn_ct (nn_q rfl rfl) (nn_q rfl rfl))) (nn_ct (nn_ct (nn_q rfl rfl) (nn_q rfl rfl)) (nn_q rfl rfl))) (nn_ct (nn_ct (nn_ct (nn_q rfl rfl) (nn_q rfl rfl)) (nn_q rfl rfl)) (nn_ct (nn_ct (nn_q rfl rfl) (nn_q rfl rfl)) (nn_q rfl rfl))))
theorem py_347 : ∀ pc, Nat.beq (pr_c347 pc).1 37 = false := by
  unfold pr_c347
  exact (nn_ct (nn_ct (nn_ct (nn_ct (nn_q rfl rfl) (nn_q rfl rfl)) (nn_ct (nn_q rfl rfl) (nn_q rfl rfl))) (nn_ct (nn_ct (nn_q rfl rfl) (nn_q rfl rfl)) (nn_q rfl rfl))) (nn_ct (nn_ct (nn_ct (nn_q rfl rfl) (nn_q rfl rfl)) (nn_q rfl rfl)) (nn_ct (nn_ct (nn_q rfl rfl) (nn_q rfl rfl)) (nn_q rfl rfl))))
theorem pj_347 : pr_K (pr_i347, pr_m347) := ⟨by decide +kernel, pk_347, ⟨pr_cn, rfl, (ph_c ph_19 ph_n)⟩, fun _ => nn_ne py_347, nn_ne pz_347⟩
theorem pz_348 : ∀ pc, Nat.beq (pr_c348 pc).1 46 = false := by
  unfold pr_c348
  exact (nn_ct (nn_ct (nn_ct (nn_ct (nn_q rfl rfl) (nn_q rfl rfl)) (nn_ct (nn_q rfl rfl) (nn_q rfl rfl))) (nn_ct (nn_ct (nn_q rfl rfl) (nn_q rfl rfl)) (nn_q rfl rfl))) (nn_ct (nn_ct (nn_ct (nn_q rfl rfl) (nn_q rfl rfl)) (nn_q rfl rfl)) (nn_ct (nn_ct (nn_q rfl rfl) (nn_q rfl rfl)) (nn_q rfl rfl))))
theorem py_348 : ∀ pc, Nat.beq (pr_c348 pc).1 37 = false := by
  unfold pr_c348
  exact (nn_ct (nn_ct (nn_ct (nn_ct (nn_q rfl rfl) (nn_q rfl rfl)) (nn_ct (nn_q rfl rfl) (nn_q rfl rfl))) (nn_ct (nn_ct (nn_q rfl rfl) (nn_q rfl rfl)) (nn_q rfl rfl))) (nn_ct (nn_ct (nn_ct (nn_q rfl rfl) (nn_q rfl rfl)) (nn_q rfl rfl)) (nn_ct (nn_ct (nn_q rfl rfl) (nn_q rfl rfl)) (nn_q rfl rfl))))
theorem pj_348 : pr_K (pr_i348, pr_m348) := ⟨by decide +kernel, pk_348, ⟨pr_cn, rfl, (ph_c ph_19 ph_n)⟩, fun _ => nn_ne py_348, nn_ne pz_348⟩
theorem pz_349 : ∀ pc, Nat.beq (pr_c349 pc).1 46 = false := by
  unfold pr_c349
  exact (nn_ct (nn_ct (nn_ct (nn_ct (nn_q rfl rfl) (nn_q rfl rfl)) (nn_ct (nn_q rfl rfl) (nn_q rfl rfl))) (nn_ct (nn_ct (nn_q rfl rfl) (nn_q rfl rfl)) (nn_q rfl rfl))) (nn_ct (nn_ct (nn_ct (nn_q rfl rfl) (nn_q rfl rfl)) (nn_q rfl rfl)) (nn_ct (nn_ct (nn_q rfl rfl) (nn_q rfl rfl)) (nn_q rfl rfl))))
theorem py_349 : ∀ pc, Nat.beq (pr_c349 pc).1 37 = false := by
  unfold pr_c349
  exact (nn_ct (nn_ct (nn_ct (nn_ct (nn_q rfl rfl) (nn_q rfl rfl)) (nn_ct (nn_q rfl rfl) (nn_q rfl rfl))) (nn_ct (nn_ct (nn_q rfl rfl) (nn_q rfl rfl)) (nn_q rfl rfl))) (nn_ct (nn_ct (nn_ct (nn_q rfl rfl) (nn_q rfl rfl)) (nn_q rfl rfl)) (nn_ct (nn_ct (nn_q rfl rfl) (nn_q rfl rfl)) (nn_q rfl rfl))))
theorem pj_349 : pr_K (pr_i349, pr_m349) := ⟨by decide +kernel, pk_349, ⟨pr_cn, rfl, (ph_c ph_19 ph_n)⟩, fun _ => nn_ne py_349, nn_ne pz_349⟩
theorem pz_350 : ∀ pc, Nat.beq (pr_c350 pc).1 46 = false := by
  unfold pr_c350
  exact (nn_ct (nn_ct (nn_ct (nn_ct (nn_ct (nn_q rfl rfl) (nn_q rfl rfl)) (nn_q rfl rfl)) (nn_ct (nn_q rfl rfl) (nn_q rfl rfl))) (nn_ct (nn_ct (nn_q rfl rfl) (nn_q rfl rfl)) (nn_ct (nn_q rfl rfl) (nn_q rfl rfl)))) (nn_ct (nn_ct (nn_ct (nn_q rfl rfl) (nn_q rfl rfl)) (nn_ct (nn_q rfl rfl) (nn_q rfl rfl))) (nn_ct (nn_ct (nn_q rfl rfl) (nn_q rfl rfl)) (nn_ct (nn_q rfl rfl) (nn_q rfl rfl)))))
theorem py_350 : ∀ pc, Nat.beq (pr_c350 pc).1 37 = false := by
  unfold pr_c350
  exact (nn_ct (nn_ct (nn_ct (nn_ct (nn_ct (nn_q rfl rfl) (nn_q rfl rfl)) (nn_q rfl rfl)) (nn_ct (nn_q rfl rfl) (nn_q rfl rfl))) (nn_ct (nn_ct (nn_q rfl rfl) (nn_q rfl rfl)) (nn_ct (nn_q rfl rfl) (nn_q rfl rfl)))) (nn_ct (nn_ct (nn_ct (nn_q rfl rfl) (nn_q rfl rfl)) (nn_ct (nn_q rfl rfl) (nn_q rfl rfl))) (nn_ct (nn_ct (nn_q rfl rfl) (nn_q rfl rfl)) (nn_ct (nn_q rfl rfl) (nn_q rfl rfl)))))
theorem pj_350 : pr_K (pr_i350, pr_m350) := ⟨by decide +kernel, pk_350, ⟨pr_cn, rfl, (ph_c ph_19 (ph_c ph_13 (ph_c ph_27 ph_n)))⟩, fun _ => nn_ne py_350, nn_ne pz_350⟩
theorem pz_351 : ∀ pc, Nat.beq (pr_c351 pc).1 46 = false := by
  unfold pr_c351
  exact (nn_ct (nn_ct (nn_ct (nn_q rfl rfl) (nn_q rfl rfl)) (nn_ct (nn_q rfl rfl) (nn_q rfl rfl))) (nn_ct (nn_ct (nn_q rfl rfl) (nn_q rfl rfl)) (nn_q rfl rfl)))
theorem py_351 : ∀ pc, Nat.beq (pr_c351 pc).1 37 = false := by
  unfold pr_c351
  exact (nn_ct (nn_ct (nn_ct (nn_q rfl rfl) (nn_q rfl rfl)) (nn_ct (nn_q rfl rfl) (nn_q rfl rfl))) (nn_ct (nn_ct (nn_q rfl rfl) (nn_q rfl rfl)) (nn_q rfl rfl)))
theorem pj_351 : pr_K (pr_i351, pr_m351) := ⟨by decide +kernel, pk_351, ⟨pr_cn, rfl, (ph_c ph_27 ph_n)⟩, fun _ => nn_ne py_351, nn_ne pz_351⟩
theorem pz_353 : ∀ pc, Nat.beq (pr_c353 pc).1 46 = false := by
  unfold pr_c353
  exact (nn_ct (nn_ct (nn_ct (nn_ct (nn_ct (nn_ct (nn_q rfl rfl) (nn_q rfl rfl)) (nn_q rfl rfl)) (nn_ct (nn_ct (nn_q rfl rfl) (nn_q rfl rfl)) (nn_q rfl rfl))) (nn_ct (nn_ct (nn_ct (nn_q rfl rfl) (nn_q rfl rfl)) (nn_q rfl rfl)) (nn_ct (nn_q rfl rfl) (nn_q rfl rfl)))) (nn_ct (nn_ct (nn_ct (nn_ct (nn_q rfl rfl) (nn_q rfl rfl)) (nn_q rfl rfl)) (nn_ct (nn_q rfl rfl) (nn_q rfl rfl))) (nn_ct (nn_ct (nn_ct (nn_q rfl rfl) (nn_q rfl rfl)) (nn_q rfl rfl)) (nn_ct (nn_q rfl rfl) (nn_q rfl rfl))))) (nn_ct (nn_ct (nn_ct (nn_ct (nn_ct (nn_q rfl rfl) (nn_q rfl rfl)) (nn_q rfl rfl)) (nn_ct (nn_ct (nn_q rfl rfl) (nn_q rfl rfl)) (nn_q rfl rfl))) (nn_ct (nn_ct (nn_ct (nn_q rfl rfl) (nn_q rfl rfl)) (nn_q rfl rfl)) (nn_ct (nn_q rfl rfl) (nn_q rfl rfl)))) (nn_ct (nn_ct (nn_ct (nn_ct (nn_q rfl rfl) (nn_q rfl rfl)) (nn_q rfl rfl)) (nn_ct (nn_q rfl rfl) (nn_q rfl rfl))) (nn_ct (nn_ct (nn_ct (nn_q rfl rfl) (nn_q rfl rfl)) (nn_q rfl rfl)) (nn_ct (nn_q rfl rfl) (nn_q rfl rfl))))))
theorem pj_353 : pr_K (pr_i353, pr_m353) := pm_1 (by decide +kernel) pk_353 ⟨rfl, rfl⟩ pz_353
theorem pr_all : ∀ i, ev_mok pr_I pr_P pr_S i := by
  have h : ∀ i, pr_K (pr_T i) := by
    unfold pr_T
    exact (pm_br (pm_br (pm_br (pm_br (pm_br (pm_br (pm_br (pm_br (pm_br (pm_lf pj_0) (pm_lf pj_1)) (pm_lf pj_2)) (pm_br (pm_lf pj_3) (pm_lf pj_4))) (pm_br (pm_br (pm_lf pj_5) (pm_lf pj_6)) (pm_br (pm_lf pj_7) (pm_lf pj_8)))) (pm_br (pm_br (pm_br (pm_br (pm_lf pj_9) (pm_lf pj_10)) (pm_lf pj_11)) (pm_br (pm_lf pj_12) (pm_lf pj_13))) (pm_br (pm_br (pm_lf pj_14) (pm_lf pj_15)) (pm_br (pm_lf pj_16) (pm_lf pj_17))))) (pm_br (pm_br (pm_br (pm_br (pm_br (pm_lf pj_18) (pm_lf pj_19)) (pm_lf pj_20)) (pm_br (pm_lf pj_21) (pm_lf pj_22))) (pm_br (pm_br (pm_lf pj_23) (pm_lf pj_24)) (pm_br (pm_lf pj_25) (pm_lf pj_26)))) (pm_br (pm_br (pm_br (pm_br (pm_lf pj_27) (pm_lf pj_28)) (pm_lf pj_29)) (pm_br (pm_lf pj_30) (pm_lf pj_31))) (pm_br (pm_br (pm_lf pj_32) (pm_lf pj_33)) (pm_br (pm_lf pj_34) (pm_lf pj_35)))))) (pm_br (pm_br (pm_br (pm_br (pm_br (pm_br (pm_lf pj_36) (pm_lf pj_37)) (pm_lf pj_38)) (pm_br (pm_lf pj_39) (pm_lf pj_40))) (pm_br (pm_br (pm_lf pj_41) (pm_lf pj_42)) (pm_br (pm_lf pj_43) (pm_lf pj_44)))) (pm_br (pm_br (pm_br (pm_br (pm_lf pj_45) (pm_lf pj_46)) (pm_lf pj_47)) (pm_br (pm_lf pj_48) (pm_lf pj_49))) (pm_br (pm_br (pm_lf pj_50) (pm_lf pj_51)) (pm_br (pm_lf pj_52) (pm_lf pj_53))))) (pm_br (pm_br (pm_br (pm_br (pm_br (pm_lf pj_54) (pm_lf pj_55)) (pm_lf pj_56)) (pm_br (pm_lf pj_57) (pm_lf pj_58))) (pm_br (pm_br (pm_lf pj_59) (pm_lf pj_60)) (pm_br (pm_lf pj_61) (pm_lf pj_62)))) (pm_br (pm_br (pm_br (pm_br (pm_lf pj_63) (pm_lf pj_64)) (pm_lf pj_65)) (pm_br (pm_lf pj_66) (pm_lf pj_67))) (pm_br (pm_br (pm_lf pj_68) (pm_lf pj_69)) (pm_br (pm_lf pj_70) (pm_lf pj_72))))))) (pm_br (pm_br (pm_br (pm_br (pm_br (pm_br (pm_br (pm_lf pj_73) (pm_lf pj_74)) (pm_lf pj_75)) (pm_br (pm_lf pj_76) (pm_lf pj_77))) (pm_br (pm_br (pm_lf pj_78) (pm_lf pj_79)) (pm_br (pm_lf pj_80) (pm_lf pj_81)))) (pm_br (pm_br (pm_br (pm_br (pm_lf pj_82) (pm_lf pj_83)) (pm_lf pj_84)) (pm_br (pm_lf pj_85) (pm_lf pj_86))) (pm_br (pm_br (pm_lf pj_87) (pm_lf pj_89)) (pm_br (pm_lf pj_90) (pm_lf pj_102))))) (pm_br (pm_br (pm_br (pm_br (pm_br (pm_lf pj_103) (pm_lf pj_105)) (pm_lf pj_106)) (pm_br (pm_lf pj_107) (pm_lf pj_108))) (pm_br (pm_br (pm_lf pj_109) (pm_lf pj_110)) (pm_br (pm_lf pj_127) (pm_lf pj_128)))) (pm_br (pm_br (pm_br (pm_br (pm_lf pj_129) (pm_lf pj_130)) (pm_lf pj_131)) (pm_br (pm_lf pj_132) (pm_lf pj_133))) (pm_br (pm_br (pm_lf pj_134) (pm_lf pj_135)) (pm_br (pm_lf pj_136) (pm_lf pj_137)))))) (pm_br (pm_br (pm_br (pm_br (pm_br (pm_br (pm_lf pj_138) (pm_lf pj_139)) (pm_lf pj_140)) (pm_br (pm_lf pj_141) (pm_lf pj_142))) (pm_br (pm_br (pm_lf pj_143) (pm_lf pj_144)) (pm_br (pm_lf pj_145) (pm_lf pj_146)))) (pm_br (pm_br (pm_br (pm_br (pm_lf pj_147) (pm_lf pj_148)) (pm_lf pj_149)) (pm_br (pm_lf pj_150) (pm_lf pj_152))) (pm_br (pm_br (pm_lf pj_153) (pm_lf pj_154)) (pm_br (pm_lf pj_155) (pm_lf pj_156))))) (pm_br (pm_br (pm_br (pm_br (pm_br (pm_lf pj_157) (pm_lf pj_158)) (pm_lf pj_159)) (pm_br (pm_lf pj_160) (pm_lf pj_161))) (pm_br (pm_br (pm_lf pj_162) (pm_lf pj_163)) (pm_br (pm_lf pj_164) (pm_lf pj_165)))) (pm_br (pm_br (pm_br (pm_br (pm_lf pj_166) (pm_lf pj_167)) (pm_lf pj_168)) (pm_br (pm_lf pj_169) (pm_lf pj_170))) (pm_br (pm_br (pm_lf pj_171) (pm_lf pj_172)) (pm_br (pm_lf pj_173) (pm_lf pj_174)))))))) (pm_br (pm_br (pm_br (pm_br (pm_br (pm_br (pm_br (pm_br (pm_lf pj_175) (pm_lf pj_176)) (pm_lf pj_177)) (pm_br (pm_lf pj_178) (pm_lf pj_179))) (pm_br (pm_br (pm_lf pj_181) (pm_lf pj_182)) (pm_br (pm_lf pj_183) (pm_lf pj_184)))) (pm_br (pm_br (pm_br (pm_br (pm_lf pj_185) (pm_lf pj_186)) (pm_lf pj_187)) (pm_br (pm_lf pj_188) (pm_lf pj_189))) (pm_br (pm_br (pm_lf pj_190) (pm_lf pj_191)) (pm_br (pm_lf pj_192) (pm_lf pj_193))))) (pm_br (pm_br (pm_br (pm_br (pm_br (pm_lf pj_194) (pm_lf pj_195)) (pm_lf pj_196)) (pm_br (pm_lf pj_197) (pm_lf pj_198))) (pm_br (pm_br (pm_lf pj_199) (pm_lf pj_200)) (pm_br (pm_lf pj_201) (pm_lf pj_202)))) (pm_br (pm_br (pm_br (pm_br (pm_lf pj_203) (pm_lf pj_204)) (pm_lf pj_205)) (pm_br (pm_lf pj_206) (pm_lf pj_207))) (pm_br (pm_br (pm_lf pj_208) (pm_lf pj_209)) (pm_br (pm_lf pj_210) (pm_lf pj_211)))))) (pm_br (pm_br (pm_br (pm_br (pm_br (pm_br (pm_lf pj_212) (pm_lf pj_213)) (pm_lf pj_214)) (pm_br (pm_lf pj_215) (pm_lf pj_216))) (pm_br (pm_br (pm_lf pj_217) (pm_lf pj_218)) (pm_br (pm_lf pj_219) (pm_lf pj_220)))) (pm_br (pm_br (pm_br (pm_br (pm_lf pj_221) (pm_lf pj_222)) (pm_lf pj_223)) (pm_br (pm_lf pj_224) (pm_lf pj_225))) (pm_br (pm_br (pm_lf pj_226) (pm_lf pj_227)) (pm_br (pm_lf pj_228) (pm_lf pj_229))))) (pm_br (pm_br (pm_br (pm_br (pm_br (pm_lf pj_230) (pm_lf pj_232)) (pm_lf pj_233)) (pm_br (pm_lf pj_234) (pm_lf pj_235))) (pm_br (pm_br (pm_lf pj_236) (pm_lf pj_237)) (pm_br (pm_lf pj_238) (pm_lf pj_239)))) (pm_br (pm_br (pm_br (pm_br (pm_lf pj_241) (pm_lf pj_242)) (pm_lf pj_243)) (pm_br (pm_lf pj_244) (pm_lf pj_245))) (pm_br (pm_br (pm_lf pj_246) (pm_lf pj_248)) (pm_br (pm_lf pj_249) (pm_lf pj_250))))))) (pm_br (pm_br (pm_br (pm_br (pm_br (pm_br (pm_br (pm_lf pj_251) (pm_lf pj_265)) (pm_lf pj_269)) (pm_br (pm_lf pj_270) (pm_lf pj_272))) (pm_br (pm_br (pm_lf pj_273) (pm_lf pj_274)) (pm_br (pm_lf pj_275) (pm_lf pj_276)))) (pm_br (pm_br (pm_br (pm_br (pm_lf pj_277) (pm_lf pj_278)) (pm_lf pj_279)) (pm_br (pm_lf pj_280) (pm_lf pj_281))) (pm_br (pm_br (pm_lf pj_282) (pm_lf pj_283)) (pm_br (pm_lf pj_284) (pm_lf pj_285))))) (pm_br (pm_br (pm_br (pm_br (pm_br (pm_lf pj_286) (pm_lf pj_299)) (pm_lf pj_302)) (pm_br (pm_lf pj_303) (pm_lf pj_304))) (pm_br (pm_br (pm_lf pj_305) (pm_lf pj_306)) (pm_br (pm_lf pj_307) (pm_lf pj_308)))) (pm_br (pm_br (pm_br (pm_br (pm_lf pj_309) (pm_lf pj_310)) (pm_lf pj_311)) (pm_br (pm_lf pj_312) (pm_lf pj_313))) (pm_br (pm_br (pm_lf pj_314) (pm_lf pj_315)) (pm_br (pm_lf pj_316) (pm_lf pj_317)))))) (pm_br (pm_br (pm_br (pm_br (pm_br (pm_br (pm_lf pj_318) (pm_lf pj_319)) (pm_lf pj_320)) (pm_br (pm_lf pj_321) (pm_lf pj_322))) (pm_br (pm_br (pm_lf pj_323) (pm_lf pj_324)) (pm_br (pm_lf pj_325) (pm_lf pj_326)))) (pm_br (pm_br (pm_br (pm_br (pm_lf pj_327) (pm_lf pj_328)) (pm_lf pj_329)) (pm_br (pm_lf pj_330) (pm_lf pj_331))) (pm_br (pm_br (pm_lf pj_332) (pm_lf pj_333)) (pm_br (pm_lf pj_334) (pm_lf pj_335))))) (pm_br (pm_br (pm_br (pm_br (pm_br (pm_lf pj_336) (pm_lf pj_337)) (pm_lf pj_338)) (pm_br (pm_lf pj_339) (pm_lf pj_340))) (pm_br (pm_br (pm_lf pj_341) (pm_lf pj_342)) (pm_br (pm_lf pj_343) (pm_lf pj_344)))) (pm_br (pm_br (pm_br (pm_lf pj_345) (pm_lf pj_346)) (pm_br (pm_lf pj_347) (pm_lf pj_348))) (pm_br (pm_br (pm_lf pj_349) (pm_lf pj_350)) (pm_br (pm_lf pj_351) (pm_lf pj_353)))))))))
  exact h
