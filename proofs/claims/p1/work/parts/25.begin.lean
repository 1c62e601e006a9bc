/-! ===== the law's entry: what the tables and the start give (own work, by program: wip/p1/gen7.py) ===== -/
section BEG
variable {s : State} {args : Array Value}
theorem be_arrP {ty : FieldType} (hp : ∀ (U : State) (cA : ClassId), U.vm.findClass ("[" ++ ty.toString) = some cA → va_RA U cA ty) (h : (Cond.arrayClass ty).before args s = true) : ∃ cA, ArrOfT s cA ty ∧ va_RA s cA ty := by
  obtain ⟨c, k, comp, h1, h2, h3⟩ := Cond.arrayClass_spec h
  exact ⟨c, fun N z => ⟨(fun k h => by cases h), k, h2, comp, h3⟩, hp s c h1⟩
theorem be_arrO {C : String} (h : (Cond.arrayOver (.object C)).before args s = true) : ∃ cA, ArrOfT s cA (.object C) ∧ va_RA s cA (.object C) := by
  obtain ⟨comp, c, k, h1, -, h2, h3, h4⟩ := Cond.arrayOver_spec h
  exact ⟨c, fun N z => ⟨(fun k h => by cases h), k, h2, comp, h3⟩, ⟨k, comp, h2, h3, h1, h4⟩⟩
theorem be_k0 (hts : ∀ w ∈ lw_tbl, w.before args s = true) : ∃ (cC : ClassId) (iS : Nat → Nat), u_Kn s RX0 TX0 3 cC iS := u_known hts (fun w hw => (List.mem_filter.mp (pt_0.1 w hw)).1) (hts _ (ev_twat (x := .instantiable "OrphanTree$History" 3) 289 (by decide +kernel)))
theorem be_k1 (hts : ∀ w ∈ lw_tbl, w.before args s = true) : ∃ (cC : ClassId) (iS : Nat → Nat), u_Kn s RX1 TX1 2 cC iS := u_known hts (fun w hw => (List.mem_filter.mp (pt_1.1 w hw)).1) (hts _ (ev_twat (x := .instantiable "OrphanTree$Input" 2) 315 (by decide +kernel)))
theorem be_k2 (hts : ∀ w ∈ lw_tbl, w.before args s = true) : ∃ (cC : ClassId) (iS : Nat → Nat), u_Kn s RX2 TX2 2 cC iS := u_known hts (fun w hw => (List.mem_filter.mp (pt_2.1 w hw)).1) (hts _ (ev_twat (x := .instantiable "OrphanTree$Output" 2) 371 (by decide +kernel)))
theorem be_k3 (hts : ∀ w ∈ lw_tbl, w.before args s = true) : ∃ (cC : ClassId) (iS : Nat → Nat), u_Kn s RX3 TX3 15 cC iS := u_known hts (fun w hw => (List.mem_filter.mp (pt_3.1 w hw)).1) (hts _ (ev_twat (x := .instantiable "OrphanTree$Proc" 15) 143 (by decide +kernel)))
theorem be_k4 (hts : ∀ w ∈ lw_tbl, w.before args s = true) : ∃ (cC : ClassId) (iS : Nat → Nat), u_Kn s RX4 TX4 11 cC iS := u_known hts (fun w hw => (List.mem_filter.mp (pt_4.1 w hw)).1) (hts _ (ev_twat (x := .instantiable "OrphanTree$SetupReader" 11) 309 (by decide +kernel)))
theorem be_k5 (hts : ∀ w ∈ lw_tbl, w.before args s = true) : ∃ (cC : ClassId) (iS : Nat → Nat), u_Kn s RX5 TX5 10 cC iS := u_known hts (fun w hw => (List.mem_filter.mp (pt_5.1 w hw)).1) (hts _ (ev_twat (x := .instantiable "OrphanTree$Tree" 10) 137 (by decide +kernel)))
theorem be_k6 (hts : ∀ w ∈ lw_tbl, w.before args s = true) : ∃ (cC : ClassId) (iS : Nat → Nat), u_Kn s RX6 TX6 7 cC iS := u_known hts (fun w hw => (List.mem_filter.mp (pt_6.1 w hw)).1) (hts _ (ev_twat (x := .instantiable "OrphanTree" 7) 129 (by decide +kernel)))
theorem be_k7 (hts : ∀ w ∈ lw_tbl, w.before args s = true) : ∃ (cC : ClassId) (iS : Nat → Nat), u_Kn s RX7 TX7 24 cC iS := u_known hts (fun w hw => (List.mem_filter.mp (pt_7.1 w hw)).1) (hts _ (ev_twat (x := .instantiable "OrphanTreeModel" 24) 1369 (by decide +kernel)))
theorem be_K (hts : ∀ w ∈ lw_tbl, w.before args s = true) : ∃ (D : va_G) (aC : Nat → ClassId), va_K D vwCl (ev_tys aC) s := by
  obtain ⟨c0, i0, h0⟩ := be_k0 hts
  obtain ⟨c1, i1, h1⟩ := be_k1 hts
  obtain ⟨c2, i2, h2⟩ := be_k2 hts
  obtain ⟨c3, i3, h3⟩ := be_k3 hts
  obtain ⟨c4, i4, h4⟩ := be_k4 hts
  obtain ⟨c5, i5, h5⟩ := be_k5 hts
  obtain ⟨c6, i6, h6⟩ := be_k6 hts
  obtain ⟨c7, i7, h7⟩ := be_k7 hts
  obtain ⟨a20, g20⟩ := be_arrP (ty := .int) (fun _ _ h => h) (hts _ (ev_twat (x := .arrayClass .int) 287 (by decide +kernel)))
  obtain ⟨a21, g21⟩ := be_arrP (ty := .byte) (fun _ _ h => h) (hts _ (ev_twat (x := .arrayClass .byte) 329 (by decide +kernel)))
  obtain ⟨a22, g22⟩ := be_arrP (ty := .boolean) (fun _ _ h => h) (hts _ (ev_twat (x := .arrayClass .boolean) 1455 (by decide +kernel)))
  obtain ⟨a23, g23⟩ := be_arrP (ty := .long) (fun _ _ h => h) (hts _ (ev_twat (x := .arrayClass .long) 2040 (by decide +kernel)))
  obtain ⟨a24, g24⟩ := be_arrO (C := "OrphanTree$Proc") (hts _ (ev_twat (x := .arrayOver (.object "OrphanTree$Proc")) 229 (by decide +kernel)))
  obtain ⟨a25, g25⟩ := be_arrO (C := "OrphanTree$Tree") (hts _ (ev_twat (x := .arrayOver (.object "OrphanTree$Tree")) 295 (by decide +kernel)))
  refine ⟨(fun c => match c with
    | 0 => c0 | 1 => c1 | 2 => c2 | 3 => c3 | 4 => c4 | 5 => c5 | 6 => c6 | _ => c7, fun c => match c with
    | 0 => i0 | 1 => i1 | 2 => i2 | 3 => i3 | 4 => i4 | 5 => i5 | 6 => i6 | _ => i7), fun k => match k with
    | 20 => a20 | 21 => a21 | 22 => a22 | 23 => a23 | 24 => a24 | _ => a25, fun c q hq => ?_, fun k q hq => ?_⟩
  · match c, hq with
    | 0, hq => obtain rfl := Option.some.inj hq; exact h0
    | 1, hq => obtain rfl := Option.some.inj hq; exact h1
    | 2, hq => obtain rfl := Option.some.inj hq; exact h2
    | 3, hq => obtain rfl := Option.some.inj hq; exact h3
    | 4, hq => obtain rfl := Option.some.inj hq; exact h4
    | 5, hq => obtain rfl := Option.some.inj hq; exact h5
    | 6, hq => obtain rfl := Option.some.inj hq; exact h6
    | 7, hq => obtain rfl := Option.some.inj hq; exact h7
    | c + 8, hq => exact absurd (show none = some q from hq) (fun z => by cases z)
  · match k, hq with
    | 0, hq => obtain rfl := Option.some.inj hq; exact g20
    | 1, hq => obtain rfl := Option.some.inj hq; exact g21
    | 2, hq => obtain rfl := Option.some.inj hq; exact g22
    | 3, hq => obtain rfl := Option.some.inj hq; exact g23
    | 4, hq => obtain rfl := Option.some.inj hq; exact g24
    | 5, hq => obtain rfl := Option.some.inj hq; exact g25
    | k + 6, hq => exact absurd (show none = some q from hq) (fun z => by cases z)
theorem be_bw {x : Cond} (hx : ev_bw x = true) (h : x.before args s = true) : x.before #[] s = true := by
  match x, hx, h with
  | .castable C T, _, h => exact va_Nw.of rfl h
  | .fieldLinkNest _ _ _ _ _ _, _, h => exact va_Nw.of rfl h
  | .methodLinkNest _ _ _ _, _, h => exact va_Nw.of rfl h
  | .arrayOver (.object C), _, h => exact va_AO.of h
  | .declares x, _, h => exact va_Nw.of rfl h
theorem be_sw : ∀ q ∈ pr_S, q.1 = "OrphanTree" ∧ Cond.stringRef q.1 q.2.1 q.2.2 ∈ lw_tbl := by decide +kernel
theorem be_S (hts : ∀ w ∈ lw_tbl, w.before args s = true) : ∀ q ∈ pr_S, ∃ sa, vk_R q.1 q.2.1 q.2.2 sa s := by
  intro q hq
  obtain ⟨h1, h2⟩ := be_sw q hq
  obtain ⟨cC, iS, hK⟩ := be_k6 hts
  have hc : s.vm.findClass q.1 = some cC := by rw [h1]; exact hK.2.1
  obtain ⟨k, cf, i, a, -, -, -, -, -, hev⟩ := Cond.stringRef_spec hc (hts _ h2)
  exact ⟨a, vk_R.of (hts _ h2) hev⟩
theorem be_nc (hg : (Jvm.Cond.and given_1 narrow_1).before args s = true) : ∀ i j, i < 4 → j < 4 → i ≠ j → va_Nc (ev_ex i) (ev_ex j) s := by
  have hs := flat_of_before _ hg
  have hall : ∀ i, i < 4 → ∀ j, j < 4 → i ≠ j → Cond.not (.castable (ev_ex i) (ev_ex j)) ∈ flatC (Jvm.Cond.and given_1 narrow_1) := by decide +kernel
  exact fun i j hi hj hij => va_Nc.of (hs _ (hall i hi j hj hij))
theorem be_V (hts : ∀ w ∈ lw_tbl, w.before args s = true) (hg : (Jvm.Cond.and given_1 narrow_1).before args s = true) : ∃ (D : va_G) (aC : Nat → ClassId), ev_VF D aC pr_S s := by
  obtain ⟨D, aC, hK⟩ := be_K hts
  exact ⟨D, aC, hK, fun w hw hb => be_bw hb (hts w hw), be_S hts, be_nc hg⟩
theorem be_Z {b L : Nat} {σ : Nat → Int32} (hts : ∀ w ∈ lw_tbl, w.before args s = true) (hg : (Jvm.Cond.and given_1 narrow_1).before args s = true) (hX : va_X b L σ s s.heap) : ev_ZF b s.heap.size L σ s s.heap := by
  have hs := flat_of_before _ hg
  have hA : ∀ a : Nat, a < s.heap.size → ¬ s.heap.size ≤ a := fun a h => by omega
  have hT : (Cond.initialized Bundle.tN).before args s = true := hts _ (by decide +kernel)
  have h1 : (Cond.laysStatic Bundle.tN "UNASSIGNED_STACK" Bundle.steD).before args s = true := hts _ (by decide +kernel)
  have h2 : (Cond.laysStatic Bundle.tN "SUPPRESSED_SENTINEL" Bundle.listD).before args s = true := hts _ (by decide +kernel)
  have h3 : (Cond.isRef (.static Bundle.tN "UNASSIGNED_STACK" Bundle.steD)).before args s = true := hs _ (by decide +kernel)
  have h4 : (Cond.isRef (.static Bundle.tN "SUPPRESSED_SENTINEL" Bundle.listD)).before args s = true := hs _ (by decide +kernel)
  exact ⟨hX, vx_Zqof h1 hT h3 hA, vx_Zqof h2 hT h4 hA⟩
theorem be_J {D : va_G} {aC : Nat → ClassId} {b : Nat} {σ : Nat → Int32} (H : Heap) : ev_J D aC b H.size σ pr_w0 H := by
  refine ⟨fun i q h => ?_, Nat.le_refl _, fun _ => rfl⟩
  rw [ev_get_eq] at h
  have h : ((List.replicate 11 (List.replicate 8 (List.replicate 8 ((99, (0, [])) : ev_C))))[i / 64]?).bind (fun c => (c[i / 8 % 8]?).bind fun d => d[i % 8]?) = some q := h
  rw [List.getElem?_replicate] at h
  split at h
  · have h : ((List.replicate 8 (List.replicate 8 ((99, (0, [])) : ev_C)))[i / 8 % 8]?).bind (fun d => d[i % 8]?) = some q := h
    rw [List.getElem?_replicate, if_pos (by omega)] at h
    have h : (List.replicate 8 ((99, (0, [])) : ev_C))[i % 8]? = some q := h
    rw [List.getElem?_replicate, if_pos (by omega)] at h
    cases h
    exact ⟨by omega, Or.inl rfl⟩
  · cases h
theorem be_cast : ∀ i, i < 4 → Cond.castable (ev_ex i) (ev_ex i) ∈ lw_tbl := by decide +kernel
theorem be_Ts : ∀ w ∈ ev_wm pr_i0 1, w ∈ lw_tbl := by
  intro w hw
  rcases List.mem_cons.mp hw with rfl | hw
  · exact (List.mem_filter.mp pw_c_0).1
  · exact (List.mem_filter.mp hw).1
theorem be_and (a b : Nat) : nI a &&& nI b = nI (a &&& b) := by
  apply Int32.toBitVec_inj.1
  show BitVec.ofNat 32 a &&& BitVec.ofNat 32 b = BitVec.ofNat 32 (a &&& b)
  apply BitVec.eq_of_getLsbD_eq
  intro i hi
  simp [hi]
theorem be_mod (k : Nat) : nI k &&& 63 = nI (k % 64) := by
  show nI k &&& nI 63 = _
  rw [be_and, show (63 : Nat) = 2 ^ 6 - 1 from rfl, Nat.and_two_pow_sub_one_eq_mod]
theorem be_63 (x : Int32) : ∃ k, k < 64 ∧ x &&& 63 = nI k := by
  have e : x = nI x.toBitVec.toNat := by
    apply Int32.toBitVec_inj.1
    show x.toBitVec = BitVec.ofNat 32 x.toBitVec.toNat
    simp
  refine ⟨x.toBitVec.toNat % 64, Nat.mod_lt _ (by omega), ?_⟩
  rw [← be_mod, ← e]
theorem be_bbk {k : Nat} (hk : k < 64) : ev_bb (nI k) = k + 2147483648 := by
  rw [← ev_bi_ok]
  unfold ev_bi
  omega
end BEG
