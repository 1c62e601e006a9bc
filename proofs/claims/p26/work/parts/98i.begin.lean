/-! ===== the law's entry: what the tables and the start give (own work, by program: wip/p2/gen7.py) ===== -/
section BEG
variable {s : State} {args : Array Value}
theorem be_arrP {ty : FieldType} (hp : ∀ (U : State) (cA : ClassId), U.vm.findClass ("[" ++ ty.toString) = some cA → va_RA U cA ty) (h : (Cond.arrayClass ty).before args s = true) : ∃ cA, ArrOfT s cA ty ∧ va_RA s cA ty := by
  obtain ⟨c, k, comp, h1, h2, h3⟩ := Cond.arrayClass_spec h
  exact ⟨c, fun N z => ⟨(fun k h => by cases h), k, h2, comp, h3⟩, hp s c h1⟩
theorem be_arrO {C : String} (h : (Cond.arrayOver (.object C)).before args s = true) : ∃ cA, ArrOfT s cA (.object C) ∧ va_RA s cA (.object C) := by
  obtain ⟨comp, c, k, h1, -, h2, h3, h4⟩ := Cond.arrayOver_spec h
  exact ⟨c, fun N z => ⟨(fun k h => by cases h), k, h2, comp, h3⟩, ⟨k, comp, h2, h3, h1, h4⟩⟩
theorem be_k0 (hts : ∀ w ∈ lw_tbl, w.before args s = true) : ∃ (cC : ClassId) (iS : Nat → Nat), u_Kn s RX0 TX0 3 cC iS := u_known hts (fun w hw => (List.mem_filter.mp (pt_0.1 w hw)).1) (hts _ (ev_twat (x := .instantiable "OrphanTree$History" 3) 289 (by decide +kernel)))
theorem be_k1 (hts : ∀ w ∈ lw_tbl, w.before args s = true) : ∃ (cC : ClassId) (iS : Nat → Nat), u_Kn s RX1 TX1 2 cC iS := u_known hts (fun w hw => (List.mem_filter.mp (pt_1.1 w hw)).1) (hts _ (ev_twat (x := .instantiable "OrphanTree$Input" 2) 315 (by decide +kernel)))
theorem be_k2 (hts : ∀ w ∈ lw_tbl, w.before args s = true) : ∃ (cC : ClassId) (iS : Nat → Nat), u_Kn s RX2 TX2 2 cC iS := u_known hts (fun w hw => (List.mem_filter.mp (pt_2.1 w hw)).1) (hts _ (ev_twat (x := .instantiable "OrphanTree$Output" 2) 371 (by decide +kernel)))
theorem be_k3 (hts : ∀ w ∈ lw_tbl, w.before args s = true) : ∃ (cC : ClassId) (iS : Nat → Nat), u_Kn s RX3 TX3 15 cC iS := u_known hts (fun w hw => (List.mem_filter.mp (pt_3.1 w hw)).1) (hts _ (ev_twat (x := .instantiable "OrphanTree$Proc" 15) 143 (by decide +kernel)))
theorem be_k4 (hts : ∀ w ∈ lw_tbl, w.before args s = true) : ∃ (cC : ClassId) (iS : Nat → Nat), u_Kn s RX4 TX4 11 cC iS := u_known hts (fun w hw => (List.mem_filter.mp (pt_4.1 w hw)).1) (hts _ (ev_twat (x := .instantiable "OrphanTree$SetupReader" 11) 309 (by decide +kernel)))
theorem be_k5 (hts : ∀ w ∈ lw_tbl, w.before args s = true) : ∃ (cC : ClassId) (iS : Nat → Nat), u_Kn s RX5 TX5 10 cC iS := u_known hts (fun w hw => (List.mem_filter.mp (pt_5.1 w hw)).1) (hts _ (ev_twat (x := .instantiable "OrphanTree$Tree" 10) 137 (by decide +kernel)))
theorem be_k6 (hts : ∀ w ∈ lw_tbl, w.before args s = true) : ∃ (cC : ClassId) (iS : Nat → Nat), u_Kn s RX6 TX6 7 cC iS := u_known hts (fun w hw => (List.mem_filter.mp (pt_6.1 w hw)).1) (hts _ (ev_twat (x := .instantiable "OrphanTree" 7) 129 (by decide +kernel)))
theorem be_k7 (hts : ∀ w ∈ lw_tbl, w.before args s = true) : ∃ (cC : ClassId) (iS : Nat → Nat), u_Kn s RX7 TX7 24 cC iS := u_known hts (fun w hw => (List.mem_filter.mp (pt_7.1 w hw)).1) (hts _ (ev_twat (x := .instantiable "OrphanTreeModel" 24) 1369 (by decide +kernel)))
theorem be_K (hts : ∀ w ∈ lw_tbl, w.before args s = true) : ∃ (D : va_G) (aC : Nat → ClassId), va_K D vwCl (ev_tys aC) s := by
  obtain ⟨c0, i0, h0⟩ := be_k0 hts
  obtain ⟨c1, i1, h1⟩ := be_k1 hts
  obtain ⟨c2, i2, h2⟩ := be_k2 hts
  obtain ⟨c3, i3, h3⟩ := be_k3 hts
  obtain ⟨c4, i4, h4⟩ := be_k4 hts
  obtain ⟨c5, i5, h5⟩ := be_k5 hts
  obtain ⟨c6, i6, h6⟩ := be_k6 hts
  obtain ⟨c7, i7, h7⟩ := be_k7 hts
  obtain ⟨a20, g20⟩ := be_arrP (ty := .int) (fun _ _ h => h) (hts _ (ev_twat (x := .arrayClass .int) 287 (by decide +kernel)))
  obtain ⟨a21, g21⟩ := be_arrP (ty := .byte) (fun _ _ h => h) (hts _ (ev_twat (x := .arrayClass .byte) 329 (by decide +kernel)))
  obtain ⟨a22, g22⟩ := be_arrP (ty := .boolean) (fun _ _ h => h) (hts _ (ev_twat (x := .arrayClass .boolean) 1455 (by decide +kernel)))
  obtain ⟨a23, g23⟩ := be_arrP (ty := .long) (fun _ _ h => h) (hts _ (ev_twat (x := .arrayClass .long) 2040 (by decide +kernel)))
  obtain ⟨a24, g24⟩ := be_arrO (C := "OrphanTree$Proc") (hts _ (ev_twat (x := .arrayOver (.object "OrphanTree$Proc")) 229 (by decide +kernel)))
  obtain ⟨a25, g25⟩ := be_arrO (C := "OrphanTree$Tree") (hts _ (ev_twat (x := .arrayOver (.object "OrphanTree$Tree")) 295 (by decide +kernel)))
  refine ⟨(fun c => match c with
    | 0 => c0 | 1 => c1 | 2 => c2 | 3 => c3 | 4 => c4 | 5 => c5 | 6 => c6 | _ => c7, fun c => match c with
    | 0 => i0 | 1 => i1 | 2 => i2 | 3 => i3 | 4 => i4 | 5 => i5 | 6 => i6 | _ => i7), fun k => match k with
    | 20 => a20 | 21 => a21 | 22 => a22 | 23 => a23 | 24 => a24 | _ => a25, fun c q hq => ?_, fun k q hq => ?_⟩
  · match c, hq with
    | 0, hq => obtain rfl := Option.some.inj hq; exact h0
    | 1, hq => obtain rfl := Option.some.inj hq; exact h1
    | 2, hq => obtain rfl := Option.some.inj hq; exact h2
    | 3, hq => obtain rfl := Option.some.inj hq; exact h3
    | 4, hq => obtain rfl := Option.some.inj hq; exact h4
    | 5, hq => obtain rfl := Option.some.inj hq; exact h5
    | 6, hq => obtain rfl := Option.some.inj hq; exact h6
    | 7, hq => obtain rfl := Option.some.inj hq; exact h7
    | c + 8, hq => exact absurd (show none = some q from hq) (fun z => by cases z)
  · match k, hq with
    | 0, hq => obtain rfl := Option.some.inj hq; exact g20
    | 1, hq => obtain rfl := Option.some.inj hq; exact g21
    | 2, hq => obtain rfl := Option.some.inj hq; exact g22
    | 3, hq => obtain rfl := Option.some.inj hq; exact g23
    | 4, hq => obtain rfl := Option.some.inj hq; exact g24
    | 5, hq => obtain rfl := Option.some.inj hq; exact g25
    | k + 6, hq => exact absurd (show none = some q from hq) (fun z => by cases z)
theorem be_bw {x : Cond} (hx : ev_bw x = true) (h : x.before args s = true) : x.before #[] s = true := by
  match x, hx, h with
  | .castable C T, _, h => exact va_Nw.of rfl h
  | .fieldLinkNest _ _ _ _ _ _, _, h => exact va_Nw.of rfl h
  | .methodLinkNest _ _ _ _, _, h => exact va_Nw.of rfl h
  | .arrayOver (.object C), _, h => exact va_AO.of h
  | .declares x, _, h => exact va_Nw.of rfl h
/-- the one list's words stand in the other, in their order -/
def be_su : List Cond → List Cond → Bool
  | [], _ => true
  | _ :: _, [] => false
  | a :: r, b :: l => if a = b then be_su r l else be_su (a :: r) l
theorem be_su_m : ∀ (l r : List Cond), be_su r l = true → ∀ x ∈ r, x ∈ l := by
  intro l
  induction l with
  | nil =>
    intro r h x hx
    cases r with
    | nil => exact hx
    | cons a r => simp [be_su] at h
  | cons b l ih =>
    intro r h x hx
    cases r with
    | nil => cases hx
    | cons a r =>
      rw [be_su] at h
      by_cases e : a = b
      · rw [if_pos e] at h
        rcases List.mem_cons.mp hx with z | z
        · exact List.mem_cons.mpr (Or.inl (z.trans e))
        · exact List.mem_cons.mpr (Or.inr (ih r h x z))
      · rw [if_neg e] at h
        exact List.mem_cons.mpr (Or.inr (ih (a :: r) h x hx))
/-- some of the table's words, in their order -/
def be_tq : List Cond := [Cond.stringRef "OrphanTree$SetupReader" 60 "order", Cond.stringRef "OrphanTree$SetupReader" 123 "near", Cond.stringRef "OrphanTree$SetupReader" 125 "group", Cond.stringRef "OrphanTree$SetupReader" 127 "room", Cond.stringRef "OrphanTree$SetupReader" 129 "kin", Cond.stringRef "OrphanTree$SetupReader" 131 "old", Cond.stringRef "OrphanTree$SetupReader" 70 "deep", Cond.stringRef "OrphanTree$SetupReader" 75 "root", Cond.stringRef "OrphanTree$SetupReader" 80 "process", Cond.stringRef "OrphanTree$SetupReader" 85 "heir", Cond.stringRef "OrphanTree$SetupReader" 90 "duty", Cond.stringRef "OrphanTree$SetupReader" 95 "refuse", Cond.stringRef "OrphanTree$SetupReader" 100 "will", Cond.castable "java/lang/IllegalArgumentException" "java/lang/IllegalArgumentException", Cond.stringRef "OrphanTree" 120 "no such number", Cond.castable "java/lang/IndexOutOfBoundsException" "java/lang/IndexOutOfBoundsException", Cond.stringRef "OrphanTree" 345 "no such process", Cond.stringRef "OrphanTree" 177 "no such property", Cond.stringRef "OrphanTree" 348 "out of range", Cond.castable "java/lang/IllegalStateException" "java/lang/IllegalStateException", Cond.stringRef "OrphanTree" 352 "the tree does not let it", Cond.castable "java/util/NoSuchElementException" "java/util/NoSuchElementException", Cond.stringRef "OrphanTree" 218 "not so many processes", Cond.stringRef "OrphanTree" 256 "no testament", Cond.stringRef "OrphanTree" 272 "its own heir", Cond.stringRef "OrphanTree" 296 "no such exit", Cond.stringRef "OrphanTreeModel" 217 "order", Cond.stringRef "OrphanTreeModel" 194 "near", Cond.stringRef "OrphanTreeModel" 200 "group", Cond.stringRef "OrphanTreeModel" 202 "room", Cond.stringRef "OrphanTreeModel" 204 "kin", Cond.stringRef "OrphanTreeModel" 206 "old", Cond.stringRef "OrphanTreeModel" 223 "deep", Cond.stringRef "OrphanTreeModel" 227 "root", Cond.stringRef "OrphanTreeModel" 232 "will", Cond.stringRef "OrphanTreeModel" 237 "process", Cond.stringRef "OrphanTreeModel" 242 "heir", Cond.stringRef "OrphanTreeModel" 247 "duty", Cond.stringRef "OrphanTreeModel" 252 "refuse"]
theorem be_tq_m : ∀ x ∈ be_tq, x ∈ lw_tbl := be_su_m _ _ (by decide +kernel)
theorem be_sw9 : ∀ q ∈ pr_S, q.1 = "OrphanTree" ∧ Cond.stringRef q.1 q.2.1 q.2.2 ∈ be_tq := by decide +kernel
theorem be_sw : ∀ q ∈ pr_S, q.1 = "OrphanTree" ∧ Cond.stringRef q.1 q.2.1 q.2.2 ∈ lw_tbl := fun q hq => ⟨(be_sw9 q hq).1, be_tq_m _ (be_sw9 q hq).2⟩
theorem be_S (hts : ∀ w ∈ lw_tbl, w.before args s = true) : ∀ q ∈ pr_S, ∃ sa, vk_R q.1 q.2.1 q.2.2 sa s := by
  intro q hq
  obtain ⟨h1, h2⟩ := be_sw q hq
  obtain ⟨cC, iS, hK⟩ := be_k6 hts
  have hc : s.vm.findClass q.1 = some cC := by rw [h1]; exact hK.2.1
  obtain ⟨k, cf, i, a, -, -, -, -, -, hev⟩ := Cond.stringRef_spec hc (hts _ h2)
  exact ⟨a, vk_R.of (hts _ h2) hev⟩
theorem be_nc (hg : (Jvm.Cond.and given_1 narrow_1).before args s = true) : ∀ i j, i < 4 → j < 4 → i ≠ j → va_Nc (ev_ex i) (ev_ex j) s := by
  have hs := flat_of_before _ hg
  have hall : ∀ i, i < 4 → ∀ j, j < 4 → i ≠ j → Cond.not (.castable (ev_ex i) (ev_ex j)) ∈ flatC (Jvm.Cond.and given_1 narrow_1) := by decide +kernel
  exact fun i j hi hj hij => va_Nc.of (hs _ (hall i hi j hj hij))
theorem be_V (hts : ∀ w ∈ lw_tbl, w.before args s = true) (hg : (Jvm.Cond.and given_1 narrow_1).before args s = true) : ∃ (D : va_G) (aC : Nat → ClassId), ev_VF D aC pr_S s := by
  obtain ⟨D, aC, hK⟩ := be_K hts
  exact ⟨D, aC, hK, fun w hw hb => be_bw hb (hts w hw), be_S hts, be_nc hg⟩
def mkB (b : Nat) (adr : Nat → Nat) : ev_B := (b, adr)
theorem be_md (l : List Nat) (j : Nat) : (l.map nI).getD j 0 = nI (l.getD j 0) := by
  rw [List.getD_eq_getElem?_getD, List.getElem?_map, List.getD_eq_getElem?_getD]
  cases l[j]? <;> rfl
theorem be_sk9 : ∀ k, k < 26 → ((ev_sk k).1 = "OrphanTree$SetupReader" ∨ (ev_sk k).1 = "OrphanTreeModel") ∧ Cond.stringRef (ev_sk k).1 (ev_sk k).2.1 (ev_sk k).2.2 ∈ be_tq := by decide +kernel
theorem be_sk : ∀ k, k < 26 → ((ev_sk k).1 = "OrphanTree$SetupReader" ∨ (ev_sk k).1 = "OrphanTreeModel") ∧ Cond.stringRef (ev_sk k).1 (ev_sk k).2.1 (ev_sk k).2.2 ∈ lw_tbl := fun k hk => ⟨(be_sk9 k hk).1, be_tq_m _ (be_sk9 k hk).2⟩
/-- what the start says of the k-th text -/
noncomputable def be_req (k : Nat) : List Cond := Cond.exactly (.string (ev_sk k).1 (ev_sk k).2.1) "java/lang/String" :: Cond.eq (.field (.string (ev_sk k).1 (ev_sk k).2.1) "java/lang/String" "coder" "B") (.int 0) :: Cond.arrayOf (.field (.string (ev_sk k).1 (ev_sk k).2.1) "java/lang/String" "value" "[B") .byte :: Cond.eq (.length (.field (.string (ev_sk k).1 (ev_sk k).2.1) "java/lang/String" "value" "[B")) (.int (Int32.ofNat (ev_bt k).length)) :: (List.range (ev_bt k).length).map (fun j => Cond.eq (.elem (.field (.string (ev_sk k).1 (ev_sk k).2.1) "java/lang/String" "value" "[B") (.int (Int32.ofNat j))) (.int (nI ((ev_bt k).getD j 0))))
noncomputable def be_rq : List Nat → List Cond
  | [] => []
  | k :: t => be_req k ++ be_rq t
theorem be_rq_m {k : Nat} {x : Cond} (hx : x ∈ be_req k) : ∀ L : List Nat, k ∈ L → x ∈ be_rq L := by
  intro L
  induction L with
  | nil => intro h; cases h
  | cons a t ih =>
    intro h
    show x ∈ be_req a ++ be_rq t
    rcases List.mem_cons.mp h with z | z
    · rw [← z]; exact List.mem_append_left _ hx
    · exact List.mem_append_right _ (ih z)
/-- the texts as the start tells them -/
def be_or : List Nat := [0, 8, 9, 10, 11, 12, 1, 2, 3, 4, 5, 6, 7, 13, 21, 22, 23, 24, 25, 14, 15, 20, 16, 17, 18, 19]
theorem be_or_m : ∀ k, k < 26 → k ∈ be_or := by decide
theorem be_al9 : be_su (be_rq be_or) (flatC (Jvm.Cond.and given_1 narrow_1)) = true := by decide +kernel
theorem be_al {k : Nat} (hk : k < 26) {x : Cond} (hx : x ∈ be_req k) : x ∈ flatC (Jvm.Cond.and given_1 narrow_1) := be_su_m _ _ be_al9 x (be_rq_m hx be_or (be_or_m k hk))
theorem be_sc : ∀ k, k < 26 → Cond.exactly (.string (ev_sk k).1 (ev_sk k).2.1) "java/lang/String" ∈ flatC (Jvm.Cond.and given_1 narrow_1) ∧ Cond.eq (.field (.string (ev_sk k).1 (ev_sk k).2.1) "java/lang/String" "coder" "B") (.int 0) ∈ flatC (Jvm.Cond.and given_1 narrow_1) ∧ Cond.arrayOf (.field (.string (ev_sk k).1 (ev_sk k).2.1) "java/lang/String" "value" "[B") .byte ∈ flatC (Jvm.Cond.and given_1 narrow_1) ∧ Cond.eq (.length (.field (.string (ev_sk k).1 (ev_sk k).2.1) "java/lang/String" "value" "[B")) (.int (Int32.ofNat (ev_bt k).length)) ∈ flatC (Jvm.Cond.and given_1 narrow_1) := fun k hk => ⟨be_al hk (List.mem_cons.mpr (Or.inl rfl)), be_al hk (List.mem_cons.mpr (Or.inr (List.mem_cons.mpr (Or.inl rfl)))), be_al hk (List.mem_cons.mpr (Or.inr (List.mem_cons.mpr (Or.inr (List.mem_cons.mpr (Or.inl rfl)))))), be_al hk (List.mem_cons.mpr (Or.inr (List.mem_cons.mpr (Or.inr (List.mem_cons.mpr (Or.inr (List.mem_cons.mpr (Or.inl rfl))))))))⟩
def be_P (k : Nat) : Prop := ∀ j, j < (ev_bt k).length → Cond.eq (.elem (.field (.string (ev_sk k).1 (ev_sk k).2.1) "java/lang/String" "value" "[B") (.int (Int32.ofNat j))) (.int (nI ((ev_bt k).getD j 0))) ∈ flatC (Jvm.Cond.and given_1 narrow_1)
theorem be_se : ∀ k, k < 26 → be_P k := fun k hk j hj => be_al hk (List.mem_cons.mpr (Or.inr (List.mem_cons.mpr (Or.inr (List.mem_cons.mpr (Or.inr (List.mem_cons.mpr (Or.inr (List.mem_map.mpr ⟨j, List.mem_range.mpr hj, rfl⟩)))))))))
theorem be_sl : ∀ k, k < 26 → (ev_bt k).length < 9 := by decide +kernel
theorem be_str (hts : ∀ w ∈ lw_tbl, w.before args s = true) (hg : (Jvm.Cond.and given_1 narrow_1).before args s = true) (k : Nat) (hk : k < 26) : ∃ a, vk_R (ev_sk k).1 (ev_sk k).2.1 (ev_sk k).2.2 a s ∧ va_O "java/lang/String" a (fun q => s.heap.size ≤ q) s s.heap ∧ va_OF "java/lang/String" "coder" "B" (.int 0) a (fun q => s.heap.size ≤ q) s s.heap ∧ ∃ v, va_OF "java/lang/String" "value" "[B" (.ref v) a (fun q => s.heap.size ≤ q) s s.heap ∧ va_T .byte v (ev_bt k).length (fun j => .int (nI ((ev_bt k).getD j 0))) (fun q => s.heap.size ≤ q) s s.heap := by
  have hs := flat_of_before _ hg
  have hA : ∀ a : Nat, a < s.heap.size → ¬ s.heap.size ≤ a := fun a h => by omega
  obtain ⟨c1, c2, c3, c4⟩ := be_sc k hk
  have c5 := be_se k hk
  have c6 := be_sl k hk
  obtain ⟨adK, adV, hS, hev⟩ := vk_Sof (args := args) (s := s) (N := 1) (tm := fun _ => .string (ev_sk k).1 (ev_sk k).2.1) (len := [(ev_bt k).length]) (byt := [(ev_bt k).map nI]) (A := fun q => s.heap.size ≤ q)
    (fun i hi => by obtain rfl : i = 0 := by omega
                    show (ev_bt k).length < 2 ^ 31; omega)
    (fun i hi => hs _ c1) (fun i hi => hs _ c2) (fun i hi => hs _ c3)
    (fun i hi => by obtain rfl : i = 0 := by omega
                    exact hs _ c4)
    (fun i hi j hj => by
      obtain rfl : i = 0 := by omega
      have e : ([(ev_bt k).map nI].getD 0 []).getD j 0 = nI ((ev_bt k).getD j 0) := be_md _ _
      rw [e]
      exact hs _ (c5 j hj))
    (fun i j hi hj hij => absurd (show i = j by omega) hij) hA
  obtain ⟨q1, q2, q3, q4⟩ := hS.1 0 (by omega)
  have e : (fun j => Value.int (([(ev_bt k).map nI].getD 0 []).getD j 0)) = fun j => Value.int (nI ((ev_bt k).getD j 0)) := by
    funext j
    exact congrArg Value.int (be_md _ _)
  rw [e] at q4
  exact ⟨adK 0, vk_R.of (hts _ (be_sk k hk).2) (hev 0 (by omega)), q1, q2, adV 0, q3, q4⟩
theorem be_SZ (hts : ∀ w ∈ lw_tbl, w.before args s = true) (hg : (Jvm.Cond.and given_1 narrow_1).before args s = true) : ∃ adr : Nat → Nat, ∀ b, ev_SZ (mkB b adr) s.heap.size s s.heap := by
  have hs := flat_of_before _ hg
  have hA : ∀ a : Nat, a < s.heap.size → ¬ s.heap.size ≤ a := fun a h => by omega
  have h0 : ∀ k : Nat, ∃ a, k < 26 → vk_R (ev_sk k).1 (ev_sk k).2.1 (ev_sk k).2.2 a s ∧ va_O "java/lang/String" a (fun q => s.heap.size ≤ q) s s.heap ∧ va_OF "java/lang/String" "coder" "B" (.int 0) a (fun q => s.heap.size ≤ q) s s.heap ∧ ∃ v, va_OF "java/lang/String" "value" "[B" (.ref v) a (fun q => s.heap.size ≤ q) s s.heap ∧ va_T .byte v (ev_bt k).length (fun j => .int (nI ((ev_bt k).getD j 0))) (fun q => s.heap.size ≤ q) s s.heap := by
    intro k
    by_cases hk : k < 26
    · obtain ⟨a, h⟩ := be_str hts hg k hk
      exact ⟨a, fun _ => h⟩
    · exact ⟨0, fun h => absurd h hk⟩
  obtain ⟨adr, had⟩ := Classical.axiomOfChoice h0
  refine ⟨adr, fun b => ⟨?_, ?_, fun k hk => had k hk⟩⟩
  · exact va_Zof (args := args) (hts (.laysStatic "java/lang/String" "COMPACT_STRINGS" "Z") (by decide +kernel)) (hts (.initialized "java/lang/String") (by decide +kernel)) (va_eqt (hs (.eq (.static "java/lang/String" "COMPACT_STRINGS" "Z") (.int 1)) (by decide +kernel))) hA
  · obtain ⟨v, h1, h2⟩ := Cond.isRef_spec (hs (.isRef (.static "jdk/internal/util/Preconditions" "SIOOBE_FORMATTER" "Ljava/util/function/BiFunction;")) (by decide +kernel))
    refine ⟨v, ?_, va_Zof (args := args) (hts (.laysStatic "jdk/internal/util/Preconditions" "SIOOBE_FORMATTER" "Ljava/util/function/BiFunction;") (by decide +kernel)) (hts (.initialized "jdk/internal/util/Preconditions") (by decide +kernel)) h1 hA⟩
    cases v with
    | ref z => exact Or.inr ⟨z, rfl⟩
    | null => exact Or.inl rfl
    | int z => cases h2
    | long z => cases h2
    | float z => cases h2
    | double z => cases h2
    | retAddr z => cases h2
theorem be_Z {b L : Nat} {adr : Nat → Nat} {σ : Nat → Int32} (hts : ∀ w ∈ lw_tbl, w.before args s = true) (hg : (Jvm.Cond.and given_1 narrow_1).before args s = true) (hX : va_X b L σ s s.heap) (hSZ : ev_SZ (mkB b adr) s.heap.size s s.heap) : ev_ZF (mkB b adr) s.heap.size L σ s s.heap := by
  have hs := flat_of_before _ hg
  have hA : ∀ a : Nat, a < s.heap.size → ¬ s.heap.size ≤ a := fun a h => by omega
  have hT : (Cond.initialized Bundle.tN).before args s = true := hts _ (by decide +kernel)
  have h1 : (Cond.laysStatic Bundle.tN "UNASSIGNED_STACK" Bundle.steD).before args s = true := hts _ (by decide +kernel)
  have h2 : (Cond.laysStatic Bundle.tN "SUPPRESSED_SENTINEL" Bundle.listD).before args s = true := hts _ (by decide +kernel)
  have h3 : (Cond.isRef (.static Bundle.tN "UNASSIGNED_STACK" Bundle.steD)).before args s = true := hs _ (by decide +kernel)
  have h4 : (Cond.isRef (.static Bundle.tN "SUPPRESSED_SENTINEL" Bundle.listD)).before args s = true := hs _ (by decide +kernel)
  exact ⟨hX, vx_Zqof h1 hT h3 hA, vx_Zqof h2 hT h4 hA, hSZ⟩
theorem be_J {D : va_G} {aC : Nat → ClassId} {b : ev_B} {σ : Nat → Int32} (H : Heap) : ev_J D aC b H.size σ pr_w0 H := by
  refine ⟨fun i q h => ?_, Nat.le_refl _, fun _ => rfl⟩
  rw [ev_get_eq] at h
  have h : ((List.replicate 11 (List.replicate 8 (List.replicate 8 ((99, (0, [])) : ev_C))))[i / 64]?).bind (fun c => (c[i / 8 % 8]?).bind fun d => d[i % 8]?) = some q := h
  rw [List.getElem?_replicate] at h
  split at h
  · have h : ((List.replicate 8 (List.replicate 8 ((99, (0, [])) : ev_C)))[i / 8 % 8]?).bind (fun d => d[i % 8]?) = some q := h
    rw [List.getElem?_replicate, if_pos (by omega)] at h
    have h : (List.replicate 8 ((99, (0, [])) : ev_C))[i % 8]? = some q := h
    rw [List.getElem?_replicate, if_pos (by omega)] at h
    cases h
    exact ⟨by omega, Or.inl rfl⟩
  · cases h
theorem be_cast9 : ∀ i, i < 4 → Cond.castable (ev_ex i) (ev_ex i) ∈ be_tq := by decide +kernel
theorem be_cast : ∀ i, i < 4 → Cond.castable (ev_ex i) (ev_ex i) ∈ lw_tbl := fun i hi => be_tq_m _ (be_cast9 i hi)
theorem be_Ts : ∀ w ∈ ev_wm pr_i0 1, w ∈ lw_tbl := by
  intro w hw
  rcases List.mem_cons.mp hw with rfl | hw
  · exact (List.mem_filter.mp pw_c_0).1
  · exact (List.mem_filter.mp hw).1
end BEG
