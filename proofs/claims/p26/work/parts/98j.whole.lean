/-! THE CLAIM OUT OF ONE WALK OF THE LAW'S BODY. Your part is whole_start (and what it stands on); all else here is the same for every law, but numbers. -/
def R_law : String := "OrphanTreeLaw"
def lw_P (b : Addr) (xs : List Int32) (args : Array Value) (s : State) : Prop := args = #[.ref b] ∧ s.IntsAt b xs ∧ xs.length ≤ 3072 ∧ (Jvm.Cond.and given_1 narrow_1).before args s = true
/-- what a walk over the start with the record d0 says of its end, said of the start itself -/
theorem lw_closed {s t : State} {o : Outcome} {d0 : Drawn} {L : List Loc} {k n : Nat} (hd0 : s.drawn.sameBut d0 lw_cs) (hv : ∃ v, o = .returned v) (hW : (s.setDrawn d0).WarmedH t.vm) (hs : (s.setDrawn d0).sameButNew ({ t with vm := s.vm } : State) L k n) : State.butDraws s t lw_cs (fun t1 => Framed s o t1 L k n) := by
  have h2 : t.drawn = d0 := congrArg State.drawn hs.1
  refine ⟨⟨hv, hW, State.sameButNew.setDrawn hs s.drawn⟩, ?_, by decide⟩
  rw [h2]
  exact hd0
def lw_Q (_ : Array Value) (s : State) (o : Outcome) (t : State) : Prop := o = .returned (some (.int 1)) ∧ State.butDraws s t lw_cs (fun t1 => Framed s o t1 [] 601024 7293034)
def lw_Z (below : List Frame) (a : Array Value) (s : State) : State → Prop := fun t => ∃ o, t.status = .running ∧ Ended t below o ∧ lw_Q a s o t
/-- the law's own end, with 1 on the stack, nothing written that was there before, its room as the claim has it; d0: the record of draws at this point (at the entry s.drawn: begin with 'refine W.base ?_' and 'have hd0 := Drawn.sameBut.refl s.drawn lw_cs') -/
theorem lw_ret {p : Program} {l : Launch} {e : Env} {s : State} {m : MethodId} {below : List Frame} {meth : Method} {c : Code} {b : Nat} {d0 : Drawn} (hd0 : s.drawn.sameBut d0 lw_cs) (hx : p.tables.exec = Jvm.exec) (hb : c.code = code) (hr : meth.sig.returnType = ret) (hlocks : meth.locks = false) {pc : Nat} {H : Heap} {ls : Array Slot} (hdg : decode code pc = .ok (.ireturn, 1)) : W p l e room_1 (s.setDrawn d0) m #[Value.ref b] below meth c H [] 601024 7293034 (lw_Z below #[Value.ref b] s) (F0 m pc ls [.int 1]) := by
  intro T hT X
  obtain ⟨fs, hret, hrun, hended, hW, hframe⟩ := X.leave (v := some (.int 1)) (hlocks := hlocks) (fun h => by rw [hr] at h; cases h)
  have hmeth' : T.vm.method? m = some meth := X.method'
  refine ⟨T.setFrames fs, ?_, .returned (some (.int 1)), hrun, hended, rfl, lw_closed hd0 ⟨_, rfl⟩ hW hframe⟩
  jvm_step X.here [X.here.top, hx, hb, hdg, hmeth', hr, ret, narrow_b1]
  (try refine ⟨rfl, ?_⟩); (try refine ⟨rfl, ?_⟩)
  first | (intro acts; rw [hret _ acts rfl rfl rfl]) | rw [hret _ _ rfl rfl rfl]
  exact Steps.refl _
/-- what holds at the law's entry: the machine, the code, the tables' words (any of lw_tbl by 'hts w (by decide +kernel)'), the script of L ints xs at the cell b, what the Statement gives of the start (any of its parts by flat_of_before) -/
def lw_At (p : Program) (s : State) (m : MethodId) (meth : Method) (c : Code) (b L : Nat) (xs : Nat → Int32) : Prop :=
  p.tables.exec = Jvm.exec ∧ c.code = code ∧ meth.sig.returnType = ret ∧ c.maxLocals = 9 ∧ s.vm.findClass R_law = some m.cls ∧ (∀ w ∈ lw_tbl, w.before #[Value.ref b] s = true) ∧ va_X b L xs s s.heap ∧ b < s.heap.size ∧ meth.locks = false ∧ (Jvm.Cond.and given_1 narrow_1).before #[Value.ref b] s = true ∧ meth.name = "law" ∧ ∀ z ∈ c.exceptionTable.toList, False
theorem ns_q {n : Nat} {x : ev_E} (h : Nat.beq x.1 46 = true → n = 23) : ∀ pc, Nat.beq (pr_q n x pc).1 46 = true → pc = 23 := by
  intro pc
  unfold pr_q
  cases e : Nat.beq pc n with
  | false => exact fun z => Bool.noConfusion (show false = true from z)
  | true =>
    have := Nat.eq_of_beq_eq_true e
    subst this
    exact h
/-! the law's run on a script -/
def fa (xs : Nat → Int32) : Nat → List (Nat × (Nat × Nat))
  | 0 => []
  | n + 1 => (n, (ev_bb (xs n), ev_bb (xs n))) :: fa xs n
theorem fa_fl (xs : Nat → Int32) : ∀ (n i : Nat), ev_fl (fa xs n) i = if i < n then (ev_bb (xs i), ev_bb (xs i)) else (0, 4294967295) := by
  intro n
  induction n with
  | zero => intro i; rfl
  | succ n ih =>
    intro i
    show ev_if (Nat.beq n i) (ev_bb (xs n), ev_bb (xs n)) (ev_fl (fa xs n) i) = _
    cases h : Nat.beq n i with
    | true =>
      have := Nat.eq_of_beq_eq_true h
      subst this
      rw [if_pos (by omega)]
      rfl
    | false =>
      have := Nat.ne_of_beq_eq_false h
      show ev_fl (fa xs n) i = _
      rw [ih]
      by_cases h2 : i < n
      · rw [if_pos h2, if_pos (by omega)]
      · rw [if_neg h2, if_neg (by omega)]
theorem fa_FO {xs : Nat → Int32} {L : Nat} (h : L ≤ 5000) : ev_FO (L, fa xs L) xs := by
  intro i
  show (ev_fl (fa xs L) i).1 ≤ _ ∧ _ ≤ (ev_fl (fa xs L) i).2
  rw [fa_fl]
  by_cases hi : i < L
  · rw [if_pos hi]
    unfold ev_sv
    rw [if_pos (by omega)]
    exact ⟨Nat.le_refl _, Nat.le_refl _⟩
  · rw [if_neg hi]
    exact ⟨Nat.zero_le _, ev_bb_max _⟩
theorem fa_OK {xs : Nat → Int32} {L : Nat} (h : L ≤ 5000) : ScrOK (L, fa xs L) (L : Int) (fun j => (xs j.toNat).toInt) := by
  refine ⟨rfl, h, fun j hj => ⟨inR_I32 _, ev_bb (xs j), ?_, ?_⟩⟩
  · show ev_fl (fa xs L) j = _
    rw [fa_fl, if_pos hj]
  · have := ev_bb_ge (xs j)
    show (ev_bb (xs j) + 2147483648) % 4294967296 = ((xs ((j : Int)).toNat).toInt % 4294967296).toNat
    rw [Int.toNat_natCast]
    unfold ev_bb
    omega
theorem law_run {xs : Nat → Int32} {L : Nat} (h : L ≤ 5000) : ∃ n w9, ev_run (L, fa xs L) pr_P n 200 pr_mW 23 pr_l1 [] pr_W1 = some (.inl (some (.inl 1), w9)) := by
  have hs := fa_OK (xs := xs) h
  obtain ⟨H, e⟩ := lW_ok hs (L + 10) 0 g1 g1_JJ (by omega) (by omega) (by omega)
  have go := tlW_law_23 hs (L + 10) 0 (by unfold InR; omega) g1 g1_H none none none none 636 22046 ⟨by omega, by omega, by omega, by omega⟩
  obtain ⟨-, -, g⟩ := go _ e
  obtain ⟨n0, w9, -, hr⟩ := g pr_W1 g1_W rfl
  exact ⟨n0, w9, hr n0 (Nat.le_refl _)⟩
section LAWF
variable {p : Program} {e : Env} {s : State} {m : MethodId} {below : List Frame} {meth : Method} {c : Code} {l : Launch} {b L : Nat} {adr : Nat → Nat} {xs : Nat → Int32} {D : va_G} {aC : Nat → ClassId}
theorem pc_S : ∀ pc, Nat.beq (pr_cS pc).1 46 = true → pc = 23 := by
  unfold pr_cS
  exact (et_ct (E := fun pc x => Nat.beq x.1 46 = true → pc = 23) (et_ct (E := fun pc x => Nat.beq x.1 46 = true → pc = 23) (et_ct (E := fun pc x => Nat.beq x.1 46 = true → pc = 23) (et_ct (E := fun pc x => Nat.beq x.1 46 = true → pc = 23) (ns_q (fun z => absurd z (by decide))) (ns_q (fun z => absurd z (by decide)))) (et_ct (E := fun pc x => Nat.beq x.1 46 = true → pc = 23) (ns_q (fun z => absurd z (by decide))) (ns_q (fun z => absurd z (by decide))))) (et_ct (E := fun pc x => Nat.beq x.1 46 = true → pc = 23) (et_ct (E := fun pc x => Nat.beq x.1 46 = true → pc = 23) (ns_q (fun z => absurd z (by decide))) (ns_q (fun z => absurd z (by decide)))) (ns_q (fun z => absurd z (by decide))))) (et_ct (E := fun pc x => Nat.beq x.1 46 = true → pc = 23) (et_ct (E := fun pc x => Nat.beq x.1 46 = true → pc = 23) (et_ct (E := fun pc x => Nat.beq x.1 46 = true → pc = 23) (ns_q (fun z => absurd z (by decide))) (ns_q (fun z => absurd z (by decide)))) (et_ct (E := fun pc x => Nat.beq x.1 46 = true → pc = 23) (ns_q (fun z => absurd z (by decide))) (ns_q (fun z => absurd z (by decide))))) (et_ct (E := fun pc x => Nat.beq x.1 46 = true → pc = 23) (et_ct (E := fun pc x => Nat.beq x.1 46 = true → pc = 23) (ns_q (fun z => absurd z (by decide))) (ns_q (fun z => absurd z (by decide)))) (ns_q (fun _ => rfl)))))
theorem wf_Fr {M : ev_M} {r : ev_S} {Φ : ev_P} {d : Nat} (hd : 10 + d ≤ room_1.frames ∧ 100 + 70 * d ≤ room_1.locals) (C0 : lw_At p s m meth c b L xs) (hV : ev_VF D aC pr_S s) (hSZ : ev_SZ (mkB b adr) s.heap.size s s.heap) (hc : ∀ pc, pr_E (ev_wm pr_i0 1) pr_y352 code (some .boolean) 9 pc (M.2.2.2.2 pc)) (hh : M.2.2.2.1 = []) (hM : M.2.1 = 100000 ∧ M.2.2.1 = 1000000)
    (hRet : ev_Ret pr_I pr_P pr_S Φ D aC (mkB b adr) s.heap.size xs p l e room_1 s m #[Value.ref b] below meth c (lw_Z below #[Value.ref b] s) (ev_wm pr_i0 1) pr_y352 code (some .boolean) 9 M r)
    (hr : ∀ x, r ≠ .inr (.inl x)) : ev_Fr pr_I pr_P pr_S Φ D aC (mkB b adr) s.heap.size L xs p l e room_1 s m #[Value.ref b] below meth c (lw_Z below #[Value.ref b] s) (ev_wm pr_i0 1) pr_y352 code (some .boolean) [] 9 d M r := by
  obtain ⟨hx, hb, hret, hml, hown, hts, hX, hbl, hlk, hg, hnm, hT⟩ := C0
  refine ⟨⟨hx, hb, hml, hown, fun w hw => hts w (be_Ts w hw), hV, be_Z hts hg hX hSZ, hbl, Nat.le_refl _, hlk⟩, fun x hx => List.mem_cons_of_mem _ hx, hc, hnm, by rw [hh]; exact pm_hn, ?_, ⟨by rw [hM.1]; decide, by rw [hM.2]; decide⟩, hd, hRet, fun E w H locs ls rest pc q ce _ h9 => absurd h9 (hr _)⟩
  cases ht : c.exceptionTable.toList with
  | nil => rfl
  | cons z t => exact (hT z (by rw [ht]; exact List.mem_cons_self)).elim
theorem wf_leaf (C0 : lw_At p s m meth c b L xs) (hV : ev_VF D aC pr_S s) (hSZ : ev_SZ (mkB b adr) s.heap.size s s.heap) (hl9 : l.stackTraces = false) {Φ : ev_P} (hΦ : ev_FO Φ xs) (hL : Φ.1 ≤ 5000 → Φ.1 = L) {n : Nat} {w9 : ev_W} (h : ev_run Φ pr_P n 200 pr_mW 23 pr_l1 [] pr_W1 = some (.inl (some (.inl 1), w9))) :
    ev_Go D aC (mkB b adr) s.heap.size xs p l e room_1 s m #[Value.ref b] below meth c (lw_Z below #[Value.ref b] s) 9 23 pr_l1 [] pr_W1 := by
  refine ev_main (D := D) (aC := aC) (b := mkB b adr) (B0 := s.heap.size) (L := L) pr_all hl9 be_cast hΦ hL n p e room_1 s m #[Value.ref b] below meth c (lw_Z below #[Value.ref b] s) (ev_wm pr_i0 1) pr_y352 code (some .boolean) [] 9 200 pr_mW _ (wf_Fr ⟨by decide, by decide⟩ C0 hV hSZ pk_352 rfl ⟨rfl, rfl⟩ ?_ (fun x z => by cases z)) _ _ _ _ h
  obtain ⟨hx, hb, hret, hml, hown, hts, hX, hbl, hlk, hg, hnm, hT⟩ := C0
  intro op nx a b' c' tg pc loc st w k cl hop hcode hok h
  rcases hop with rfl | rfl | rfl | rfl | rfl | rfl
  · have h : ev_h_throw Φ pr_mW k cl nx a b' c' tg pc loc st w = some (.inl (some (.inl 1), w9)) := h
    unfold ev_h_throw at h
    obtain ⟨-, h⟩ := ev_if_n h
    cases h
  · have h : ev_h_vret Φ pr_mW k cl nx a b' c' tg pc loc st w = some (.inl (some (.inl 1), w9)) := h
    unfold ev_h_vret at h
    split at h
    · obtain ⟨-, h⟩ := ev_if_n h
      cases h
    · cases h
  · have h : ev_h_iret Φ pr_mW k cl nx a b' c' tg pc loc st w = some (.inl (some (.inl 1), w9)) := h
    unfold ev_h_iret at h
    split at h
    · obtain ⟨h1, h⟩ := ev_if_n h
      cases h
      rw [Bool.and_eq_true] at h1
      obtain ⟨m1, m2⟩ := ev_may0 h1.2
      intro H locs ls hl hJ hS
      have e1 : List.map (ev_dn (mkB b adr) s.heap.size xs) [(.inl 1 : ev_V)] = [Value.int 1] := rfl
      rw [e1]
      exact va_forget (fun q hq => hS.2.2 q hq) (W.widen (Nat.le_trans m1 (by decide)) (Nat.le_trans m2 (by decide)) (W.base (lw_ret (Drawn.sameBut.refl s.drawn lw_cs) hx hb hret hlk hok.1)))
    · cases h
  · have h : ev_h_aret Φ pr_mW k cl nx a b' c' tg pc loc st w = some (.inl (some (.inl 1), w9)) := h
    unfold ev_h_aret at h
    split at h
    · obtain ⟨h1, h⟩ := ev_if_n h
      cases h
      rw [Bool.and_eq_true] at h1
      exact Bool.noConfusion (show false = true from h1.1)
    · cases h
  · have h : ev_h_wret Φ pr_mW k cl nx a b' c' tg pc loc st w = some (.inl (some (.inl 1), w9)) := h
    unfold ev_h_wret at h
    split at h
    · obtain ⟨h1, h⟩ := ev_if_n h
      cases h
      rw [Bool.and_eq_true] at h1
      exact Bool.noConfusion (show false = true from h1.1)
    · cases h
  · have h : (some (.inr (.inr (a, (loc, (st, w))))) : ev_R) = some (.inl (some (.inl 1), w9)) := h
    cases h
theorem wf_start (C0 : lw_At p s m meth c b L xs) (hV : ev_VF D aC pr_S s) (hSZ : ev_SZ (mkB b adr) s.heap.size s s.heap) (hl9 : l.stackTraces = false) (hgo : ev_Go D aC (mkB b adr) s.heap.size xs p l e room_1 s m #[Value.ref b] below meth c (lw_Z below #[Value.ref b] s) 9 23 pr_l1 [] pr_W1) :
    ev_Go D aC (mkB b adr) s.heap.size xs p l e room_1 s m #[Value.ref b] below meth c (lw_Z below #[Value.ref b] s) 9 0 pr_l0 [] pr_w0 := by
  refine ev_main (D := D) (aC := aC) (b := mkB b adr) (B0 := s.heap.size) (L := L) pr_all hl9 be_cast (Φ := (5001, [])) (fun i => ⟨Nat.zero_le _, ev_bb_max _⟩) (fun z => absurd z (by decide)) 10000 p e room_1 s m #[Value.ref b] below meth c (lw_Z below #[Value.ref b] s) (ev_wm pr_i0 1) pr_y352 code (some .boolean) [] 9 20 pr_mS _ (wf_Fr ⟨by decide, by decide⟩ C0 hV hSZ pk_S rfl ⟨rfl, rfl⟩ ?_ (fun x z => by cases z)) _ _ _ _ pr_start
  intro op nx a b' c' tg pc loc st w k cl hop hcode hok h
  rcases hop with rfl | rfl | rfl | rfl | rfl | rfl
  · have h : ev_h_throw (5001, []) pr_mS k cl nx a b' c' tg pc loc st w = some (.inr (.inr (0, (pr_l1, ([], pr_W1))))) := h
    unfold ev_h_throw at h
    obtain ⟨-, h⟩ := ev_if_n h
    cases h
  · have h : ev_h_vret (5001, []) pr_mS k cl nx a b' c' tg pc loc st w = some (.inr (.inr (0, (pr_l1, ([], pr_W1))))) := h
    unfold ev_h_vret at h
    split at h
    · obtain ⟨-, h⟩ := ev_if_n h
      cases h
    · cases h
  · have h : ev_h_iret (5001, []) pr_mS k cl nx a b' c' tg pc loc st w = some (.inr (.inr (0, (pr_l1, ([], pr_W1))))) := h
    unfold ev_h_iret at h
    split at h
    · obtain ⟨-, h⟩ := ev_if_n h
      cases h
    · cases h
  · have h : ev_h_aret (5001, []) pr_mS k cl nx a b' c' tg pc loc st w = some (.inr (.inr (0, (pr_l1, ([], pr_W1))))) := h
    unfold ev_h_aret at h
    split at h
    · obtain ⟨-, h⟩ := ev_if_n h
      cases h
    · cases h
  · have h : ev_h_wret (5001, []) pr_mS k cl nx a b' c' tg pc loc st w = some (.inr (.inr (0, (pr_l1, ([], pr_W1))))) := h
    unfold ev_h_wret at h
    split at h
    · obtain ⟨-, h⟩ := ev_if_n h
      cases h
    · cases h
  · have h : (some (.inr (.inr (a, (loc, (st, w))))) : ev_R) = some (.inr (.inr (0, (pr_l1, ([], pr_W1))))) := h
    have h := Sum.inr.inj (Sum.inr.inj (Option.some.inj h))
    have h1 : loc = pr_l1 := congrArg (fun z => z.2.1) h
    have h2 : st = [] := congrArg (fun z => z.2.2.1) h
    have h3 : w = pr_W1 := congrArg (fun z => z.2.2.2) h
    have h4 : pc = 23 := pc_S pc (congrArg (fun n => Nat.beq n 46) (show (pr_cS pc).1 = 46 from congrArg (fun z => z.1) hcode))
    rw [h1, h2, h3, h4]
    exact hgo
end LAWF
-- ===== YOUR PART BEGINS =====
/-- YOUR PART: from the entry, for every script of at most 3072 ints, the law comes to its end with true ('hflags': the launch's flags, for a law that throws: no stack traces) -/
theorem whole_start {p : Program} {e : Env} {s : State} {m : MethodId} {below : List Frame} {meth : Method} {c : Code} (l : Launch) (hflags : l.flags = flags0) {b L : Nat} {xs : Nat → Int32} (hL : L ≤ 3072) (C0 : lw_At p s m meth c b L xs) : W p l e room_1 s m #[Value.ref b] below meth c s.heap [] 0 0 (lw_Z below #[Value.ref b] s) (entryFrame m ([Value.ref b] : List Value).toArray 9) := by
  obtain ⟨hx, hb, hret, hml, hown, hts, hX, hbl, hlk, hg, hnm, hT⟩ := id C0
  have hl9 : l.stackTraces = false := by
    unfold Launch.stackTraces
    rw [hflags]
    decide +kernel
  obtain ⟨D, aC, hV⟩ := be_V hts hg
  obtain ⟨adr, hSZ⟩ := be_SZ hts hg
  have hSZ := hSZ b
  have leaf : ev_Go D aC (mkB b adr) s.heap.size xs p l e room_1 s m #[Value.ref b] below meth c (lw_Z below #[Value.ref b] s) 9 23 pr_l1 [] pr_W1 := by
    obtain ⟨n, w9, hr⟩ := law_run (xs := xs) (L := L) (by omega)
    exact wf_leaf C0 hV hSZ hl9 (fa_FO (by omega)) (fun _ => rfl) hr
  have go := wf_start C0 hV hSZ hl9 leaf
  have hl0 := lv_entry [Value.ref b] (n := 9) (show (1 : Nat) ≤ 9 by decide)
  rw [lg_entry_eq]
  generalize (lg_sl [Value.ref b] ++ List.replicate (9 - (lg_sl [Value.ref b]).length) Slot.unset).toArray = ls at hl0 ⊢
  have hl := ev_entry (b := mkB b adr) (B0 := s.heap.size) (σ := xs) (As := [.inr (.inl (some 1000000))]) (nL := 9) (ls := ls) rfl (by decide) hl0
  exact go s.heap [] ls hl (be_J s.heap) va_S.rf
-- ===== YOUR PART ENDS =====
set_option maxHeartbeats 4000000 in
theorem lw_walk (l : Launch) (hflags : l.flags = flags0) (b : Addr) (xs : List Int32) : MetFree l x (headSpec (Jvm.Cond.code x code maxLocals ret :: tables_1) room_1) (lw_P b xs) (fun _ _ _ _ _ => True) lw_Q := by
  refine MetFree.of_bodyS (code := code) (maxLocals := maxLocals) (ret := ret) (by decide) ?_ ?_
  · intro args s m h hn
    obtain ⟨meth, c, h1, h2, h3, h4, h5, h6, -, -⟩ := Cond.code_spec hn (atoms_spec (ws := Jvm.Cond.code x code maxLocals ret :: tables_1) h _ List.mem_cons_self)
    exact ⟨meth, c, h1, h2, h3, h4, h5, h6⟩
  · intro p e s m args below meth c s₁ B hml0 hP _
    obtain ⟨rfl, hx, hbd, hgv⟩ := hP
    obtain ⟨scr, harrAt, hlist, hof, hsmall⟩ := hx
    obtain ⟨hcb, hkn, -, -⟩ := State.arrayAt?_spec harrAt
    have hown : s.vm.findClass R_law = some m.cls := findClass_of_methodNamed B.named
    have hts0 : ∀ c ∈ (Jvm.Cond.code x code maxLocals ret :: tables_1), c.before #[Value.ref b] s = true := atoms_spec (ws := Jvm.Cond.code x code maxLocals ret :: tables_1) B.pre
    have hts : ∀ w ∈ lw_tbl, w.before #[Value.ref b] s = true := k2_hts_sels lw_privs (fun w hw => hts0 w (List.mem_cons_of_mem _ hw)) lw_privs_ok
    have hml : c.maxLocals = 9 := B.maxLocals_eq (hts0 _ List.mem_cons_self)
    have X₀ : Stand p l e room_1 s m #[Value.ref b] below meth c s₁ [] 0 0 := Stand.of_body B
    have hh0 : s₁.heap = s.heap := by rw [B.state]; rfl
    have hT9 : ∀ z ∈ c.exceptionTable.toList, False := by
      obtain ⟨meth9, c9, h1, h2, -, -, -, -, h7, -⟩ := Cond.code_spec B.named (hts0 _ List.mem_cons_self)
      cases Option.some.inj (h1.symm.trans B.method)
      cases Option.some.inj (h2.symm.trans (Stand.of_body B).code)
      intro x hx
      rw [Array.isEmpty_iff.mp h7] at hx
      cases hx
    have hsz : scr.slots.size = xs.length := by rw [← Array.length_toList, hlist, List.length_map]
    have hval : ∀ j : Nat, j < xs.length → scr.slots[j]? = some (.int (xs.getD j 0)) := fun j hj => by
      rw [← Array.getElem?_toList, hlist]
      simp [hj]
    have hbl : b < s.heap.size := (Array.getElem?_eq_some_iff.mp hcb).1
    have hX : va_X b xs.length (fun j => xs.getD j 0) s s.heap := ⟨scr, hcb, hof, hkn, hsz, hval⟩
    have K : W p l e room_1 s m #[Value.ref b] below meth c s₁.heap [] 0 0 (lw_Z below #[Value.ref b] s) (entryFrame m ([Value.ref b] : List Value).toArray 9) := by
      rw [hh0]
      exact whole_start l hflags hbd ⟨B.exec, B.bytes, B.returns, hml, hown, hts, hX, hbl, B.notSynchronized, hgv, (name_of_methodNamed B.named B.method).1, hT9⟩
    obtain ⟨t, a1, o, b1, b2, b3⟩ := K s₁ rfl X₀
    exact ⟨t, o, a1, b1, b2, b3⟩
theorem lw_pre_spec {args : Array Value} {s : State} (h : (Jvm.Cond.and given_1 narrow_1).before args s = true) (hr : rest_1_c.before args s = true) : ∃ (b : Addr) (xs : List Int32), lw_P b xs args s := by
  have hs := flat_of_before _ h
  have hq := flat_of_before _ hr
  have hc : (Cond.count 1).before args s = true := hs _ (by decide +kernel)
  have harr : (Cond.arrayOf (.arg 0) .int).before args s = true := hs _ (by decide +kernel)
  have hle : (Cond.le (.length (.arg 0)) (.int 3072)).before args s = true := hs _ (by decide +kernel)
  have hlen : (Cond.isInt (.length (.arg 0))).before args s = true := hq _ (by decide +kernel)
  have hall : (Cond.all (.arg 0) (.isInt (.elem (.arg 0) (.index 0)))).before args s = true := hq _ (by decide +kernel)
  obtain ⟨b, xs, hb, hx⟩ := State.ints_of_pre rfl harr hlen hall
  have hsm : xs.length < 2 ^ 31 := hx.choose_spec.2.2.2
  have hev : (Term.length (.arg 0)).eval args s none [] s = some (.int xs.length.toInt32) := hx.length_eval hb
  have hv := Cond.le_ints hev (show (Term.int 3072).eval args s none [] s = some (.int 3072) from rfl)
  have hd : xs.length.toInt32 ≤ 3072 := by
    simpa [Cond.before, Cond.holds, hv] using hle
  have hN : xs.length ≤ 3072 := (Int32.ofNat_le_ofNat hsm (by decide)).mp (show Int32.ofNat xs.length ≤ Int32.ofNat 3072 from hd)
  exact ⟨b, xs, Cond.one_arg hc (show args[0]? = some (.ref b) from hb), hx, hN, h⟩
theorem lw_comes (l : Launch) (hflags : l.flags = flags0) : Comes l x (Jvm.Cond.code x code maxLocals ret :: tables_1) room_1 (fun tb e args s => Calls_1 tb e args s ∧ rest_1 tb e args s ∧ Pre_1 tb e args s)
    (fun _ _ args s o t => lw_Q args s o t) := by
  intro p e ha hc hk s m args below hf hfit hheap happ hpre
  obtain ⟨b, xs, hP⟩ := lw_pre_spec hpre.2.2 hpre.2.1
  obtain ⟨k, o, h1, h2, h3, hQ⟩ := lw_walk l hflags b xs p e ha hc hk s m args below hf ((Spec.applies_iff_loose hf).mp happ).1 hP trivial
  exact ⟨k, o, h1, h2, h3, hQ⟩
theorem lw_frame {s t : State} {o : Outcome} {args : Array Value} (h : State.butDraws s t lw_cs (fun t1 => Framed s o t1 [] 601024 7293034)) :
    State.butDraws s t [Jvm.Choice.named "NaN.bits"] (fun t1 => Framed s o t1 (fieldLocs frame_1_writes args s ++ arrayLocs frame_1_arrays args s ++ staticLocs frame_1_statics s) 601024 7293034) := h
theorem lw_limb (L : Cond) (hL : ∀ (args : Array Value) (s t : State), L.after args s (.returned (some (.int 1))) t = true) :
    ArmFor flags0 classFile x code maxLocals ret World_1 tables_1 room_1 Calls_1 rest_1 Pre_1
      (fun tb e a s o t => postC L tb e a s o t ∧ State.butDraws s t [Jvm.Choice.named "NaN.bits"] (fun t1 => Framed s o t1 (fieldLocs frame_1_writes a s ++ arrayLocs frame_1_arrays a s ++ staticLocs frame_1_statics s) 601024 7293034)) := by
  intro l hflags _ _ p e ha hc hk s m args below hf hfit hheap happ hpre
  obtain ⟨k, o, h1, h2, h3, rfl, hF⟩ := lw_comes l hflags p e ha hc hk s m args below hf hfit hheap happ hpre
  exact ⟨k, _, h1, h2, h3, hL args s _, lw_frame hF⟩
theorem i_vc : Claimed_1_1 ∧ Claimed_1_2 := ⟨lw_limb limb_1_1 (fun args s t => by simp [limb_1_1, Cond.after, Cond.holds, Cond.value]), lw_limb limb_1_2 (fun args s t => Cond.after_iff.mpr (by
  first | (rw [show limb_1_2 = Cond.eq .result (.int 1) from rfl, Cond.eq_ints (x := 1) (y := 1) rfl rfl]; simp; done) | (simp [limb_1_2, Cond.value, Term.eval]; done)))⟩

