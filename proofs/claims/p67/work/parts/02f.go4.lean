/-! ===== calls and ends over a heap of whole numbers (own work) ===== -/
def bdP {β : Type} (x : Option Int) (k : Int → Option β) : Option β := match x with
  | some v => k v
  | none => none
def bdN {β : Type} (x : Option (Int × gH)) (k : Int → gH → Option β) : Option β := match x with
  | some (v, g) => k v g
  | none => none
def bdQ {β : Type} (x : Option (Nat × Int)) (k : Int → Option β) (h : Nat → Option β) : Option β := match x with
  | some (0, v) => k v
  | some (e + 1, _) => h e
  | none => none
def bdT {β : Type} (x : Option (Nat × (Int × gH))) (k : Int → gH → Option β) (h : Nat → gH → Option β) : Option β := match x with
  | some (0, (v, g)) => k v g
  | some (e + 1, (_, g)) => h e g
  | none => none
/-- a call's receiver -/
def Rcv (rc : Nat) (As : List ev_V) : Prop := match rc, As with
  | 0, _ => True
  | ci + 1, v :: _ => ci < 7 ∧ ∃ p, v = sR p ∧ kd p = ci
  | _, _ => False
theorem rcv_ok {rc : Nat} {As : List ev_V} {w : ev_W} {g : gH} (h : Rcv rc As) (hw : Wg w g) : ev_rc rc As w = true := by
  cases rc with
  | zero => rfl
  | succ ci =>
    cases As with
    | nil => exact h.elim
    | cons v r =>
      obtain ⟨h9, p, rfl, hk⟩ := h
      have hp := kd_cl hk (Or.inl h9)
      obtain ⟨q, h1, h2, h3⟩ := wg_cell (a := p) hw hp
      rw [sR_pos hp.1]
      show (match ev_get w.1 p.toNat with
        | some q => Nat.beq q.1 ci
        | none => false) = true
      rw [h1]
      show Nat.beq q.1 ci = true
      rw [h2, hk]
      exact Nat.beq_refl _
section GO4
variable {β : Type} {Φ : ev_P} {P : Nat → ev_M} {f : β → Nat × (Int × gH)} {t t' : Nat} {X A B : Option β} {d : Nat} {M : ev_M} {pc nx : Nat} {loc : ev_L} {st r As : List ev_V} {g : gH} {c s a b c' mi na rc mc ms e : Nat} {tg : List Nat} {x y p j v : Int} {rr : β}
theorem go_callG {γ : Type} {h : γ → Nat × (Int × gH)} {Y : Option γ} (hc : M.2.2.2.2 pc = (35, (nx, (mi, (na, (rc, [0, 0])))))) (hsp : ev_sp na [] st = some (As, r)) (hcs : Nat.ble (ev_cs r) 8 = true) (hw : As.all (fun v => !ev_wide v) = true) (hrc : Rcv rc As) (hm : c ≤ M.2.1 ∧ s ≤ M.2.2.1) (hd : 1 ≤ d)
    (hcal : Go Φ P h t' Y (d - 1) (P mi) 0 (ev_loc (P mi).1 As) [] g 0 0)
    (hN : Y = none → X = none)
    (hK : ∀ y, Y = some y → (h y).1 = 0 → VRt t' (h y).2.1 → HR (h y).2.2 → Go Φ P f t X d M nx loc ((drv t' (h y).2.1).toList ++ r) (h y).2.2 c s)
    (hE : ∀ y e, Y = some y → (h y).1 = e + 1 → ∀ z, X = some z → (f z).1 ≠ 0) : Go Φ P f t X d M pc loc st g c s := by
  intro r9 hr h0
  cases hY : Y with
  | none => rw [hN hY] at hr; cases hr
  | some y =>
    obtain ⟨d', rfl⟩ : ∃ d', d = d' + 1 := ⟨d - 1, by omega⟩
    have hcl : ∀ n As w, go_cl Φ P n (d' + 1) mi As w = ev_run Φ P n d' (P mi) 0 (ev_loc (P mi).1 As) [] w := fun n As w => rfl
    cases hy : (h y).1 with
    | zero =>
      obtain ⟨c1, c2, c3⟩ := hcal y hY hy
      obtain ⟨k1, k2, k3⟩ := hK y hY hy c1 c2 r9 hr h0
      refine ⟨k1, k2, fun w hw0 hz => ?_⟩
      obtain ⟨n1, w1, d1, d3, d2⟩ := c3 (w.1, (w.2.1, (w.2.2.1, (0, 0)))) hw0 rfl
      have eb : (ev_back w w1 0 0).2 = w.2 := by
        show (w1.2.1, (w1.2.2.1, (w.2.2.2.1 + 0, w.2.2.2.2 + 0))) = w.2
        rw [d3]
        rfl
      obtain ⟨n2, w2, e1, e3, e2⟩ := k3 (ev_back w w1 0 0) d1 (by rw [eb]; exact hz)
      refine ⟨n1 + n2 + 1, w2, e1, e3.trans eb, fun n hn => ?_⟩
      cases n with
      | zero => exact absurd hn (by omega)
      | succ n =>
        rw [go_stp hc, gh_35 hsp hcs (gh_may hz hm) hw (rcv_ok hrc hw0), hcl, show d' = d' + 1 - 1 from rfl, d2 n (by omega)]
        show ev_cont M _ nx pc loc r w 0 0 (some (.inl (drv t' (h y).2.1, w1))) = _
        rw [← e2 n (by omega)]
        cases drv t' (h y).2.1 <;> rfl
    | succ ee => exact absurd h0 (hE y ee hY hy r9 hr)
theorem go_callP {Y : Option Int} {K : Int → Option β} (hc : M.2.2.2.2 pc = (35, (nx, (mi, (na, (rc, [0, 0])))))) (hsp : ev_sp na [] st = some (As, r)) (hcs : Nat.ble (ev_cs r) 8 = true) (hw : As.all (fun v => !ev_wide v) = true) (hrc : Rcv rc As) (hm : c ≤ M.2.1 ∧ s ≤ M.2.2.1) (hd : 1 ≤ d)
    (hcal : Go Φ P (fP g) t' Y (d - 1) (P mi) 0 (ev_loc (P mi).1 As) [] g 0 0)
    (k : ∀ v, VRt t' v → Go Φ P f t (K v) d M nx loc ((drv t' v).toList ++ r) g c s) : Go Φ P f t (bdP Y K) d M pc loc st g c s := by
  refine go_callG (h := fP g) (Y := Y) hc hsp hcs hw hrc hm hd hcal (fun z => by rw [z]; rfl) (fun y hY _ hv hg => ?_) (fun y e hY he => by cases he)
  rw [hY]
  exact k y hv
theorem go_callN {Y : Option (Int × gH)} {K : Int → gH → Option β} (hc : M.2.2.2.2 pc = (35, (nx, (mi, (na, (rc, [0, 0])))))) (hsp : ev_sp na [] st = some (As, r)) (hcs : Nat.ble (ev_cs r) 8 = true) (hw : As.all (fun v => !ev_wide v) = true) (hrc : Rcv rc As) (hm : c ≤ M.2.1 ∧ s ≤ M.2.2.1) (hd : 1 ≤ d)
    (hcal : Go Φ P fN t' Y (d - 1) (P mi) 0 (ev_loc (P mi).1 As) [] g 0 0)
    (k : ∀ v g1, VRt t' v → HR g1 → Go Φ P f t (K v g1) d M nx loc ((drv t' v).toList ++ r) g1 c s) : Go Φ P f t (bdN Y K) d M pc loc st g c s := by
  refine go_callG (h := fN) (Y := Y) hc hsp hcs hw hrc hm hd hcal (fun z => by rw [z]; rfl) (fun y hY _ hv hg => ?_) (fun y e hY he => by cases he)
  rw [hY]
  exact k y.1 y.2 hv hg
theorem go_callQ {Y : Option (Nat × Int)} {K : Int → Option β} {H : Nat → Option β} (hc : M.2.2.2.2 pc = (35, (nx, (mi, (na, (rc, [0, 0])))))) (hsp : ev_sp na [] st = some (As, r)) (hcs : Nat.ble (ev_cs r) 8 = true) (hw : As.all (fun v => !ev_wide v) = true) (hrc : Rcv rc As) (hm : c ≤ M.2.1 ∧ s ≤ M.2.2.1) (hd : 1 ≤ d)
    (hcal : Go Φ P (fQ g) t' Y (d - 1) (P mi) 0 (ev_loc (P mi).1 As) [] g 0 0)
    (k : ∀ v, VRt t' v → Go Φ P f t (K v) d M nx loc ((drv t' v).toList ++ r) g c s)
    (ke : ∀ e z, H e = some z → (f z).1 ≠ 0) : Go Φ P f t (bdQ Y K H) d M pc loc st g c s := by
  refine go_callG (h := fQ g) (Y := Y) hc hsp hcs hw hrc hm hd hcal (fun z => by rw [z]; rfl) (fun y hY h0 hv hg => ?_) (fun y e hY he z hz => ?_)
  · rw [hY]
    obtain ⟨y1, y2⟩ := y
    have h0 : y1 = 0 := h0
    subst h0
    exact k y2 hv
  · rw [hY] at hz
    obtain ⟨y1, y2⟩ := y
    have he : y1 = e + 1 := he
    subst he
    exact ke e z hz
theorem go_callT {Y : Option (Nat × (Int × gH))} {K : Int → gH → Option β} {H : Nat → gH → Option β} (hc : M.2.2.2.2 pc = (35, (nx, (mi, (na, (rc, [0, 0])))))) (hsp : ev_sp na [] st = some (As, r)) (hcs : Nat.ble (ev_cs r) 8 = true) (hw : As.all (fun v => !ev_wide v) = true) (hrc : Rcv rc As) (hm : c ≤ M.2.1 ∧ s ≤ M.2.2.1) (hd : 1 ≤ d)
    (hcal : Go Φ P fT t' Y (d - 1) (P mi) 0 (ev_loc (P mi).1 As) [] g 0 0)
    (k : ∀ v g1, VRt t' v → HR g1 → Go Φ P f t (K v g1) d M nx loc ((drv t' v).toList ++ r) g1 c s)
    (ke : ∀ e g1 z, H e g1 = some z → (f z).1 ≠ 0) : Go Φ P f t (bdT Y K H) d M pc loc st g c s := by
  refine go_callG (h := fT) (Y := Y) hc hsp hcs hw hrc hm hd hcal (fun z => by rw [z]; rfl) (fun y hY h0 hv hg => ?_) (fun y e hY he z hz => ?_)
  · rw [hY]
    obtain ⟨y1, y2, y3⟩ := y
    have h0 : y1 = 0 := h0
    subst h0
    exact k y2 y3 hv hg
  · rw [hY] at hz
    obtain ⟨y1, y2, y3⟩ := y
    have he : y1 = e + 1 := he
    subst he
    exact ke e y3 z hz
theorem ge_qq : ∀ (e : Nat) (z : Nat × Int), some (e + 1, (0 : Int)) = some z → (fQ g z).1 ≠ 0 := by
  intro e z h
  cases h
  exact Nat.succ_ne_zero _
theorem ge_qt : ∀ (e : Nat) (z : Nat × (Int × gH)), some (e + 1, ((0 : Int), g)) = some z → (fT z).1 ≠ 0 := by
  intro e z h
  cases h
  exact Nat.succ_ne_zero _
theorem ge_tt : ∀ (e : Nat) (g1 : gH) (z : Nat × (Int × gH)), some (e + 1, ((0 : Int), g1)) = some z → (fT z).1 ≠ 0 := by
  intro e g1 z h
  cases h
  exact Nat.succ_ne_zero _
/-! ends -/
theorem go_end {op : Nat} (hc : M.2.2.2.2 pc = (op, (nx, (a, (b, (c', tg)))))) (hg : HR g) (hv : VRt t v) (hf : f rr = (0, (v, g))) (h : ∀ w, Wg w g → w.2.2.2 = (c, s) → ∀ (k : ev_N) (cl : ev_F), ev_sel op Φ M k cl nx a b c' tg pc loc st w = some (go_fin t 0 v w)) : Go Φ P f t (some rr) d M pc loc st g c s := by
  intro r hr h0
  cases hr
  rw [hf]
  show VRt t v ∧ HR g ∧ ∀ w, Wg w g → w.2.2.2 = (c, s) → ∃ n0 w', Wg w' g ∧ w'.2 = w.2 ∧ ∀ n, n0 ≤ n → ev_run Φ P n d M pc loc st w = some (go_fin t 0 v w')
  refine ⟨hv, hg, fun w hw hz => ⟨1, w, hw, rfl, fun n hn => ?_⟩⟩
  cases n with
  | zero => exact absurd hn (by omega)
  | succ n => rw [go_stp hc, h w hw hz]
theorem go_vret (hc : M.2.2.2.2 pc = (38, (nx, (a, (b, (c', tg)))))) (hg : HR g) (hm : c ≤ M.2.1 ∧ s ≤ M.2.2.1) (hf : f rr = (0, (v, g))) : Go Φ P f 0 (some rr) d M pc loc [] g c s :=
  go_end hc hg trivial hf (fun w hw hz k cl => gh_38 (gh_may hz hm))
theorem go_iret (hc : M.2.2.2.2 pc = (39, (nx, (0, (b, (c', tg)))))) (hg : HR g) (hv : InR v) (hm : c ≤ M.2.1 ∧ s ≤ M.2.2.1) (hf : f rr = (0, (v, g))) : Go Φ P f 1 (some rr) d M pc loc [sI v] g c s :=
  go_end hc hg hv hf (fun w hw hz k cl => gh_39 (gh_may hz hm) rfl)
theorem go_bret (hc : M.2.2.2.2 pc = (39, (nx, (1, (b, (c', tg)))))) (hg : HR g) (hv : B01 v) (hm : c ≤ M.2.1 ∧ s ≤ M.2.2.1) (hf : f rr = (0, (v, g))) : Go Φ P f 3 (some rr) d M pc loc [sI v] g c s :=
  go_end hc hg hv hf (fun w hw hz k cl => gh_39 (gh_may hz hm) (sI_B01 hv))
theorem go_aret (hc : M.2.2.2.2 pc = (40, (nx, (a, (b, (c', tg)))))) (hg : HR g) (hv : RfR v) (hm : c ≤ M.2.1 ∧ s ≤ M.2.2.1) (hf : f rr = (0, (v, g))) : Go Φ P f 2 (some rr) d M pc loc [sR v] g c s :=
  go_end hc hg hv hf (fun w hw hz k cl => gh_40 (gh_may hz hm) rfl)
/-! texts -/
theorem go_ldcs (hc : M.2.2.2.2 pc = (49, (nx, (a, (b, (c', tg)))))) (ha : a < 26) (hx : x = 2000000 + a) (k : Go Φ P f t X d M nx loc (sR x :: st) g c s) : Go Φ P f t X d M pc loc st g c s :=
  go_sl hc (fun w kk cl _ _ => by
    show ev_if (Nat.ble (a + 1) 26) (kk nx loc (.inr (.inl (some (ev_tb + a))) :: st) w) none = _
    have e : x.toNat = ev_tb + a := by unfold ev_tb; omega
    rw [Nat.ble_eq.mpr (show a + 1 ≤ 26 by omega), sR_pos (by omega), e]
    rfl) k
theorem gtx_some {p : Int} : ∃ l, ev_txt (p.toNat - ev_tb) = some l ∧ gtx p = l ∧ l.length < 9 ∧ ∀ j, l.getD j 0 < 128 := by
  have h : ∀ i, i < 13 → ∃ l, ev_lg ev_tx i = some l ∧ l.length < 9 ∧ ∀ z ∈ l, z < 128 := by
    intro i hi
    have h1 : ∀ i : Nat, i < 13 → (ev_tx.getD i []).length < 9 ∧ ∀ z ∈ ev_tx.getD i [], z < 128 := by decide +kernel
    have h2 : ev_tx.length = 13 := rfl
    refine ⟨ev_tx.getD i [], ?_, h1 i hi⟩
    rw [gb_lg, List.getD_eq_getElem?_getD, List.getElem?_eq_getElem (by omega)]
    rfl
  obtain ⟨l, h1, h2, h3⟩ := h ((p.toNat - ev_tb) % 13) (by omega)
  refine ⟨l, h1, ?_, h2, fun j => ?_⟩
  · unfold gtx
    rw [show ev_txt (p.toNat - ev_tb) = some l from h1]
    rfl
  · rw [List.getD_eq_getElem?_getD]
    cases hj : l[j]? with
    | none => exact (by decide : 0 < 128)
    | some z => exact h3 z (List.mem_of_getElem? hj)
noncomputable def gtl (p : Int) : Int := ((gtx p).length : Nat)
noncomputable def gch (p j : Int) : Int := ((gtx p).getD j.toNat 0 : Nat)
theorem inR_gtl (p : Int) : InR (gtl p) := by
  obtain ⟨l, h1, h2, h3, h4⟩ := gtx_some (p := p)
  unfold gtl InR
  rw [h2]
  omega
theorem inR_gch (p j : Int) : InR (gch p j) := by
  obtain ⟨l, h1, h2, h3, h4⟩ := gtx_some (p := p)
  unfold gch InR
  rw [h2]
  have := h4 j.toNat
  omega
theorem gh_50 {k : ev_N} {cl : ev_F} {w : ev_W} {i : Nat} {l : List Nat} (h1 : ev_tin i = true) (hs : Nat.ble (ev_cs r) 8 = true) (hm : ev_may M w 0 0 = true) (ht : ev_txt (i - ev_tb) = some l) : ev_sel 50 Φ M k cl nx a b c' tg pc loc (.inr (.inl (some i)) :: r) w = k nx loc (.inl l.length :: r) w := by
  have e : ∀ st, ev_sel 50 Φ M k cl nx a b c' tg pc loc st w = ev_h_slen Φ M k cl nx a b c' tg pc loc st w := fun _ => rfl
  rw [e]
  unfold ev_h_slen
  dsimp only
  rw [h1, hs, hm, ht]
  rfl
theorem gh_51 {k : ev_N} {cl : ev_F} {w : ev_W} {i j z : Nat} {l : List Nat} (h1 : ev_tin i = true) (hs : Nat.ble (ev_cs r) 8 = true) (hm : ev_may M w 0 0 = true) (ht : ev_txt (i - ev_tb) = some l) (hj : ev_lg l j = some z) : ev_sel 51 Φ M k cl nx a b c' tg pc loc (.inl j :: .inr (.inl (some i)) :: r) w = k nx loc (.inl z :: r) w := by
  have e : ∀ st, ev_sel 51 Φ M k cl nx a b c' tg pc loc st w = ev_h_chat Φ M k cl nx a b c' tg pc loc st w := fun _ => rfl
  rw [e]
  unfold ev_h_chat
  dsimp only
  rw [h1, hs, hm, ht]
  dsimp only
  rw [hj]
  rfl
theorem gh_tb {p : Int} (hp : 2000000 ≤ p ∧ p < 2000026) : ev_tin p.toNat = true := by
  have h : ev_tb ≤ p.toNat ∧ p.toNat + 1 ≤ ev_tb + 26 := by
    unfold ev_tb
    omega
  unfold ev_tin
  rw [Nat.ble_eq.mpr h.1, Nat.ble_eq.mpr h.2]
  rfl
theorem go_slen (hc : M.2.2.2.2 pc = (50, (nx, (a, (b, (c', tg)))))) (hp : 2000000 ≤ p ∧ p < 2000026) (hs : Nat.ble (ev_cs r) 8 = true) (hm : c ≤ M.2.1 ∧ s ≤ M.2.2.1) (k : Go Φ P f t X d M nx loc (sI (gtl p) :: r) g c s) : Go Φ P f t X d M pc loc (sR p :: r) g c s :=
  go_sl hc (fun w kk cl _ hz => by
    obtain ⟨l, h1, h2, h3, h4⟩ := gtx_some (p := p)
    rw [sR_pos (by omega), go_lit (x := gtl p) (gtx p).length rfl (inR_gtl p), h2]
    exact gh_50 (gh_tb hp) hs (gh_may hz hm) h1) k
theorem go_chat (hc : M.2.2.2.2 pc = (51, (nx, (a, (b, (c', tg)))))) (hp : (2000000 ≤ p ∧ p < 2000026) ∧ 0 ≤ j ∧ j < gtl p) (hs : Nat.ble (ev_cs r) 8 = true) (hm : c ≤ M.2.1 ∧ s ≤ M.2.2.1) (k : Go Φ P f t X d M nx loc (sI (gch p j) :: r) g c s) : Go Φ P f t X d M pc loc (sI j :: sR p :: r) g c s :=
  go_sl hc (fun w kk cl _ hz => by
    obtain ⟨l, h1, h2, h3, h4⟩ := gtx_some (p := p)
    obtain ⟨hp, hj0, hj1⟩ := hp
    have hjl : j.toNat < l.length := by
      unfold gtl at hj1
      rw [h2] at hj1
      omega
    rw [sR_pos (by omega), go_lit (x := gch p j) ((gtx p).getD j.toNat 0) rfl (inR_gch p j), h2, go_lit (x := j) j.toNat (by omega) (by unfold InR; omega)]
    refine gh_51 (gh_tb hp) hs (gh_may hz hm) h1 ?_
    rw [gb_lg, List.getD_eq_getElem?_getD, List.getElem?_eq_getElem hjl]
    rfl) k
/-! the script -/
def cpyG (g : gH) (q p n : Int) : gH := fun x y => if x = p ∧ 0 ≤ y ∧ y < n then g q y else g x y
theorem gb_cpy {l0 l : List (List (List ev_V))} : ∀ n : Nat, (∀ i, i < n → ∃ v, ev_get l0 i = some v ∧ ev_ii v = true) → (∀ i, i < n → ∃ v, ev_get l i = some v) → ∃ z, ev_cpy n l0 l = some z ∧ ∀ j, ev_get z j = if j < n then ev_get l0 j else ev_get l j := by
  intro n
  induction n with
  | zero => intro _ _; exact ⟨l, rfl, fun j => by rw [if_neg (by omega)]⟩
  | succ n ih =>
    intro h0 h1
    obtain ⟨z, z1, z2⟩ := ih (fun i hi => h0 i (by omega)) (fun i hi => h1 i (by omega))
    obtain ⟨v, v1, v2⟩ := h0 n (by omega)
    obtain ⟨u, u1⟩ := h1 n (by omega)
    have : ev_get z n = some u := by rw [z2, if_neg (by omega)]; exact u1
    obtain ⟨y, y1, y2⟩ := gb_sto (v := v) this
    refine ⟨y, ?_, fun j => ?_⟩
    · show (match ev_cpy n l0 l, ev_get l0 n with
        | some h, some v => ev_if (ev_ii v) (ev_sto h n v) none
        | _, _ => none) = _
      rw [z1, v1]
      show ev_if (ev_ii v) (ev_sto z n v) none = _
      rw [v2]
      exact y1
    · rw [y2, z2]
      by_cases hj : j = n
      · subst hj
        rw [if_pos rfl, if_pos (by omega), v1]
      · rw [if_neg hj]
        by_cases h : j < n
        · rw [if_pos h, if_pos (by omega)]
        · rw [if_neg h, if_neg (by omega)]
theorem gh_45 {k : ev_N} {cl : ev_F} {w : ev_W} {n i i0 : Nat} {q q0 : ev_C} {z : List (List (List ev_V))} {x : List (List (List ev_C))} (h : ev_get w.1 i = some q) (h0 : ev_get w.1 i0 = some q0) (hk : q.1 = 20 ∧ q0.1 = 20) (hn : n ≤ q.2.1 ∧ n ≤ q0.2.1) (hs : q.2.1 ≤ 65536 ∧ q0.2.1 ≤ 65536) (hcs : Nat.ble (ev_cs r) 8 = true) (hz : ev_cpy n q0.2.2 q.2.2 = some z) (hx : ev_sto w.1 i (q.1, (q.2.1, z)) = some x) :
    ev_sel 45 Φ M k cl nx a b c' tg pc loc (.inl n :: .inl 0 :: .inr (.inl (some i)) :: .inl 0 :: .inr (.inl (some i0)) :: r) w = k nx loc r (x, w.2) := by
  show (match ev_get w.1 i, ev_get w.1 i0 with
    | some q, some q0 => ev_if (Nat.beq q.1 20 && (Nat.beq q0.1 20 && (Nat.ble n q.2.1 && (Nat.ble n q0.2.1 && (Nat.ble q.2.1 65536 && (Nat.ble q0.2.1 65536 && Nat.ble (ev_cs r) 8)))))) (match ev_cpy n q0.2.2 q.2.2 with
      | some z => match ev_sto w.1 i (q.1, (q.2.1, z)) with
        | some x => k nx loc r (x, w.2)
        | none => none
      | none => none) none
    | _, _ => none) = _
  rw [h, h0]
  show ev_if (Nat.beq q.1 20 && (Nat.beq q0.1 20 && (Nat.ble n q.2.1 && (Nat.ble n q0.2.1 && (Nat.ble q.2.1 65536 && (Nat.ble q0.2.1 65536 && Nat.ble (ev_cs r) 8)))))) (match ev_cpy n q0.2.2 q.2.2 with
      | some z => match ev_sto w.1 i (q.1, (q.2.1, z)) with
        | some x => k nx loc r (x, w.2)
        | none => none
      | none => none) none = _
  rw [hk.1, hk.2, Nat.beq_refl, Nat.ble_eq.mpr hn.1, Nat.ble_eq.mpr hn.2, Nat.ble_eq.mpr hs.1, Nat.ble_eq.mpr hs.2, hcs, hz, ← hk.1]
  show (match ev_sto w.1 i (q.1, (q.2.1, z)) with
        | some x => k nx loc r (x, w.2)
        | none => none) = _
  rw [hx]
theorem hr_cpy {g : gH} {q p n : Int} (hg : HR g) (h : kd q = 20 ∧ kd p = 20) (hq : q < 624) : HR (cpyG g q p n) := by
  intro x y hx
  unfold cpyG
  split
  · next hh =>
    have := hg q y hq
    rw [hh.1, h.2]
    rw [h.1] at this
    exact this
  · exact hg x y hx
theorem go_copy {q n : Int} {K : gH → Option β} (hc : M.2.2.2.2 pc = (45, (nx, (a, (b, (c', tg)))))) (hg : HR g) (h : kd q = 20 ∧ kd p = 20) (rq : RfR q) (rp : RfR p) (hn : 0 ≤ n ∧ n ≤ sz q ∧ n ≤ sz p) (hcs : Nat.ble (ev_cs r) 8 = true) (k : ∀ g1, HR g1 → Go Φ P f t (K g1) d M nx loc r g1 c s) : Go Φ P f t (bnd (cpyG g q p n) K) d M pc loc (sI n :: sI 0 :: sR p :: sI 0 :: sR q :: r) g c s := by
  refine go_step hc (fun w hw hz => ?_) (k (cpyG g q p n) (hr_cpy hg h rq.2))
  have hp : 0 ≤ p ∧ p < 624 := ⟨(kd_lt h.2 (by omega)).1, rp.2⟩
  have hq : 0 ≤ q ∧ q < 624 := ⟨(kd_lt h.1 (by omega)).1, rq.2⟩
  have b1 := sz_bd p
  have b2 := sz_bd q
  have ep : ((p.toNat : Nat) : Int) = p := Int.toNat_of_nonneg hp.1
  have eq : ((q.toNat : Nat) : Int) = q := Int.toNat_of_nonneg hq.1
  obtain ⟨C, c1, c2, c3, c4⟩ := hw p.toNat (by omega)
  obtain ⟨C0, d1, d2, d3, d4⟩ := hw q.toNat (by omega)
  rw [ep] at c2 c3 c4
  rw [eq] at d2 d3 d4
  rw [h.2] at c2
  rw [h.1] at d2
  have t20 : ∀ j : Int, typ 20 j = 0 := fun j => rfl
  obtain ⟨z, z1, z2⟩ := gb_cpy (l0 := C0.2.2) (l := C.2.2) n.toNat (fun i hi => by
    refine ⟨_, d4 i (by omega), ?_⟩
    rw [h.1, t20]
    rfl) (fun i hi => ⟨_, c4 i (by omega)⟩)
  obtain ⟨x, x1, x2⟩ := gb_sto (v := (C.1, (C.2.1, z))) c1
  refine ⟨(x, w.2), ?_, rfl, fun kk cl => ?_⟩
  · intro i hi
    by_cases hia : i = p.toNat
    · subst hia
      refine ⟨(C.1, (C.2.1, z)), by rw [x2, if_pos rfl], by rw [ep, h.2]; exact c2, by rw [ep]; exact c3, fun j hj => ?_⟩
      rw [ep] at hj ⊢
      show ev_get z j = _
      rw [z2]
      unfold cpyG
      by_cases hjn : j < n.toNat
      · rw [if_pos hjn, if_pos ⟨rfl, by omega, by omega⟩, d4 j (by omega), h.1, h.2]
      · rw [if_neg hjn, if_neg (fun z => hjn (by omega))]
        exact c4 j hj
    · obtain ⟨q9, e1, e2, e3, e4⟩ := hw i hi
      refine ⟨q9, by rw [x2, if_neg hia]; exact e1, e2, e3, fun j hj => ?_⟩
      unfold cpyG
      rw [if_neg (fun z => hia (by omega))]
      exact e4 j hj
  · rw [sR_pos hp.1, sR_pos hq.1, go_lit (x := n) n.toNat (by omega) (by unfold InR; omega), ← gq_0]
    exact gh_45 c1 d1 ⟨c2, d2⟩ (by omega) (by omega) hcs z1 x1
end GO4
