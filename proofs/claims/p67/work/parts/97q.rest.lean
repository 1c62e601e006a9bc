/-! ===== the law's layer: texts, compares with constants, copies, a clone, fields by other names (own work) ===== -/
section G2Q
variable {κ : CX} {im : ev_Im} {M : ev_M} {t d : Nat} {n0 s0 : Int} {X A B : Option (Int × sS)} {pc nx : Nat} {loc : ev_L} {st r : List ev_V} {S : sS} {a b c' : Nat} {tg : List Nat} {x y p j v z : Int}
theorem g2_ldcs (hc : M.2.2.2.2 pc = (61, (nx, (a, (b, (c', tg)))))) (ha : (2000100 : Int) + a = v) (k : G2 κ im M t d n0 s0 X nx loc (sR v :: st) S) : G2 κ im M t d n0 s0 X pc loc st S := by
  refine g2_mp (fun p9 e R s m args below meth c Q c9 s9 H locs ls hκ hF hE hR hsz hn hJ hS go => ?_) k
  obtain ⟨hx, hbb, hml, ho, ht, hV, -⟩ := id hF.1
  have hok := hE pc
  rw [hc] at hok
  obtain ⟨h11, hcl, dd, e1⟩ := hok.2
  dsimp only at h11 hcl dd e1
  subst e1
  subst ha
  rw [List.map_cons, dn_c (by omega), show ((2000100 : Int) + a - 2000000).toNat = 100 + a by omega] at go
  rw [hcl] at ho
  exact va_ldcS hx hbb ho (hF.2.2.2.1 a h11).1 dd go
/-- the empty array, and an array of our own -/
theorem g2_acmpK (hc : M.2.2.2.2 pc = (18, (nx, (a, (b, (c', tg)))))) (k1 : x = 2200002 → G2 κ im M t d n0 s0 A b loc r S) (k2 : ¬ x = 2200002 → G2 κ im M t d n0 s0 B c' loc r S) : G2 κ im M t d n0 s0 (if x = 2200002 then A else if 0 ≤ x ∧ x < 1000000 then B else none) pc loc (sR 2200002 :: sR x :: r) S := by
  refine g2_ite (fun h => ?_) (fun h => g2_ck fun h2 => ?_)
  · refine g2_mp (pc2 := b) (st2 := r) (fun p9 e R s m args below meth c Q c9 s9 H locs ls hκ hF hE hR hsz hn hJ hS go => ?_) (k1 h)
    obtain ⟨hx, hbb, hml, ho, ht, hV, -⟩ := id hF.1
    have hok := hE pc
    rw [hc] at hok
    subst h
    have e9 : ev_dn κ.2.2.1 κ.2.2.2.1 κ.2.2.2.2.2.1 (sR 2200002) = va_rf (some (κ.2.2.1.2.1 200002)) := dn_c (by omega)
    rw [List.map_cons, List.map_cons, e9]
    obtain ⟨off, ⟨dd, g, e1⟩ | ⟨dd, g, e1⟩⟩ := hok.1 (by decide)
    · exact lv_acmp_eq hx hbb dd g (fun _ => go) (fun q => absurd rfl q)
    · dsimp only at e1
      subst e1
      exact lv_acmp_ne hx hbb dd g (fun q => absurd rfl q) (fun _ => go)
  · refine g2_mp (pc2 := c') (st2 := r) (fun p9 e R s m args below meth c Q c9 s9 H locs ls hκ hF hE hR hsz hn hJ hS go => ?_) (k2 h)
    obtain ⟨hx, hbb, hml, ho, ht, hV, -⟩ := id hF.1
    have hok := hE pc
    rw [hc] at hok
    have e9 : ev_dn κ.2.2.1 κ.2.2.2.1 κ.2.2.2.2.2.1 (sR 2200002) = va_rf (some (κ.2.2.1.2.1 200002)) := dn_c (by omega)
    have e8 : ev_dn κ.2.2.1 κ.2.2.2.1 κ.2.2.2.2.2.1 (sR x) = va_rf (some (κ.2.2.2.1 + x.toNat)) := dn_w h2.1 h2.2
    have hne : ¬ some (κ.2.2.2.1 + x.toNat) = some (κ.2.2.1.2.1 200002) := fun q => by
      have q := Option.some.inj q
      have hA : ¬ ev_A κ.2.2.1 κ.2.2.2.1 (κ.2.2.1.2.1 200002) := hF.2.2.2.2.2.2.2.2.2.1.out
      have h3 := hκ.1.2.2
      exact hA (by rw [← q]; exact ⟨Nat.le_add_right _ _, by rw [h3]; omega⟩)
    rw [List.map_cons, List.map_cons, e9, e8]
    obtain ⟨off, ⟨dd, g, e1⟩ | ⟨dd, g, e1⟩⟩ := hok.1 (by decide)
    · dsimp only at e1
      subst e1
      exact lv_acmp_eq hx hbb dd g (fun q => absurd q hne) (fun _ => go)
    · exact lv_acmp_ne hx hbb dd g (fun _ => go) (fun q => absurd q hne)
theorem g2_acmpC (hc : M.2.2.2.2 pc = (18, (nx, (a, (b, (c', tg)))))) (k1 : G2 κ im M t d n0 s0 X b loc r S) : G2 κ im M t d n0 s0 X pc loc (sR 2200003 :: sR 2200003 :: r) S := by
  refine g2_mp (pc2 := b) (st2 := r) (fun p9 e R s m args below meth c Q c9 s9 H locs ls hκ hF hE hR hsz hn hJ hS go => ?_) k1
  obtain ⟨hx, hbb, hml, ho, ht, hV, -⟩ := id hF.1
  have hok := hE pc
  rw [hc] at hok
  have e9 : ev_dn κ.2.2.1 κ.2.2.2.1 κ.2.2.2.2.2.1 (sR 2200003) = va_rf (some (κ.2.2.1.2.1 200003)) := dn_c (by omega)
  rw [List.map_cons, List.map_cons, e9]
  obtain ⟨off, ⟨dd, g, e1⟩ | ⟨dd, g, e1⟩⟩ := hok.1 (by decide)
  · exact lv_acmp_eq hx hbb dd g (fun _ => go) (fun q => absurd rfl q)
  · dsimp only at e1
    subst e1
    exact lv_acmp_ne hx hbb dd g (fun q => absurd rfl q) (fun _ => go)
/-! copies -/
def cpS (S : sS) (src sp dst dp n : Int) : sS := (S.1, (S.2.1, (S.2.2.1, (S.2.2.2.1, (fun x y => if x = dst ∧ dp ≤ y ∧ y < dp + n then S.2.2.2.2.1 src (sp + (y - dp)) else S.2.2.2.2.1 x y, S.2.2.2.2.2)))))
theorem sg_cpS {S : sS} {src sp dst dp n x y : Int} : sg (cpS S src sp dst dp n) x y = if x = dst ∧ dp ≤ y ∧ y < dp + n then sg S src (sp + (y - dp)) else sg S x y := rfl
theorem wf_cpS {κ : CX} {S : sS} {src sp dst dp n : Int} (h : WF2 κ S) (hp : dst < 1000000) (hv : ∀ y z, ty2 (sK S dst) y = ty2 (sK S src) z) : WF2 κ (cpS S src sp dst dp n) := by
  obtain ⟨⟨h1, h2⟩, ⟨f1, f2, f3, f4, f5, f6⟩, c1, c2, c3, c4⟩ := h
  refine ⟨⟨fun x y => ?_, h2⟩, ⟨f1, f2, f3, f4, fun x hx => ⟨(f5 x hx).1, (f5 x hx).2.1, fun y => ?_⟩, f6⟩, c1, c2, fun j => ?_, c4⟩
  · rw [sg_cpS]
    by_cases e : x = dst ∧ dp ≤ y ∧ y < dp + n
    · rw [if_pos e]
      have := h1 src (sp + (y - dp))
      show VT2 (ty2 (sK S x) y) _
      rw [e.1, hv y (sp + (y - dp))]
      exact this
    · rw [if_neg e]
      exact h1 x y
  · rw [sg_cpS, if_neg (by omega)]
    exact (f5 x hx).2.2 y
  · rw [sg_cpS, if_neg (by omega)]
    exact c3 j
/-- one cell of the world replaced -/
theorem cx_set {S S2 : sS} {i c9 s9 : Nat} {H H1 : Heap} (hJ : cxS κ (cW S c9 s9) H) (hi : (i : Int) < sn S) (hn : sn S ≤ 1000000) (h2 : sn S2 = sn S) (hC : ∀ j, j ≠ i → cC S2 j = cC S j) (h1 : ev_at κ.1 κ.2.1 κ.2.2.1 κ.2.2.2.1 κ.2.2.2.2.2.1 (κ.2.2.2.1 + i) (cC S2 i) H1) (hz : H1.size = H.size) (ho : ∀ x, x ≠ κ.2.2.2.1 + i → H1[x]? = H[x]?) : cxS κ (cW S2 c9 s9) H1 := by
  have hq : ev_get (cW S c9 s9).1 i = some (cC S i) := by
    show ev_get (cT S) i = _
    rw [cT_get, if_pos (by omega)]
  have g := ev_J_set (x := cT S2) (q' := cC S2 i) hJ hq (fun j => by
    show ev_get (cT S2) j = if j = i then some (cC S2 i) else ev_get (cT S) j
    rw [cT_get, cT_get]
    by_cases e : j = i
    · rw [if_pos e, e, if_pos (by omega)]
    · rw [if_neg e, hC j e]) h1 hz ho
  have e : (cW S2 c9 s9) = (cT S2, (cW S c9 s9).2) := by
    unfold cW
    rw [h2]
  rw [cxS, e]
  exact g
theorem cC_own {S : sS} {p : Int} (h0 : 0 ≤ p) (h1 : p < sn S) (h98 : ¬ sK S p = 98) : cC S p.toNat = (sK S p, ((sZ S p).toNat, mkR (sZ S p).toNat (fun j : Nat => dec2 (ty2 (sK S p) j) (sg S p j)))) := by
  have hp : ((p.toNat : Nat) : Int) = p := by omega
  unfold cC
  rw [hp, if_pos h1, if_neg h98]
theorem cC_cpS {S : sS} {src sp dst dp n : Int} {j : Nat} (h : ¬ (j : Int) = dst) : cC (cpS S src sp dst dp n) j = cC S j := by
  have hf : (fun i : Nat => dec2 (ty2 (sK S j) i) (sg (cpS S src sp dst dp n) j i)) = (fun i : Nat => dec2 (ty2 (sK S j) i) (sg S j i)) := by
    funext i
    rw [sg_cpS, if_neg (by omega)]
  unfold cC
  show (if (j : Int) < sn S then (if sK S j = 98 then _ else (sK S j, ((sZ S j).toNat, mkR (sZ S j).toNat (fun i : Nat => dec2 (ty2 (sK S j) i) (sg (cpS S src sp dst dp n) j i))))) else _) = _
  rw [hf]
  rfl
/-- what an array of ours looks like in the heap -/
theorem cx_arr {c9 s9 : Nat} {H : Heap} (hJ : cxS κ (cW S c9 s9) H) (h0 : 0 ≤ p) (h1 : p < sn S) (hn : sn S ≤ 1000000) (h20 : 20 ≤ sK S p) (h28 : sK S p ≤ 28) : H[κ.2.2.2.1 + p.toNat]? = some (arrV (κ.2.1 (sK S p)) (sZ S p).toNat (fun j : Nat => ev_dn κ.2.2.1 κ.2.2.2.1 κ.2.2.2.2.2.1 (dec2 (ty2 (sK S p) j) (sg S p j)))) := by
  obtain ⟨q, hq, e1, e2, e3⟩ := ws_cell (w := cW S c9 s9) ws_c h0 h1 hn (by omega)
  obtain ⟨-, g1⟩ := ev_J_arr hJ hq (by omega) (by omega)
  rw [g1, e1, e2]
  refine congrArg some (ev_arr_to (fun j hj => ?_))
  unfold ev_fv
  rw [e3 j (by omega)]
theorem toI_nn (h0 : 0 ≤ x) (h : x < 2147483648) : toI x = nI x.toNat ∧ (nI x.toNat).toNatClampNeg = x.toNat ∧ ¬ nI x.toNat < 0 ∧ (nI x.toNat).toInt = (x.toNat : Int) := by
  refine ⟨?_, nI_clamp (by omega), nI_pos (by omega), nI_toInt (by omega)⟩
  have := toI_n (n := x.toNat) (by omega)
  rw [show ((x.toNat : Nat) : Int) = x by omega] at this
  exact this
theorem g2_copyB {src sp dst dp n : Int} {K : sS → Option (Int × sS)} (hc : M.2.2.2.2 pc = (56, (nx, (a, (b, (c', tg)))))) (hW : WF2 κ S) (hcs : Nat.ble (ev_cs r) 8 = true) (k : ∀ S1, WF2 κ S1 → G2 κ im M t d n0 s0 (K S1) nx loc r S1) :
    G2 κ im M t d n0 s0 (if sK S src = 21 ∧ (sK S dst = 21 ∧ dst < 1000000) ∧ (0 ≤ sp ∧ 0 ≤ dp ∧ 0 ≤ n) ∧ sp + n ≤ sZ S src ∧ dp + n ≤ sZ S dst then bnd (cpS S src sp dst dp n) K else none) pc loc (sI n :: sI dp :: sR dst :: sI sp :: sR src :: r) S := by
  refine g2_ck fun hk => ?_
  obtain ⟨k1, ⟨k2, hp⟩, ⟨p1, p2, p3⟩, b1, b2⟩ := hk
  obtain ⟨h2, h3⟩ := sf_real hW.2.1 (p := dst) (by omega) (by omega) (by omega)
  obtain ⟨-, h5, h6⟩ := sf_arr hW.2.1 (p := dst) (by omega) (by omega) h2 h3
  have hW2 : WF2 κ (cpS S src sp dst dp n) := wf_cpS hW hp (fun y z => by rw [k1, k2]; rfl)
  have hsz2 : sZ S src ≤ 65536 := by
    rcases wf_arr (p := src) hW (by omega) (by omega) with ⟨-, -, -, g⟩ | ⟨-, g, -⟩ | ⟨-, g1, g2, -⟩
    · exact g
    · omega
    · have := cz_bd (p := src) (by omega) (by omega)
      omega
  refine g2_mc (S2 := cpS S src sp dst dp n) ⟨Int.le_refl _, Int.le_refl _⟩ (fun p9 e R s m args below meth c Q c9 s9 hκ hF hE _ hR hn go => ?_) (k _ hW2)
  have hn : sn S ≤ 1000000 := hn
  rw [show sn (cpS S src sp dst dp n) = sn S from rfl, show ss (cpS S src sp dst dp n) = ss S from rfl, Int.sub_self, Int.sub_self] at go
  intro H locs ls hl hJ hS
  obtain ⟨hx, hbb, hml, ho, ht, hV, -⟩ := id hF.1
  have hok := hE pc
  rw [hc] at hok
  obtain ⟨ix, dd, e1, w1, w2, w3, w4⟩ := hok.2
  dsimp only at dd e1 w1
  subst e1
  have g1 := cx_arr hJ h2 h3 hn (by omega) (by omega)
  rw [k2] at g1
  have hA1 := (ev_tys_of hV (k := 21) (Or.inr (Or.inl rfl))).1
  obtain ⟨-, kk1, hk1, cm1, hkk1⟩ := hA1 (sZ S dst).toNat (fun j : Nat => ev_dn κ.2.2.1 κ.2.2.2.1 κ.2.2.2.2.2.1 (dec2 (ty2 21 j) (sg S dst j)))
  have hsrc : ∃ (as : Nat) (cs : Cell), ev_dn κ.2.2.1 κ.2.2.2.1 κ.2.2.2.2.2.1 (sR src) = .ref as ∧ H[as]? = some cs ∧ s.isArrayOf cs .byte ∧ cs.vm ≠ .unknown ∧ (sZ S src).toNat ≤ cs.slots.size ∧ ∀ j : Nat, j < (sZ S src).toNat → cs.slots[j]? = some (.int (toI (sg S src j))) := by
    rcases wf_arr (p := src) hW (by omega) (by omega) with ⟨⟨q1, q2⟩, -, -, -⟩ | ⟨-, g, -⟩ | ⟨q1, q2, q3, q4⟩
    · have g0 := cx_arr hJ q1 q2 hn (by omega) (by omega)
      rw [k1] at g0
      refine ⟨_, _, dn_w q1 (by omega), g0, hA1 _ _, (fun z => by cases z), by rw [arrV_size]; exact Nat.le_refl _, fun j hj => ?_⟩
      rw [arrV_read _ _ hj]
      rfl
    · omega
    · obtain ⟨ty, f, hT, hf⟩ := cz_arr hF.2.2.2 (p := src) (by omega) (by omega)
      obtain ⟨rfl, hf⟩ := hf (by omega)
      obtain ⟨cell, z1, z2, z3, z4, z5, z6, z7⟩ := hT.kept hS.2.1
      refine ⟨_, cell, dn_c q1, z1, z2, z3, by rw [q3]; exact z4, fun j hj => ?_⟩
      rw [z6 j (by rw [q3] at hj; exact hj), hf j (by omega), q4]
  obtain ⟨as, cs, es, c1, c2, c3, c4, c5⟩ := hsrc
  obtain ⟨hs6, kk0, hk0, cm0, hkk0⟩ := c2
  obtain ⟨en, en2, en3, en4⟩ := toI_nn (x := n) p3 (by omega)
  obtain ⟨esp, esp2, esp3, esp4⟩ := toI_nn (x := sp) p1 (by omega)
  obtain ⟨edp, edp2, edp3, edp4⟩ := toI_nn (x := dp) p2 (by omega)
  have hk8 := ev_cs_ok (b := κ.2.2.1) (B0 := κ.2.2.2.1) (σ := κ.2.2.2.2.2.1) r
  have hk9 := Nat.le_of_ble_eq_true hcs
  simp only [List.map_cons, dn_i, es, dn_w h2 hp, en, esp, edp]
  intro T hT X
  obtain ⟨vm', X', step⟩ := X.arraycopy hx ho (ht _ w1) (ht _ w2) (ht _ w3) (ht _ w4) (src := as) (dst := κ.2.2.2.1 + dst.toNat) (cs := cs) (cd := arrV (κ.2.1 21) (sZ S dst).toNat (fun j : Nat => ev_dn κ.2.2.1 κ.2.2.2.1 κ.2.2.2.2.2.1 (dec2 (ty2 21 j) (sg S dst j)))) (srcPos := nI sp.toNat) (destPos := nI dp.toNat) (n := nI n.toNat) (by rw [hT]; exact c1) (by rw [hT]; exact g1)
    hs6 (fun _ h => by cases h) c3 (fun h => by cases h) hk0 hk1 hkk0 hkk1 (by simp [refKind]) esp3 edp3 en3
    (by rw [esp4, en4]; omega) (by rw [edp4, en4, arrV_size]; omega)
    (fun vm₁ _ i hi => by
      rw [en2] at hi
      have e : cs.slots.getD ((nI sp.toNat).toNatClampNeg + i) .null = .int (toI (sg S src ((sp.toNat + i : Nat) : Int))) := by
        rw [esp2, Array.getD_eq_getD_getElem?, c5 _ (by omega)]
        rfl
      refine ⟨?_, ?_⟩
      · rw [e]
        rfl
      · rw [e]
        exact trivial)
    (g := F0 m pc ls (.int (nI n.toNat) :: .int (nI dp.toNat) :: .ref (κ.2.2.2.1 + dst.toNat) :: .int (nI sp.toNat) :: .ref as :: r.map (ev_dn κ.2.2.1 κ.2.2.2.1 κ.2.2.2.2.2.1))) rfl (by rw [hml]; exact hl.1) (rest := r.map (ev_dn κ.2.2.1 κ.2.2.2.1 κ.2.2.2.2.2.1)) rfl (by rw [hbb]; exact dd) (by omega) (by
      have : nativeFrameWords "java/lang/System" "arraycopy" 5 + 11 ≤ 90 := by decide +kernel
      show 2 * 0 + _ + _ ≤ _
      omega)
  have ecop : copied cs (arrV (κ.2.1 21) (sZ S dst).toNat (fun j : Nat => ev_dn κ.2.2.1 κ.2.2.2.1 κ.2.2.2.2.2.1 (dec2 (ty2 21 j) (sg S dst j)))) (nI sp.toNat) (nI dp.toNat) (nI n.toNat) = arrV (κ.2.1 21) (sZ S dst).toNat (fun j : Nat => ev_dn κ.2.2.1 κ.2.2.2.1 κ.2.2.2.2.2.1 (dec2 (ty2 21 j) (sg (cpS S src sp dst dp n) dst j))) := by
    have h9 := va_copiedX (fun z : Int32 => Value.int z) cs (κ.2.1 21) (n0 := (sZ S src).toNat) (n1 := (sZ S dst).toNat) (sp := (nI sp.toNat).toNatClampNeg) (dp := (nI dp.toNat).toNatClampNeg) (n := (nI n.toNat).toNatClampNeg) (fun j => toI (sg S src j)) (fun j => toI (sg S dst j)) c5 (by rw [esp2, en2]; omega)
    refine h9.trans (ev_arr_to fun j hj => ?_)
    show Value.int (va_cpy _ _ _ _ _ j) = Value.int (toI (sg (cpS S src sp dst dp n) dst j))
    rw [sg_cpS]
    unfold va_cpy
    rw [esp2, edp2, en2]
    by_cases hjn : dp ≤ (j : Int) ∧ (j : Int) < dp + n
    · rw [if_pos ⟨by omega, by omega⟩, if_pos ⟨rfl, hjn⟩, show ((sp.toNat + (j - dp.toNat) : Nat) : Int) = sp + ((j : Int) - dp) by omega]
    · rw [if_neg (by omega), if_neg (fun z => hjn z.2)]
  rw [ecop] at X' step
  generalize hnew : arrV (κ.2.1 21) (sZ S dst).toNat (fun j : Nat => ev_dn κ.2.2.1 κ.2.2.2.1 κ.2.2.2.2.2.1 (dec2 (ty2 21 j) (sg (cpS S src sp dst dp n) dst j))) = newc at X' step
  have hlt : κ.2.2.2.1 + dst.toNat < H.size := (Array.getElem?_eq_some_iff.mp g1).1
  have oq : ∀ y : Nat, y ≠ κ.2.2.2.1 + dst.toNat → (H.setIfInBounds (κ.2.2.2.1 + dst.toNat) newc)[y]? = H[y]? := fun y hy => by simp [Array.getElem?_setIfInBounds, Ne.symm hy]
  have hself : (H.setIfInBounds (κ.2.2.2.1 + dst.toNat) newc)[κ.2.2.2.1 + dst.toNat]? = some newc := by simp [Array.getElem?_setIfInBounds, hlt]
  have hzz : (H.setIfInBounds (κ.2.2.2.1 + dst.toNat) newc).size = H.size := by simp
  have hC9 : cC (cpS S src sp dst dp n) dst.toNat = (21, ((sZ S dst).toNat, mkR (sZ S dst).toNat (fun j : Nat => dec2 (ty2 21 j) (sg (cpS S src sp dst dp n) dst j)))) := by
    have := cC_own (S := cpS S src sp dst dp n) (p := dst) h2 h3 (by show ¬ sK S dst = 98; omega)
    rw [show sK (cpS S src sp dst dp n) dst = 21 from k2, show sZ (cpS S src sp dst dp n) dst = sZ S dst from rfl] at this
    exact this
  have hJ2 : cxS κ (cW (cpS S src sp dst dp n) c9 s9) (H.setIfInBounds (κ.2.2.2.1 + dst.toNat) newc) := by
    refine cx_set hJ (i := dst.toNat) (by omega) hn rfl (fun j hj => cC_cpS (by omega)) ?_ hzz oq
    rw [hC9]
    refine Or.inr (Or.inr ⟨Or.inr (Or.inl rfl), by decide, ?_⟩)
    rw [hself, ← hnew]
    refine congrArg some (ev_arr_to (fun j hj => ?_))
    show _ = ev_fv _ _ _ (mkR _ _) j
    unfold ev_fv
    rw [mkR_get, if_pos (by omega)]
  obtain ⟨tt, a1, b1⟩ := go (H.setIfInBounds (κ.2.2.2.1 + dst.toNat) newc) _ ls hl hJ2 ⟨by rw [hzz]; exact hS.1, fun y z1 z2 => by
    rw [oq y (fun e => z2 (by rw [e]; exact ⟨Nat.le_add_right _ _, by rw [hκ.1.2.2]; omega⟩))]
    exact hS.2.1 y z1 z2, fun y hy => by
    rcases List.mem_append.mp hy with h | h
    · exact hS.2.2 y h
    · obtain ⟨z, -, hz⟩ := List.mem_map.mp h
      rw [← hz]
      exact ⟨Nat.le_add_right _ _, by rw [hκ.1.2.2]; show κ.2.2.2.1 + dst.toNat < _; omega⟩⟩ ((T.setVm vm').setCell (κ.2.2.2.1 + dst.toNat) newc) (by rw [← hT]; rfl) X'
  exact ⟨tt, step tt a1, b1⟩
end G2Q
