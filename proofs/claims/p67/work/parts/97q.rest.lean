/-! ===== the law's layer: texts, compares with constants, copies, a clone, fields by other names (own work) ===== -/
section G2Q
variable {κ : CX} {im : ev_Im} {M : ev_M} {t d : Nat} {n0 s0 : Int} {X A B : Option (Int × sS)} {pc nx : Nat} {loc : ev_L} {st r : List ev_V} {S : sS} {a b c' : Nat} {tg : List Nat} {x y p j v z : Int}
theorem g2_ldcs (hc : M.2.2.2.2 pc = (61, (nx, (a, (b, (c', tg)))))) (ha : (2000100 : Int) + a = v) (k : G2 κ im M t d n0 s0 X nx loc (sR v :: st) S) : G2 κ im M t d n0 s0 X pc loc st S := by
  refine g2_mp (fun p9 e R s m args below meth c Q c9 s9 H locs ls hκ hF hE hR hsz hn hJ hS go => ?_) k
  obtain ⟨hx, hbb, hml, ho, ht, hV, -⟩ := id hF.1
  have hok := hE pc
  rw [hc] at hok
  obtain ⟨h11, hcl, dd, e1⟩ := hok.2
  dsimp only at h11 hcl dd e1
  subst e1
  subst ha
  rw [List.map_cons, dn_c (by omega), show ((2000100 : Int) + a - 2000000).toNat = 100 + a by omega] at go
  rw [hcl] at ho
  exact va_ldcS hx hbb ho (hF.2.2.2.1 a h11).1 dd go
/-- the empty array, and an array of our own -/
theorem g2_acmpK (hc : M.2.2.2.2 pc = (18, (nx, (a, (b, (c', tg)))))) (k1 : x = 2200002 → G2 κ im M t d n0 s0 A b loc r S) (k2 : ¬ x = 2200002 → G2 κ im M t d n0 s0 B c' loc r S) : G2 κ im M t d n0 s0 (if x = 2200002 then A else if 0 ≤ x ∧ x < 1000000 then B else none) pc loc (sR 2200002 :: sR x :: r) S := by
  refine g2_ite (fun h => ?_) (fun h => g2_ck fun h2 => ?_)
  · refine g2_mp (pc2 := b) (st2 := r) (fun p9 e R s m args below meth c Q c9 s9 H locs ls hκ hF hE hR hsz hn hJ hS go => ?_) (k1 h)
    obtain ⟨hx, hbb, hml, ho, ht, hV, -⟩ := id hF.1
    have hok := hE pc
    rw [hc] at hok
    subst h
    have e9 : ev_dn κ.2.2.1 κ.2.2.2.1 κ.2.2.2.2.2.1 (sR 2200002) = va_rf (some (κ.2.2.1.2.1 200002)) := dn_c (by omega)
    rw [List.map_cons, List.map_cons, e9]
    obtain ⟨off, ⟨dd, g, e1⟩ | ⟨dd, g, e1⟩⟩ := hok.1 op_18
    · exact lv_acmp_eq hx hbb dd g (fun _ => go) (fun q => absurd rfl q)
    · dsimp only at e1
      subst e1
      exact lv_acmp_ne hx hbb dd g (fun q => absurd rfl q) (fun _ => go)
  · refine g2_mp (pc2 := c') (st2 := r) (fun p9 e R s m args below meth c Q c9 s9 H locs ls hκ hF hE hR hsz hn hJ hS go => ?_) (k2 h)
    obtain ⟨hx, hbb, hml, ho, ht, hV, -⟩ := id hF.1
    have hok := hE pc
    rw [hc] at hok
    have e9 : ev_dn κ.2.2.1 κ.2.2.2.1 κ.2.2.2.2.2.1 (sR 2200002) = va_rf (some (κ.2.2.1.2.1 200002)) := dn_c (by omega)
    have e8 : ev_dn κ.2.2.1 κ.2.2.2.1 κ.2.2.2.2.2.1 (sR x) = va_rf (some (κ.2.2.2.1 + x.toNat)) := dn_w h2.1 h2.2
    have hne : ¬ some (κ.2.2.2.1 + x.toNat) = some (κ.2.2.1.2.1 200002) := fun q => by
      have q := Option.some.inj q
      have hA : ¬ ev_A κ.2.2.1 κ.2.2.2.1 (κ.2.2.1.2.1 200002) := hF.2.2.2.2.2.2.2.2.2.1.out
      have h3 := hκ.1.2.2.1
      exact hA (by rw [← q]; exact ⟨Nat.le_add_right _ _, by rw [h3]; omega⟩)
    rw [List.map_cons, List.map_cons, e9, e8]
    obtain ⟨off, ⟨dd, g, e1⟩ | ⟨dd, g, e1⟩⟩ := hok.1 op_18
    · dsimp only at e1
      subst e1
      exact lv_acmp_eq hx hbb dd g (fun q => absurd q hne) (fun _ => go)
    · exact lv_acmp_ne hx hbb dd g (fun _ => go) (fun q => absurd q hne)
theorem g2_acmpC (hc : M.2.2.2.2 pc = (18, (nx, (a, (b, (c', tg)))))) (k1 : G2 κ im M t d n0 s0 X b loc r S) : G2 κ im M t d n0 s0 X pc loc (sR 2200003 :: sR 2200003 :: r) S := by
  refine g2_mp (pc2 := b) (st2 := r) (fun p9 e R s m args below meth c Q c9 s9 H locs ls hκ hF hE hR hsz hn hJ hS go => ?_) k1
  obtain ⟨hx, hbb, hml, ho, ht, hV, -⟩ := id hF.1
  have hok := hE pc
  rw [hc] at hok
  have e9 : ev_dn κ.2.2.1 κ.2.2.2.1 κ.2.2.2.2.2.1 (sR 2200003) = va_rf (some (κ.2.2.1.2.1 200003)) := dn_c (by omega)
  rw [List.map_cons, List.map_cons, e9]
  obtain ⟨off, ⟨dd, g, e1⟩ | ⟨dd, g, e1⟩⟩ := hok.1 op_18
  · exact lv_acmp_eq hx hbb dd g (fun _ => go) (fun q => absurd rfl q)
  · dsimp only at e1
    subst e1
    exact lv_acmp_ne hx hbb dd g (fun q => absurd rfl q) (fun _ => go)
/-! copies -/
def cpS (S : sS) (src sp dst dp n : Int) : sS := (S.1, (S.2.1, (S.2.2.1, (S.2.2.2.1, (fun x y => if x = dst ∧ dp ≤ y ∧ y < dp + n then S.2.2.2.2.1 src (sp + (y - dp)) else S.2.2.2.2.1 x y, S.2.2.2.2.2)))))
theorem ext_cpS {S : sS} {src sp dst dp n : Int} : EXT S (cpS S src sp dst dp n) := fun _ _ => ⟨rfl, rfl⟩
theorem sg_cpS {S : sS} {src sp dst dp n x y : Int} : sg (cpS S src sp dst dp n) x y = if x = dst ∧ dp ≤ y ∧ y < dp + n then sg S src (sp + (y - dp)) else sg S x y := rfl
theorem wf_cpS {κ : CX} {S : sS} {src sp dst dp n : Int} (h : WF2 κ S) (hp : dst < 1000000) (hv : ∀ y z, ty2 (sK S dst) y = ty2 (sK S src) z) : WF2 κ (cpS S src sp dst dp n) := by
  obtain ⟨⟨h1, h2⟩, ⟨f1, f2, f3, f4, f5, f6⟩, c1, c2, c3, c4⟩ := h
  refine ⟨⟨fun x y => ?_, h2⟩, ⟨f1, f2, f3, f4, fun x hx => ⟨(f5 x hx).1, (f5 x hx).2.1, fun y => ?_⟩, f6⟩, c1, c2, fun j => ?_, c4⟩
  · rw [sg_cpS]
    by_cases e : x = dst ∧ dp ≤ y ∧ y < dp + n
    · rw [if_pos e]
      have := h1 src (sp + (y - dp))
      show VT2 (ty2 (sK S x) y) _
      rw [e.1, hv y (sp + (y - dp))]
      exact this
    · rw [if_neg e]
      exact h1 x y
  · rw [sg_cpS, if_neg (by omega)]
    exact (f5 x hx).2.2 y
  · rw [sg_cpS, if_neg (by omega)]
    exact c3 j
/-- one cell of the world replaced -/
theorem cx_set {S S2 : sS} {i c9 s9 : Nat} {H H1 : Heap} (hJ : cxS κ (cW S c9 s9) H) (hi : (i : Int) < sn S) (hn : sn S ≤ 1000000) (h2 : sn S2 = sn S) (hC : ∀ j, j ≠ i → cC S2 j = cC S j) (h1 : ev_at κ.1 κ.2.1 κ.2.2.1 κ.2.2.2.1 κ.2.2.2.2.2.1 (κ.2.2.2.1 + i) (cC S2 i) H1) (hz : H1.size = H.size) (ho : ∀ x, x ≠ κ.2.2.2.1 + i → H1[x]? = H[x]?) : cxS κ (cW S2 c9 s9) H1 := by
  have hq : ev_get (cW S c9 s9).1 i = some (cC S i) := by
    show ev_get (cT S) i = _
    rw [cT_get, if_pos (by omega)]
  have g := ev_J_set (x := cT S2) (q' := cC S2 i) hJ hq (fun j => by
    show ev_get (cT S2) j = if j = i then some (cC S2 i) else ev_get (cT S) j
    rw [cT_get, cT_get]
    by_cases e : j = i
    · rw [if_pos e, e, if_pos (by omega)]
    · rw [if_neg e, hC j e]) h1 hz ho
  have e : (cW S2 c9 s9) = (cT S2, (cW S c9 s9).2) := by
    unfold cW
    rw [h2]
  rw [cxS, e]
  exact g
theorem cC_own {S : sS} {p : Int} (h0 : 0 ≤ p) (h1 : p < sn S) (h98 : ¬ sK S p = 98) : cC S p.toNat = (sK S p, ((sZ S p).toNat, mkR (sZ S p).toNat (fun j : Nat => dec2 (ty2 (sK S p) j) (sg S p j)))) := by
  have hp : ((p.toNat : Nat) : Int) = p := by omega
  unfold cC
  rw [hp, if_pos h1, if_neg h98]
theorem cC_cpS {S : sS} {src sp dst dp n : Int} {j : Nat} (h : ¬ (j : Int) = dst) : cC (cpS S src sp dst dp n) j = cC S j := by
  have hf : (fun i : Nat => dec2 (ty2 (sK S j) i) (sg (cpS S src sp dst dp n) j i)) = (fun i : Nat => dec2 (ty2 (sK S j) i) (sg S j i)) := by
    funext i
    rw [sg_cpS, if_neg (by omega)]
  unfold cC
  show (if (j : Int) < sn S then (if sK S j = 98 then _ else (sK S j, ((sZ S j).toNat, mkR (sZ S j).toNat (fun i : Nat => dec2 (ty2 (sK S j) i) (sg (cpS S src sp dst dp n) j i))))) else _) = _
  rw [hf]
  rfl
theorem cC_nS {S : sS} {k : Nat} {z : Int} {i : Nat} (e : ¬ (i : Int) = sn S) : cC (nS S k z) i = cC S i := by
  have e1 : sK (nS S k z) i = sK S i := by rw [sK_nS, if_neg e]
  have e2 : sZ (nS S k z) i = sZ S i := by rw [sZ_nS, if_neg e]
  have hf : (fun j : Nat => dec2 (ty2 (sK S i) j) (sg (nS S k z) i j)) = (fun j : Nat => dec2 (ty2 (sK S i) j) (sg S i j)) := by
    funext j
    rw [sg_nS, if_neg e]
  unfold cC
  rw [sn_nS, sb_nS, sc_nS, e1, e2, hf]
  by_cases h : (i : Int) < sn S
  · rw [if_pos (by omega), if_pos h]
  · rw [if_neg (by omega), if_neg h]
/-- what an array of ours looks like in the heap -/
theorem cx_arr {c9 s9 : Nat} {H : Heap} (hJ : cxS κ (cW S c9 s9) H) (h0 : 0 ≤ p) (h1 : p < sn S) (hn : sn S ≤ 1000000) (h20 : 20 ≤ sK S p) (h28 : sK S p ≤ 28) : H[κ.2.2.2.1 + p.toNat]? = some (arrV (κ.2.1 (sK S p)) (sZ S p).toNat (fun j : Nat => ev_dn κ.2.2.1 κ.2.2.2.1 κ.2.2.2.2.2.1 (dec2 (ty2 (sK S p) j) (sg S p j)))) := by
  obtain ⟨q, hq, e1, e2, e3⟩ := ws_cell (w := cW S c9 s9) ws_c h0 h1 hn (by omega)
  obtain ⟨-, g1⟩ := ev_J_arr hJ hq (by omega) (by omega)
  rw [g1, e1, e2]
  refine congrArg some (ev_arr_to (fun j hj => ?_))
  unfold ev_fv
  rw [e3 j (by omega)]
theorem toI_nn (h0 : 0 ≤ x) (h : x < 2147483648) : toI x = nI x.toNat ∧ (nI x.toNat).toNatClampNeg = x.toNat ∧ ¬ nI x.toNat < 0 ∧ (nI x.toNat).toInt = (x.toNat : Int) := by
  refine ⟨?_, nI_clamp (by omega), nI_pos (by omega), nI_toInt (by omega)⟩
  have := toI_n (n := x.toNat) (by omega)
  rw [show ((x.toNat : Nat) : Int) = x by omega] at this
  exact this
theorem by_fit0 : ∀ n : Nat, n < 256 → (narrow .byte (.int (nI (((n : Int) - 128) % 4294967296).toNat)) = .int (nI (((n : Int) - 128) % 4294967296).toNat) ∧ fits .byte (.int (nI (((n : Int) - 128) % 4294967296).toNat)) = true) := by decide +kernel
theorem by_fit (h : -128 ≤ v ∧ v < 128) : narrow .byte (.int (toI v)) = .int (toI v) ∧ fits .byte (.int (toI v)) = true := by
  have g := by_fit0 (v + 128).toNat (by omega)
  rw [show (((v + 128).toNat : Nat) : Int) - 128 = v by omega] at g
  exact g
theorem g2_copyB {src sp dst dp n : Int} {K : sS → Option (Int × sS)} (hc : M.2.2.2.2 pc = (56, (nx, (a, (b, (c', tg)))))) (hW : WF2 κ S) (hcs : Nat.ble (ev_cs r) 8 = true) (k : ∀ S1, WF2 κ S1 → EXT S S1 → G2 κ im M t d n0 s0 (K S1) nx loc r S1) :
    G2 κ im M t d n0 s0 (if sK S src = 21 ∧ (sK S dst = 21 ∧ dst < 1000000) ∧ (0 ≤ sp ∧ 0 ≤ dp ∧ 0 ≤ n) ∧ sp + n ≤ sZ S src ∧ dp + n ≤ sZ S dst then bnd (cpS S src sp dst dp n) K else none) pc loc (sI n :: sI dp :: sR dst :: sI sp :: sR src :: r) S := by
  refine g2_ck fun hk => ?_
  obtain ⟨k1, ⟨k2, hp⟩, ⟨p1, p2, p3⟩, b1, b2⟩ := hk
  obtain ⟨h2, h3⟩ := sf_real hW.2.1 (p := dst) (by omega) (by omega) (by omega)
  obtain ⟨-, h5, h6⟩ := sf_arr hW.2.1 (p := dst) (by omega) (by omega) h2 h3
  have hW2 : WF2 κ (cpS S src sp dst dp n) := wf_cpS hW hp (fun y z => by rw [k1, k2]; rfl)
  have hsz2 : sZ S src ≤ 65536 := by
    rcases wf_arr (p := src) hW (by omega) (by omega) with ⟨-, -, -, g⟩ | ⟨-, g, -⟩ | ⟨-, g1, g2, -⟩
    · exact g
    · omega
    · have := cz_bd (p := src) (by omega) (by omega)
      omega
  refine g2_mc (S2 := cpS S src sp dst dp n) ⟨Int.le_refl _, Int.le_refl _, ext_cpS⟩ (fun p9 e R s m args below meth c Q c9 s9 hκ hF hE _ hR hn go => ?_) (k _ hW2 ext_cpS)
  have hn : sn S ≤ 1000000 := hn
  rw [show sn (cpS S src sp dst dp n) = sn S from rfl, show ss (cpS S src sp dst dp n) = ss S from rfl, Int.sub_self, Int.sub_self] at go
  intro H locs ls hl hJ hS
  obtain ⟨hx, hbb, hml, ho, ht, hV, -⟩ := id hF.1
  have hok := hE pc
  rw [hc] at hok
  obtain ⟨ix, dd, e1, w1, w2, w3, w4⟩ := hok.2
  dsimp only at dd e1 w1
  subst e1
  have g1 := cx_arr hJ h2 h3 hn (by omega) (by omega)
  rw [k2] at g1
  have hA1 := (ev_tys_of hV (k := 21) (Or.inr (Or.inl rfl))).1
  obtain ⟨-, kk1, hk1, cm1, hkk1⟩ := hA1 (sZ S dst).toNat (fun j : Nat => ev_dn κ.2.2.1 κ.2.2.2.1 κ.2.2.2.2.2.1 (dec2 (ty2 21 j) (sg S dst j)))
  have hkk1 : kk1.kind = .array cm1 .byte := hkk1
  have hsrc : ∃ (as : Nat) (cs : Cell), ev_dn κ.2.2.1 κ.2.2.2.1 κ.2.2.2.2.2.1 (sR src) = .ref as ∧ H[as]? = some cs ∧ s.isArrayOf cs .byte ∧ cs.vm ≠ .unknown ∧ (sZ S src).toNat ≤ cs.slots.size ∧ ∀ j : Nat, j < (sZ S src).toNat → cs.slots[j]? = some (.int (toI (sg S src j))) := by
    rcases wf_arr (p := src) hW (by omega) (by omega) with ⟨⟨q1, q2⟩, -, -, -⟩ | ⟨-, g, -⟩ | ⟨q1, q2, q3, q4⟩
    · have g0 := cx_arr hJ q1 q2 hn (by omega) (by omega)
      rw [k1] at g0
      refine ⟨_, _, dn_w q1 (by omega), g0, hA1 _ _, (fun z => by cases z), by rw [arrV_size]; exact Nat.le_refl _, fun j hj => ?_⟩
      rw [arrV_read _ _ hj]
      rfl
    · omega
    · obtain ⟨ty, f, hT, hf⟩ := cz_arr hF.2.2.2 (p := src) (by omega) (by omega)
      obtain ⟨rfl, hf2⟩ := hf (by omega)
      obtain ⟨cell, z1, z2, z3, z4, z5, z6, z7⟩ := hT.kept hS.2.1
      refine ⟨_, cell, dn_c q1, z1, z2, z3, by rw [q3]; exact z4, fun j hj => ?_⟩
      rw [z6 j (by rw [q3] at hj; exact hj), hf2 j (by omega), q4]
  obtain ⟨as, cs, es, c1, c2, c3, c4, c5⟩ := hsrc
  obtain ⟨hs6, kk0, hk0, cm0, hkk0⟩ := c2
  obtain ⟨en, en2, en3, en4⟩ := toI_nn (x := n) p3 (by omega)
  obtain ⟨esp, esp2, esp3, esp4⟩ := toI_nn (x := sp) p1 (by omega)
  obtain ⟨edp, edp2, edp3, edp4⟩ := toI_nn (x := dp) p2 (by omega)
  have hk8 := ev_cs_ok (b := κ.2.2.1) (B0 := κ.2.2.2.1) (σ := κ.2.2.2.2.2.1) r
  have hk9 := Nat.le_of_ble_eq_true hcs
  simp only [List.map_cons, dn_i, es, dn_w h2 hp, en, esp, edp]
  intro T hT X
  obtain ⟨vm', X', step⟩ := X.arraycopy hx ho (ht _ w1) (ht _ w2) (ht _ w3) (ht _ w4) (src := as) (dst := κ.2.2.2.1 + dst.toNat) (cs := cs) (cd := arrV (κ.2.1 21) (sZ S dst).toNat (fun j : Nat => ev_dn κ.2.2.1 κ.2.2.2.1 κ.2.2.2.2.2.1 (dec2 (ty2 21 j) (sg S dst j)))) (srcPos := nI sp.toNat) (destPos := nI dp.toNat) (n := nI n.toNat) (by rw [hT]; exact c1) (by rw [hT]; exact g1)
    hs6 (fun _ h => by cases h) c3 (fun h => by cases h) hk0 hk1 hkk0 hkk1 (by simp [refKind]) esp3 edp3 en3
    (by rw [esp4, en4]; omega) (by rw [edp4, en4, arrV_size]; omega)
    (fun vm₁ _ i hi => by
      rw [en2] at hi
      have e : cs.slots.getD ((nI sp.toNat).toNatClampNeg + i) .null = .int (toI (sg S src ((sp.toNat + i : Nat) : Int))) := by
        rw [esp2, Array.getD_eq_getD_getElem?, c5 _ (by omega)]
        rfl
      refine ⟨?_, ?_⟩
      · rw [e]
        have hv := hW.1.1 src ((sp.toNat + i : Nat) : Int)
        rw [k1] at hv
        exact (by_fit hv).2
      · rw [e]
        exact trivial)
    (g := F0 m pc ls (.int (nI n.toNat) :: .int (nI dp.toNat) :: .ref (κ.2.2.2.1 + dst.toNat) :: .int (nI sp.toNat) :: .ref as :: r.map (ev_dn κ.2.2.1 κ.2.2.2.1 κ.2.2.2.2.2.1))) rfl (by rw [hml]; exact hl.1) (rest := r.map (ev_dn κ.2.2.1 κ.2.2.2.1 κ.2.2.2.2.2.1)) rfl (by rw [hbb]; exact dd) (by omega) (by
      have : nativeFrameWords "java/lang/System" "arraycopy" 5 + 11 ≤ 90 := by decide +kernel
      show 2 * 0 + _ + _ ≤ _
      omega)
  have ecop : copied cs (arrV (κ.2.1 21) (sZ S dst).toNat (fun j : Nat => ev_dn κ.2.2.1 κ.2.2.2.1 κ.2.2.2.2.2.1 (dec2 (ty2 21 j) (sg S dst j)))) (nI sp.toNat) (nI dp.toNat) (nI n.toNat) = arrV (κ.2.1 21) (sZ S dst).toNat (fun j : Nat => ev_dn κ.2.2.1 κ.2.2.2.1 κ.2.2.2.2.2.1 (dec2 (ty2 21 j) (sg (cpS S src sp dst dp n) dst j))) := by
    have h9 := va_copiedX (fun z : Int32 => Value.int z) cs (κ.2.1 21) (n0 := (sZ S src).toNat) (n1 := (sZ S dst).toNat) (sp := (nI sp.toNat).toNatClampNeg) (dp := (nI dp.toNat).toNatClampNeg) (n := (nI n.toNat).toNatClampNeg) (fun j => toI (sg S src j)) (fun j => toI (sg S dst j)) c5 (by rw [esp2, en2]; omega)
    refine h9.trans (ev_arr_to fun j hj => ?_)
    show Value.int (va_cpy _ _ _ _ _ j) = Value.int (toI (sg (cpS S src sp dst dp n) dst j))
    rw [sg_cpS]
    unfold va_cpy
    rw [esp2, edp2, en2]
    by_cases hjn : dp ≤ (j : Int) ∧ (j : Int) < dp + n
    · rw [if_pos ⟨by omega, by omega⟩, if_pos ⟨rfl, hjn⟩]
      show Value.int (toI (sg S src ((sp.toNat + (j - dp.toNat) : Nat) : Int))) = _
      rw [show ((sp.toNat + (j - dp.toNat) : Nat) : Int) = sp + ((j : Int) - dp) by omega]
    · rw [if_neg (by omega), if_neg (fun z => hjn z.2)]
  rw [ecop] at X' step
  generalize hnew : arrV (κ.2.1 21) (sZ S dst).toNat (fun j : Nat => ev_dn κ.2.2.1 κ.2.2.2.1 κ.2.2.2.2.2.1 (dec2 (ty2 21 j) (sg (cpS S src sp dst dp n) dst j))) = newc at X' step
  have hlt : κ.2.2.2.1 + dst.toNat < H.size := (Array.getElem?_eq_some_iff.mp g1).1
  have oq : ∀ y : Nat, y ≠ κ.2.2.2.1 + dst.toNat → (H.setIfInBounds (κ.2.2.2.1 + dst.toNat) newc)[y]? = H[y]? := fun y hy => by simp [Array.getElem?_setIfInBounds, Ne.symm hy]
  have hself : (H.setIfInBounds (κ.2.2.2.1 + dst.toNat) newc)[κ.2.2.2.1 + dst.toNat]? = some newc := by simp [Array.getElem?_setIfInBounds, hlt]
  have hzz : (H.setIfInBounds (κ.2.2.2.1 + dst.toNat) newc).size = H.size := by simp
  have hC9 : cC (cpS S src sp dst dp n) dst.toNat = (21, ((sZ S dst).toNat, mkR (sZ S dst).toNat (fun j : Nat => dec2 (ty2 21 j) (sg (cpS S src sp dst dp n) dst j)))) := by
    have := cC_own (S := cpS S src sp dst dp n) (p := dst) h2 h3 (by show ¬ sK S dst = 98; omega)
    rw [show sK (cpS S src sp dst dp n) dst = 21 from k2, show sZ (cpS S src sp dst dp n) dst = sZ S dst from rfl] at this
    exact this
  have hJ2 : cxS κ (cW (cpS S src sp dst dp n) c9 s9) (H.setIfInBounds (κ.2.2.2.1 + dst.toNat) newc) := by
    refine cx_set hJ (i := dst.toNat) (by omega) hn rfl (fun j hj => cC_cpS (by omega)) ?_ hzz oq
    rw [hC9]
    refine Or.inr (Or.inr ⟨Or.inr (Or.inl rfl), (show (20 : Nat) ≤ 21 by decide), ?_⟩)
    rw [hself, ← hnew]
    refine congrArg some (ev_arr_to (fun j hj => ?_))
    dsimp only
    unfold ev_fv
    rw [mkR_get, if_pos (by omega)]
  obtain ⟨tt, a1, b1⟩ := go (H.setIfInBounds (κ.2.2.2.1 + dst.toNat) newc) _ ls hl hJ2 ⟨by rw [hzz]; exact hS.1, fun y z1 z2 => by
    rw [oq y (fun e => z2 (by rw [e]; exact ⟨Nat.le_add_right _ _, by rw [hκ.1.2.2.1]; omega⟩))]
    exact hS.2.1 y z1 z2, fun y hy => by
    rcases List.mem_append.mp hy with h | h
    · exact hS.2.2 y h
    · obtain ⟨z, -, hz⟩ := List.mem_map.mp h
      rw [← hz]
      exact ⟨Nat.le_add_right _ _, by rw [hκ.1.2.2.1]; show κ.2.2.2.1 + dst.toNat < _; omega⟩⟩ ((T.setVm vm').setCell (κ.2.2.2.1 + dst.toNat) newc) (by rw [← hT]; rfl) X'
  exact ⟨tt, step tt a1, b1⟩
theorem g2_copyA {src sp dst dp n : Int} {K : sS → Option (Int × sS)} (hc : M.2.2.2.2 pc = (56, (nx, (a, (b, (c', tg)))))) (hcw : Cond.castable RX7 "java/lang/Object" ∈ lw_tbl) (hW : WF2 κ S) (hcs : Nat.ble (ev_cs r) 8 = true) (k : ∀ S1, WF2 κ S1 → EXT S S1 → G2 κ im M t d n0 s0 (K S1) nx loc r S1) :
    G2 κ im M t d n0 s0 (if (sK S src = 26 ∧ src < 1000000) ∧ (sK S dst = 26 ∧ dst < 1000000) ∧ (0 ≤ sp ∧ 0 ≤ dp ∧ 0 ≤ n) ∧ sp + n ≤ sZ S src ∧ dp + n ≤ sZ S dst ∧ (∀ i : Nat, i < n.toNat → sg S src (sp + i) = -1 ∨ sK S (sg S src (sp + i)) = 7) then bnd (cpS S src sp dst dp n) K else none) pc loc (sI n :: sI dp :: sR dst :: sI sp :: sR src :: r) S := by
  refine g2_ck fun hk => ?_
  obtain ⟨⟨k1, hps⟩, ⟨k2, hp⟩, ⟨p1, p2, p3⟩, b1, b2, hel⟩ := hk
  obtain ⟨q1, q2⟩ := sf_real hW.2.1 (p := src) (by omega) (by omega) (by omega)
  obtain ⟨-, q5, q6⟩ := sf_arr hW.2.1 (p := src) (by omega) (by omega) q1 q2
  obtain ⟨h2, h3⟩ := sf_real hW.2.1 (p := dst) (by omega) (by omega) (by omega)
  obtain ⟨-, h5, h6⟩ := sf_arr hW.2.1 (p := dst) (by omega) (by omega) h2 h3
  have hW2 : WF2 κ (cpS S src sp dst dp n) := wf_cpS hW hp (fun y z => by rw [k1, k2]; rfl)
  refine g2_mc (S2 := cpS S src sp dst dp n) ⟨Int.le_refl _, Int.le_refl _, ext_cpS⟩ (fun p9 e R s m args below meth c Q c9 s9 hκ hF hE _ hR hn go => ?_) (k _ hW2 ext_cpS)
  have hn : sn S ≤ 1000000 := hn
  rw [show sn (cpS S src sp dst dp n) = sn S from rfl, show ss (cpS S src sp dst dp n) = ss S from rfl, Int.sub_self, Int.sub_self] at go
  intro H locs ls hl hJ hS
  obtain ⟨hx, hbb, hml, ho, ht, hV, -⟩ := id hF.1
  have hok := hE pc
  rw [hc] at hok
  obtain ⟨ix, dd, e1, w1, w2, w3, w4⟩ := hok.2
  dsimp only at dd e1 w1
  subst e1
  have g1 := cx_arr hJ h2 h3 hn (by omega) (by omega)
  rw [k2] at g1
  have hA1 := (ev_tys_of hV (k := 26) (Or.inr (Or.inr (Or.inr (Or.inr (Or.inl rfl)))))).1
  obtain ⟨-, kk1, hk1, cm1, hkk1⟩ := hA1 (sZ S dst).toNat (fun j : Nat => ev_dn κ.2.2.1 κ.2.2.2.1 κ.2.2.2.2.2.1 (dec2 (ty2 26 j) (sg S dst j)))
  have g0 := cx_arr hJ q1 q2 hn (by omega) (by omega)
  rw [k1] at g0
  obtain ⟨-, kk0, hk0, cm0, hkk0⟩ := hA1 (sZ S src).toNat (fun j : Nat => ev_dn κ.2.2.1 κ.2.2.2.1 κ.2.2.2.2.2.1 (dec2 (ty2 26 j) (sg S src j)))
  obtain ⟨-, hRA⟩ := ev_tys_of hV (k := 26) (Or.inr (Or.inr (Or.inr (Or.inr (Or.inl rfl)))))
  have hcls := (hV.1.1 7 (RX7, TX7, 13) rfl).2
  obtain ⟨en, en2, en3, en4⟩ := toI_nn (x := n) p3 (by omega)
  obtain ⟨esp, esp2, esp3, esp4⟩ := toI_nn (x := sp) p1 (by omega)
  obtain ⟨edp, edp2, edp3, edp4⟩ := toI_nn (x := dp) p2 (by omega)
  have hk8 := ev_cs_ok (b := κ.2.2.1) (B0 := κ.2.2.2.1) (σ := κ.2.2.2.2.2.1) r
  have hk9 := Nat.le_of_ble_eq_true hcs
  simp only [List.map_cons, dn_i, dn_w q1 hps, dn_w h2 hp, en, esp, edp]
  intro T hT X
  obtain ⟨vm', X', step⟩ := X.arraycopy hx ho (ht _ w1) (ht _ w2) (ht _ w3) (ht _ w4) (src := κ.2.2.2.1 + src.toNat) (dst := κ.2.2.2.1 + dst.toNat) (cs := arrV (κ.2.1 26) (sZ S src).toNat (fun j : Nat => ev_dn κ.2.2.1 κ.2.2.2.1 κ.2.2.2.2.2.1 (dec2 (ty2 26 j) (sg S src j)))) (cd := arrV (κ.2.1 26) (sZ S dst).toNat (fun j : Nat => ev_dn κ.2.2.1 κ.2.2.2.1 κ.2.2.2.2.2.1 (dec2 (ty2 26 j) (sg S dst j)))) (srcPos := nI sp.toNat) (destPos := nI dp.toNat) (n := nI n.toNat) (by rw [hT]; exact g0) (by rw [hT]; exact g1)
    (fun _ h => by cases h) (fun _ h => by cases h) (fun h => by cases h) (fun h => by cases h) hk0 hk1 hkk0 hkk1 rfl esp3 edp3 en3
    (by rw [esp4, en4, arrV_size]; omega) (by rw [edp4, en4, arrV_size]; omega)
    (fun vm₁ hal i hi => by
      rw [en2] at hi
      have e : (arrV (κ.2.1 26) (sZ S src).toNat (fun j : Nat => ev_dn κ.2.2.1 κ.2.2.2.1 κ.2.2.2.2.2.1 (dec2 (ty2 26 j) (sg S src j)))).slots.getD ((nI sp.toNat).toNatClampNeg + i) .null = ev_dn κ.2.2.1 κ.2.2.2.1 κ.2.2.2.2.2.1 (sR (sg S src (sp + i))) := by
        rw [esp2, Array.getD_eq_getD_getElem?, arrV_read _ _ (by omega), show ((sp.toNat + i : Nat) : Int) = sp + i by omega]
        rfl
      rw [e]
      rcases hel i hi with h7 | h7
      · rw [h7, dn_n]
        exact ⟨rfl, trivial⟩
      · have hv7 : RfO (sg S src (sp + i)) := by
          have := hW.1.1 src (sp + i)
          rw [k1] at this
          exact this
        generalize sg S src (sp + i) = y at h7 hv7
        obtain ⟨v2, v3⟩ := sf_real hW.2.1 (p := y) (by omega) (by have := hv7.2; omega) (by have := hv7.2; omega)
        obtain ⟨u, hu, u1, u2, u3⟩ := ws_cell (w := cW S c9 s9) ws_c v2 v3 hn (by omega)
        have hci : vwCl[u.1]? = some (RX7, TX7, 13) := by rw [u1, h7]; rfl
        obtain ⟨hx9', cellV, f1, f2, f3, -⟩ := ev_J_obj hJ hu hci
        rw [u1, h7] at f2
        obtain ⟨kA, comp, r1, r2, r3, -⟩ := hRA
        cases hk1.symm.trans r1
        cases hkk1.symm.trans r2
        obtain ⟨kC, hkC, -⟩ := hcls.2
        obtain ⟨kE, hkE, -⟩ := Vm.findClass_spec r3
        obtain ⟨kC', hkC', -⟩ := hal.2.2 _ _ hkC
        obtain ⟨kE', hkE', -⟩ := hal.2.2 _ _ hkE
        obtain ⟨c0, t1, m1, m2, m3⟩ := Cond.castable_spec (va_Nw.use (A := args) rfl (hV.2.1 _ hcw rfl))
        cases hcls.1.symm.trans m1
        cases r3.symm.trans m2
        rw [dn_w v2 (by have := hv7.2; omega)]
        refine ⟨rfl, cellV, (show T.heap[κ.2.2.2.1 + y.toNat]? = some cellV by rw [hT]; exact f1), (fun q h => by rw [f3] at h; cases h), ⟨kC', by rw [f2]; exact hkC'⟩, ?_, ?_⟩
        · exact ⟨kE', hkE'⟩
        · show vm₁.assignable _ _ = true
          rw [hal.assignable, f2]
          exact m3)
    (g := F0 m pc ls (.int (nI n.toNat) :: .int (nI dp.toNat) :: .ref (κ.2.2.2.1 + dst.toNat) :: .int (nI sp.toNat) :: .ref (κ.2.2.2.1 + src.toNat) :: r.map (ev_dn κ.2.2.1 κ.2.2.2.1 κ.2.2.2.2.2.1))) rfl (by rw [hml]; exact hl.1) (rest := r.map (ev_dn κ.2.2.1 κ.2.2.2.1 κ.2.2.2.2.2.1)) rfl (by rw [hbb]; exact dd) (by omega) (by
      have : nativeFrameWords "java/lang/System" "arraycopy" 5 + 11 ≤ 90 := by decide +kernel
      show 2 * 0 + _ + _ ≤ _
      omega)
  have ecop : copied (arrV (κ.2.1 26) (sZ S src).toNat (fun j : Nat => ev_dn κ.2.2.1 κ.2.2.2.1 κ.2.2.2.2.2.1 (dec2 (ty2 26 j) (sg S src j)))) (arrV (κ.2.1 26) (sZ S dst).toNat (fun j : Nat => ev_dn κ.2.2.1 κ.2.2.2.1 κ.2.2.2.2.2.1 (dec2 (ty2 26 j) (sg S dst j)))) (nI sp.toNat) (nI dp.toNat) (nI n.toNat) = arrV (κ.2.1 26) (sZ S dst).toNat (fun j : Nat => ev_dn κ.2.2.1 κ.2.2.2.1 κ.2.2.2.2.2.1 (dec2 (ty2 26 j) (sg (cpS S src sp dst dp n) dst j))) := by
    have h9 := va_copied (fun z : Value => z) (κ.2.1 26) (κ.2.1 26) (n0 := (sZ S src).toNat) (n1 := (sZ S dst).toNat) (sp := (nI sp.toNat).toNatClampNeg) (dp := (nI dp.toNat).toNatClampNeg) (n := (nI n.toNat).toNatClampNeg) (fun j : Nat => ev_dn κ.2.2.1 κ.2.2.2.1 κ.2.2.2.2.2.1 (dec2 (ty2 26 j) (sg S src j))) (fun j : Nat => ev_dn κ.2.2.1 κ.2.2.2.1 κ.2.2.2.2.2.1 (dec2 (ty2 26 j) (sg S dst j))) (by rw [esp2, en2]; omega)
    refine h9.trans (ev_arr_to fun j hj => ?_)
    show va_cpy _ _ _ _ _ j = ev_dn κ.2.2.1 κ.2.2.2.1 κ.2.2.2.2.2.1 (sR (sg (cpS S src sp dst dp n) dst j))
    rw [sg_cpS]
    unfold va_cpy
    rw [esp2, edp2, en2]
    by_cases hjn : dp ≤ (j : Int) ∧ (j : Int) < dp + n
    · rw [if_pos ⟨by omega, by omega⟩, if_pos ⟨rfl, hjn⟩]
      show ev_dn κ.2.2.1 κ.2.2.2.1 κ.2.2.2.2.2.1 (sR (sg S src ((sp.toNat + (j - dp.toNat) : Nat) : Int))) = _
      rw [show ((sp.toNat + (j - dp.toNat) : Nat) : Int) = sp + ((j : Int) - dp) by omega]
    · rw [if_neg (by omega), if_neg (fun z => hjn z.2)]
      rfl
  rw [ecop] at X' step
  generalize hnew : arrV (κ.2.1 26) (sZ S dst).toNat (fun j : Nat => ev_dn κ.2.2.1 κ.2.2.2.1 κ.2.2.2.2.2.1 (dec2 (ty2 26 j) (sg (cpS S src sp dst dp n) dst j))) = newc at X' step
  have hlt : κ.2.2.2.1 + dst.toNat < H.size := (Array.getElem?_eq_some_iff.mp g1).1
  have oq : ∀ y : Nat, y ≠ κ.2.2.2.1 + dst.toNat → (H.setIfInBounds (κ.2.2.2.1 + dst.toNat) newc)[y]? = H[y]? := fun y hy => by simp [Array.getElem?_setIfInBounds, Ne.symm hy]
  have hself : (H.setIfInBounds (κ.2.2.2.1 + dst.toNat) newc)[κ.2.2.2.1 + dst.toNat]? = some newc := by simp [Array.getElem?_setIfInBounds, hlt]
  have hzz : (H.setIfInBounds (κ.2.2.2.1 + dst.toNat) newc).size = H.size := by simp
  have hC9 : cC (cpS S src sp dst dp n) dst.toNat = (26, ((sZ S dst).toNat, mkR (sZ S dst).toNat (fun j : Nat => dec2 (ty2 26 j) (sg (cpS S src sp dst dp n) dst j)))) := by
    have := cC_own (S := cpS S src sp dst dp n) (p := dst) h2 h3 (by show ¬ sK S dst = 98; omega)
    rw [show sK (cpS S src sp dst dp n) dst = 26 from k2, show sZ (cpS S src sp dst dp n) dst = sZ S dst from rfl] at this
    exact this
  have hJ2 : cxS κ (cW (cpS S src sp dst dp n) c9 s9) (H.setIfInBounds (κ.2.2.2.1 + dst.toNat) newc) := by
    refine cx_set hJ (i := dst.toNat) (by omega) hn rfl (fun j hj => cC_cpS (by omega)) ?_ hzz oq
    rw [hC9]
    refine Or.inr (Or.inr ⟨Or.inr (Or.inr (Or.inr (Or.inr (Or.inl rfl)))), (show (20 : Nat) ≤ 26 by decide), ?_⟩)
    rw [hself, ← hnew]
    refine congrArg some (ev_arr_to (fun j hj => ?_))
    dsimp only
    unfold ev_fv
    rw [mkR_get, if_pos (by omega)]
  obtain ⟨tt, a1, b1⟩ := go (H.setIfInBounds (κ.2.2.2.1 + dst.toNat) newc) _ ls hl hJ2 ⟨by rw [hzz]; exact hS.1, fun y z1 z2 => by
    rw [oq y (fun e => z2 (by rw [e]; exact ⟨Nat.le_add_right _ _, by rw [hκ.1.2.2.1]; omega⟩))]
    exact hS.2.1 y z1 z2, fun y hy => by
    rcases List.mem_append.mp hy with h | h
    · exact hS.2.2 y h
    · obtain ⟨z, -, hz⟩ := List.mem_map.mp h
      rw [← hz]
      exact ⟨Nat.le_add_right _ _, by rw [hκ.1.2.2.1]; show κ.2.2.2.1 + dst.toNat < _; omega⟩⟩ ((T.setVm vm').setCell (κ.2.2.2.1 + dst.toNat) newc) (by rw [← hT]; rfl) X'
  exact ⟨tt, step tt a1, b1⟩
/-! fields by other names, bytes -/
theorem g2_putm (hW : WF2 κ S) (hk : sK S p = a ∧ p < 1000000) (ha : a < 13) (hb : b < nf a) (hv : VT2 (ty2 a b) v)
    (h : ∀ (args : Array Value) (s : State), (∀ x ∈ ev_wm im M.1, x.before args s = true) → ECk κ im M → ∃ (ix : Nat) (C : String) (T : u_T) (N : Nat) (ty0 : Nat → FieldType), vwCl[a]? = some (C, T, N) ∧ b < N ∧ (narrow (ty0 b) (ev_dn κ.2.2.1 κ.2.2.2.1 κ.2.2.2.2.2.1 (dec2 (ty2 a b) v)) = ev_dn κ.2.2.1 κ.2.2.2.1 κ.2.2.2.2.2.1 (dec2 (ty2 a b) v) ∧ fits (ty0 b) (ev_dn κ.2.2.1 κ.2.2.2.1 κ.2.2.2.2.2.1 (dec2 (ty2 a b) v)) = true) ∧ decode im.2.1 pc = .ok (.putfield ix, 3) ∧ nx = pc + 3 ∧ (∀ x ∈ u_ws C T N, x ∈ ev_wm im M.1) ∧ (∀ k, k < N → parseFieldDescriptor (T k).2.2.1 = some (ty0 k)) ∧ (∀ x, x < N → ∀ y, y < N → x ≠ y → (T x).2.1 ≠ (T y).2.1) ∧ (((T b).2.2.2 = false ∧ ∃ ref, (Cond.fieldLink im.1.cls ix ref (T b).2.1 (T b).2.2.1).before args s = true ∧ ∀ x, s.fieldFound? (T b).1 (T b).2.1 (T b).2.2.1 = some x → s.fieldFound? ref (T b).2.1 (T b).2.2.1 = some x) ∨ ((T b).2.2.2 = true ∧ im.1.name = "<init>" ∧ (T b).1 = im.1.cls ∧ (Cond.fieldLink im.1.cls ix (T b).1 (T b).2.1 (T b).2.2.1).before args s = true)))
    (k : G2 κ im M t d n0 s0 X nx loc r (uS S p b v)) : G2 κ im M t d n0 s0 X pc loc (dec2 (ty2 a b) v :: sR p :: r) S := by
  obtain ⟨hk, hp⟩ := hk
  obtain ⟨h2, h3⟩ := sf_real hW.2.1 (p := p) (by omega) (by omega) (by omega)
  obtain ⟨h4, h5⟩ := sf_obj hW.2.1 hk ha h2 h3
  have hW2 : WF2 κ (uS S p b v) := wf_uS hW hp (by rw [hk]; exact hv)
  refine g2_mc (S2 := uS S p b v) ⟨Int.le_refl _, Int.le_refl _, ext_uS⟩ (fun p9 e R s m args below meth c Q c9 s9 hκ hF hE _ hR hn go => ?_) k
  have hn : sn S ≤ 1000000 := hn
  obtain ⟨q, hq, e1, e2, d9, x9, e3, e4, g6, -⟩ := ws_upd (w := cW S c9 s9) (b := b) (v := v) ws_c h2 h3 hn (by omega) (by omega)
  rw [hk] at e3
  have go2 := ws_Go (w := (x9, (cW S c9 s9).2)) (c9 := c9) (s9 := s9) g6 hW2.2.1 rfl (by
    have go := go
    rw [show sn (uS S p b v) = sn S from rfl, show ss (uS S p b v) = ss S from rfl, Int.sub_self, Int.sub_self] at go
    exact go)
  intro H locs ls hl hJ hS
  obtain ⟨hx, hbb, -, ho, ht9, hV, -⟩ := id hF.1
  obtain ⟨ix, C, T, N, ty0, hcl, hN, hfit, dd, e5, hin, hty, hnm, hlks⟩ := h args s ht9 hE
  subst e5
  have hc' : vwCl[q.1]? = some (C, T, N) := by rw [e1, hk]; exact hcl
  obtain ⟨hi, cell, q1, q2, q3, q4⟩ := ev_J_obj hJ hq hc'
  have hap := va_apart (own := im.1.cls) ht9 hin ty0 hty hnm hV.1 hc'
  obtain ⟨hS9, hfc, kC, hkC, hkind⟩ := hV.1.1 q.1 _ hc'
  obtain ⟨cf, kf, fi, f, hif, hsl⟩ := hS9 b hN
  have hst := (u_facts hfc hkC (u_lays ht9 hin hN) hif).1
  have hd := hty b hN
  have hlay := ht9 _ (hin _ (u_in_lay hN))
  unfold u_lay at hlay
  have hslot : f.slot < cell.slots.size := by rw [hsl]; exact k2_hasslot (q4 b hN)
  rw [List.map_cons, List.map_cons, dn_w h2 (by omega)]
  have fin : ∀ H' : Heap, H'[κ.2.2.2.1 + p.toNat]? = some (cell.setSlot f.slot (ev_dn κ.2.2.1 κ.2.2.2.1 κ.2.2.2.2.2.1 (dec2 (ty2 a b) v))) → H'.size = H.size → (∀ q, q ≠ κ.2.2.2.1 + p.toNat → H'[q]? = H[q]?) →
      W p9 κ.2.2.2.2.2.2.1 e R s m args below meth c H' (locs ++ [⟨κ.2.2.2.1 + p.toNat, f.slot⟩]) c9 s9 Q (F0 m (pc + 3) ls (r.map (ev_dn κ.2.2.1 κ.2.2.2.1 κ.2.2.2.2.2.1))) := by
    intro H' g1 g2 g3
    rw [hsl] at g1
    refine go2 H' _ ls hl (ev_J_set hJ hq e4 (Or.inr (Or.inl ⟨_, hc', ?_⟩)) g2 g3) (ev_S_put hS g2 g3 (ev_J_A hJ hq))
    rw [ev_fv_set e3]
    exact ⟨_, g1, q2, q3, t_set q4 hap hN _⟩
  rcases hlks with ⟨hfin, ref, hlk, hsame⟩ | ⟨hfin, hini, hown2, hlk⟩
  · rw [if_neg (by rw [hfin]; decide)] at hlay
    have h6 := u_store hfc hkC hkind hlay hif hd hfit.1 hfit.2
    exact W.putK hx hbb (f := f) ⟨ho, hlk, ⟨_, _, _, hsame _ hif⟩, hst⟩ (by rw [q2]; exact h6) q1 q3 hslot rfl rfl dd fin
  · rw [if_pos hfin] at hlay
    have hcf : m.cls = cf := by
      obtain ⟨_, _, c', _, _, _, -, -, hf', -, -, -, hown3, -⟩ := Cond.laysFinal_spec hlay
      have e1 : c' = cf := by have := hif.symm.trans hf'; simp at this; exact this.1.symm
      rw [hown2] at hown3
      rw [← e1]; exact Option.some.inj (ho.symm.trans hown3)
    have h6 := u_fits hfc hkC hkind (Or.inr hlay) hif hd hfit.1 hfit.2
    exact W.putFinK hx hbb ho hlk hif hst hcf (hF.2.1.trans hini) (by rw [q2]; exact h6) q1 q3 hslot rfl rfl dd fin
theorem g2_put65 {K : sS → Option (Int × sS)} (hc : M.2.2.2.2 pc = (65, (nx, (a, (b, (c', tg)))))) (hW : WF2 κ S) (h : a < 13 ∧ b < nf a ∧ ty2 a b = 0) (k : ∀ S1, WF2 κ S1 → EXT S S1 → G2 κ im M t d n0 s0 (K S1) nx loc r S1) :
    G2 κ im M t d n0 s0 (if (sK S p = a ∧ p < 1000000) ∧ -128 ≤ v ∧ v < 128 then bnd (uS S p b v) K else none) pc loc (sI v :: sR p :: r) S := by
  refine g2_ck fun hk => ?_
  have hv : InR v := by unfold InR; omega
  have g := g2_putm (M := M) (im := im) (κ := κ) (pc := pc) (nx := nx) (loc := loc) (t := t) (d := d) (n0 := n0) (s0 := s0) (r := r) (X := bnd (uS S p b v) K) hW hk.1 h.1 h.2.1 (v := v) (by rw [h.2.2]; exact hv) (fun args s ht hE => by
    have hok := hE pc
    rw [hc] at hok
    obtain ⟨ix, C, T, N, ty0, dd, e1, hcl, hN, hin, hlk, hty, hnm, hty0, hfin⟩ := hok.2
    dsimp only at hcl dd e1
    refine ⟨ix, C, T, N, ty0, hcl, hN, ?_, dd, e1, hin, hty, hnm, hfin.imp (fun h => ⟨h, _, ht _ hlk, fun x hx => hx⟩) (fun h => ⟨h.1, h.2.1, h.2.2, ht _ hlk⟩)⟩
    rw [hty0, h.2.2]
    exact by_fit hk.2) (k _ (wf_uS hW hk.1.2 (by rw [hk.1.1, h.2.2]; exact hv)) ext_uS)
  rw [h.2.2] at g
  exact g
theorem g2_put67 {K : sS → Option (Int × sS)} (hc : M.2.2.2.2 pc = (67, (nx, (a, (b, (c', tg)))))) (hW : WF2 κ S) (h : a < 13 ∧ b < nf a ∧ ty2 a b = 0) (hv : InR v) (k : ∀ S1, WF2 κ S1 → EXT S S1 → G2 κ im M t d n0 s0 (K S1) nx loc r S1) :
    G2 κ im M t d n0 s0 (if sK S p = a ∧ p < 1000000 then bnd (uS S p b v) K else none) pc loc (sI v :: sR p :: r) S := by
  refine g2_ck fun hk => ?_
  have g := g2_putm (M := M) (im := im) (κ := κ) (pc := pc) (nx := nx) (loc := loc) (t := t) (d := d) (n0 := n0) (s0 := s0) (r := r) (X := bnd (uS S p b v) K) hW hk h.1 h.2.1 (v := v) (by rw [h.2.2]; exact hv) (fun args s ht hE => by
    have hok := hE pc
    rw [hc] at hok
    obtain ⟨ix, dd, e1, ⟨C, T, N, ref, hcl, hN, hin, hsm, hlk⟩, C2, T2, N2, ty0, hcl2, -, hfin, hty, hnm, hty0⟩ := hok.2
    dsimp only at hcl hcl2 dd e1
    cases hcl.symm.trans hcl2
    refine ⟨ix, C, T, N, ty0, hcl, hN, ?_, dd, e1, hin, hty, hnm, Or.inl ⟨hfin, ref, ht _ hlk, u_same (ht _ hsm)⟩⟩
    rw [hty0, h.2.2]
    exact ⟨rfl, rfl⟩) (k _ (wf_uS hW hk.2 (by rw [hk.1, h.2.2]; exact hv)) ext_uS)
  rw [h.2.2] at g
  exact g
theorem g2_get66 {K : Int → Option (Int × sS)} (hc : M.2.2.2.2 pc = (66, (nx, (a, (b, (c', tg)))))) (hW : WF2 κ S) (h : a < 12 ∧ b < nf a ∧ ty2 a b = 0) (k : ∀ v, InR v → G2 κ im M t d n0 s0 (K v) nx loc (sI v :: r) S) : G2 κ im M t d n0 s0 (if sK S p = a then bnd (sg S p b) K else none) pc loc (sR p :: r) S := by
  refine g2_ck fun hk => ?_
  have hv : InR (sg S p b) := by
    have := hW.1.1 p b
    rw [hk, h.2.2] at this
    exact this
  have h20 : ¬ p = 1000000 := fun e => by
    have := hW.2.2.1
    rw [← e] at this
    omega
  have h1 : p < 2000000 := by
    by_cases h1 : p < 2000000
    · exact h1
    · obtain ⟨g1, -, -⟩ := hW.2.1.2.2.2.2.1 p (by omega)
      rw [hk] at g1
      have := (cK_obj g1.symm (by omega)).2
      omega
  obtain ⟨h2, h3⟩ := sf_real hW.2.1 (by omega) h1 h20
  obtain ⟨h4, h5⟩ := sf_obj hW.2.1 hk (by omega) h2 h3
  refine g2_mp (fun p9 e R s m args below meth c Q c9 s9 H locs ls hκ hF hE hR hsz hn hJ hS go => ?_) (k _ hv)
  obtain ⟨hx, hbb, -, ho, ht, hV, -⟩ := id hF.1
  have hok := hE pc
  rw [hc] at hok
  obtain ⟨ix, dd, e1, C, T, N, ref, hcl, hN, hin, hsm, hlk⟩ := hok.2
  dsimp only at hcl dd e1
  subst e1
  obtain ⟨q, hq, u1, u2, u3⟩ := ws_cell (w := cW S c9 s9) ws_c h2 h3 hn (by omega)
  have hc' : vwCl[q.1]? = some (C, T, N) := by rw [u1, hk]; exact hcl
  obtain ⟨hi, cell, q1, q2, q3, q4⟩ := ev_J_obj hJ hq hc'
  obtain ⟨hS9, hfc, kC, hkC, hkind⟩ := hV.1.1 q.1 _ hc'
  obtain ⟨cf, kf, fi, f, hif, hsl⟩ := hS9 b hN
  have hst := (u_facts hfc hkC (u_lays ht hin hN) hif).1
  have e4 := u3 b (by omega)
  rw [hk, h.2.2] at e4
  have e2 : cell.slots[f.slot]? = some (.int (toI (sg S p b))) := by
    rw [hsl, q4 b hN]
    unfold ev_fv
    rw [e4]
    rfl
  rw [List.map_cons, dn_w h2 (by omega)]
  rw [List.map_cons, dn_i] at go
  exact W.getf hx hbb ho (ht _ hlk) (u_same (ht _ hsm) _ hif) hst q1 (by rw [q3]; exact fun h => by cases h) e2 rfl rfl dd go
/-- a clone of a byte[] -/
theorem g2_clone {K : Int → sS → Option (Int × sS)} (hc : M.2.2.2.2 pc = (57, (nx, (a, (b, (c', tg)))))) (hW : WF2 κ S) (hcs : Nat.ble (ev_cs r) 8 = true) (kk : ∀ q S1, (0 ≤ q ∧ q < 1000000) → (sK S1 q = 21 ∧ sZ S1 q = sZ S p) → WF2 κ S1 → EXT S S1 → G2 κ im M t d n0 s0 (K q S1) nx loc (sR q :: r) S1) :
    G2 κ im M t d n0 s0 (if (sK S p = 21 ∧ p < 1000000) ∧ sn S < 1000000 then bnd (sn S) fun q => bnd (cpS (nS S 21 (sZ S p)) p 0 (sn S) 0 (sZ S p)) (K q) else none) pc loc (sR p :: r) S := by
  refine g2_ck fun hk => ?_
  obtain ⟨⟨hk, hp⟩, h1⟩ := hk
  obtain ⟨h2, h3⟩ := sf_real hW.2.1 (p := p) (by omega) (by omega) (by omega)
  obtain ⟨-, h5, h6⟩ := sf_arr hW.2.1 (p := p) (by omega) (by omega) h2 h3
  have h0 : 0 ≤ sn S := hW.2.1.1
  have hW1 : WF2 κ (nS S 21 (sZ S p)) := wf_nS hW h1 (Or.inr ⟨⟨Or.inr (Or.inl rfl), by decide, by decide⟩, h5, h6⟩)
  have hW2 : WF2 κ (cpS (nS S 21 (sZ S p)) p 0 (sn S) 0 (sZ S p)) := wf_cpS hW1 h1 (fun y z => by rw [sK_nS, sK_nS, if_pos rfl, if_neg (by omega), hk]; rfl)
  refine g2_mc (S2 := cpS (nS S 21 (sZ S p)) p 0 (sn S) 0 (sZ S p)) ⟨by show sn S ≤ sn S + 1; omega, by show ss S ≤ ss S + sZ S p; omega, ext_t (ext_nS hW.2.1 h1) ext_cpS⟩ (fun p9 e R s m args below meth c Q c9 s9 hκ hF hE hroom hR hn go => ?_) (kk _ _ ⟨h0, h1⟩ ⟨by show (if sn S = sn S then 21 else sK S (sn S)) = 21; exact if_pos rfl, by show (if sn S = sn S then sZ S p else sZ S (sn S)) = sZ S p; exact if_pos rfl⟩ hW2 (ext_t (ext_nS hW.2.1 h1) ext_cpS))
  rw [show sn (cpS (nS S 21 (sZ S p)) p 0 (sn S) 0 (sZ S p)) = sn S + 1 from rfl] at hn hroom go
  rw [show ss (cpS (nS S 21 (sZ S p)) p 0 (sn S) 0 (sZ S p)) = ss S + sZ S p from rfl] at hroom go
  rw [show sn S + 1 - sn S = 1 by omega, show ss S + sZ S p - ss S = sZ S p by omega] at hroom go
  intro H locs ls hl hJ hS
  obtain ⟨hx, hbb, hml, ho, ht, hV, -⟩ := id hF.1
  have hok := hE pc
  rw [hc] at hok
  obtain ⟨ix, dd, e1, w1, w2, w3, w4, w5, w6⟩ := hok.2
  dsimp only at dd e1 w1
  subst e1
  have g1 := cx_arr hJ h2 h3 (by omega) (by omega) (by omega)
  rw [hk] at g1
  obtain ⟨hA1, hRA⟩ := ev_tys_of hV (k := 21) (Or.inr (Or.inl rfl))
  obtain ⟨c0, t0', f1, f2, f3⟩ := Cond.castable_spec (va_Nw.use (A := args) rfl (hV.2.1 _ w6 rfl))
  cases (show s.vm.findClass "[B" = some (κ.2.1 21) from hRA).symm.trans f1
  have hk8 := ev_cs_ok (b := κ.2.2.1) (B0 := κ.2.2.2.1) (σ := κ.2.2.2.2.2.1) r
  have hk9 := Nat.le_of_ble_eq_true hcs
  rw [List.map_cons, dn_w h2 hp]
  generalize hcell : arrV (κ.2.1 21) (sZ S p).toNat (fun j : Nat => ev_dn κ.2.2.1 κ.2.2.2.1 κ.2.2.2.2.2.1 (dec2 (ty2 21 j) (sg S p j))) = cell at g1
  have hvm0 : cell.vm = .none := by rw [← hcell]; rfl
  have hcl0 : cell.cls = κ.2.1 21 := by rw [← hcell]; rfl
  have hsz0 : cell.slots.size = (sZ S p).toNat := by rw [← hcell]; exact arrV_size _ _ _
  have hcellE : ({ cls := cell.cls, slots := cell.slots } : Cell) = cell := by rw [← hcell]; rfl
  intro T hT X
  obtain ⟨-, kA, hkA, comp, hkind⟩ := State.isArrayOf_alike X.warmed.alike (hA1 0 (fun _ => .null))
  obtain ⟨-, kS, hkS, compS, hkindS⟩ := hA1 0 (fun _ => .null)
  obtain ⟨vm', X', st9⟩ := X.cloneArray hx ho (ht _ w1) (ht _ w2) (ht _ w3) (ht _ w4) (ht _ w5) (a := κ.2.2.2.1 + p.toNat) (cell := cell) (by rw [hT]; exact g1) (fun k h => by rw [hvm0] at h; cases h) (by rw [hvm0]; exact fun h => by cases h) (by rw [hcl0]; exact hRA) f2 (by rw [hcl0]; exact f3)
    (fun i v hv => by
      rw [hcl0]
      have hk' : T.vm.classes[κ.2.1 21]? = some kA := hkA
      have hfit : fits .byte v = true := by
        rw [← hcell] at hv
        have hi : i < (sZ S p).toNat := by
          have := (Array.getElem?_eq_some_iff.mp hv).1
          rw [arrV_size] at this
          exact this
        rw [arrV_read _ _ hi] at hv
        cases hv
        have hv9 := hW.1.1 p i
        rw [hk] at hv9
        exact (by_fit hv9).2
      have hkind : kA.kind = .array comp .byte := hkind
      simpa [State.fitsSlot, State.slotType?, hk', hkind] using hfit)
    (g := F0 m pc ls (.ref (κ.2.2.2.1 + p.toNat) :: r.map (ev_dn κ.2.2.1 κ.2.2.2.1 κ.2.2.2.2.2.1))) rfl (by rw [hml]; exact hl.1) (rest := r.map (ev_dn κ.2.2.1 κ.2.2.2.1 κ.2.2.2.2.2.1)) rfl (by rw [hbb]; exact dd) (by omega) (by show 2 * 0 + _ + 14 ≤ _; omega) (by show c9 + 1 ≤ R.cells; exact hroom.1) (by rw [hsz0]; exact hroom.2) (hloader := by rw [hcl0]; exact Vm.clonesLoader_of_array hkS hkindS)
  rw [hcellE, hsz0] at X'
  have z1 : (H.push cell).size = H.size + 1 := Array.size_push ..
  have e1 : (H.push cell)[H.size]? = some cell := Array.getElem?_push_size
  have o1 : ∀ q : Nat, q < H.size → (H.push cell)[q]? = H[q]? := fun q hq => by rw [Array.getElem?_push, if_neg (Nat.ne_of_lt hq)]
  have hHs : H.size = κ.2.2.2.1 + (sn S).toNat := hJ.2.2 rfl
  have hJ2 : cxS κ (cW (cpS (nS S 21 (sZ S p)) p 0 (sn S) 0 (sZ S p)) (c9 + 1) (s9 + (sZ S p).toNat)) (H.push cell) := by
    refine ⟨fun i q hq => ?_, ?_, fun _ => ?_⟩
    · have hq : ev_get (cT (cpS (nS S 21 (sZ S p)) p 0 (sn S) 0 (sZ S p))) i = some q := hq
      rw [cT_get] at hq
      by_cases hi : i < 1000000
      · rw [if_pos hi] at hq
        cases hq
        by_cases ei : i = (sn S).toNat
        · refine ⟨⟨hi, by rw [hκ.1.2.2.1]; exact hi⟩, ?_⟩
          subst ei
          have k21 : sK (cpS (nS S 21 (sZ S p)) p 0 (sn S) 0 (sZ S p)) (sn S) = 21 := by
            show (if sn S = sn S then 21 else sK S (sn S)) = 21
            exact if_pos rfl
          have z21 : sZ (cpS (nS S 21 (sZ S p)) p 0 (sn S) 0 (sZ S p)) (sn S) = sZ S p := by
            show (if sn S = sn S then sZ S p else sZ S (sn S)) = sZ S p
            exact if_pos rfl
          have := cC_own (S := cpS (nS S 21 (sZ S p)) p 0 (sn S) 0 (sZ S p)) (p := sn S) h0 (by show sn S < sn S + 1; omega) (by rw [k21]; decide)
          rw [k21, z21] at this
          rw [this]
          refine Or.inr (Or.inr ⟨Or.inr (Or.inl rfl), (show (20 : Nat) ≤ 21 by decide), ?_⟩)
          rw [← hHs, e1, ← hcell]
          refine congrArg some (ev_arr_to (fun j hj => ?_))
          dsimp only
          unfold ev_fv
          rw [mkR_get, if_pos (by omega)]
          show _ = ev_dn _ _ _ (dec2 (ty2 21 j) (sg (cpS (nS S 21 (sZ S p)) p 0 (sn S) 0 (sZ S p)) (sn S) j))
          rw [sg_cpS, if_pos ⟨rfl, by omega, by omega⟩, sg_nS, if_neg (by omega), show (0 : Int) + ((j : Int) - 0) = j by omega]
        · have hold : ev_get (cW S c9 s9).1 i = some (cC S i) := by
            show ev_get (cT S) i = _
            rw [cT_get, if_pos hi]
          obtain ⟨g3, g4⟩ := hJ.1 i _ hold
          refine ⟨g3, ?_⟩
          have hC : cC (cpS (nS S 21 (sZ S p)) p 0 (sn S) 0 (sZ S p)) i = cC S i := by
            rw [cC_cpS (by omega)]
            exact cC_nS (by omega)
          rw [hC]
          by_cases hlt : (i : Int) < sn S
          · exact g4.kept (o1 _ (by omega))
          · refine Or.inl ?_
            unfold cC
            rw [if_neg hlt]
      · rw [if_neg hi] at hq
        cases hq
    · show κ.2.2.2.1 + (sn S + 1).toNat ≤ _
      rw [z1, hHs]
      omega
    · show _ = κ.2.2.2.1 + (sn S + 1).toNat
      rw [z1, hHs]
      omega
  have eq9 : κ.2.2.2.1 + (sn S).toNat = H.size := hHs.symm
  have go2 := go (H.push cell) _ ls hl (cx_J hJ2) ⟨Nat.le_trans hS.1 (by omega), fun y h1 h2 => (o1 y (Nat.lt_of_lt_of_le h1 hS.1)).trans (hS.2.1 y h1 h2), hS.2.2⟩
  rw [List.map_cons, dn_w h0 h1, eq9] at go2
  obtain ⟨tt, a1, b1⟩ := go2 ((T.setVm vm').pushCell cell) (by rw [← hT]; rfl) X'
  refine ⟨tt, st9 tt ?_, b1⟩
  rw [hcellE, hT]
  exact a1
end G2Q
