/-! ===== the law's layer: what is left; calls of the class's methods (own work) ===== -/
theorem kn_pos {S : sS} {p : Int} {a : Nat} (h : SF S) (hk : sK S p = a) (ha : ¬ a = 99) : 0 ≤ p := by
  by_cases h0 : p < 0
  · exact absurd (h.2.2.2.2.2 p (Or.inl h0)) (by rw [hk]; exact ha)
  · omega
theorem knn {S : sS} {p : Int} {a : Nat} (h : p = -1 ∨ sK S p = a) (hc : ¬ p < 0) : sK S p = a := by
  rcases h with h | h
  · omega
  · exact h
theorem rfA_of {x : Int} (h : RfO x) : RfA x := ⟨h.1, by have := h.2; omega⟩
theorem rfO_of {x : Int} (h : 0 ≤ x ∧ x < 1000000) : RfO x := ⟨by omega, h.2⟩
theorem rfO_null : RfO (-1) := ⟨by decide, by decide⟩
theorem rfA_of2 {x : Int} (h : -1 ≤ x ∧ x < 3000000) : RfA x := h
section G2S
variable {κ : CX} {im : ev_Im} {M : ev_M} {t d : Nat} {n0 s0 : Int} {X A B : Option (Int × sS)} {pc nx : Nat} {loc : ev_L} {st r : List ev_V} {S : sS} {a b c' : Nat} {tg : List Nat} {x y p j v z : Int}
theorem g2_objinit (hc : M.2.2.2.2 pc = (36, (nx, (a, (b, (c', tg)))))) (hcs : Nat.ble (ev_cs r) 8 = true) (hp : 0 ≤ p) (k : G2 κ im M t d n0 s0 X nx loc r S) : G2 κ im M t d n0 s0 X pc loc (sR p :: r) S :=
  g2_sl hc (by decide) (fun Φ M w kk cl _ _ => by
    rw [sR_pos hp]
    show ev_if (Nat.ble (ev_cs r) 8) (kk nx loc r w) none = _
    rw [hcs]
    rfl) k
theorem g2_i2b (hc : M.2.2.2.2 pc = (43, (nx, (5, (b, (c', tg)))))) (k : G2 κ im M t d n0 s0 X nx loc (sI (i2b x) :: r) S) : G2 κ im M t d n0 s0 X pc loc (sI x :: r) S :=
  g2_sl hc (by decide) (fun Φ M w kk cl _ _ => gh_43 (by
    show (some (.inl (ev_n (nI (x % 4294967296).toNat).toInt8.toInt32)) : Option ev_V) = _
    rw [ev_n_sI]
    rfl)) k
theorem g2_i2c (hc : M.2.2.2.2 pc = (43, (nx, (6, (b, (c', tg)))))) (k : G2 κ im M t d n0 s0 X nx loc (sI (x % 65536) :: r) S) : G2 κ im M t d n0 s0 X pc loc (sI x :: r) S :=
  g2_sl hc (by decide) (fun Φ M w kk cl _ _ => gh_43 (by
    show (some (.inl ((x % 4294967296).toNat % 65536)) : Option ev_V) = some (.inl ((x % 65536) % 4294967296).toNat)
    rw [show (x % 4294967296).toNat % 65536 = ((x % 65536) % 4294967296).toNat by omega])) k
/-- a text into a String[] -/
theorem g2_aasS {K : sS → Option (Int × sS)} (hc : M.2.2.2.2 pc = (60, (nx, (a, (b, (c', tg)))))) (hW : WF2 κ S) (hv : 2000100 ≤ v ∧ v < 2000111) (k : ∀ S1, WF2 κ S1 → EXT S S1 → G2 κ im M t d n0 s0 (K S1) nx loc r S1) : G2 κ im M t d n0 s0 (if sK S p = 28 ∧ p < 1000000 ∧ (0 ≤ j ∧ j < sZ S p) then bnd (uS S p j v) K else none) pc loc (sR v :: sI j :: sR p :: r) S := by
  refine g2_ck fun hk => ?_
  obtain ⟨hk, hp, h0, hj⟩ := hk
  obtain ⟨h2, h3⟩ := sf_real hW.2.1 (p := p) (by omega) (by omega) (by omega)
  obtain ⟨⟨h4, -⟩, h5, h6⟩ := sf_arr hW.2.1 (p := p) (by omega) (by omega) h2 h3
  have hjj : ((j.toNat : Nat) : Int) = j := by omega
  have ht : ty2 (sK S p) j = 5 := by rw [hk]; rfl
  have ht2 : ty2 (sK S p) (j.toNat : Nat) = 5 := by rw [hjj]; exact ht
  have hW2 : WF2 κ (uS S p j v) := wf_uS hW hp (by rw [ht]; exact ⟨by omega, by omega⟩)
  refine g2_mc (S2 := uS S p j v) ⟨Int.le_refl _, Int.le_refl _, ext_uS⟩ (fun p9 e R s m args below meth c Q c9 s9 hκ hF hE _ hR hn go => ?_) (k _ hW2 ext_uS)
  have hn : sn S ≤ 1000000 := hn
  obtain ⟨q, hq, e1, e2, d9, x9, e3, e4, g6, -⟩ := ws_upd (w := cW S c9 s9) (b := j.toNat) (v := v) ws_c h2 h3 hn (by omega) (by omega)
  rw [hjj] at g6
  rw [ht2] at e3
  have go2 := ws_Go (w := (x9, (cW S c9 s9).2)) (c9 := c9) (s9 := s9) g6 hW2.2.1 rfl (by
    have go := go
    rw [show sn (uS S p j v) = sn S from rfl, show ss (uS S p j v) = ss S from rfl, Int.sub_self, Int.sub_self] at go
    exact go)
  intro H locs ls hl hJ hS
  obtain ⟨hx, hbb, -, ho, ht9, hV, -⟩ := id hF.1
  have hok := hE pc
  rw [hc] at hok
  obtain ⟨dd, e5, hcw⟩ := hok.2
  dsimp only at dd e5
  subst e5
  obtain ⟨hi9, g1⟩ := ev_J_arr hJ hq (by omega) (by omega)
  have hak : ev_ak q.1 := by rw [e1]; exact h4
  obtain ⟨hAT, hRA⟩ := ev_tys_of hV hak
  have ej : toI j = nI j.toNat := by
    have := toI_n (n := j.toNat) (by omega)
    rw [hjj] at this
    exact this
  have e8 : (nI j.toNat).toNatClampNeg = j.toNat := nI_clamp (by omega)
  rw [List.map_cons, List.map_cons, List.map_cons, dn_w h2 (by omega), dn_i, ej, dn_c (by omega)]
  have hin : ¬ (nI j.toNat < 0) ∧ (nI j.toNat).toNatClampNeg < (arrV (κ.2.1 q.1) q.2.1 (ev_fv κ.2.2.1 κ.2.2.2.1 κ.2.2.2.2.2.1 q.2.2)).slots.size := ⟨nI_pos (by omega), by rw [arrV_size, e8]; omega⟩
  obtain ⟨-, cO, -⟩ := hF.2.2.2.1 (v - 2000100).toNat (by omega)
  obtain ⟨cell, f1, f2, f3, -⟩ := cO.kept hS.2.1
  rw [show 100 + (v - 2000100).toNat = (v - 2000000).toNat by omega] at f1
  have hcls := (hV.1.1 12 (RJ0, TJ0, 4) rfl).2
  have hcc : cell.cls = κ.1.1 12 := Option.some.inj (f3.symm.trans hcls.1)
  rw [e1, hk] at hRA
  obtain ⟨kA, comp, k1, k2, k3, -⟩ := hRA
  have hcomp : comp = κ.1.1 12 := Option.some.inj (k3.symm.trans hcls.1)
  subst hcomp
  obtain ⟨kC, hkC, -⟩ := hcls.2
  rw [e1, hk] at g1 hin
  refine W.aast hx hbb g1 (fun q h => by cases h) (fun h => by cases h) k1 k2 rfl hkC hin f1 (fun q h => by rw [h] at f2; cases f2) (by rw [hcc]; exact hkC) (by rw [hcc]; exact va_assign hcls) rfl rfl dd fun H1 z1 z2 z3 => ?_
  rw [e8, ← dn_c (κ := κ) (p := v) (by omega)] at z1
  rw [e8]
  exact go2 H1 _ ls hl (ev_J_ast (v := sR v) hJ hq e3 e4 (by omega) hak (by rw [e1, hk]; exact z1) z2 z3) (ev_S_put hS z2 z3 (ev_J_A hJ hq))
/-! the class's own world within the law's -/
def bC (b : ev_B) : ev_B := (b.1, (b.2.1, 624))
theorem kC_ex (g : gH) : ∃ T : List (List (List ev_C)), ∀ i, ev_get T i = if i < 624 then some (kd i, ((sz i).toNat, mkR (sz i).toNat (fun j : Nat => dec (typ (kd i) j) (g i j)))) else none := ⟨(List.range 10).map (fun a => (List.range 8).map (fun b => ((List.range 8).filter (fun c => decide (64 * a + 8 * b + c < 624))).map (fun c => (kd ((64 * a + 8 * b + c : Nat) : Int), ((sz ((64 * a + 8 * b + c : Nat) : Int)).toNat, mkR (sz ((64 * a + 8 * b + c : Nat) : Int)).toNat (fun j : Nat => dec (typ (kd ((64 * a + 8 * b + c : Nat) : Int)) j) (g ((64 * a + 8 * b + c : Nat) : Int) j))))))), fun i => by
  rw [gb_get, List.getElem?_map]
  by_cases h : i / 64 < 10
  · rw [List.getElem?_range h]
    show (((List.range 8).map _)[i / 8 % 8]?).bind (fun d => d[i % 8]?) = _
    rw [List.getElem?_map, List.getElem?_range (by omega)]
    show (((List.range 8).filter _).map _)[i % 8]? = _
    have hf : (List.range 8).filter (fun c => decide (64 * (i / 64) + 8 * (i / 8 % 8) + c < 624)) = if 64 * (i / 64) + 8 * (i / 8 % 8) < 624 then List.range 8 else [] := by
      by_cases h9 : 64 * (i / 64) + 8 * (i / 8 % 8) < 624
      · rw [if_pos h9, List.filter_eq_self]
        intro c hc
        have := List.mem_range.mp hc
        exact decide_eq_true (by omega)
      · rw [if_neg h9, List.filter_eq_nil_iff]
        intro c hc
        simp only [decide_eq_true_eq]
        omega
    rw [hf]
    by_cases h9 : 64 * (i / 64) + 8 * (i / 8 % 8) < 624
    · rw [if_pos h9, List.getElem?_map, List.getElem?_range (by omega), if_pos (by omega)]
      have e9 : 64 * (i / 64) + 8 * (i / 8 % 8) + i % 8 = i := by omega
      simp only [Option.map_some, e9]
    · rw [if_neg h9, if_neg (by omega)]
      rfl
  · rw [List.getElem?_eq_none (by rw [List.length_range]; omega), if_neg (by omega)]
    rfl⟩
noncomputable def kCT (g : gH) : List (List (List ev_C)) := Classical.choose (kC_ex g)
theorem kCT_get {g : gH} {i : Nat} : ev_get (kCT g) i = if i < 624 then some (kd i, ((sz i).toNat, mkR (sz i).toNat (fun j : Nat => dec (typ (kd i) j) (g i j)))) else none := Classical.choose_spec (kC_ex g) i
noncomputable def kW (S : sS) : ev_W := (kCT (sc S), ((sn S - sb S).toNat, (true, (0, 0))))
theorem kW_g (S : sS) : Wg (kW S) (sc S) := fun i hi => by
  refine ⟨(kd i, ((sz i).toNat, mkR (sz i).toNat (fun j : Nat => dec (typ (kd i) j) (sc S i j)))), ?_, rfl, ?_, fun j hj => ?_⟩
  · show ev_get (kCT (sc S)) i = _
    rw [kCT_get, if_pos hi]
  · show (((sz i).toNat : Nat) : Int) = sz i
    have := (sz_bd i).1
    omega
  · dsimp only
    rw [mkR_get, if_pos (by omega)]
end G2S
