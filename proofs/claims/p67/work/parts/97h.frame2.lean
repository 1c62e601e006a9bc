/-! ===== System.arraycopy, the call of a method, a whole frame (own work) ===== -/
section EVY
variable {D : va_G} {aC : Nat → ClassId} {b : ev_B} {B0 L : Nat} {σ : Nat → Int32}
variable {p : Program} {l : Launch} {e : Env} {R : Room} {s : State} {m : MethodId} {args : Array Value} {below : List Frame} {meth : Method} {c : Code} {Q : State → Prop}
variable {cc : ByteArray} {nL : Nat} {Ts : List Cond} {own : String} {Sg : List (String × (Nat × String))}
variable {Φ : ev_P} {M : ev_M} {k : ev_N} {cl : ev_F} {nx a b' c' pc : Nat} {tg : List Nat} {loc : ev_L} {st : List ev_V} {w : ev_W} {r : ev_S}
theorem ev_cpy_ok {f g : List (List (List ev_V))} : ∀ (n : Nat) (h : List (List (List ev_V))), ev_cpy n f g = some h → (∀ i, i < n → ∃ v, ev_get f i = some v ∧ ev_ii v = true) ∧ ∀ j, ev_get h j = if j < n then ev_get f j else ev_get g j := by
  intro n
  induction n with
  | zero =>
    intro h hh
    have hh : some g = some h := hh
    cases hh
    exact ⟨fun i hi => absurd hi (Nat.not_lt_zero i), fun j => by rw [if_neg (Nat.not_lt_zero j)]⟩
  | succ n ih =>
    intro h hh
    have hh : (match ev_cpy n f g, ev_get f n with
      | some h, some v => ev_if (ev_ii v) (ev_sto h n v) none
      | _, _ => none) = some h := hh
    split at hh
    · next h9 v h1 h2 =>
      obtain ⟨h3, hh⟩ := ev_if_n hh
      obtain ⟨i1, i2⟩ := ih h9 h1
      obtain ⟨-, i3⟩ := ev_sto_ok hh
      refine ⟨fun i hi => ?_, fun j => ?_⟩
      · by_cases e : i = n
        · subst e
          exact ⟨v, h2, h3⟩
        · exact i1 i (by omega)
      · rw [i3, i2]
        by_cases e : j = n
        · subst e
          rw [if_pos rfl, if_pos (Nat.lt_succ_self j), h2]
        · rw [if_neg e]
          by_cases e2 : j < n
          · rw [if_pos e2, if_pos (by omega)]
          · rw [if_neg e2, if_neg (by omega)]
    · cases hh
theorem ev_o_copy (hF : ev_Fx D aC b B0 L σ p s m args meth c cc nL Ts own Sg) (hR : 1 ≤ R.frames ∧ 100 ≤ R.locals) (hk : ∀ pc loc st w, k pc loc st w = some r → ev_Go D aC b B0 σ p l e R s m args below meth c Q nL pc loc st w) (h : ev_h_copy Φ M k cl nx a b' c' tg pc loc st w = some r)
    (hi : ev_i_copy cc own Ts pc nx) : ev_Go D aC b B0 σ p l e R s m args below meth c Q nL pc loc st w := by
  obtain ⟨hx, hb, hml, ho, ht, hV, -⟩ := id hF
  obtain ⟨ix, d, rfl, w1, w2, w3, w4⟩ := hi
  unfold ev_h_copy at h
  split at h
  · next n i i0 rr =>
    split at h
    · next q q0 hq hq0 =>
      obtain ⟨h1, h⟩ := ev_if_n h
      simp only [Bool.and_eq_true] at h1
      obtain ⟨h1, h2, h3, h4, h5, h6, h7⟩ := h1
      have k1 := Nat.eq_of_beq_eq_true h1
      have k2 := Nat.eq_of_beq_eq_true h2
      have k3 := Nat.le_of_ble_eq_true h3
      have k4 := Nat.le_of_ble_eq_true h4
      have k5 := Nat.le_of_ble_eq_true h5
      have k6 := Nat.le_of_ble_eq_true h6
      have k7 := Nat.le_of_ble_eq_true h7
      have k8 := ev_cs_ok (b := b) (B0 := B0) (σ := σ) rr
      split at h
      · next z hz =>
        split at h
        · next x hx9 =>
          obtain ⟨c1, c2⟩ := ev_cpy_ok n z hz
          obtain ⟨-, hx9⟩ := ev_sto_ok hx9
          intro H locs ls hl hJ hS
          obtain ⟨hi9, g1⟩ := ev_J_arr hJ hq (by omega) (by omega)
          obtain ⟨hi0, g0⟩ := ev_J_arr hJ hq0 (by omega) (by omega)
          have e1 : ∀ {n : Nat}, n < 1000000 → ev_dn b B0 σ (.inr (.inl (some n))) = .ref (B0 + n) := fun hn => by
            show Value.ref _ = _
            rw [ev_ad_w hn]
          simp only [List.map_cons]
          rw [e1 hi9, e1 hi0]
          have e5 : (nI n).toNatClampNeg = n := nI_clamp (by omega)
          have e50 : (nI 0).toNatClampNeg = 0 := nI_clamp (by omega)
          have e6 : (nI n).toInt = n := nI_toInt (by omega)
          have e60 : (nI 0).toInt = 0 := nI_toInt (n := 0) (by omega)
          intro T hT X
          obtain ⟨-, kk0, hk0, cm0, hkk0⟩ := (ev_tys_of hV (k := 20) (Or.inl rfl)).1 q0.2.1 (ev_fv b B0 σ q0.2.2)
          obtain ⟨-, kk1, hk1, cm1, hkk1⟩ := (ev_tys_of hV (k := 20) (Or.inl rfl)).1 q.2.1 (ev_fv b B0 σ q.2.2)
          rw [k1] at g1
          rw [k2] at g0
          have hread : ∀ i, i < n → (arrV (aC 20) q0.2.1 (ev_fv b B0 σ q0.2.2)).slots.getD ((nI 0).toNatClampNeg + i) .null = ev_fv b B0 σ q0.2.2 i := fun i hi => by
            rw [e50, Nat.zero_add, Array.getD_eq_getD_getElem?, arrV_read _ _ (by omega)]
            rfl
          have hint : ∀ i, i < n → ∃ y, ev_fv b B0 σ q0.2.2 i = .int y := fun i hi => by
            obtain ⟨v, v1, v2⟩ := c1 i hi
            obtain ⟨y, ey⟩ := ev_dn_i (b := b) (B0 := B0) (σ := σ) v2
            refine ⟨y, ?_⟩
            unfold ev_fv
            rw [v1]
            exact ey
          obtain ⟨vm', X', step⟩ := X.arraycopy hx ho (ht _ w1) (ht _ w2) (ht _ w3) (ht _ w4) (src := B0 + i0) (dst := B0 + i) (cs := arrV (aC 20) q0.2.1 (ev_fv b B0 σ q0.2.2)) (cd := arrV (aC 20) q.2.1 (ev_fv b B0 σ q.2.2)) (srcPos := nI 0) (destPos := nI 0) (n := nI n) (by rw [hT]; exact g0) (by rw [hT]; exact g1)
            (fun _ h => by cases h) (fun _ h => by cases h) (fun h => by cases h) (fun h => by cases h) hk0 hk1 hkk0 hkk1 (by rfl) (nI_pos (n := 0) (by omega)) (nI_pos (n := 0) (by omega)) (nI_pos (n := n) (by omega))
            (by rw [e60, e6, arrV_size]; omega) (by rw [e60, e6, arrV_size]; omega)
            (fun vm₁ _ i hi => by
              rw [e5] at hi
              obtain ⟨y, ey⟩ := hint i hi
              rw [hread i hi, ey]
              exact ⟨rfl, trivial⟩)
            (g := F0 m pc ls (.int (nI n) :: .int (nI 0) :: .ref (B0 + i) :: .int (nI 0) :: .ref (B0 + i0) :: rr.map (ev_dn b B0 σ))) rfl (by rw [hml]; exact hl.1) (rest := rr.map (ev_dn b B0 σ)) rfl (by rw [hb]; exact d) hR.1 (by
              have : nativeFrameWords "java/lang/System" "arraycopy" 5 + 11 ≤ 90 := by decide +kernel
              show 2 * 0 + _ + _ ≤ _
              omega)
          have ecop : copied (arrV (aC 20) q0.2.1 (ev_fv b B0 σ q0.2.2)) (arrV (aC 20) q.2.1 (ev_fv b B0 σ q.2.2)) (nI 0) (nI 0) (nI n) = arrV (aC 20) q.2.1 (ev_fv b B0 σ z) := by
            have h9 := va_copied (fun v : Value => v) (aC 20) (aC 20) (n0 := q0.2.1) (n1 := q.2.1) (sp := (nI 0).toNatClampNeg) (dp := (nI 0).toNatClampNeg) (n := (nI n).toNatClampNeg) (ev_fv b B0 σ q0.2.2) (ev_fv b B0 σ q.2.2) (by rw [e50, e5]; omega)
            refine h9.trans (ev_arr_to fun j hj => ?_)
            show va_cpy _ _ _ _ _ j = _
            unfold va_cpy
            rw [e50, e5]
            unfold ev_fv
            rw [c2]
            by_cases hjn : j < n
            · rw [if_pos ⟨Nat.zero_le j, by omega⟩, if_pos hjn, Nat.zero_add, Nat.sub_zero]
            · rw [if_neg (by omega), if_neg hjn]
          rw [ecop] at X' step
          have hlt : B0 + i < H.size := (Array.getElem?_eq_some_iff.mp g1).1
          have hheap : ((T.setVm vm').setCell (B0 + i) (arrV (aC 20) q.2.1 (ev_fv b B0 σ z))).heap = H.setIfInBounds (B0 + i) (arrV (aC 20) q.2.1 (ev_fv b B0 σ z)) := by rw [← hT]; rfl
          have oq : ∀ y : Nat, y ≠ B0 + i → (H.setIfInBounds (B0 + i) (arrV (aC 20) q.2.1 (ev_fv b B0 σ z)))[y]? = H[y]? := fun y hy => by simp [Array.getElem?_setIfInBounds, Ne.symm hy]
          have hself : (H.setIfInBounds (B0 + i) (arrV (aC 20) q.2.1 (ev_fv b B0 σ z)))[B0 + i]? = some (arrV (aC 20) q.2.1 (ev_fv b B0 σ z)) := by simp [Array.getElem?_setIfInBounds, hlt]
          have hzz : (H.setIfInBounds (B0 + i) (arrV (aC 20) q.2.1 (ev_fv b B0 σ z))).size = H.size := by simp
          obtain ⟨t, a1, b1⟩ := hk _ _ _ _ h _ _ ls hl (ev_J_set hJ hq hx9 (Or.inr (Or.inr ⟨Or.inl k1, by show 20 ≤ q.1; omega, by rw [hself, k1]⟩)) hzz oq)
            ⟨by rw [hzz]; exact hS.1, fun y g1 g2 => by
              rw [oq y (fun e => g2 (by rw [e]; exact ev_J_A hJ hq))]
              exact hS.2.1 y g1 g2, fun y hy => by
              rcases List.mem_append.mp hy with h | h
              · exact hS.2.2 y h
              · obtain ⟨z, -, hz⟩ := List.mem_map.mp h
                rw [← hz]
                exact ev_J_A hJ hq⟩ _ hheap X'
          exact ⟨t, step t a1, b1⟩
        · cases h
      · cases h
    · cases h
  · cases h
end EVY
