/-! ===== wills: a byte a duty (own work) ===== -/
theorem nN : ∀ d : Fin 8, (((toI (opI 0 8 (d.val : Int))).toInt64 &&& 63).toBitVec.smod 64).toNat = 8 * d.val := by decide +kernel
theorem m255 : ∀ i : Fin 64, 8 ≤ i.val → (255#64).getLsbD i.val = false := by decide +kernel
theorem nb41 : ∀ b : Fin 41, (toL (b.val : Int)).toBitVec.toNat = b.val := by decide +kernel
theorem sl_b : ∀ b : Fin 41, ∀ d j : Fin 8, ((b.val <<< (8 * d.val)) >>> (8 * j.val)) % 256 = if j = d then b.val else 0 := by decide +kernel
theorem sl_lt : ∀ b : Fin 41, ∀ d : Fin 8, b.val <<< (8 * d.val) < 2 ^ 64 := by decide +kernel
section PAR12
variable {x v w : Int}
theorem toL_I (i : Int64) : toL i.toInt = i := Int64.toInt_inj.mp (toL_toInt (inL_I64 i))
theorem ss_and (X : BitVec 64) (n : Nat) (hn : n ≤ 56) : (X.sshiftRight n &&& 255#64).toNat = (X.toNat >>> n) % 256 := by
  have e : X.sshiftRight n &&& 255#64 = (X >>> n) &&& 255#64 := by
    apply BitVec.eq_of_getLsbD_eq
    intro i hi
    rw [BitVec.getLsbD_and, BitVec.getLsbD_and]
    by_cases h8 : i < 8
    · rw [BitVec.getLsbD_sshiftRight, BitVec.getLsbD_ushiftRight, if_pos (show n + i < 64 by omega), decide_eq_false (show ¬ 64 ≤ i by omega)]
      rfl
    · rw [m255 ⟨i, hi⟩ (by show 8 ≤ i; omega), Bool.and_false, Bool.and_false]
  rw [e, BitVec.toNat_and, BitVec.toNat_ushiftRight]
  exact Nat.and_two_pow_sub_one_eq_mod _ 8
theorem wl_by (x : Int) (d : Fin 8) : wl x (d.val : Int) = ((((toL x).toBitVec.toNat >>> (8 * d.val)) % 256 : Nat) : Int) - 1 := by
  have hn := nN d
  have e1 : opL 0 (opS 0 x (opI 0 8 (d.val : Int))) 255 = ((toL x >>> ((toI (opI 0 8 (d.val : Int))).toInt64 &&& 63)) &&& toL 255).toInt := by
    show (toL ((toL x >>> ((toI (opI 0 8 (d.val : Int))).toInt64 &&& 63)).toInt) &&& toL 255).toInt = _
    rw [toL_I]
  unfold wl gl2i
  rw [e1, toL_I]
  have h1 : ((toL x >>> ((toI (opI 0 8 (d.val : Int))).toInt64 &&& 63)) &&& toL 255).toBitVec.toNat = ((toL x).toBitVec.toNat >>> (8 * d.val)) % 256 := by
    show ((toL x).toBitVec.sshiftRight (((toI (opI 0 8 (d.val : Int))).toInt64 &&& 63).toBitVec.smod 64).toNat &&& 255#64).toNat = _
    rw [hn]
    exact ss_and _ _ (by omega)
  generalize ((toL x >>> ((toI (opI 0 8 (d.val : Int))).toInt64 &&& 63)) &&& toL 255) = Y at *
  have hm : ((toL x).toBitVec.toNat >>> (8 * d.val)) % 256 < 256 := Nat.mod_lt _ (by omega)
  generalize ((toL x).toBitVec.toNat >>> (8 * d.val)) % 256 = N at *
  have h2 : Y.toInt = (N : Int) := by
    show Y.toBitVec.toInt = _
    rw [BitVec.toInt_eq_toNat_cond, h1, if_pos (by omega)]
  rw [Int64.toInt_toInt32, h2, Int.bmod_eq_of_le (by omega) (by omega), w32_r (by omega)]
theorem wl_add (x : Int) (d j : Fin 8) (v : Int) (hv : 0 ≤ v ∧ v < 40) (hx : wl x (d.val : Int) = -1) : wl (opL 1 x (opS 1 (w32 (v + 1)) (opI 0 8 (d.val : Int)))) (j.val : Int) = if (j.val : Int) = (d.val : Int) then v else wl x (j.val : Int) := by
  obtain ⟨b, hb⟩ : ∃ b : Fin 41, v + 1 = (b.val : Int) := ⟨⟨(v + 1).toNat, by omega⟩, by show v + 1 = (((v + 1).toNat : Nat) : Int); omega⟩
  rw [w32_r (by omega), hb]
  have hn := nN d
  have e1 : toL (opL 1 x (opS 1 (b.val : Int) (opI 0 8 (d.val : Int)))) = toL x ||| (toL (b.val : Int) <<< ((toI (opI 0 8 (d.val : Int))).toInt64 &&& 63)) := by
    show toL ((toL x ||| toL ((toL (b.val : Int) <<< ((toI (opI 0 8 (d.val : Int))).toInt64 &&& 63)).toInt)).toInt) = _
    rw [toL_I, toL_I]
  have e2 : (toL (opL 1 x (opS 1 (b.val : Int) (opI 0 8 (d.val : Int))))).toBitVec.toNat = (toL x).toBitVec.toNat ||| (b.val <<< (8 * d.val)) := by
    rw [e1]
    show ((toL x).toBitVec ||| ((toL (b.val : Int)).toBitVec <<< (((toI (opI 0 8 (d.val : Int))).toInt64 &&& 63).toBitVec.smod 64).toNat)).toNat = _
    rw [hn, BitVec.toNat_or, BitVec.toNat_shiftLeft, nb41, Nat.mod_eq_of_lt (sl_lt b d)]
  have e3 : ∀ A B : Nat, (A ||| B) % 256 = (A % 256) ||| (B % 256) := fun A B => Nat.or_mod_two_pow (n := 8)
  rw [wl_by] at hx
  rw [wl_by, wl_by, e2, Nat.shiftRight_or_distrib, e3, sl_b]
  by_cases e : (j.val : Int) = (d.val : Int)
  · have ej : j = d := Fin.ext (Int.ofNat.inj e)
    rw [if_pos e, if_pos ej]
    have h0 : ((toL x).toBitVec.toNat >>> (8 * j.val)) % 256 = 0 := by
      rw [ej]
      generalize ((toL x).toBitVec.toNat >>> (8 * d.val)) % 256 = N at *
      omega
    rw [h0, Nat.zero_or]
    omega
  · rw [if_neg e, if_neg (fun z => e (by rw [z])), Nat.or_zero]
end PAR12
