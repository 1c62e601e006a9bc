/-! ===== the reference's shares (own work) ===== -/
theorem n64_ok {r : UInt64} (h : FP.Core.dIsNaN r = false) : ev_n64 r = true := by
  have h1 := (FP.Core.ne_nan r).mp ((FP.Core.notNaN_iff r).mp h)
  unfold ev_n64
  apply decide_eq_true
  rw [UInt64.le_iff_toNat_le, UInt64.toNat_and]
  show r.toNat &&& (2 ^ 63 - 1) ≤ 9218868437227405312
  rw [Nat.and_two_pow_sub_one_eq_mod]
  exact h1
theorem n32_ok {r : UInt32} (h : FP.Core.fIsNaN r = false) : ev_n32 r = true := by
  have h1 := (FP.Core.ne_nan32 r).mp ((FP.Core.notNaN_iff32 r).mp h)
  unfold ev_n32
  apply decide_eq_true
  rw [UInt32.le_iff_toNat_le, UInt32.toNat_and]
  show r.toNat &&& (2 ^ 31 - 1) ≤ 2139095040
  rw [Nat.and_two_pow_sub_one_eq_mod]
  exact h1
theorem toI_ne {y : Int} (hy : InR y) (h0 : y ≠ 0) : toI y ≠ 0 := by
  intro h
  have h1 : BitVec.ofNat 32 (y % 4294967296).toNat = 0#32 := congrArg Int32.toBitVec h
  have h2 := congrArg BitVec.toNat h1
  rw [BitVec.toNat_ofNat] at h2
  have h3 : (y % 4294967296).toNat % 2 ^ 32 = 0 := h2
  unfold InR at hy
  omega
theorem okd {x y : Int} (hy : toI y ≠ 0) : okddiv (gi2d x) (gi2d y) = true := by
  have h := FP.Core.ddiv_out (FP.Core.DFin.notNaN (FP.Core.i2d_fin (toI x))) (FP.Core.i2d_fin (toI y)) (fun hz => FP.Core.i2d_ne_zero hy ((FP.Core.zero_bits2 _).mp hz))
  unfold okddiv gi2d
  rw [Int.toNat_natCast, Int.toNat_natCast, UInt64.ofNat_toNat, UInt64.ofNat_toNat]
  exact n64_ok h
theorem okf {x y : Int} (hy : toI y ≠ 0) : okfdiv (gi2f x) (gi2f y) = true := by
  have h := FP.Core.fdiv_out (FP.Core.FFin.notNaN (FP.Core.i2f_fin (toI x))) (FP.Core.i2f_fin (toI y)) (fun hz => FP.Core.i2f_ne_zero hy ((FP.Core.zero_bits232 _).mp hz))
  unfold okfdiv gi2f
  rw [Int.toNat_natCast, Int.toNat_natCast, UInt32.ofNat_toNat, UInt32.ofNat_toNat]
  exact n32_ok h
section MODEL26
variable {g G H K : gH} {p code t c a b k q gp d x y z w v n l i : Int}
theorem HR_g (h : HR g) (e : kd a = 20) : InR (g a k) := by
  have h1 := h a k
  rw [e] at h1
  exact h1
theorem HR_625 (h : HR g) : InR (g 625 k) := HR_g h kd_625
theorem HR_th (h : HR g) : InR ((th g 0) 625 k) := by
  rw [th_n (by omega)]; exact HR_625 h
theorem oM_readShare (hi : MInv g) : PO g (fM_readShare g 624) := by
  have o1 := o0 hi
  have h0 := o1.1.1.1
  have hE := o1.1.2.1.2.2.2.1.1
  rw [fM_readShare, bnd_s, o8 hi]
  obtain ⟨v, e⟩ := q_inState o1 (a := 2)
  have e : fM_inState (th g 0) 624 2 = some v := e
  simp (disch := omega) only [h0, kd_625, sz_625, w32_r, true_and, le_t, lt_t, and_true, ↓reduceIte, e, bdP_s]
  refine po_ite (fun _ => PO_i rfl o1) (fun hz => ?_)
  rw [if_pos (okd (toI_ne (by unfold InR; omega) hz))]
  exact PO_i rfl o1
theorem oM_rootShare (hi : MInv g) (hg : HR g) : PO g (fM_rootShare g 624) := by
  have o1 := o0 hi
  have h0 := o1.1.1.1
  have hE := HR_th (k := 2) hg
  rw [fM_rootShare, bnd_s, o8 hi]
  simp (disch := omega) only [h0, kd_625, sz_625, w32_r, true_and, le_t, lt_t, and_true, ↓reduceIte]
  refine po_ite (fun _ => PO_i rfl o1) (fun hz => ?_)
  rw [if_pos (okf (toI_ne hE hz))]
  exact PO_i rfl o1
theorem oM_meanDepth (hi : MInv g) : PO g (fM_meanDepth g 624) := by
  have hf := fu_ge
  have o1 := o0 hi
  have hs := o1.1.1
  have h0 := hs.1
  have w := o1.1.2.1.1
  have hM := w.1
  have hST := o1.1.2.1.2.1.2
  rw [fM_meanDepth, bnd_s, o8 hi]
  generalize th g 0 = G at *
  have hpos : 1 ≤ cn (fun c => decide (G 625 (140 + c) = 0)) (G 625 0).toNat 0 := by
    have h1 := cn_lt (P := fun _ => false) (Q := fun c => decide (G 625 (140 + c) = 0)) (fun j z => by cases z) (p := 0) rfl (decide_eq_true hST) (G 625 0).toNat 0 (by omega) (by omega)
    have h2 := (cn_bd (fun _ => false) (G 625 0).toNat 0).1
    omega
  have hle := (cn_bd (fun c => decide (G 625 (140 + c) = 0)) (G 625 0).toNat 0).2
  obtain ⟨v, e⟩ := for_any (L := fun n k v => lM_meanDepth_9 G 624 n v k) (E := fun v => jM_meanDepth_45 G 624 v) 0 (G 625 0) (fun n k v hl hk => by
    have f1 := vM_runs (g := G) (p := k) hs (by omega)
    have hA := w.2.2.1 k (by omega) hk
    have f2 := vM_deep (g := G) (x := k) hs hA
    show ∃ s', bM_meanDepth_9 G 624 (lM_meanDepth_9 G 624 n) v k = _
    rw [bM_meanDepth_9]
    simp (disch := omega) only [f1, f2, bdP_s, h0, kd_625, sz_625, w32_r, true_and, le_t, lt_t, and_true, ↓reduceIte]
    repeat' (first | exact ⟨_, rfl⟩ | refine ex_ite (fun _ => ?_) (fun _ => ?_))) (fun n k v hl hk => by
    show bM_meanDepth_9 G 624 (lM_meanDepth_9 G 624 n) v k = _
    rw [bM_meanDepth_9]
    simp (disch := omega) only [h0, kd_625, sz_625, true_and, le_t, lt_t, and_true, ↓reduceIte, if_neg hk]) 0 0 fu (by omega) (by omega)
  have e : lM_meanDepth_9 G 624 fu 0 0 = jM_meanDepth_45 G 624 v := e
  rw [e, jM_meanDepth_45, vM_runningMany hs hM, bdP_s, if_pos (okd (toI_ne (by unfold InR; omega) (by omega)))]
  exact PO_i rfl o1
end MODEL26
