/-! ===== the library's numbers are wanted from the first part on (own work) ===== -/
theorem wide_a {r : UInt64} (h : FP.Core.dIsNaN r = false) : ¬ FP.Core.dIsNaN r = true := by
  have h1 := (FP.Core.ne_nan r).mp ((FP.Core.notNaN_iff r).mp h)
  rw [h]
  exact Bool.false_ne_true
