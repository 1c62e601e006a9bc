/-! ===== the library's numbers are wanted from the first part on (own work) ===== -/
theorem wide_a {r : UInt64} (h : FP.Core.dIsNaN r = false) : ¬ FP.Core.dIsNaN r = true := by
  rw [h]
  exact Bool.false_ne_true
