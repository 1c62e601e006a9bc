/-! ===== the constructors' run (own work, by program: wip/p2/gen5.py) ===== -/
theorem pr_start9 : pq_R (ev_run (5001, []) pr_P 10000 20 pr_mS 0 pr_l0 [] pr_w0) pr_l1 pr_W1 = true := by decide +kernel
theorem pr_start : ev_run (5001, []) pr_P 10000 20 pr_mS 0 pr_l0 [] pr_w0 = some (.inr (.inr (0, (pr_l1, ([], pr_W1))))) := pq_R_ok pr_start9
