/-! the law's cases, checked -/
theorem lq_70_0 : lw_q 2184 (1 * 5) (1 * 0) 1 = true := by decide +kernel
