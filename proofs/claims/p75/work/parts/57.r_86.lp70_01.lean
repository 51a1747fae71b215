/-! the law's cases, checked -/
theorem lq_70_1 : lw_q 2184 (1 * 5) (1 * 1) 1 = true := by decide +kernel
