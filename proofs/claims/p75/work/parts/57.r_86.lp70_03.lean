/-! the law's cases, checked -/
theorem lq_70_3 : lw_q 2184 (1 * 5) (1 * 3) 1 = true := by decide +kernel
