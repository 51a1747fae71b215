/-! the law's cases, checked -/
theorem lq_70_2 : lw_q 2184 (1 * 5) (1 * 2) 1 = true := by decide +kernel
