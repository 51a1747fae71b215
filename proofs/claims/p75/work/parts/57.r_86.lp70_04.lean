/-! the law's cases, checked -/
theorem lq_70_4 : lw_q 2184 (1 * 5) (1 * 4) 1 = true := by decide +kernel
