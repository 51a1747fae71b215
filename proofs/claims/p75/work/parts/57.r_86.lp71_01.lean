/-! the law's cases, checked -/
theorem lq_71_1 : lw_q 2207 (1 * 6) (1 * 1) 1 = true := by decide +kernel
