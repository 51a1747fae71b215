/-! the law's cases, checked -/
theorem lq_71_0 : lw_q 2207 (1 * 6) (1 * 0) 1 = true := by decide +kernel
