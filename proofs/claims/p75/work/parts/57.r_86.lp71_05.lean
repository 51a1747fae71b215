/-! the law's cases, checked -/
theorem lq_71_5 : lw_q 2207 (1 * 6) (1 * 5) 1 = true := by decide +kernel
