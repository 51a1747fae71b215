/-! the law's cases, checked -/
theorem lq_71_2 : lw_q 2207 (1 * 6) (1 * 2) 1 = true := by decide +kernel
