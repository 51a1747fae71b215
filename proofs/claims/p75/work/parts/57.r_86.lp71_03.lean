/-! the law's cases, checked -/
theorem lq_71_3 : lw_q 2207 (1 * 6) (1 * 3) 1 = true := by decide +kernel
