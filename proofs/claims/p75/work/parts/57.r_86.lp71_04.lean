/-! the law's cases, checked -/
theorem lq_71_4 : lw_q 2207 (1 * 6) (1 * 4) 1 = true := by decide +kernel
