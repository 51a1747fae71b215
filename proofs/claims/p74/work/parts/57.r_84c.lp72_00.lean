/-! the law's cases, checked -/
theorem lq_72_0 : lw_q 2250 (1 * 6) (1 * 0) 1 = true := by decide +kernel
