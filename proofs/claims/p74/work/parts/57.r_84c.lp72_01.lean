/-! the law's cases, checked -/
theorem lq_72_1 : lw_q 2250 (1 * 6) (1 * 1) 1 = true := by decide +kernel
