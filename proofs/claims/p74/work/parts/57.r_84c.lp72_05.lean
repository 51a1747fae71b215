/-! the law's cases, checked -/
theorem lq_72_5 : lw_q 2250 (1 * 6) (1 * 5) 1 = true := by decide +kernel
