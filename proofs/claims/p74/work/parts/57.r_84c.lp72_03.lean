/-! the law's cases, checked -/
theorem lq_72_3 : lw_q 2250 (1 * 6) (1 * 3) 1 = true := by decide +kernel
