/-! the law's cases, checked -/
theorem lq_72_2 : lw_q 2250 (1 * 6) (1 * 2) 1 = true := by decide +kernel
