/-! the law's cases, checked -/
theorem lq_72_4 : lw_q 2250 (1 * 6) (1 * 4) 1 = true := by decide +kernel
