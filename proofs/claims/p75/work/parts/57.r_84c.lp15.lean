/-! the law's cases, checked -/
theorem lq_73_15 : lw_q 2323 (1 * 36) (1 * 15) 1 = true := by decide +kernel
