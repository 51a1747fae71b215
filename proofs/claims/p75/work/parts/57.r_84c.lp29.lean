/-! the law's cases, checked -/
theorem lq_73_29 : lw_q 2323 (1 * 36) (1 * 29) 1 = true := by decide +kernel
