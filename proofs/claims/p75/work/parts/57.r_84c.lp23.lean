/-! the law's cases, checked -/
theorem lq_73_23 : lw_q 2323 (1 * 36) (1 * 23) 1 = true := by decide +kernel
