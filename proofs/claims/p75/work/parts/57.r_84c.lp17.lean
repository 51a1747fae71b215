/-! the law's cases, checked -/
theorem lq_73_17 : lw_q 2323 (1 * 36) (1 * 17) 1 = true := by decide +kernel
