/-! the law's cases, checked -/
theorem lq_73_32 : lw_q 2323 (1 * 36) (1 * 32) 1 = true := by decide +kernel
