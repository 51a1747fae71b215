/-! the law's cases, checked -/
theorem lq_73_16 : lw_q 2323 (1 * 36) (1 * 16) 1 = true := by decide +kernel
