/-! the law's cases, checked -/
theorem lq_73_20 : lw_q 2323 (1 * 36) (1 * 20) 1 = true := by decide +kernel
