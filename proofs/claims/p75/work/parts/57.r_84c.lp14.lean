/-! the law's cases, checked -/
theorem lq_73_14 : lw_q 2323 (1 * 36) (1 * 14) 1 = true := by decide +kernel
