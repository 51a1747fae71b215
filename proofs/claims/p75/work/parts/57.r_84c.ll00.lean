/-! the law's cases, checked -/
theorem lq_73_0 : lw_q 2323 (1 * 36) (1 * 0) 1 = true := by decide +kernel
theorem lq_73_1 : lw_q 2323 (1 * 36) (1 * 1) 1 = true := by decide +kernel
theorem lq_73_2 : lw_q 2323 (1 * 36) (1 * 2) 1 = true := by decide +kernel
theorem lq_73_3 : lw_q 2323 (1 * 36) (1 * 3) 1 = true := by decide +kernel
