/-! the law's cases, checked -/
theorem lq_73_8 : lw_q 2323 (1 * 36) (1 * 8) 1 = true := by decide +kernel
theorem lq_73_9 : lw_q 2323 (1 * 36) (1 * 9) 1 = true := by decide +kernel
theorem lq_73_10 : lw_q 2323 (1 * 36) (1 * 10) 1 = true := by decide +kernel
theorem lq_73_11 : lw_q 2323 (1 * 36) (1 * 11) 1 = true := by decide +kernel
