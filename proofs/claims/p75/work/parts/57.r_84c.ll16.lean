/-! the law's cases, checked -/
theorem lq_73_24 : lw_q 2323 (1 * 36) (1 * 24) 1 = true := by decide +kernel
theorem lq_73_25 : lw_q 2323 (1 * 36) (1 * 25) 1 = true := by decide +kernel
theorem lq_73_30 : lw_q 2323 (1 * 36) (1 * 30) 1 = true := by decide +kernel
theorem lq_73_31 : lw_q 2323 (1 * 36) (1 * 31) 1 = true := by decide +kernel
