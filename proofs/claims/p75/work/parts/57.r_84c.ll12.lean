/-! the law's cases, checked -/
theorem lq_73_12 : lw_q 2323 (1 * 36) (1 * 12) 1 = true := by decide +kernel
theorem lq_73_13 : lw_q 2323 (1 * 36) (1 * 13) 1 = true := by decide +kernel
theorem lq_73_18 : lw_q 2323 (1 * 36) (1 * 18) 1 = true := by decide +kernel
theorem lq_73_19 : lw_q 2323 (1 * 36) (1 * 19) 1 = true := by decide +kernel
