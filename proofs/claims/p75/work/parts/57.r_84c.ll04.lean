/-! the law's cases, checked -/
theorem lq_73_4 : lw_q 2323 (1 * 36) (1 * 4) 1 = true := by decide +kernel
theorem lq_73_5 : lw_q 2323 (1 * 36) (1 * 5) 1 = true := by decide +kernel
theorem lq_73_6 : lw_q 2323 (1 * 36) (1 * 6) 1 = true := by decide +kernel
theorem lq_73_7 : lw_q 2323 (1 * 36) (1 * 7) 1 = true := by decide +kernel
