/-! the law's cases, checked -/
theorem lq_73_26 : lw_q 2323 (1 * 36) (1 * 26) 1 = true := by decide +kernel
