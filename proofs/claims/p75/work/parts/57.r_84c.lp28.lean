/-! the law's cases, checked -/
theorem lq_73_28 : lw_q 2323 (1 * 36) (1 * 28) 1 = true := by decide +kernel
