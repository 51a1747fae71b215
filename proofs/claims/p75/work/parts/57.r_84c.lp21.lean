/-! the law's cases, checked -/
theorem lq_73_21 : lw_q 2323 (1 * 36) (1 * 21) 1 = true := by decide +kernel
