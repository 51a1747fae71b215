/-! a law's case, its points put together -/
theorem lf_73 : lw_f 2323 = true := by
  refine lwf_q (c2 := 1) (M := 36) (by decide) (by decide) ?_
  intro j hj
  match j, hj with
  | 0, _ => exact lq_73_0
  | 1, _ => exact lq_73_1
  | 2, _ => exact lq_73_2
  | 3, _ => exact lq_73_3
  | 4, _ => exact lq_73_4
  | 5, _ => exact lq_73_5
  | 6, _ => exact lq_73_6
  | 7, _ => exact lq_73_7
  | 8, _ => exact lq_73_8
  | 9, _ => exact lq_73_9
  | 10, _ => exact lq_73_10
  | 11, _ => exact lq_73_11
  | 12, _ => exact lq_73_12
  | 13, _ => exact lq_73_13
  | 14, _ => exact lq_73_14
  | 15, _ => exact lq_73_15
  | 16, _ => exact lq_73_16
  | 17, _ => exact lq_73_17
  | 18, _ => exact lq_73_18
  | 19, _ => exact lq_73_19
  | 20, _ => exact lq_73_20
  | 21, _ => exact lq_73_21
  | 22, _ => exact lq_73_22
  | 23, _ => exact lq_73_23
  | 24, _ => exact lq_73_24
  | 25, _ => exact lq_73_25
  | 26, _ => exact lq_73_26
  | 27, _ => exact lq_73_27
  | 28, _ => exact lq_73_28
  | 29, _ => exact lq_73_29
  | 30, _ => exact lq_73_30
  | 31, _ => exact lq_73_31
  | 32, _ => exact lq_73_32
  | 33, _ => exact lq_73_33
  | 34, _ => exact lq_73_34
  | 35, _ => exact lq_73_35
  | n + 36, hj => exact absurd hj (by omega)
