/-! the law: its run by the interpreter -/
def ri_st0 (L : Nat) : ri_S := (0, [(0, .inr (.inr (.inr ())))], [], [], List.replicate L (-2147483648, 2147483647), 0, 0)
def ri_end1 (st : ri_S) : Bool := match ri_at ct_law st.1, st with
  | some (.ireturn, 1), (_, _, [.inl x], _, E, cs, ss) => decide (ri_iv E x = (1, 1)) && (Nat.ble cs 600000 && Nat.ble ss 7302249)
  | _, _ => false
def ri_law (L f : Nat) : Bool := match ri_run ct_law (ri_step 10 (some L) false 4 600000 7302249 (ri_callT 12)) f (ri_st0 L) with
  | none => false
  | some sts => sts.all ri_end1
theorem law_0 : ri_law 0 100000 = true := by decide +kernel
theorem law_1 : ri_law 1 100000 = true := by decide +kernel
theorem law_2 : ri_law 2 100000 = true := by decide +kernel
theorem law_3 : ri_law 3 100000 = true := by decide +kernel
theorem law_4 : ri_law 4 100000 = true := by decide +kernel
theorem law_5 : ri_law 5 100000 = true := by decide +kernel
theorem law_6 : ri_law 6 100000 = true := by decide +kernel
