/-! numbers: what bounds say -/
def ri_n (σ : Nat → Int) (n : ri_N) (z : Int) : Prop := n.1 ≤ z ∧ z ≤ n.2.1 ∧ (n.2.2 ≠ 0 → σ n.2.2 = z)
def ri_Eok (σ : Nat → Int) (E : ri_E) : Prop := ∀ (n : Nat) (x : Int × Int), E[n]? = some x → x.1 ≤ σ (n + 1) ∧ σ (n + 1) ≤ x.2
theorem rn_k (σ : Nat → Int) (z : Int) : ri_n σ (ri_k z) z := ⟨Int.le_refl _, Int.le_refl _, fun h => absurd rfl h⟩
theorem rn_iv {σ : Nat → Int} {E : ri_E} {x : ri_N} {z : Int} (hE : ri_Eok σ E) (h : ri_n σ x z) : (ri_iv E x).1 ≤ z ∧ z ≤ (ri_iv E x).2 := by
  obtain ⟨lo, hi, n⟩ := x
  obtain ⟨h1, h2, h3⟩ := h
  cases n with
  | zero => exact ⟨h1, h2⟩
  | succ n =>
    have hz : σ (n + 1) = z := h3 (Nat.succ_ne_zero n)
    show (E.getD n (lo, hi)).1 ≤ z ∧ z ≤ (E.getD n (lo, hi)).2
    rw [List.getD_eq_getElem?_getD]
    cases hq : E[n]? with
    | none => exact ⟨h1, h2⟩
    | some q =>
      have := hE n q hq
      rw [hz] at this
      exact this
theorem rn_nar {σ : Nat → Int} {E : ri_E} {x : ri_N} {z lo hi : Int} (hE : ri_Eok σ E) (h : ri_n σ x z) (h1 : lo ≤ z) (h2 : z ≤ hi) : ∃ E1, ri_nar E x lo hi = some E1 ∧ ri_Eok σ E1 := by
  obtain ⟨a1, a2⟩ := rn_iv hE h
  unfold ri_nar
  have hd : decide (max (ri_iv E x).1 lo ≤ min (ri_iv E x).2 hi) = true := by
    rw [decide_eq_true_eq]
    omega
  generalize hv : ri_iv E x = v at hd a1 a2 ⊢
  obtain ⟨va, vb⟩ := v
  dsimp only at hd a1 a2 ⊢
  rw [hd]
  dsimp only
  obtain ⟨l0, h0, n⟩ := x
  cases n with
  | zero => exact ⟨E, rfl, hE⟩
  | succ n =>
    refine ⟨_, rfl, ?_⟩
    have hz : σ (n + 1) = z := h.2.2 (Nat.succ_ne_zero n)
    intro k q hk
    by_cases hkn : n = k
    · subst hkn
      rw [List.getElem?_set] at hk
      simp only [if_true] at hk
      split at hk
      · cases hk
        rw [hz]
        constructor <;> dsimp only <;> omega
      · cases hk
    · rw [List.getElem?_set_ne hkn] at hk
      exact hE k q hk
theorem rn_bind {σ : Nat → Int} {E : ri_E} {x y : ri_N} {z w a b c d : Int} (hE : ri_Eok σ E) (hx : ri_n σ x z) (hy : ri_n σ y w) (h1 : a ≤ z) (h2 : z ≤ b) (h3 : c ≤ w) (h4 : w ≤ d) : ∃ E1, ri_bind (ri_nar E x a b) (fun E1 => ri_nar E1 y c d) = some E1 ∧ ri_Eok σ E1 := by
  obtain ⟨E1, e1, k1⟩ := rn_nar hE hx h1 h2
  obtain ⟨E2, e2, k2⟩ := rn_nar k1 hy h3 h4
  exact ⟨E2, by rw [e1]; exact e2, k2⟩
theorem rn_lt {σ : Nat → Int} {E : ri_E} {x y : ri_N} {z w : Int} (hE : ri_Eok σ E) (hx : ri_n σ x z) (hy : ri_n σ y w) (h : z < w) : ∃ E1, ri_lt E x y = some E1 ∧ ri_Eok σ E1 := by
  obtain ⟨a1, a2⟩ := rn_iv hE hx
  obtain ⟨b1, b2⟩ := rn_iv hE hy
  exact rn_bind hE hx hy a1 (by omega) (by omega) b2
theorem rn_le {σ : Nat → Int} {E : ri_E} {x y : ri_N} {z w : Int} (hE : ri_Eok σ E) (hx : ri_n σ x z) (hy : ri_n σ y w) (h : z ≤ w) : ∃ E1, ri_le E x y = some E1 ∧ ri_Eok σ E1 := by
  obtain ⟨a1, a2⟩ := rn_iv hE hx
  obtain ⟨b1, b2⟩ := rn_iv hE hy
  exact rn_bind hE hx hy a1 (by omega) (by omega) b2
theorem rn_eq {σ : Nat → Int} {E : ri_E} {x y : ri_N} {z w : Int} (hE : ri_Eok σ E) (hx : ri_n σ x z) (hy : ri_n σ y w) (h : z = w) : ∃ E1, ri_eq E x y = some E1 ∧ ri_Eok σ E1 := by
  obtain ⟨a1, a2⟩ := rn_iv hE hx
  obtain ⟨b1, b2⟩ := rn_iv hE hy
  exact rn_bind hE hx hy (by omega) (by omega) (by omega) (by omega)
theorem rn_neC {σ : Nat → Int} {E : ri_E} {x : ri_N} {z k : Int} (hE : ri_Eok σ E) (hx : ri_n σ x z) (h : z ≠ k) : ∃ E1, ri_neC E x k = some E1 ∧ ri_Eok σ E1 := by
  obtain ⟨a1, a2⟩ := rn_iv hE hx
  unfold ri_neC
  split
  · rename_i hd
    rw [decide_eq_true_eq] at hd
    exact rn_nar hE hx (by omega) a2
  · split
    · rename_i hd
      rw [decide_eq_true_eq] at hd
      exact rn_nar hE hx a1 (by omega)
    · exact ⟨E, rfl, hE⟩
theorem rn_ne {σ : Nat → Int} {E : ri_E} {x y : ri_N} {z w : Int} (hE : ri_Eok σ E) (hx : ri_n σ x z) (hy : ri_n σ y w) (h : z ≠ w) : ∃ E1, ri_ne E x y = some E1 ∧ ri_Eok σ E1 := by
  obtain ⟨a1, a2⟩ := rn_iv hE hx
  obtain ⟨b1, b2⟩ := rn_iv hE hy
  unfold ri_ne
  split
  · rename_i hd
    rw [decide_eq_true_eq] at hd
    exact rn_neC hE hx (by omega)
  · split
    · rename_i hd
      rw [decide_eq_true_eq] at hd
      exact rn_neC hE hy (by omega)
    · exact ⟨E, rfl, hE⟩
def ri_h (c : ClassFile.Cond) (z w : Int) : Prop := match c with
  | .eq => z = w
  | .ne => z ≠ w
  | .lt => z < w
  | .ge => w ≤ z
  | .gt => w < z
  | .le => z ≤ w
theorem rn_tst {σ : Nat → Int} {E : ri_E} {x y : ri_N} {z w : Int} (c : ClassFile.Cond) (hE : ri_Eok σ E) (hx : ri_n σ x z) (hy : ri_n σ y w) (h : ri_h c z w) : ∃ E1, ri_tst c E x y = some E1 ∧ ri_Eok σ E1 := by
  cases c
  · exact rn_eq hE hx hy h
  · exact rn_ne hE hx hy h
  · exact rn_lt hE hx hy h
  · exact rn_le hE hy hx h
  · exact rn_lt hE hy hx h
  · exact rn_le hE hx hy h
theorem rn_not {c : ClassFile.Cond} {z w : Int} (h : ¬ ri_h c z w) : ri_h (ri_neg c) z w := by
  cases c <;> simp only [ri_h, ri_neg] at h ⊢ <;> omega
theorem r32_lo (x : Int32) : -2147483648 ≤ x.toInt := by
  have := Int32.le_toInt x
  omega
theorem r32_hi (x : Int32) : x.toInt ≤ 2147483647 := by
  have := Int32.toInt_lt x
  omega
theorem r64_lo (x : Int64) : -9223372036854775808 ≤ x.toInt := by
  have := Int64.le_toInt x
  omega
theorem r64_hi (x : Int64) : x.toInt ≤ 9223372036854775807 := by
  have := Int64.toInt_lt x
  omega
theorem bm_32 {x : Int} (h1 : -2147483648 ≤ x) (h2 : x ≤ 2147483647) : x.bmod (2 ^ 32) = x := Int.bmod_eq_of_le (by omega) (by omega)
theorem bm_64 {x : Int} (h1 : -9223372036854775808 ≤ x) (h2 : x ≤ 9223372036854775807) : x.bmod (2 ^ 64) = x := Int.bmod_eq_of_le (by omega) (by omega)
/-- a number in bounds, without a name -/
def ri_b (n : ri_N) (z : Int) : Prop := n.2.2 = 0 ∧ n.1 ≤ z ∧ z ≤ n.2.1
theorem rb_n {σ : Nat → Int} {n : ri_N} {z : Int} (h : ri_b n z) : ri_n σ n z := ⟨h.2.1, h.2.2, fun q => absurd h.1 q⟩
theorem rb_any (x : Int32) : ri_b ri_anyI x.toInt := ⟨rfl, r32_lo x, r32_hi x⟩
theorem rb_anyL (x : Int64) : ri_b ri_anyL x.toInt := ⟨rfl, r64_lo x, r64_hi x⟩
theorem rb_int {lo hi v : Int} {x : Int32} (hx : x.toInt = v.bmod (2 ^ 32)) (h1 : lo ≤ v) (h2 : v ≤ hi) : ri_b (ri_int lo hi) x.toInt := by
  unfold ri_int
  split
  · rename_i hd
    rw [Bool.and_eq_true, decide_eq_true_eq, decide_eq_true_eq] at hd
    rw [hx, bm_32 (by omega) (by omega)]
    exact ⟨rfl, h1, h2⟩
  · exact rb_any x
theorem rb_long {lo hi v : Int} {x : Int64} (hx : x.toInt = v.bmod (2 ^ 64)) (h1 : lo ≤ v) (h2 : v ≤ hi) : ri_b (ri_long lo hi) x.toInt := by
  unfold ri_long
  split
  · rename_i hd
    rw [Bool.and_eq_true, decide_eq_true_eq, decide_eq_true_eq] at hd
    rw [hx, bm_64 (by omega) (by omega)]
    exact ⟨rfl, h1, h2⟩
  · exact rb_anyL x
abbrev ri_i (X : Int × Int) (z : Int) : Prop := X.1 ≤ z ∧ z ≤ X.2
theorem rb_add {X Y : Int × Int} {x y : Int32} (hx : ri_i X x.toInt) (hy : ri_i Y y.toInt) : ri_b (ri_add X Y) (x + y).toInt := rb_int (Int32.toInt_add x y) (by omega) (by omega)
theorem rb_sbt {X Y : Int × Int} {x y : Int32} (hx : ri_i X x.toInt) (hy : ri_i Y y.toInt) : ri_b (ri_sbt X Y) (x - y).toInt := rb_int (Int32.toInt_sub x y) (by omega) (by omega)
theorem rm_lin {a b z k : Int} (h1 : a ≤ z) (h2 : z ≤ b) : min (a * k) (b * k) ≤ z * k ∧ z * k ≤ max (a * k) (b * k) := by
  rcases Int.le_total 0 k with h | h
  · have e1 := Int.mul_le_mul_of_nonneg_right h1 h
    have e2 := Int.mul_le_mul_of_nonneg_right h2 h
    omega
  · have e1 := Int.mul_le_mul_of_nonpos_right h1 h
    have e2 := Int.mul_le_mul_of_nonpos_right h2 h
    omega
theorem rb_mul {X Y : Int × Int} {x y : Int32} (hx : ri_i X x.toInt) (hy : ri_i Y y.toInt) : ri_b (ri_mul X Y) (x * y).toInt := by
  have e1 := rm_lin (k := Y.1) hx.1 hx.2
  have e2 := rm_lin (k := Y.2) hx.1 hx.2
  have e3 := rm_lin (k := x.toInt) hy.1 hy.2
  have c1 := Int.mul_comm Y.1 x.toInt
  have c2 := Int.mul_comm Y.2 x.toInt
  have c3 := Int.mul_comm y.toInt x.toInt
  exact rb_int (Int32.toInt_mul x y) (by omega) (by omega)
theorem rb_and {X Y : Int × Int} {x y : Int32} (hx : ri_i X x.toInt) (hy : ri_i Y y.toInt) : ri_b (ri_and X Y) (x &&& y).toInt := by
  unfold ri_and
  split
  · rename_i hd
    rw [decide_eq_true_eq] at hd
    have hle : (x.toBitVec &&& y.toBitVec).toNat ≤ y.toBitVec.toNat := by rw [BitVec.toNat_and]; exact Nat.and_le_right
    have e1 : (x &&& y).toInt = (x.toBitVec &&& y.toBitVec).toInt := rfl
    have e2 : y.toInt = y.toBitVec.toInt := rfl
    rw [BitVec.toInt_eq_toNat_cond] at e1 e2
    have hl2 := y.toBitVec.isLt
    refine ⟨rfl, ?_, ?_⟩ <;> dsimp only <;> omega
  · exact rb_any _
theorem rb_any2 {X Y : Int × Int} {x : Int32} : ri_b (ri_any2 X Y) x.toInt := rb_any x
theorem rb_addL {X Y : Int × Int} {x y : Int64} (hx : ri_i X x.toInt) (hy : ri_i Y y.toInt) : ri_b (ri_addL X Y) (x + y).toInt := rb_long (Int64.toInt_add x y) (by omega) (by omega)
theorem rb_sbtL {X Y : Int × Int} {x y : Int64} (hx : ri_i X x.toInt) (hy : ri_i Y y.toInt) : ri_b (ri_sbtL X Y) (x - y).toInt := rb_long (Int64.toInt_sub x y) (by omega) (by omega)
theorem ofI {n : Int} (h1 : -2147483648 ≤ n) (h2 : n ≤ 2147483647) : (Int32.ofInt n).toInt = n := by
  rw [Int32.toInt_ofInt]
  exact bm_32 h1 h2
theorem of8 {n : Int} (h1 : -128 ≤ n) (h2 : n ≤ 127) : (Int8.ofInt n).toInt32.toInt = n := by
  rw [Int8.toInt_toInt32, Int8.toInt_ofInt]
  exact Int.bmod_eq_of_le (m := 256) (by omega) (by omega)
theorem of16 {n : Int} (h1 : -32768 ≤ n) (h2 : n ≤ 32767) : (Int16.ofInt n).toInt32.toInt = n := by
  rw [Int16.toInt_toInt32, Int16.toInt_ofInt]
  exact Int.bmod_eq_of_le (m := 65536) (by omega) (by omega)
theorem i2b_b (x : Int32) : -128 ≤ x.toInt8.toInt32.toInt ∧ x.toInt8.toInt32.toInt ≤ 127 := by
  rw [Int8.toInt_toInt32]
  have h1 := Int8.le_toInt x.toInt8
  have h2 := Int8.toInt_lt x.toInt8
  omega
