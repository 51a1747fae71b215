/-! v2: shifts, division, conversions -/
theorem sh31d : ∀ n : Fin 32, ((Int32.ofInt (n.val : Int) &&& 31).toBitVec.smod 32).toNat = n.val := by decide +kernel
theorem sh31 {b : Int32} (h1 : 0 ≤ b.toInt) (h2 : b.toInt ≤ 31) : ((b &&& 31).toBitVec.smod 32).toNat = b.toInt.toNat := by
  have hb : b = Int32.ofInt ((b.toInt.toNat : Nat) : Int) := Int32.toInt_inj.mp (by rw [ofI (by omega) (by omega)]; omega)
  have := sh31d ⟨b.toInt.toNat, by omega⟩
  dsimp only at this
  rw [← hb] at this
  exact this
def rj_pw (n : Int) : Int := ((2 ^ n.toNat : Nat) : Int)
def rj_ishl (K : rj_K) (x y : rj_F) : rj_K × rj_F := match rj_iv K.1 x, rj_iv K.1 y with
  | X, Y => match decide (0 ≤ Y.1) && (decide (Y.2 ≤ 31) && (decide (0 ≤ X.1) && decide (X.2 * rj_pw Y.2 ≤ 2147483647))) with
    | true => rj_fr K (X.1 * rj_pw Y.1) (X.2 * rj_pw Y.2)
    | false => rj_anyI K
theorem pw_mono {a b : Int} (h0 : 0 ≤ a) (h : a ≤ b) : rj_pw a ≤ rj_pw b := by
  unfold rj_pw
  have := Nat.pow_le_pow_right (show 0 < 2 by decide) (show a.toNat ≤ b.toNat by omega)
  omega
theorem pw_pos (a : Int) : 0 < rj_pw a := by
  unfold rj_pw
  have := Nat.pow_pos (n := a.toNat) (show 0 < 2 by decide)
  omega
theorem mul_mono {a b c d : Int} (h0 : 0 ≤ a) (h1 : a ≤ b) (h2 : 0 ≤ c) (h3 : c ≤ d) : a * c ≤ b * d := Int.mul_le_mul h1 h3 h2 (by omega)
theorem ishl_ok : rj_I2 rj_ishl (fun a b => a <<< (b &&& 31)) := by
  intro σ K x y a b hK hx hy
  have hX := iv_ok hK.1 hx.1
  have hY := iv_ok hK.1 hy.1
  rw [hx.2] at hX
  rw [hy.2] at hY
  unfold rj_ishl
  generalize rj_iv K.1 x = X at hX
  generalize rj_iv K.1 y = Y at hY
  dsimp only
  split
  · rename_i hd
    simp only [Bool.and_eq_true, decide_eq_true_eq] at hd
    obtain ⟨d1, d2, d3, d4⟩ := hd
    have ha : 0 ≤ a.toInt := by omega
    have hb0 : 0 ≤ b.toInt := by omega
    obtain ⟨a1, a2⟩ := i32_nat ha
    have hs := pk_shl a (b &&& 31) _ (sh31 hb0 (by omega))
    have m1 : a.toInt * rj_pw b.toInt ≤ X.2 * rj_pw Y.2 := mul_mono ha hX.2 (Int.le_of_lt (pw_pos _)) (pw_mono hb0 hY.2)
    have m2 : X.1 * rj_pw Y.1 ≤ a.toInt * rj_pw b.toInt := mul_mono d3 hX.1 (Int.le_of_lt (pw_pos _)) (pw_mono d1 hY.1)
    have hp : a.toInt * rj_pw b.toInt = ((a.toBitVec.toNat * 2 ^ b.toInt.toNat : Nat) : Int) := by
      unfold rj_pw
      rw [a1, Int.natCast_mul]
    have hlt : a.toBitVec.toNat * 2 ^ b.toInt.toNat < 2147483648 := by omega
    have hv : (a <<< (b &&& 31)).toInt = a.toInt * rj_pw b.toInt := by
      have e : (a <<< (b &&& 31)).toInt = (a <<< (b &&& 31)).toBitVec.toInt := rfl
      rw [e, BitVec.toInt_eq_toNat_cond, hs, Nat.mod_eq_of_lt (by omega), hp, if_pos (by omega)]
    rw [hv]
    exact to_fr hK m2 (by omega)
  · exact anyI_ok hK _
def rj_ishr (K : rj_K) (x0 y0 : rj_F) : rj_K × rj_F := match rj_norm K.1 x0, rj_norm K.1 y0 with
  | x, y => match y.2.isEmpty && (decide (0 ≤ y.1) && decide (y.1 ≤ 31)) with
    | false => rj_anyI K
    | true => match rj_bits K.1 x with
      | none => rj_anyI K
      | some bs => (K, rj_ub (bs.drop y.1.toNat))
theorem ishr_ok : rj_I2 rj_ishr (fun a b => a >>> (b &&& 31)) := by
  intro σ K x0 y0 a b hK hx hy
  have nx := n_norm hK hx
  have ny := n_norm hK hy
  unfold rj_ishr
  generalize rj_norm K.1 x0 = x at nx
  generalize rj_norm K.1 y0 = y at ny
  dsimp only
  split
  · exact anyI_ok hK _
  · rename_i hd
    simp only [Bool.and_eq_true, decide_eq_true_eq] at hd
    have hb := n_cst ny (List.isEmpty_iff.mp hd.1)
    split
    · exact anyI_ok hK _
    · rename_i bs hbs
      obtain ⟨b1, b2⟩ := bits_ok hK.1 nx.1 hbs
      obtain ⟨d1, d2⟩ := bs_ok (σ := σ) (N := K.1.length) y.1.toNat b2
      obtain ⟨u1, u2⟩ := ub_ok d2
      have hs := pk_shr a (b &&& 31) _ (sh31 (b := b) (by omega) (by omega))
      refine to_id hK ⟨u2, ?_⟩
      rw [u1, d1, b1, nx.2, hs, Int.shiftRight_eq_div_pow, hb]
      norm_cast
def rj_nz (Y : Int × Int) : Bool := decide (0 < Y.1) || decide (Y.2 < 0)
def rj_idiv (K : rj_K) (x y : rj_F) : Option (rj_K × rj_F) := match rj_iv K.1 x, rj_iv K.1 y with
  | X, Y => match rj_nz Y with
    | false => none
    | true => match decide (0 ≤ X.1) && decide (0 < Y.1) with
      | true => some (rj_fr K (X.1 / Y.2) (X.2 / Y.1))
      | false => some (rj_anyI K)
def rj_irem (K : rj_K) (x y : rj_F) : Option (rj_K × rj_F) := match rj_iv K.1 x, rj_iv K.1 y with
  | X, Y => match rj_nz Y with
    | false => none
    | true => match decide (0 < Y.1) with
      | true => some (rj_fr K (match decide (0 ≤ X.1) with
        | true => 0
        | false => -(Y.2 - 1)) (Y.2 - 1))
      | false => some (rj_anyI K)
def rj_ldiv (K : rj_K) (_ y : rj_F) : Option (rj_K × rj_F) := match rj_nz (rj_iv K.1 y) with
  | false => none
  | true => some (rj_anyL K)
theorem nz_ok {Y : Int × Int} {b : Int} (h : rj_nz Y = true) (h1 : Y.1 ≤ b) (h2 : b ≤ Y.2) : b ≠ 0 := by
  unfold rj_nz at h
  rw [Bool.or_eq_true, decide_eq_true_eq, decide_eq_true_eq] at h
  omega
def rj_O2 (f : rj_K → rj_F → rj_F → Option (rj_K × rj_F)) (op : Int32 → Int32 → Int32) : Prop := ∀ (σ : Nat → Int) (K : rj_K) (x y : rj_F) (a b : Int32) (r : rj_K × rj_F), rj_sat σ K → rj_n K.1.length σ x a.toInt → rj_n K.1.length σ y b.toInt → f K x y = some r → ¬ b = 0 ∧ rj_to K σ r (op a b).toInt
def rj_OL (f : rj_K → rj_F → rj_F → Option (rj_K × rj_F)) (op : Int64 → Int64 → Int64) : Prop := ∀ (σ : Nat → Int) (K : rj_K) (x y : rj_F) (a b : Int64) (r : rj_K × rj_F), rj_sat σ K → rj_n K.1.length σ x a.toInt → rj_n K.1.length σ y b.toInt → f K x y = some r → ¬ b = 0 ∧ rj_to K σ r (op a b).toInt
theorem div_lo {a b x y : Int} (ha : x ≤ a) (hb : 0 < b) (hy : b ≤ y) (hx : 0 ≤ x) : x / y ≤ a / b := by
  refine (Int.le_ediv_iff_mul_le hb).mpr ?_
  have h0 : 0 ≤ x / y := Int.ediv_nonneg hx (by omega)
  have h1 : x / y * b ≤ x / y * y := Int.mul_le_mul_of_nonneg_left hy h0
  have h2 : x / y * y ≤ x := Int.ediv_mul_le x (by omega)
  omega
theorem div_hi {a b x y : Int} (ha : a ≤ x) (hy : 0 < y) (hb : y ≤ b) (h0 : 0 ≤ a) : a / b ≤ x / y := by
  refine (Int.le_ediv_iff_mul_le hy).mpr ?_
  have hq : 0 ≤ a / b := Int.ediv_nonneg h0 (by omega)
  have h1 : a / b * y ≤ a / b * b := Int.mul_le_mul_of_nonneg_left hb hq
  have h2 : a / b * b ≤ a := Int.ediv_mul_le a (by omega)
  omega
theorem idiv_ok : rj_O2 rj_idiv (fun a b => a / b) := by
  intro σ K x y a b r hK hx hy h
  have hX := iv_ok hK.1 hx.1
  have hY := iv_ok hK.1 hy.1
  rw [hx.2] at hX
  rw [hy.2] at hY
  unfold rj_idiv at h
  generalize rj_iv K.1 x = X at hX h
  generalize rj_iv K.1 y = Y at hY h
  dsimp only at h
  split at h
  · cases h
  · rename_i hz
    have hb0 := nz_ok hz hY.1 hY.2
    refine ⟨fun hb => hb0 (by rw [hb]; rfl), ?_⟩
    split at h
    · rename_i hd
      rw [Bool.and_eq_true, decide_eq_true_eq, decide_eq_true_eq] at hd
      cases h
      have ha : 0 ≤ a.toInt := by omega
      have hbp : 0 < b.toInt := by omega
      have hv : (a / b).toInt = a.toInt / b.toInt := by
        have h1 : 0 ≤ a.toInt / b.toInt := Int.ediv_nonneg ha (by omega)
        have h2 : a.toInt / b.toInt ≤ a.toInt := Int.ediv_le_self _ ha
        have h3 := r32_hi a
        rw [Int32.toInt_div, Int.tdiv_eq_ediv_of_nonneg ha]
        exact bm_32 (by omega) (by omega)
      rw [hv]
      exact to_fr hK (div_lo hX.1 hbp hY.2 hd.1) (div_hi hX.2 hd.2 hY.1 ha)
    · cases h
      exact anyI_ok hK _
theorem tm_b {a b : Int} (hb : 0 < b) : -b < a.tmod b ∧ a.tmod b < b ∧ (0 ≤ a → 0 ≤ a.tmod b ∧ a.tmod b ≤ a) ∧ (a ≤ 0 → a ≤ a.tmod b ∧ a.tmod b ≤ 0) := by
  rcases Int.le_total 0 a with h | h
  · rw [Int.tmod_eq_emod_of_nonneg h]
    have h1 := Int.emod_nonneg a (show b ≠ 0 by omega)
    have h2 := Int.emod_lt_of_pos a hb
    have h3 : a % b ≤ a := by
      have e := Int.emod_add_mul_ediv a b
      have q : 0 ≤ b * (a / b) := Int.mul_nonneg (by omega) (Int.ediv_nonneg h (by omega))
      omega
    refine ⟨by omega, h2, fun _ => ⟨h1, h3⟩, fun _ => ⟨by omega, by omega⟩⟩
  · have e : a.tmod b = -((-a) % b) := by
      rw [← Int.tmod_eq_emod_of_nonneg (show 0 ≤ -a by omega), Int.neg_tmod, Int.neg_neg]
    rw [e]
    have h1 := Int.emod_nonneg (-a) (show b ≠ 0 by omega)
    have h2 := Int.emod_lt_of_pos (-a) hb
    have h3 : (-a) % b ≤ -a := by
      have e := Int.emod_add_mul_ediv (-a) b
      have q : 0 ≤ b * ((-a) / b) := Int.mul_nonneg (by omega) (Int.ediv_nonneg (by omega) (by omega))
      omega
    refine ⟨by omega, by omega, fun _ => ⟨by omega, by omega⟩, fun _ => ⟨by omega, by omega⟩⟩
theorem rem_v {a b : Int32} (hb : 0 < b.toInt) : (a - a / b * b).toInt = a.toInt.tmod b.toInt := by
  obtain ⟨t1, t2, t3, t4⟩ := tm_b (a := a.toInt) hb
  have l := r32_lo a
  have h := r32_hi a
  have e := Int.mul_tdiv_add_tmod a.toInt b.toInt
  have ecomm : a.toInt.tdiv b.toInt * b.toInt = a.toInt - a.toInt.tmod b.toInt := by
    rw [Int.mul_comm]
    omega
  have rng : -2147483648 ≤ a.toInt - a.toInt.tmod b.toInt ∧ a.toInt - a.toInt.tmod b.toInt ≤ 2147483647 := by
    rcases Int.le_total 0 a.toInt with h0 | h0
    · have := t3 h0
      omega
    · have := t4 h0
      omega
  have dr : -2147483648 ≤ a.toInt.tdiv b.toInt ∧ a.toInt.tdiv b.toInt ≤ 2147483647 := by
    rcases Int.le_total 0 a.toInt with h0 | h0
    · rw [Int.tdiv_eq_ediv_of_nonneg h0]
      have h1 : 0 ≤ a.toInt / b.toInt := Int.ediv_nonneg h0 (by omega)
      have h2 : a.toInt / b.toInt ≤ a.toInt := Int.ediv_le_self _ h0
      omega
    · have e2 : a.toInt.tdiv b.toInt = -((-a.toInt) / b.toInt) := by
        rw [← Int.tdiv_eq_ediv_of_nonneg (show 0 ≤ -a.toInt by omega), Int.neg_tdiv, Int.neg_neg]
      have h1 : 0 ≤ (-a.toInt) / b.toInt := Int.ediv_nonneg (by omega) (by omega)
      have h2 : (-a.toInt) / b.toInt ≤ -a.toInt := Int.ediv_le_self _ (by omega)
      omega
  rw [Int32.toInt_sub, Int32.toInt_mul, Int32.toInt_div, bm_32 dr.1 dr.2, ecomm, bm_32 rng.1 rng.2]
  have f : a.toInt - (a.toInt - a.toInt.tmod b.toInt) = a.toInt.tmod b.toInt := by omega
  rw [f]
  have hb2 := r32_hi b
  exact bm_32 (by omega) (by omega)
theorem irem_ok : rj_O2 rj_irem (fun a b => a - a / b * b) := by
  intro σ K x y a b r hK hx hy h
  have hX := iv_ok hK.1 hx.1
  have hY := iv_ok hK.1 hy.1
  rw [hx.2] at hX
  rw [hy.2] at hY
  unfold rj_irem at h
  generalize rj_iv K.1 x = X at hX h
  generalize rj_iv K.1 y = Y at hY h
  dsimp only at h
  split at h
  · cases h
  · rename_i hz
    have hb0 := nz_ok hz hY.1 hY.2
    refine ⟨fun hb => hb0 (by rw [hb]; rfl), ?_⟩
    split at h
    · rename_i hd
      rw [decide_eq_true_eq] at hd
      cases h
      have hbp : 0 < b.toInt := by omega
      obtain ⟨t1, t2, t3, t4⟩ := tm_b (a := a.toInt) hbp
      rw [rem_v hbp]
      refine to_fr hK ?_ (by omega)
      split
      · rename_i h0
        rw [decide_eq_true_eq] at h0
        exact (t3 (by omega)).1
      · omega
    · cases h
      exact anyI_ok hK _
theorem ldiv_ok (op : Int64 → Int64 → Int64) : rj_OL rj_ldiv op := by
  intro σ K x y a b r hK hx hy h
  have hY := iv_ok hK.1 hy.1
  rw [hy.2] at hY
  unfold rj_ldiv at h
  split at h
  · cases h
  · rename_i hz
    have hb0 := nz_ok hz hY.1 hY.2
    cases h
    exact ⟨fun hb => hb0 (by rw [hb]; rfl), anyL_ok hK _⟩
def rj_I1 (f : rj_K → rj_F → rj_K × rj_F) (op : Int32 → Int32) : Prop := ∀ (σ : Nat → Int) (K : rj_K) (x : rj_F) (a : Int32), rj_sat σ K → rj_n K.1.length σ x a.toInt → rj_to K σ (f K x) (op a).toInt
def rj_ineg (K : rj_K) (x : rj_F) : rj_K × rj_F := rj_mkI K (rj_scale (-1) x)
def rj_i2b (K : rj_K) (_ : rj_F) : rj_K × rj_F := rj_fr K (-128) 127
def rj_i2s (K : rj_K) (_ : rj_F) : rj_K × rj_F := rj_fr K (-32768) 32767
theorem ineg_ok : rj_I1 rj_ineg (fun a => -a) := fun σ K x a hK hx => mkI_ok hK (n_scale (-1) hx) (by rw [Int32.toInt_neg]; congr 1; omega)
theorem i2b_ok : rj_I1 rj_i2b (fun a => a.toInt8.toInt32) := fun σ K x a hK hx => to_fr hK (i2b_b a).1 (i2b_b a).2
theorem i2s_b (x : Int32) : -32768 ≤ x.toInt16.toInt32.toInt ∧ x.toInt16.toInt32.toInt ≤ 32767 := by
  rw [Int16.toInt_toInt32]
  have h1 := Int16.le_toInt x.toInt16
  have h2 := Int16.toInt_lt x.toInt16
  omega
theorem i2s_ok : rj_I1 rj_i2s (fun a => a.toInt16.toInt32) := fun σ K x a hK hx => to_fr hK (i2s_b a).1 (i2s_b a).2
theorem l2i_ok {σ : Nat → Int} {K : rj_K} {x : rj_F} {a : Int64} (hK : rj_sat σ K) (hx : rj_n K.1.length σ x a.toInt) : rj_to K σ (rj_mkI K x) a.toInt32.toInt := mkI_ok hK hx (Int64.toInt_toInt32 a)
