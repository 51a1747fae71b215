/-! or, shift; what the machine's own numbers say (clean) -/
theorem bo_ok {σ : Nat → Int} {N : Nat} : ∀ {bs : List rj_F} {m : Nat}, m < 2 ^ bs.length → rj_bok σ N bs → rj_bv σ (rj_bo (m : Int) bs) = (((rj_bv σ bs).toNat ||| m : Nat) : Int) ∧ rj_bok σ N (rj_bo (m : Int) bs)
  | [], m, hm, _ => by
    have hm : m < 1 := hm
    have : m = 0 := by omega
    subst this
    refine ⟨?_, fun b hb => absurd hb List.not_mem_nil⟩
    show (0 : Int) = (((0 : Int).toNat ||| 0 : Nat) : Int)
    simp
  | b :: r, m, hlt, h => by
    have h1 := h b List.mem_cons_self
    have hr := fun c hc => h c (List.mem_cons_of_mem b hc)
    have h2 := bv_nn (bs := r) hr
    have hp : 2 ^ (b :: r).length = 2 ^ r.length * 2 := Nat.pow_succ 2 r.length
    obtain ⟨i1, i2⟩ := bo_ok (bs := r) (m := m / 2) (by omega) hr
    have hm : ((m : Int) / 2) = ((m / 2 : Nat) : Int) := rfl
    have e1 := or_half (rj_bv σ (b :: r)).toNat m
    have e2 := or_low (rj_bv σ (b :: r)).toNat m
    have hv : rj_bv σ (b :: r) = rj_ev σ b + 2 * rj_bv σ r := rfl
    have e3 : (rj_bv σ (b :: r)).toNat / 2 = (rj_bv σ r).toNat := by rw [hv]; omega
    have e4 : (rj_bv σ (b :: r)).toNat % 2 = (rj_ev σ b).toNat := by rw [hv]; omega
    rw [e3] at e1
    rw [e4] at e2
    refine ⟨?_, List.forall_mem_cons.mpr ⟨?_, by rw [hm]; exact i2⟩⟩
    · show rj_ev σ (match decide ((m : Int) % 2 = 1) with | true => rj_k 1 | false => b) + 2 * rj_bv σ (rj_bo ((m : Int) / 2) r) = _
      rw [hm, i1]
      split
      · rename_i hd
        rw [decide_eq_true_eq] at hd
        have hd : m % 2 = 1 := by omega
        rw [hd] at e2
        rw [ev_k]
        omega
      · rename_i hd
        rw [decide_eq_false_iff_not] at hd
        have hd : m % 2 = 0 := by omega
        rw [hd] at e2
        omega
    · split
      · exact ⟨wf_k, by rw [ev_k]; decide, by rw [ev_k]; decide⟩
      · exact h1
theorem bs_ok {σ : Nat → Int} {N : Nat} : ∀ (k : Nat) {bs : List rj_F}, rj_bok σ N bs → rj_bv σ (bs.drop k) = rj_bv σ bs / 2 ^ k ∧ rj_bok σ N (bs.drop k)
  | 0, bs, h => ⟨(Int.ediv_one _).symm, h⟩
  | k + 1, [], h => by
    refine ⟨?_, h⟩
    show (0 : Int) = 0 / 2 ^ (k + 1)
    rw [Int.zero_ediv]
  | k + 1, b :: r, h => by
    obtain ⟨i1, i2⟩ := bs_ok k (bs := r) (fun c hc => h c (List.mem_cons_of_mem b hc))
    have h1 := h b List.mem_cons_self
    refine ⟨?_, i2⟩
    show rj_bv σ (r.drop k) = (rj_ev σ b + 2 * rj_bv σ r) / 2 ^ (k + 1)
    have h3 : (2 : Int) ^ (k + 1) = 2 * 2 ^ k := by rw [Int.pow_succ, Int.mul_comm]
    rw [i1, h3, ← Int.ediv_ediv_of_nonneg (by decide : (0 : Int) ≤ 2)]
    have : (rj_ev σ b + 2 * rj_bv σ r) / 2 = rj_bv σ r := by omega
    rw [this]
theorem i32_nat {x : Int32} (h : 0 ≤ x.toInt) : x.toInt = (x.toBitVec.toNat : Int) ∧ x.toBitVec.toNat < 2147483648 := by
  have e : x.toInt = x.toBitVec.toInt := rfl
  rw [BitVec.toInt_eq_toNat_cond] at e
  have hl := x.toBitVec.isLt
  split at e <;> omega
theorem i32_and {x y : Int32} (hx : 0 ≤ x.toInt) (hy : 0 ≤ y.toInt) : (x &&& y).toInt = ((x.toInt.toNat &&& y.toInt.toNat : Nat) : Int) := by
  obtain ⟨a1, a2⟩ := i32_nat hx
  obtain ⟨b1, b2⟩ := i32_nat hy
  have e1 : (x &&& y).toInt = (x.toBitVec &&& y.toBitVec).toInt := rfl
  have hle : x.toBitVec.toNat &&& y.toBitVec.toNat ≤ y.toBitVec.toNat := Nat.and_le_right
  rw [BitVec.toInt_eq_toNat_cond, BitVec.toNat_and] at e1
  rw [show x.toInt.toNat = x.toBitVec.toNat by omega, show y.toInt.toNat = y.toBitVec.toNat by omega]
  split at e1 <;> omega
theorem i32_or {x y : Int32} (hx : 0 ≤ x.toInt) (hy : 0 ≤ y.toInt) : (x ||| y).toInt = ((x.toInt.toNat ||| y.toInt.toNat : Nat) : Int) := by
  obtain ⟨a1, a2⟩ := i32_nat hx
  obtain ⟨b1, b2⟩ := i32_nat hy
  have e1 : (x ||| y).toInt = (x.toBitVec ||| y.toBitVec).toInt := rfl
  have hle : x.toBitVec.toNat ||| y.toBitVec.toNat < 2 ^ 31 := Nat.or_lt_two_pow a2 b2
  rw [BitVec.toInt_eq_toNat_cond, BitVec.toNat_or] at e1
  rw [show x.toInt.toNat = x.toBitVec.toNat by omega, show y.toInt.toNat = y.toBitVec.toNat by omega]
  split at e1 <;> omega
