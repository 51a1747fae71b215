/-! v2: arithmetic -/
def rj_mkI (K : rj_K) (f : rj_F) : rj_K × rj_F := match rj_iv K.1 f with
  | (a, b) => match decide (-2147483648 ≤ a) && decide (b ≤ 2147483647) with
    | true => (K, f)
    | false => rj_fr K (-2147483648) 2147483647
def rj_mkL (K : rj_K) (f : rj_F) : rj_K × rj_F := match rj_iv K.1 f with
  | (a, b) => match decide (-9223372036854775808 ≤ a) && decide (b ≤ 9223372036854775807) with
    | true => (K, f)
    | false => rj_fr K (-9223372036854775808) 9223372036854775807
def rj_anyI (K : rj_K) : rj_K × rj_F := rj_fr K (-2147483648) 2147483647
def rj_anyL (K : rj_K) : rj_K × rj_F := rj_fr K (-9223372036854775808) 9223372036854775807
def rj_to (K : rj_K) (σ : Nat → Int) (r : rj_K × rj_F) (z : Int) : Prop := ∃ τ, rj_up K r.1 σ τ ∧ rj_n r.1.1.length τ r.2 z
theorem to_fr {K : rj_K} {σ : Nat → Int} {lo hi z : Int} (hK : rj_sat σ K) (h1 : lo ≤ z) (h2 : z ≤ hi) : rj_to K σ (rj_fr K lo hi) z := fr_up hK h1 h2 rfl
theorem to_id {K : rj_K} {σ : Nat → Int} {f : rj_F} {z : Int} (hK : rj_sat σ K) (h : rj_n K.1.length σ f z) : rj_to K σ (K, f) z := ⟨σ, up_refl hK, h⟩
theorem anyI_ok {K : rj_K} {σ : Nat → Int} (hK : rj_sat σ K) (k : Int32) : rj_to K σ (rj_anyI K) k.toInt := to_fr hK (r32_lo k) (r32_hi k)
theorem anyL_ok {K : rj_K} {σ : Nat → Int} (hK : rj_sat σ K) (k : Int64) : rj_to K σ (rj_anyL K) k.toInt := to_fr hK (r64_lo k) (r64_hi k)
theorem mkI_ok {K : rj_K} {σ : Nat → Int} {f : rj_F} {v : Int} {k : Int32} (hK : rj_sat σ K) (hf : rj_n K.1.length σ f v) (hk : k.toInt = v.bmod (2 ^ 32)) : rj_to K σ (rj_mkI K f) k.toInt := by
  have hi := iv_ok hK.1 hf.1
  unfold rj_mkI
  split
  rename_i a b hab
  rw [hab, hf.2] at hi
  dsimp only at hi
  split
  · rename_i hd
    rw [Bool.and_eq_true, decide_eq_true_eq, decide_eq_true_eq] at hd
    rw [hk, bm_32 (by omega) (by omega)]
    exact to_id hK hf
  · exact anyI_ok hK k
theorem mkL_ok {K : rj_K} {σ : Nat → Int} {f : rj_F} {v : Int} {k : Int64} (hK : rj_sat σ K) (hf : rj_n K.1.length σ f v) (hk : k.toInt = v.bmod (2 ^ 64)) : rj_to K σ (rj_mkL K f) k.toInt := by
  have hi := iv_ok hK.1 hf.1
  unfold rj_mkL
  split
  rename_i a b hab
  rw [hab, hf.2] at hi
  dsimp only at hi
  split
  · rename_i hd
    rw [Bool.and_eq_true, decide_eq_true_eq, decide_eq_true_eq] at hd
    rw [hk, bm_64 (by omega) (by omega)]
    exact to_id hK hf
  · exact anyL_ok hK k
/-- a operation of two ints, of two longs, is sound -/
def rj_I2 (f : rj_K → rj_F → rj_F → rj_K × rj_F) (op : Int32 → Int32 → Int32) : Prop := ∀ (σ : Nat → Int) (K : rj_K) (x y : rj_F) (a b : Int32), rj_sat σ K → rj_n K.1.length σ x a.toInt → rj_n K.1.length σ y b.toInt → rj_to K σ (f K x y) (op a b).toInt
def rj_L2 (f : rj_K → rj_F → rj_F → rj_K × rj_F) (op : Int64 → Int64 → Int64) : Prop := ∀ (σ : Nat → Int) (K : rj_K) (x y : rj_F) (a b : Int64), rj_sat σ K → rj_n K.1.length σ x a.toInt → rj_n K.1.length σ y b.toInt → rj_to K σ (f K x y) (op a b).toInt
theorem n_add {N : Nat} {σ : Nat → Int} {x y : rj_F} {a b : Int} (hx : rj_n N σ x a) (hy : rj_n N σ y b) : rj_n N σ (rj_add x y) (a + b) := ⟨wf_add hx.1 hy.1, by rw [ev_add, hx.2, hy.2]⟩
theorem n_sub {N : Nat} {σ : Nat → Int} {x y : rj_F} {a b : Int} (hx : rj_n N σ x a) (hy : rj_n N σ y b) : rj_n N σ (rj_sub x y) (a - b) := ⟨wf_sub hx.1 hy.1, by rw [ev_sub, hx.2, hy.2]⟩
theorem n_scale {N : Nat} {σ : Nat → Int} {x : rj_F} {a : Int} (c : Int) (hx : rj_n N σ x a) : rj_n N σ (rj_scale c x) (c * a) := ⟨wf_scale hx.1, by rw [ev_scale, hx.2]⟩
theorem n_norm {K : rj_K} {σ : Nat → Int} {x : rj_F} {a : Int} (hK : rj_sat σ K) (hx : rj_n K.1.length σ x a) : rj_n K.1.length σ (rj_norm K.1 x) a := by
  obtain ⟨h1, h2⟩ := norm_ok hK.1 hx.1
  exact ⟨h2, h1.trans hx.2⟩
theorem n_cst {N : Nat} {σ : Nat → Int} {f : rj_F} {a : Int} (h : rj_n N σ f a) (hf : f.2 = []) : a = f.1 := by
  have := h.2
  unfold rj_ev at this
  rw [hf] at this
  have : f.1 + 0 = a := this
  omega
theorem n_const {N : Nat} {σ : Nat → Int} {c : Int} {a : Int} (h : rj_n N σ (c, []) a) : a = c := by
  have := h.2
  unfold rj_ev at this
  have : c + 0 = a := this
  omega
def rj_iadd (K : rj_K) (x y : rj_F) : rj_K × rj_F := rj_mkI K (rj_add x y)
def rj_isub (K : rj_K) (x y : rj_F) : rj_K × rj_F := rj_mkI K (rj_sub x y)
def rj_ladd (K : rj_K) (x y : rj_F) : rj_K × rj_F := rj_mkL K (rj_add x y)
def rj_lsub (K : rj_K) (x y : rj_F) : rj_K × rj_F := rj_mkL K (rj_sub x y)
def rj_anyI2 (K : rj_K) (_ _ : rj_F) : rj_K × rj_F := rj_anyI K
def rj_anyL2 (K : rj_K) (_ _ : rj_F) : rj_K × rj_F := rj_anyL K
theorem iadd_ok : rj_I2 rj_iadd (fun a b => a + b) := fun σ K x y a b hK hx hy => mkI_ok hK (n_add hx hy) (Int32.toInt_add a b)
theorem isub_ok : rj_I2 rj_isub (fun a b => a - b) := fun σ K x y a b hK hx hy => mkI_ok hK (n_sub hx hy) (Int32.toInt_sub a b)
theorem ladd_ok : rj_L2 rj_ladd (fun a b => a + b) := fun σ K x y a b hK hx hy => mkL_ok hK (n_add hx hy) (Int64.toInt_add a b)
theorem lsub_ok : rj_L2 rj_lsub (fun a b => a - b) := fun σ K x y a b hK hx hy => mkL_ok hK (n_sub hx hy) (Int64.toInt_sub a b)
theorem anyI2_ok (op : Int32 → Int32 → Int32) : rj_I2 rj_anyI2 op := fun σ K x y a b hK hx hy => anyI_ok hK (op a b)
theorem anyL2_ok (op : Int64 → Int64 → Int64) : rj_L2 rj_anyL2 op := fun σ K x y a b hK hx hy => anyL_ok hK (op a b)
def rj_imul (K : rj_K) (x y : rj_F) : rj_K × rj_F := match (rj_norm K.1 y).2 with
  | [] => rj_mkI K (rj_scale (rj_norm K.1 y).1 (rj_norm K.1 x))
  | _ => match (rj_norm K.1 x).2 with
    | [] => rj_mkI K (rj_scale (rj_norm K.1 x).1 (rj_norm K.1 y))
    | _ => rj_anyI K
def rj_lmul (K : rj_K) (x y : rj_F) : rj_K × rj_F := match (rj_norm K.1 y).2 with
  | [] => rj_mkL K (rj_scale (rj_norm K.1 y).1 (rj_norm K.1 x))
  | _ => match (rj_norm K.1 x).2 with
    | [] => rj_mkL K (rj_scale (rj_norm K.1 x).1 (rj_norm K.1 y))
    | _ => rj_anyL K
theorem imul_ok : rj_I2 rj_imul (fun a b => a * b) := by
  intro σ K x y a b hK hx hy
  have nx := n_norm hK hx
  have ny := n_norm hK hy
  unfold rj_imul
  split
  · rename_i h1
    have hb := n_cst ny h1
    refine mkI_ok hK (n_scale _ nx) ?_
    rw [Int32.toInt_mul, hb, Int.mul_comm]
  · split
    · rename_i h2
      have ha := n_cst nx h2
      refine mkI_ok hK (n_scale _ ny) ?_
      rw [Int32.toInt_mul, ha]
    · exact anyI_ok hK _
theorem lmul_ok : rj_L2 rj_lmul (fun a b => a * b) := by
  intro σ K x y a b hK hx hy
  have nx := n_norm hK hx
  have ny := n_norm hK hy
  unfold rj_lmul
  split
  · rename_i h1
    have hb := n_cst ny h1
    refine mkL_ok hK (n_scale _ nx) ?_
    rw [Int64.toInt_mul, hb, Int.mul_comm]
  · split
    · rename_i h2
      have ha := n_cst nx h2
      refine mkL_ok hK (n_scale _ ny) ?_
      rw [Int64.toInt_mul, ha]
    · exact anyL_ok hK _
/-- a fact that holds is added -/
def rj_cf (K : rj_K) (f : rj_F) : rj_K := (K.1, (f, []) :: K.2)
theorem cf_ok {K : rj_K} {σ : Nat → Int} {f : rj_F} (hK : rj_sat σ K) (hf : rj_wf K.1.length f) (h : rj_ev σ f ≤ 0) : rj_up K (rj_cf K f) σ σ := up_len (K := K) ⟨hK.1, List.forall_mem_cons.mpr ⟨⟨hf, fun _ h => absurd h List.not_mem_nil, fun _ => h⟩, hK.2⟩⟩ rfl
/-- v is at most z, if z is no constant and not below 0 -/
def rj_most (K : rj_K) (v z : rj_F) : rj_K := match decide (0 ≤ (rj_iv K.1 z).1) && !(z.2.isEmpty) with
  | true => rj_cf K (rj_sub v z)
  | false => K
theorem most_ok {K : rj_K} {σ : Nat → Int} {v z : rj_F} {a b : Int} (hK : rj_sat σ K) (hv : rj_n K.1.length σ v a) (hz : rj_n K.1.length σ z b) (h : 0 ≤ b → a ≤ b) : rj_up K (rj_most K v z) σ σ := by
  unfold rj_most
  split
  · rename_i hd
    rw [Bool.and_eq_true, decide_eq_true_eq] at hd
    have hi := iv_ok hK.1 hz.1
    rw [hz.2] at hi
    refine cf_ok hK (wf_sub hv.1 hz.1) ?_
    rw [ev_sub, hv.2, hz.2]
    have := h (by omega)
    omega
  · exact up_refl hK
theorem and_le {x y : Int32} (hy : 0 ≤ y.toInt) : 0 ≤ (x &&& y).toInt ∧ (x &&& y).toInt ≤ y.toInt := by
  have hle : (x.toBitVec &&& y.toBitVec).toNat ≤ y.toBitVec.toNat := by rw [BitVec.toNat_and]; exact Nat.and_le_right
  have e1 : (x &&& y).toInt = (x.toBitVec &&& y.toBitVec).toInt := rfl
  have e2 : y.toInt = y.toBitVec.toInt := rfl
  rw [BitVec.toInt_eq_toNat_cond] at e1 e2
  have hl2 := y.toBitVec.isLt
  constructor <;> omega
theorem and_le2 {x y : Int32} (hx : 0 ≤ x.toInt) : 0 ≤ (x &&& y).toInt ∧ (x &&& y).toInt ≤ x.toInt := by
  rw [Int32.and_comm]
  exact and_le hx
def rj_andR (X Y : Int × Int) : Int × Int := match decide (0 ≤ X.1), decide (0 ≤ Y.1) with
  | true, true => (0, min X.2 Y.2)
  | false, true => (0, Y.2)
  | true, false => (0, X.2)
  | false, false => (-2147483648, 2147483647)
/-- by bits, where one is a constant -/
def rj_andB (K : rj_K) (x y : rj_F) : Option rj_F := match y with
  | (c, []) => (match decide (0 ≤ c) with
    | true => (match rj_bits K.1 x with
      | some bs => some (rj_ub (rj_bm c bs))
      | none => none)
    | false => none)
  | _ => none
theorem andB_ok {K : rj_K} {σ : Nat → Int} {x y r : rj_F} {a b : Int32} (hK : rj_sat σ K) (hx : rj_n K.1.length σ x a.toInt) (hy : rj_n K.1.length σ y b.toInt) (h : rj_andB K x y = some r) : rj_n K.1.length σ r (a &&& b).toInt := by
  unfold rj_andB at h
  split at h
  · rename_i c
    have hc := n_const hy
    split at h
    · rename_i hd
      rw [decide_eq_true_eq] at hd
      split at h
      · rename_i bs hb
        cases h
        obtain ⟨b1, b2⟩ := bits_ok hK.1 hx.1 hb
        have hn := bv_nn b2
        rw [b1, hx.2] at hn
        obtain ⟨m1, m2⟩ := bm_ok (σ := σ) (N := K.1.length) (m := c.toNat) b2
        have hcc : ((c.toNat : Nat) : Int) = c := Int.toNat_of_nonneg hd
        rw [hcc] at m1 m2
        obtain ⟨u1, u2⟩ := ub_ok m2
        refine ⟨u2, ?_⟩
        rw [u1, m1, b1, hx.2, i32_and hn (by omega), hc]
      · cases h
    · cases h
  · cases h
def rj_iand (K : rj_K) (x0 y0 : rj_F) : rj_K × rj_F := match rj_norm K.1 x0, rj_norm K.1 y0 with
  | x, y => match rj_andB K x y with
    | some r => (K, r)
    | none => match rj_andB K y x with
      | some r => (K, r)
      | none => match rj_andR (rj_iv K.1 x) (rj_iv K.1 y) with
        | (lo, hi) => match rj_fr K lo hi with
          | (K1, v) => (rj_most (rj_most K1 v x) v y, v)
theorem iand_ok : rj_I2 rj_iand (fun a b => a &&& b) := by
  intro σ K x0 y0 a b hK hx hy
  have nx := n_norm hK hx
  have ny := n_norm hK hy
  unfold rj_iand
  generalize rj_norm K.1 x0 = x at nx
  generalize rj_norm K.1 y0 = y at ny
  dsimp only
  split
  · rename_i r h
    exact to_id hK (andB_ok hK nx ny h)
  · split
    · rename_i r h
      have := andB_ok hK ny nx h
      rw [Int32.and_comm] at this
      exact to_id hK this
    · have hX := iv_ok hK.1 nx.1
      have hY := iv_ok hK.1 ny.1
      rw [nx.2] at hX
      rw [ny.2] at hY
      have hr : (rj_andR (rj_iv K.1 x) (rj_iv K.1 y)).1 ≤ (a &&& b).toInt ∧ (a &&& b).toInt ≤ (rj_andR (rj_iv K.1 x) (rj_iv K.1 y)).2 := by
        unfold rj_andR
        split
        · rename_i h1 h2
          rw [decide_eq_true_eq] at h1 h2
          have c1 := and_le (x := a) (y := b) (by omega)
          have c2 := and_le2 (x := a) (y := b) (by omega)
          exact ⟨c1.1, by show _ ≤ min _ _; omega⟩
        · rename_i h1 h2
          rw [decide_eq_true_eq] at h2
          have c1 := and_le (x := a) (y := b) (by omega)
          exact ⟨c1.1, by dsimp only; omega⟩
        · rename_i h1 h2
          rw [decide_eq_true_eq] at h1
          have c1 := and_le2 (x := a) (y := b) (by omega)
          exact ⟨c1.1, by dsimp only; omega⟩
        · exact ⟨r32_lo _, r32_hi _⟩
      obtain ⟨τ, u, hn⟩ := to_fr hK hr.1 hr.2
      have u1 := most_ok u.2.2 hn (rn_ag u.2.1 u.1 nx) (fun h => (and_le2 (x := a) (y := b) h).2)
      have u2 := most_ok u1.2.2 (rn_ag u1.2.1 u1.1 hn) (rn_ag u1.2.1 u1.1 (rn_ag u.2.1 u.1 ny)) (fun h => (and_le (x := a) (y := b) h).2)
      exact ⟨τ, up_trans (up_trans u u1) u2, rn_ag (Nat.le_trans u1.2.1 u2.2.1) (up_trans u1 u2).1 hn⟩
def rj_p2 (h : Int) : Int := match h.toNat with
  | 0 => 0
  | n + 1 => 2 ^ (Nat.log2 (n + 1) + 1) - 1
theorem p2_ok {h : Int} {n m : Nat} (hn : (n : Int) ≤ h) (hm : (m : Int) ≤ h) : ((n ||| m : Nat) : Int) ≤ rj_p2 h ∧ ((n ^^^ m : Nat) : Int) ≤ rj_p2 h := by
  unfold rj_p2
  split
  · rename_i h0
    have e1 : n = 0 := by omega
    have e2 : m = 0 := by omega
    subst e1
    subst e2
    exact ⟨Int.le_refl _, Int.le_refl _⟩
  · rename_i k hk
    have hlt : k + 1 < 2 ^ (Nat.log2 (k + 1) + 1) := Nat.lt_log2_self
    have a1 : n < 2 ^ (Nat.log2 (k + 1) + 1) := by omega
    have a2 : m < 2 ^ (Nat.log2 (k + 1) + 1) := by omega
    have o1 := Nat.or_lt_two_pow a1 a2
    have o2 := Nat.xor_lt_two_pow a1 a2
    have hc : ((2 ^ (Nat.log2 (k + 1) + 1) : Nat) : Int) = 2 ^ (Nat.log2 (k + 1) + 1) := by
      rw [Int.natCast_pow]
      rfl
    constructor <;> omega
def rj_orR (X Y : Int × Int) : Int × Int := match decide (0 ≤ X.1) && decide (0 ≤ Y.1) with
  | true => (0, rj_p2 (max X.2 Y.2))
  | false => (-2147483648, 2147483647)
def rj_orB (K : rj_K) (x y : rj_F) : Option rj_F := match y with
  | (c, []) => (match decide (0 ≤ c) && decide (c < 8) with
    | true => (match rj_bits K.1 x with
      | some bs => (match Nat.beq bs.length 3 with
        | true => some (rj_ub (rj_bo c bs))
        | false => none)
      | none => none)
    | false => none)
  | _ => none
theorem orB_ok {K : rj_K} {σ : Nat → Int} {x y r : rj_F} {a b : Int32} (hK : rj_sat σ K) (hx : rj_n K.1.length σ x a.toInt) (hy : rj_n K.1.length σ y b.toInt) (h : rj_orB K x y = some r) : rj_n K.1.length σ r (a ||| b).toInt := by
  unfold rj_orB at h
  split at h
  · rename_i c
    have hc := n_const hy
    split at h
    · rename_i hd
      rw [Bool.and_eq_true, decide_eq_true_eq, decide_eq_true_eq] at hd
      split at h
      · rename_i bs hb
        split at h
        · rename_i hl
          have hl := Nat.eq_of_beq_eq_true hl
          cases h
          obtain ⟨b1, b2⟩ := bits_ok hK.1 hx.1 hb
          have hn := bv_nn b2
          rw [b1, hx.2] at hn
          obtain ⟨m1, m2⟩ := bo_ok (σ := σ) (N := K.1.length) (m := c.toNat) (by rw [hl]; omega) b2
          have hcc : ((c.toNat : Nat) : Int) = c := Int.toNat_of_nonneg hd.1
          rw [hcc] at m1 m2
          obtain ⟨u1, u2⟩ := ub_ok m2
          refine ⟨u2, ?_⟩
          rw [u1, m1, b1, hx.2, i32_or hn (by omega), hc]
        · cases h
      · cases h
    · cases h
  · cases h
def rj_ior (K : rj_K) (x0 y0 : rj_F) : rj_K × rj_F := match rj_norm K.1 x0, rj_norm K.1 y0 with
  | x, y => match rj_orB K x y with
    | some r => (K, r)
    | none => match rj_orB K y x with
      | some r => (K, r)
      | none => match rj_orR (rj_iv K.1 x) (rj_iv K.1 y) with
        | (lo, hi) => rj_fr K lo hi
def rj_ixor (K : rj_K) (x y : rj_F) : rj_K × rj_F := match rj_orR (rj_iv K.1 x) (rj_iv K.1 y) with
  | (lo, hi) => rj_fr K lo hi
theorem i32_xor {x y : Int32} (hx : 0 ≤ x.toInt) (hy : 0 ≤ y.toInt) : (x ^^^ y).toInt = ((x.toInt.toNat ^^^ y.toInt.toNat : Nat) : Int) := by
  obtain ⟨a1, a2⟩ := i32_nat hx
  obtain ⟨b1, b2⟩ := i32_nat hy
  have e1 : (x ^^^ y).toInt = (x.toBitVec ^^^ y.toBitVec).toInt := rfl
  have hlt : x.toBitVec.toNat ^^^ y.toBitVec.toNat < 2 ^ 31 := Nat.xor_lt_two_pow a2 b2
  rw [e1, BitVec.toInt_eq_toNat_cond, BitVec.toNat_xor]
  rw [a1, b1, Int.toNat_natCast, Int.toNat_natCast]
  rw [if_pos (by omega)]
theorem orR_ok {X Y : Int × Int} {a b : Int32} (hX : X.1 ≤ a.toInt ∧ a.toInt ≤ X.2) (hY : Y.1 ≤ b.toInt ∧ b.toInt ≤ Y.2) : ((rj_orR X Y).1 ≤ (a ||| b).toInt ∧ (a ||| b).toInt ≤ (rj_orR X Y).2) ∧ ((rj_orR X Y).1 ≤ (a ^^^ b).toInt ∧ (a ^^^ b).toInt ≤ (rj_orR X Y).2) := by
  unfold rj_orR
  split
  · rename_i hd
    rw [Bool.and_eq_true, decide_eq_true_eq, decide_eq_true_eq] at hd
    have h1 : 0 ≤ a.toInt := by omega
    have h2 : 0 ≤ b.toInt := by omega
    rw [i32_or h1 h2, i32_xor h1 h2]
    have := p2_ok (h := max X.2 Y.2) (n := a.toInt.toNat) (m := b.toInt.toNat) (by omega) (by omega)
    exact ⟨⟨Int.natCast_nonneg _, this.1⟩, ⟨Int.natCast_nonneg _, this.2⟩⟩
  · exact ⟨⟨r32_lo _, r32_hi _⟩, ⟨r32_lo _, r32_hi _⟩⟩
theorem ior_ok : rj_I2 rj_ior (fun a b => a ||| b) := by
  intro σ K x0 y0 a b hK hx hy
  have nx := n_norm hK hx
  have ny := n_norm hK hy
  unfold rj_ior
  generalize rj_norm K.1 x0 = x at nx
  generalize rj_norm K.1 y0 = y at ny
  dsimp only
  split
  · rename_i r h
    exact to_id hK (orB_ok hK nx ny h)
  · split
    · rename_i r h
      have := orB_ok hK ny nx h
      rw [Int32.or_comm] at this
      exact to_id hK this
    · have hX := iv_ok hK.1 nx.1
      have hY := iv_ok hK.1 ny.1
      rw [nx.2] at hX
      rw [ny.2] at hY
      have hr := (orR_ok hX hY).1
      exact to_fr hK hr.1 hr.2
theorem ixor_ok : rj_I2 rj_ixor (fun a b => a ^^^ b) := by
  intro σ K x y a b hK hx hy
  have hX := iv_ok hK.1 hx.1
  have hY := iv_ok hK.1 hy.1
  rw [hx.2] at hX
  rw [hy.2] at hY
  have hr := (orR_ok hX hY).2
  exact to_fr hK hr.1 hr.2
