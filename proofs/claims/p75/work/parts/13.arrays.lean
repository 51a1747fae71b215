/-! the step is sound: arrays -/
theorem jn_l (a d : Int × Int) : (ri_jn a d).1 ≤ a.1 ∧ a.2 ≤ (ri_jn a d).2 := by
  unfold ri_jn
  dsimp only
  omega
theorem jn_r (a d : Int × Int) : (ri_jn a d).1 ≤ d.1 ∧ d.2 ≤ (ri_jn a d).2 := by
  unfold ri_jn
  dsimp only
  omega
theorem jnL_d : ∀ (l : List (Int × Int)) (d : Int × Int), (ri_jnL l d).1 ≤ d.1 ∧ d.2 ≤ (ri_jnL l d).2
  | [], d => ⟨Int.le_refl _, Int.le_refl _⟩
  | a :: l, d => by
    have h1 := jnL_d l d
    have h2 := jn_r a (ri_jnL l d)
    unfold ri_jnL
    omega
theorem jnL_mem : ∀ {l : List (Int × Int)} {x : Int × Int} (d : Int × Int), x ∈ l → (ri_jnL l d).1 ≤ x.1 ∧ x.2 ≤ (ri_jnL l d).2
  | [], _, _, h => absurd h List.not_mem_nil
  | a :: l, x, d, h => by
    unfold ri_jnL
    rcases List.mem_cons.mp h with h | h
    · rw [h]; exact jn_l a _
    · have h1 := jnL_mem d h
      have h2 := jn_r a (ri_jnL l d)
      omega
theorem el_jn (pre : List (Int × Int)) (df : Int × Int) (j : Nat) : (ri_jnL pre df).1 ≤ (ri_el pre df j).1 ∧ (ri_el pre df j).2 ≤ (ri_jnL pre df).2 := by
  unfold ri_el
  rw [List.getD_eq_getElem?_getD]
  cases h : pre[j]? with
  | none => exact jnL_d pre df
  | some x => exact jnL_mem df (List.mem_of_getElem? h)
theorem sel_ok {pre : List (Int × Int)} {df : Int × Int} {lo hi j : Nat} (h1 : lo ≤ j) (h2 : j ≤ hi) : (ri_sel pre df lo hi).1 ≤ (ri_el pre df j).1 ∧ (ri_el pre df j).2 ≤ (ri_sel pre df lo hi).2 := by
  unfold ri_sel
  split
  · rename_i hd
    rw [decide_eq_true_eq] at hd
    have hj : pre[j]? = some pre[j] := List.getElem?_eq_getElem (by omega)
    have hm : pre[j] ∈ (pre.drop lo).take (hi + 1 - lo) := by
      refine List.mem_of_getElem? (i := j - lo) ?_
      rw [List.getElem?_take_of_lt (by omega), List.getElem?_drop, show lo + (j - lo) = j by omega]
      exact hj
    have he : ri_el pre df j = pre[j] := by
      unfold ri_el
      rw [List.getD_eq_getElem?_getD, hj]
      rfl
    rw [he]
    generalize hl : (pre.drop lo).take (hi + 1 - lo) = ll at hm ⊢
    match ll, hm with
    | a :: r, hm =>
      rcases List.mem_cons.mp hm with h | h
      · rw [h]; exact jnL_d r a
      · exact jnL_mem a h
  · exact el_jn pre df j
theorem wk_get : ∀ (l : List (Int × Int)) (k lo hi : Nat) (v : Int × Int) (j : Nat), (ri_wk l k lo hi v)[j]? = (l[j]?).map (fun a => match decide (lo ≤ k + j) && decide (k + j ≤ hi) with | true => ri_jn a v | false => a)
  | [], _, _, _, _, j => by
    unfold ri_wk
    simp
  | a :: l, k, lo, hi, v, 0 => by
    unfold ri_wk
    rw [List.getElem?_cons_zero, List.getElem?_cons_zero]
    rfl
  | a :: l, k, lo, hi, v, j + 1 => by
    unfold ri_wk
    rw [List.getElem?_cons_succ, List.getElem?_cons_succ, wk_get l (k + 1) lo hi v j, show k + 1 + j = k + (j + 1) by omega]
theorem wk_len : ∀ (l : List (Int × Int)) (k lo hi : Nat) (v : Int × Int), (ri_wk l k lo hi v).length = l.length
  | [], _, _, _, _ => rfl
  | a :: l, k, lo, hi, v => by
    unfold ri_wk
    rw [List.length_cons, List.length_cons, wk_len l]
/-- behind a store of z to place i: other places as before, place i holds z -/
theorem up_ok {pre : List (Int × Int)} {df v : Int × Int} {lo hi i n : Nat} {f g : Nat → Int} {z : Int} (h1 : lo ≤ i) (h2 : i ≤ hi) (hz : ri_i v z) (hf : ∀ j, j < n → ri_i (ri_el pre df j) (f j)) (hg : ∀ j, g j = if j = i then z else f j) : ∀ j, j < n → ri_i (ri_el (ri_up pre df lo hi v).1 (ri_up pre df lo hi v).2 j) (g j) := by
  intro j hj
  have hfj := hf j hj
  rw [hg j]
  unfold ri_up
  split
  · rename_i hd
    rw [Bool.and_eq_true, decide_eq_true_eq, decide_eq_true_eq] at hd
    have hli : lo = i := by omega
    subst hli
    unfold ri_el at hfj ⊢
    rw [List.getD_eq_getElem?_getD] at hfj ⊢
    dsimp only
    by_cases hji : j = lo
    · subst hji
      rw [if_pos rfl, List.getElem?_set_self (by omega)]
      exact hz
    · rw [if_neg hji, List.getElem?_set_ne (Ne.symm hji)]
      exact hfj
  · dsimp only
    unfold ri_el at hfj ⊢
    rw [List.getD_eq_getElem?_getD] at hfj ⊢
    rw [wk_get]
    cases hp : pre[j]? with
    | some a =>
      rw [hp] at hfj
      rw [Option.map_some, Option.getD_some]
      rw [Option.getD_some] at hfj
      by_cases hji : j = i
      · rw [if_pos hji]
        have hb : (decide (lo ≤ 0 + j) && decide (0 + j ≤ hi)) = true := by
          rw [Bool.and_eq_true, decide_eq_true_eq, decide_eq_true_eq]
          omega
        rw [hb]
        dsimp only
        have := jn_r a v
        exact ⟨by omega, by omega⟩
      · rw [if_neg hji]
        split
        · have := jn_l a v
          exact ⟨by omega, by omega⟩
        · exact hfj
    | none =>
      rw [hp] at hfj
      rw [Option.map_none, Option.getD_none]
      rw [Option.getD_none] at hfj
      have hjl : pre.length ≤ j := List.getElem?_eq_none_iff.mp hp
      by_cases hji : j = i
      · rw [if_pos hji]
        have hb : decide (hi < pre.length) = false := by
          rw [decide_eq_false_iff_not]
          omega
        rw [hb]
        dsimp only
        have := jn_r df v
        exact ⟨by omega, by omega⟩
      · rw [if_neg hji]
        split
        · exact hfj
        · have := jn_l df v
          exact ⟨by omega, by omega⟩
theorem cl_toNat (x : Int32) : x.toNatClampNeg = x.toInt.toNat := rfl
theorem in_ok {X : Int × Int} {n : Nat} {x : Int32} (h : ri_in X n = true) (hx : ri_i X x.toInt) : vp_in x n ∧ X.1.toNat ≤ x.toNatClampNeg ∧ x.toNatClampNeg ≤ X.2.toNat ∧ x.toNatClampNeg < n := by
  unfold ri_in at h
  rw [Bool.and_eq_true, decide_eq_true_eq, decide_eq_true_eq] at h
  obtain ⟨a1, a2⟩ := hx
  rw [cl_toNat]
  exact ⟨vp_in_iff.mpr ⟨by omega, by omega⟩, by omega, by omega, by omega⟩
theorem vK1 {D : va_G} {s : State} {cA : ClassId} {ty : FieldType} (hK : va_K D vwCl [] s) (h : ArrOfT s cA ty ∧ va_RA s cA ty) : va_K D vwCl [(cA, ty)] s := ⟨hK.1, fun k w hk => by
  match k, hk with
  | 0, hk => cases hk; exact h
  | k + 1, hk => simp at hk⟩
theorem vK2 {D : va_G} {s : State} {cA cB : ClassId} {ty tz : FieldType} (hK : va_K D vwCl [] s) (h : ArrOfT s cA ty ∧ va_RA s cA ty) (h2 : ArrOfT s cB tz ∧ va_RA s cB tz) : va_K D vwCl [(cA, ty), (cB, tz)] s := ⟨hK.1, fun k w hk => by
  match k, hk with
  | 0, hk => cases hk; exact h
  | 1, hk => cases hk; exact h2
  | k + 2, hk => simp at hk⟩
theorem nld_inv {tags : List Nat} {E : ri_E} {x : ri_N} {cl : ri_C} {v : ri_N} (h : ri_nld tags E x cl = some v) : ∃ (gg nn : Nat) (pre : List (Int × Int)) (df : Int × Int), cl = .inr (.inl (gg, nn, pre, df)) ∧ tags.contains gg = true ∧ ri_in (ri_iv E x) nn = true ∧ v = ((ri_sel pre df (ri_iv E x).1.toNat (ri_iv E x).2.toNat).1, (ri_sel pre df (ri_iv E x).1.toNat (ri_iv E x).2.toNat).2, 0) := by
  unfold ri_nld at h
  split at h
  · rename_i gg nn pre df
    split at h
    · cases h
    · rename_i hk
      rw [Bool.and_eq_true] at hk
      refine ⟨gg, nn, pre, df, rfl, hk.1, hk.2, ?_⟩
      generalize ri_sel pre df (ri_iv E x).1.toNat (ri_iv E x).2.toNat = w at h ⊢
      obtain ⟨wa, wb⟩ := w
      dsimp only at h ⊢
      cases h
      rfl
  · cases h
section RS4
variable {p : Program} {l : Launch} {e : Env} {R : Room} {s : State} {m : MethodId} {args : Array Value} {below : List Frame} {meth : Method} {c : Code} {Q : State → Prop} {D : va_G} {A : Nat → Prop} {H0 : Heap} {σ : Nat → Int} {b nL : Nat} {Z : List Nat} {cc : ByteArray} {o : Nat} {sc : Option Nat} {ini : Bool} {rc rs : Nat}
theorem so_ild {st : ri_S} {sts : List ri_S} (X : ri_X p R s m args meth c D A H0 σ b Z nL cc o sc ini rc rs) (hdg : decode cc st.1 = .ok (.iaload, 1)) (h : ri_ild sc st = some sts) (hs : ∀ t ∈ sts, ri_W p l e R s m args below meth c Q D A H0 σ b Z nL t) : ri_W p l e R s m args below meth c Q D A H0 σ b Z nL st := by
  obtain ⟨hx, hb, hml, hown, hts, hK, hA, hini, hsc, -⟩ := X
  obtain ⟨pc, lo, sk, hp, E, cs, ss⟩ := st
  intro ls stk H locs ⟨ws, lv, hl, h1, h2, h3, hP, hD, hS, hE, hZ⟩
  unfold ri_ild at h
  split at h
  · rename_i _ _ ix qq sk' _ _ _ _ hst
    cases hst
    split at h
    · cases h
    · rename_i cl hq
      split at h
      · cases h
      · rename_i vv hv
        cases h
        match stk, h2 with
        | [], h2 => exact h2.elim
        | [_], h2 => exact h2.2.elim
        | vi :: va :: stk, ⟨⟨ki, ei, gi⟩, ⟨a, ha, ea⟩, h2⟩ =>
          subst ei
          subst ea
          obtain ⟨e1, g1, g2⟩ := at_ref h3 ha hq
          obtain ⟨gg, nn, pre, df, rfl, hk1, hk2, rfl⟩ := nld_inv hv
          obtain ⟨i1, i2, i3, i4⟩ := in_ok hk2 (rn_iv hE gi)
          rcases g2 with ⟨cA, f, rfl, g3, g4, g5⟩ | ⟨cA, f, rfl, g3, g4, g5⟩
          · have hgg : gg = 0 := by simpa using hk1
            subst hgg
            have hel := g5 _ i4
            have hsel := sel_ok (pre := pre) (df := df) i2 i3
            exact va_iald (f := f) hx hb (vK1 hK g4) hP qq 0 g1 rfl i1 hdg (hs _ List.mem_cons_self _ _ _ _ ⟨ws, lv, hl, h1, ⟨⟨_, rfl, ⟨by have := hel.1; dsimp only; omega, by have := hel.2; dsimp only; omega, fun z => absurd rfl z⟩⟩, h2⟩, h3, hP, hD, hS, hE, hZ⟩)
          · subst g3
            exact absurd hk1 (by decide)
  · rename_i _ _ ix uu sk' _ _ _ _ hst
    cases hst
    split at h
    · rename_i nn va vb hiv
      split at h
      · cases h
      · rename_i hk
        cases h
        rw [Bool.and_eq_true, Bool.and_eq_true, decide_eq_true_eq, decide_eq_true_eq] at hk
        obtain ⟨k1, k2, k3⟩ := hk
        have k3 : va.toNat < nn := Nat.blt_eq.mp k3
        obtain ⟨xs, x1, x2, x3, x4⟩ := hsc
        match stk, h2 with
        | [], h2 => exact h2.elim
        | [_], h2 => exact h2.2.elim
        | vi :: vr :: stk, ⟨⟨ki, ei, gi⟩, hr, h2⟩ =>
          subst ei
          have hr : vr = .ref b := hr
          subst hr
          have hbb := rn_iv hE gi
          rw [hiv] at hbb
          dsimp only at hbb
          have hki : ki.toNatClampNeg = va.toNat := by rw [cl_toNat]; omega
          have hin : vp_in ki nn := vp_in_iff.mpr ⟨by omega, by omega⟩
          refine va_sld hx hb x1 x2 x3 hS hin hdg ?_
          rw [hki]
          refine hs _ List.mem_cons_self _ _ _ _ ⟨ws, lv, hl, h1, ⟨⟨_, rfl, ⟨r32_lo _, r32_hi _, fun _ => x4 _ k3⟩⟩, h2⟩, h3, hP, hD, hS, hE, hZ⟩
    · cases h
  · cases h
theorem so_bld {st : ri_S} {sts : List ri_S} (X : ri_X p R s m args meth c D A H0 σ b Z nL cc o sc ini rc rs) (hdg : decode cc st.1 = .ok (.baload, 1)) (h : ri_bld st = some sts) (hs : ∀ t ∈ sts, ri_W p l e R s m args below meth c Q D A H0 σ b Z nL t) : ri_W p l e R s m args below meth c Q D A H0 σ b Z nL st := by
  obtain ⟨hx, hb, hml, hown, hts, hK, hA, hini, hsc, -⟩ := X
  obtain ⟨pc, lo, sk, hp, E, cs, ss⟩ := st
  intro ls stk H locs ⟨ws, lv, hl, h1, h2, h3, hP, hD, hS, hE, hZ⟩
  unfold ri_bld at h
  split at h
  · rename_i _ _ ix qq sk' _ _ _ _ hst
    cases hst
    split at h
    · cases h
    · rename_i cl hq
      split at h
      · cases h
      · rename_i vv hv
        cases h
        match stk, h2 with
        | [], h2 => exact h2.elim
        | [_], h2 => exact h2.2.elim
        | vi :: va :: stk, ⟨⟨ki, ei, gi⟩, ⟨a, ha, ea⟩, h2⟩ =>
          subst ei
          subst ea
          obtain ⟨e1, g1, g2⟩ := at_ref h3 ha hq
          obtain ⟨gg, nn, pre, df, rfl, hk1, hk2, rfl⟩ := nld_inv hv
          obtain ⟨i1, i2, i3, i4⟩ := in_ok hk2 (rn_iv hE gi)
          rcases g2 with ⟨cA, f, rfl, g3, g4, g5⟩ | ⟨cA, f, rfl, g3, g4, g5⟩
          · have hel := g5 _ i4
            have hsel := sel_ok (pre := pre) (df := df) i2 i3
            have fin := hs _ List.mem_cons_self ls (.int (f ki.toNatClampNeg) :: stk) H locs ⟨ws, lv, hl, h1, ⟨⟨f ki.toNatClampNeg, rfl, ⟨by have := hel.1; dsimp only; omega, by have := hel.2; dsimp only; omega, fun z => absurd rfl z⟩⟩, h2⟩, h3, hP, hD, hS, hE, hZ⟩
            have hgg : gg = 1 ∨ gg = 2 := by simpa using hk1
            rcases hgg with rfl | rfl
            · exact va_bald (f := f) hx hb (vK1 hK g4) hP qq 0 g1 rfl i1 hdg fin
            · exact va_zald (f := f) hx hb (vK1 hK g4) hP qq 0 g1 rfl i1 hdg fin
          · subst g3
            exact absurd hk1 (by decide)
  · cases h
theorem so_lld {st : ri_S} {sts : List ri_S} (X : ri_X p R s m args meth c D A H0 σ b Z nL cc o sc ini rc rs) (hdg : decode cc st.1 = .ok (.laload, 1)) (h : ri_lld st = some sts) (hs : ∀ t ∈ sts, ri_W p l e R s m args below meth c Q D A H0 σ b Z nL t) : ri_W p l e R s m args below meth c Q D A H0 σ b Z nL st := by
  obtain ⟨hx, hb, hml, hown, hts, hK, hA, hini, hsc, -⟩ := X
  obtain ⟨pc, lo, sk, hp, E, cs, ss⟩ := st
  intro ls stk H locs ⟨ws, lv, hl, h1, h2, h3, hP, hD, hS, hE, hZ⟩
  unfold ri_lld at h
  split at h
  · rename_i _ _ ix qq sk' _ _ _ _ hst
    cases hst
    split at h
    · cases h
    · rename_i cl hq
      split at h
      · cases h
      · rename_i vv hv
        cases h
        match stk, h2 with
        | [], h2 => exact h2.elim
        | [_], h2 => exact h2.2.elim
        | vi :: va :: stk, ⟨⟨ki, ei, gi⟩, ⟨a, ha, ea⟩, h2⟩ =>
          subst ei
          subst ea
          obtain ⟨e1, g1, g2⟩ := at_ref h3 ha hq
          obtain ⟨gg, nn, pre, df, rfl, hk1, hk2, rfl⟩ := nld_inv hv
          obtain ⟨i1, i2, i3, i4⟩ := in_ok hk2 (rn_iv hE gi)
          have hgg : gg = 3 := by simpa using hk1
          subst hgg
          rcases g2 with ⟨cA, f, rfl, g3, g4, g5⟩ | ⟨cA, f, rfl, g3, g4, g5⟩
          · exact absurd g3 (by decide)
          · have hel := g5 _ i4
            have hsel := sel_ok (pre := pre) (df := df) i2 i3
            exact va_lald (f := f) hx hb (vK1 hK g4) hP qq 0 g1 rfl i1 hdg (hs _ List.mem_cons_self _ _ _ _ ⟨ws, lv, hl, h1, ⟨⟨_, rfl, ⟨by have := hel.1; dsimp only; omega, by have := hel.2; dsimp only; omega, fun z => absurd rfl z⟩⟩, h2⟩, h3, hP, hD, hS, hE, hZ⟩)
  · cases h
end RS4
