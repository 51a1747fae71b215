/-! v2: conversions, the stack, branches -/
section RT2
variable {p : Program} {l : Launch} {e : Env} {R : Room} {s : State} {m : MethodId} {args : Array Value} {below : List Frame} {meth : Method} {c : Code} {Q : State → Prop} {D : va_G} {A : Nat → Prop} {H0 : Heap} {z : rj_Z} {N0 : Nat} {σ0 : Nat → Int} {w0 : va_W} {nL cs ss : Nat} {cc : ByteArray} {o : Nat}
theorem to_i2l {st : rj_S} {sts : List rj_S} (X : rj_Xc p R s m args c D A H0 z nL cc o cs ss) (hdg : decode cc st.1 = .ok (.i2l, 1)) (h : rj_i2l st = some sts) (hs : ∀ t ∈ sts, rj_W p l e R s m args below meth c Q D A H0 z N0 σ0 w0 nL cs ss t) : rj_W p l e R s m args below meth c Q D A H0 z N0 σ0 w0 nL cs ss st := by
  obtain ⟨hx, hb, -⟩ := X
  obtain ⟨pc, lo, sk, hp, K, wr⟩ := st
  intro ls stk H locs ⟨σ, ws, lv, hB, hl, h1, h2, h3⟩
  unfold rj_i2l at h
  split at h
  · rename_i x sk' hst
    cases hst
    cases h
    match stk, h2 with
    | [], h2 => exact h2.elim
    | vx :: stk, ⟨⟨kx, ex, gx⟩, h2⟩ =>
      subst ex
      exact lv_i2l hx hb hdg rfl (hs _ List.mem_cons_self _ _ _ _ ⟨σ, ws, lv, hB, hl, h1, ⟨⟨kx.toInt64, rfl, by rw [Int32.toInt_toInt64]; exact gx⟩, h2⟩, h3⟩)
  · cases h
theorem to_l2i {st : rj_S} {sts : List rj_S} (X : rj_Xc p R s m args c D A H0 z nL cc o cs ss) (hdg : decode cc st.1 = .ok (.l2i, 1)) (h : rj_l2i st = some sts) (hs : ∀ t ∈ sts, rj_W p l e R s m args below meth c Q D A H0 z N0 σ0 w0 nL cs ss t) : rj_W p l e R s m args below meth c Q D A H0 z N0 σ0 w0 nL cs ss st := by
  obtain ⟨hx, hb, -⟩ := X
  obtain ⟨pc, lo, sk, hp, K, wr⟩ := st
  intro ls stk H locs ⟨σ, ws, lv, hB, hl, h1, h2, h3⟩
  unfold rj_l2i at h
  split at h
  · rename_i x sk' hst
    cases hst
    cases h
    match stk, h2 with
    | [], h2 => exact h2.elim
    | vx :: stk, ⟨⟨kx, ex, gx⟩, h2⟩ =>
      subst ex
      exact lv_l2i hx hb hdg rfl (hs _ List.mem_cons_self _ _ _ _ (G_op hB hl h1 h2 h3 (l2i_ok (Gb_K hB) gx)))
  · cases h
theorem to_inc {i : Nat} {n : Int} {st : rj_S} {sts : List rj_S} (X : rj_Xc p R s m args c D A H0 z nL cc o cs ss) (hdg : decode cc st.1 = .ok (.iinc i n, 3)) (h : rj_inc i n nL st = some sts) (hs : ∀ t ∈ sts, rj_W p l e R s m args below meth c Q D A H0 z N0 σ0 w0 nL cs ss t) : rj_W p l e R s m args below meth c Q D A H0 z N0 σ0 w0 nL cs ss st := by
  obtain ⟨hx, hb, -⟩ := X
  obtain ⟨pc, lo, sk, hp, K, wr⟩ := st
  intro ls stk H locs ⟨σ, ws, lv, hB, hl, h1, h2, h3⟩
  unfold rj_inc at h
  dsimp only at h h1 h2 h3 hB hdg ⊢
  split at h
  · rename_i x hv hk
    rw [Bool.and_eq_true, Bool.and_eq_true, decide_eq_true_eq, decide_eq_true_eq] at hk
    cases h
    obtain ⟨y, g1, ⟨kx, ex, gx⟩⟩ := rk_3 h1 hv
    subst ex
    obtain ⟨k, hk2⟩ := List.getElem?_of_mem (rk_mem g1)
    have hto : rj_to K σ (rj_mkI K (rj_plus x n)) (kx + Int32.ofInt n).toInt := mkI_ok (v := kx.toInt + n) (Gb_K hB) ⟨gx.1, by rw [ev_plus, gx.2]⟩ (by
      rw [Int32.toInt_add, ofI (by omega) (by omega)])
    obtain ⟨τ, u, hn⟩ := hto
    exact lv_iinc hx hb hdg hl hk2 rfl (Nat.blt_eq.mp hk.1) rfl (fun ls' hl' => hs _ List.mem_cons_self _ _ _ _ ⟨τ, ws, _, Gb_up hB u, hl', lo_st1 (v := .inl _) (lo_ag u.2.1 u.1 h1) ⟨_, rfl, hn⟩, sk_ag u.2.1 u.1 h2, hp_ag u.2.1 u.1 h3⟩)
  · cases h
theorem to_dup {st : rj_S} {sts : List rj_S} (X : rj_Xc p R s m args c D A H0 z nL cc o cs ss) (hdg : decode cc st.1 = .ok (.dup, 1)) (h : rj_dup st = some sts) (hs : ∀ t ∈ sts, rj_W p l e R s m args below meth c Q D A H0 z N0 σ0 w0 nL cs ss t) : rj_W p l e R s m args below meth c Q D A H0 z N0 σ0 w0 nL cs ss st := by
  obtain ⟨hx, hb, -⟩ := X
  obtain ⟨pc, lo, sk, hp, K, wr⟩ := st
  intro ls stk H locs ⟨σ, ws, lv, hB, hl, h1, h2, h3⟩
  unfold rj_dup at h
  split at h
  · rename_i _ _ v sk' _ _ _ hst
    cases hst
    split at h
    · rename_i hc
      cases h
      match stk, h2 with
      | [], h2 => exact h2.elim
      | vx :: stk, ⟨hg, h2⟩ => exact lv_dup hx hb hdg ((jg_cat hg).trans (Nat.eq_of_beq_eq_true hc)) (hs _ List.mem_cons_self _ _ _ _ ⟨σ, ws, lv, hB, hl, h1, ⟨hg, hg, h2⟩, h3⟩)
    · cases h
  · cases h
theorem to_dup2 {st : rj_S} {sts : List rj_S} (X : rj_Xc p R s m args c D A H0 z nL cc o cs ss) (hdg : decode cc st.1 = .ok (.dup2, 1)) (h : rj_dup2 st = some sts) (hs : ∀ t ∈ sts, rj_W p l e R s m args below meth c Q D A H0 z N0 σ0 w0 nL cs ss t) : rj_W p l e R s m args below meth c Q D A H0 z N0 σ0 w0 nL cs ss st := by
  obtain ⟨hx, hb, -⟩ := X
  obtain ⟨pc, lo, sk, hp, K, wr⟩ := st
  intro ls stk H locs ⟨σ, ws, lv, hB, hl, h1, h2, h3⟩
  unfold rj_dup2 at h
  split at h
  · rename_i _ _ v sk' _ _ _ hst
    cases hst
    split at h
    · rename_i hc
      cases h
      match stk, h2 with
      | [], h2 => exact h2.elim
      | vx :: stk, ⟨hg, h2⟩ => exact lv_dup2_2 hx hb hdg ((jg_cat hg).trans (Nat.eq_of_beq_eq_true hc)) (hs _ List.mem_cons_self _ _ _ _ ⟨σ, ws, lv, hB, hl, h1, ⟨hg, hg, h2⟩, h3⟩)
    · rename_i hc
      split at h
      · rename_i u sk1
        split at h
        · rename_i hu
          cases h
          match stk, h2 with
          | [], h2 => exact h2.elim
          | [_], h2 => exact h2.2.elim
          | vx :: vy :: stk, ⟨hg, hg2, h2⟩ =>
            have hc1 : vx.category = 1 := by
              rcases lv_cat vx with h | h
              · exact h
              · rw [jg_cat hg] at h
                rw [h] at hc
                cases hc
            exact lv_dup2_11 hx hb hdg hc1 ((jg_cat hg2).trans (Nat.eq_of_beq_eq_true hu)) (hs _ List.mem_cons_self _ _ _ _ ⟨σ, ws, lv, hB, hl, h1, ⟨hg, hg2, hg, hg2, h2⟩, h3⟩)
        · cases h
      · cases h
  · cases h
theorem to_pop {st : rj_S} {sts : List rj_S} (X : rj_Xc p R s m args c D A H0 z nL cc o cs ss) (hdg : decode cc st.1 = .ok (.pop, 1)) (h : rj_pop st = some sts) (hs : ∀ t ∈ sts, rj_W p l e R s m args below meth c Q D A H0 z N0 σ0 w0 nL cs ss t) : rj_W p l e R s m args below meth c Q D A H0 z N0 σ0 w0 nL cs ss st := by
  obtain ⟨hx, hb, -⟩ := X
  obtain ⟨pc, lo, sk, hp, K, wr⟩ := st
  intro ls stk H locs ⟨σ, ws, lv, hB, hl, h1, h2, h3⟩
  unfold rj_pop at h
  split at h
  · rename_i _ _ v sk' _ _ _ hst
    cases hst
    split at h
    · rename_i hc
      cases h
      match stk, h2 with
      | [], h2 => exact h2.elim
      | vx :: stk, ⟨hg, h2⟩ => exact lv_pop hx hb hdg ((jg_cat hg).trans (Nat.eq_of_beq_eq_true hc)) (hs _ List.mem_cons_self _ _ _ _ ⟨σ, ws, lv, hB, hl, h1, h2, h3⟩)
    · cases h
  · cases h
theorem to_br {cnd : ClassFile.Cond} {off : Int} {pc : Nat} {lo : List (Nat × rj_V)} {x y : rj_F} {sk : List rj_V} {hp : List rj_H} {K : rj_K} {wr : rj_Wr} {sts : List rj_S} {ls : Array Slot} {stk : List Value} {H : Heap} {locs : List Loc} {zx zy : Int} {σ : Nat → Int} {ws : va_W} {lv : List (Nat × Value)} {Z : Prop}
    (row : ∀ tgt : Nat, (pc : Int) + off = (tgt : Int) → (ri_h cnd zx zy → W p l e R s m args below meth c H locs cs ss Q (F0 m tgt ls stk)) → (¬ ri_h cnd zx zy → W p l e R s m args below meth c H locs cs ss Q (F0 m (pc + 3) ls stk)) → Z)
    (h : rj_br cnd off pc lo x y sk hp K wr = some sts) (hs : ∀ t ∈ sts, rj_W p l e R s m args below meth c Q D A H0 z N0 σ0 w0 nL cs ss t) (hx : rj_n K.1.length σ x zx) (hy : rj_n K.1.length σ y zy)
    (hB : rj_Gb D A H0 z N0 σ0 w0 H locs K wr σ ws) (hl : lv_has ls nL lv) (h1 : rj_lo z K.1.length σ lo lv) (h2 : ri_2 (rj_g z K.1.length σ) sk stk) (h3 : rj_hp s z K.1.length σ hp ws) : Z := by
  unfold rj_br at h
  split at h
  · cases h
  · rename_i hd
    cases h
    have fin : ∀ {K1 : rj_K} {pc1 : Nat}, rj_sat σ K1 → K1.1.length = K.1.length → rj_W p l e R s m args below meth c Q D A H0 z N0 σ0 w0 nL cs ss (pc1, lo, sk, hp, K1, wr) → W p l e R s m args below meth c H locs cs ss Q (F0 m pc1 ls stk) := by
      intro K1 pc1 k1 l1 hw
      have u := up_len k1 l1
      exact hw _ _ _ _ ⟨σ, ws, lv, Gb_up hB u, hl, lo_ag u.2.1 u.1 h1, sk_ag u.2.1 u.1 h2, hp_ag u.2.1 u.1 h3⟩
    refine row _ (ri_tgt_ok hd) (fun hc => ?_) (fun hc => ?_)
    · obtain ⟨K1, e1, k1, l1⟩ := tst_ok (Gb_K hB) cnd hx.1 hy.1 (by rw [hx.2, hy.2]; exact hc)
      exact fin k1 l1 (hs _ (List.mem_append_left _ (List.mem_map.mpr ⟨K1, e1, rfl⟩)))
    · obtain ⟨K1, e1, k1, l1⟩ := tst_ok (Gb_K hB) (ri_neg cnd) hx.1 hy.1 (by rw [hx.2, hy.2]; exact rn_not hc)
      exact fin k1 l1 (hs _ (List.mem_append_right _ (List.mem_map.mpr ⟨K1, e1, rfl⟩)))
theorem n_k {N : Nat} {σ : Nat → Int} (k : Int) : rj_n N σ (rj_k k) k := ⟨wf_k, ev_k σ k⟩
theorem to_if {cnd : ClassFile.Cond} {off : Int} {st : rj_S} {sts : List rj_S} (X : rj_Xc p R s m args c D A H0 z nL cc o cs ss) (hdg : decode cc st.1 = .ok (.ifCond cnd off, 3)) (h : rj_if cnd off st = some sts) (hs : ∀ t ∈ sts, rj_W p l e R s m args below meth c Q D A H0 z N0 σ0 w0 nL cs ss t) : rj_W p l e R s m args below meth c Q D A H0 z N0 σ0 w0 nL cs ss st := by
  obtain ⟨hx, hb, -⟩ := X
  obtain ⟨pc, lo, sk, hp, K, wr⟩ := st
  intro ls stk H locs ⟨σ, ws, lv, hB, hl, h1, h2, h3⟩
  unfold rj_if at h
  split at h
  · rename_i x sk' hst
    cases hst
    match stk, h2 with
    | [], h2 => exact h2.elim
    | vx :: stk, ⟨⟨kx, ex, gx⟩, h2⟩ =>
      subst ex
      refine to_br (fun tgt ht kt kf => ?_) h hs gx (n_k 0) hB hl h1 h2 h3
      cases cnd
      · exact lv_if_eq hx hb hdg ht (fun q => kt (by rw [q]; rfl)) (fun q => kf (fun r => q (Int32.toInt_inj.mp (r.trans z0.symm))))
      · exact lv_if_ne hx hb hdg ht (fun q => kt (fun r => q (Int32.toInt_inj.mp (r.trans z0.symm)))) (fun q => kf (fun r => r (by rw [q]; rfl)))
      · exact lv_if_lt hx hb hdg ht (fun q => kt (by have := Int32.lt_iff_toInt_lt.mp q; rw [z0] at this; exact this)) (fun q => kf (fun r => q (Int32.lt_iff_toInt_lt.mpr (by rw [z0]; exact r))))
      · exact lv_if_ge hx hb hdg ht (fun q => kt (by have := Int32.le_iff_toInt_le.mp q; rw [z0] at this; exact this)) (fun q => kf (fun r => q (Int32.le_iff_toInt_le.mpr (by rw [z0]; exact r))))
      · exact lv_if_gt hx hb hdg ht (fun q => kt (by have := Int32.lt_iff_toInt_lt.mp q; rw [z0] at this; exact this)) (fun q => kf (fun r => q (Int32.lt_iff_toInt_lt.mpr (by rw [z0]; exact r))))
      · exact lv_if_le hx hb hdg ht (fun q => kt (by have := Int32.le_iff_toInt_le.mp q; rw [z0] at this; exact this)) (fun q => kf (fun r => q (Int32.le_iff_toInt_le.mpr (by rw [z0]; exact r))))
  · cases h
theorem to_icmp {cnd : ClassFile.Cond} {off : Int} {st : rj_S} {sts : List rj_S} (X : rj_Xc p R s m args c D A H0 z nL cc o cs ss) (hdg : decode cc st.1 = .ok (.if_icmp cnd off, 3)) (h : rj_icmp cnd off st = some sts) (hs : ∀ t ∈ sts, rj_W p l e R s m args below meth c Q D A H0 z N0 σ0 w0 nL cs ss t) : rj_W p l e R s m args below meth c Q D A H0 z N0 σ0 w0 nL cs ss st := by
  obtain ⟨hx, hb, -⟩ := X
  obtain ⟨pc, lo, sk, hp, K, wr⟩ := st
  intro ls stk H locs ⟨σ, ws, lv, hB, hl, h1, h2, h3⟩
  unfold rj_icmp at h
  split at h
  · rename_i y x sk' hst
    cases hst
    match stk, h2 with
    | [], h2 => exact h2.elim
    | [_], h2 => exact h2.2.elim
    | vy :: vx :: stk, ⟨⟨ky, ey, gy⟩, ⟨kx, ex, gx⟩, h2⟩ =>
      subst ey
      subst ex
      refine to_br (fun tgt ht kt kf => ?_) h hs gx gy hB hl h1 h2 h3
      cases cnd
      · exact lv_icmp_eq hx hb hdg ht (fun q => kt (by rw [q]; rfl)) (fun q => kf (fun r => q (Int32.toInt_inj.mp r)))
      · exact lv_icmp_ne hx hb hdg ht (fun q => kt (fun r => q (Int32.toInt_inj.mp r))) (fun q => kf (fun r => r (by rw [q])))
      · exact lv_icmp_lt hx hb hdg ht (fun q => kt (Int32.lt_iff_toInt_lt.mp q)) (fun q => kf (fun r => q (Int32.lt_iff_toInt_lt.mpr r)))
      · exact lv_icmp_ge hx hb hdg ht (fun q => kt (Int32.le_iff_toInt_le.mp q)) (fun q => kf (fun r => q (Int32.le_iff_toInt_le.mpr r)))
      · exact lv_icmp_gt hx hb hdg ht (fun q => kt (Int32.lt_iff_toInt_lt.mp q)) (fun q => kf (fun r => q (Int32.lt_iff_toInt_lt.mpr r)))
      · exact lv_icmp_le hx hb hdg ht (fun q => kt (Int32.le_iff_toInt_le.mp q)) (fun q => kf (fun r => q (Int32.le_iff_toInt_le.mpr r)))
  · cases h
theorem lg_sgn (a b : Int64) : (a.toInt < b.toInt ∧ (lg_cmp a b).toInt = -1) ∨ (a.toInt = b.toInt ∧ (lg_cmp a b).toInt = 0) ∨ (b.toInt < a.toInt ∧ (lg_cmp a b).toInt = 1) := by
  unfold lg_cmp
  by_cases h1 : b.toInt < a.toInt
  · rw [if_pos (Int64.lt_iff_toInt_lt.mpr h1)]
    exact Or.inr (Or.inr ⟨h1, rfl⟩)
  · rw [if_neg (fun q => h1 (Int64.lt_iff_toInt_lt.mp q))]
    by_cases h2 : a = b
    · rw [if_pos h2]
      exact Or.inr (Or.inl ⟨by rw [h2], rfl⟩)
    · rw [if_neg h2]
      have : a.toInt ≠ b.toInt := fun q => h2 (Int64.toInt_inj.mp q)
      exact Or.inl ⟨by omega, rfl⟩
theorem lg_h (cnd : ClassFile.Cond) (a b : Int64) : ri_h cnd (lg_cmp a b).toInt 0 ↔ ri_h cnd a.toInt b.toInt := by
  rcases lg_sgn a b with ⟨h1, h2⟩ | ⟨h1, h2⟩ | ⟨h1, h2⟩ <;> rw [h2] <;> cases cnd <;> unfold ri_h <;> dsimp only <;> (constructor <;> intro q <;> omega)
theorem to_lif {nxt : Option (Instr × Nat)} {st : rj_S} {sts : List rj_S} (X : rj_Xc p R s m args c D A H0 z nL cc o cs ss) (hdg : decode cc st.1 = .ok (.lcmp, 1)) (hnx : ∀ q, nxt = some q → decode cc (st.1 + 1) = .ok q) (h : rj_lif nxt st = some sts) (hs : ∀ t ∈ sts, rj_W p l e R s m args below meth c Q D A H0 z N0 σ0 w0 nL cs ss t) : rj_W p l e R s m args below meth c Q D A H0 z N0 σ0 w0 nL cs ss st := by
  obtain ⟨hx, hb, -⟩ := X
  obtain ⟨pc, lo, sk, hp, K, wr⟩ := st
  intro ls stk H locs ⟨σ, ws, lv, hB, hl, h1, h2, h3⟩
  unfold rj_lif at h
  split at h
  · rename_i _ _ y x sk' _ _ _ cnd off hst
    cases hst
    have hd2 := hnx _ rfl
    match stk, h2 with
    | [], h2 => exact h2.elim
    | [_], h2 => exact h2.2.elim
    | vy :: vx :: stk, ⟨⟨ky, ey, gy⟩, ⟨kx, ex, gx⟩, h2⟩ =>
      subst ey
      subst ex
      refine W.lcmp hx hb hdg ?_
      refine to_br (pc := pc + 1) (fun tgt ht kt kf => ?_) h hs gx gy hB hl h1 h2 h3
      have kt := fun (q : ri_h cnd (lg_cmp kx ky).toInt 0) => kt ((lg_h cnd kx ky).mp q)
      have kf := fun (q : ¬ ri_h cnd (lg_cmp kx ky).toInt 0) => kf (fun r => q ((lg_h cnd kx ky).mpr r))
      cases cnd
      · exact lv_if_eq hx hb hd2 ht (fun q => kt (by rw [q]; rfl)) (fun q => kf (fun r => q (Int32.toInt_inj.mp (r.trans z0.symm))))
      · exact lv_if_ne hx hb hd2 ht (fun q => kt (fun r => q (Int32.toInt_inj.mp (r.trans z0.symm)))) (fun q => kf (fun r => r (by rw [q]; rfl)))
      · exact lv_if_lt hx hb hd2 ht (fun q => kt (by have := Int32.lt_iff_toInt_lt.mp q; rw [z0] at this; exact this)) (fun q => kf (fun r => q (Int32.lt_iff_toInt_lt.mpr (by rw [z0]; exact r))))
      · exact lv_if_ge hx hb hd2 ht (fun q => kt (by have := Int32.le_iff_toInt_le.mp q; rw [z0] at this; exact this)) (fun q => kf (fun r => q (Int32.le_iff_toInt_le.mpr (by rw [z0]; exact r))))
      · exact lv_if_gt hx hb hd2 ht (fun q => kt (by have := Int32.lt_iff_toInt_lt.mp q; rw [z0] at this; exact this)) (fun q => kf (fun r => q (Int32.lt_iff_toInt_lt.mpr (by rw [z0]; exact r))))
      · exact lv_if_le hx hb hd2 ht (fun q => kt (by have := Int32.le_iff_toInt_le.mp q; rw [z0] at this; exact this)) (fun q => kf (fun r => q (Int32.le_iff_toInt_le.mpr (by rw [z0]; exact r))))
  · cases h
theorem to_go {off : Int} {st : rj_S} {sts : List rj_S} (X : rj_Xc p R s m args c D A H0 z nL cc o cs ss) (hdg : decode cc st.1 = .ok (.goto off, 3)) (h : rj_go off st = some sts) (hs : ∀ t ∈ sts, rj_W p l e R s m args below meth c Q D A H0 z N0 σ0 w0 nL cs ss t) : rj_W p l e R s m args below meth c Q D A H0 z N0 σ0 w0 nL cs ss st := by
  obtain ⟨hx, hb, -⟩ := X
  obtain ⟨pc, lo, sk, hp, K, wr⟩ := st
  intro ls stk H locs ⟨σ, ws, lv, hB, hl, h1, h2, h3⟩
  unfold rj_go at h
  dsimp only at h
  split at h
  · cases h
  · rename_i hd
    cases h
    exact lv_goto hx hb hdg (ri_tgt_ok hd) (hs _ List.mem_cons_self _ _ _ _ ⟨σ, ws, lv, hB, hl, h1, h2, h3⟩)
end RT2
theorem jtsw_mem {σ : Nat → Int} {K : rj_K} {x : rj_F} {mk : Int → rj_K → rj_S} {v0 : Int} (hK : rj_sat σ K) (hx : rj_n K.1.length σ x v0) : ∀ {fs : List Int} {v : Int} {k : Nat} {f : Int}, v0 = v + (k : Int) → fs[k]? = some f → ∃ K1, mk f K1 ∈ rj_tsw K x mk v fs ∧ rj_sat σ K1 ∧ K1.1.length = K.1.length
  | [], _, _, _, _, h => by simp at h
  | g :: fs, v, 0, f, hz, h => by
    rw [List.getElem?_cons_zero] at h
    cases h
    obtain ⟨K1, e1, k1, l1⟩ := tst_ok hK .eq (x := x) (y := rj_k v) hx.1 wf_k (by
      show rj_ev σ x = rj_ev σ (rj_k v)
      rw [hx.2, ev_k]
      omega)
    exact ⟨K1, List.mem_append_left _ (List.mem_map.mpr ⟨K1, e1, rfl⟩), k1, l1⟩
  | g :: fs, v, k + 1, f, hz, h => by
    rw [List.getElem?_cons_succ] at h
    obtain ⟨K1, h1, h2⟩ := jtsw_mem hK hx (mk := mk) (v := v + 1) (k := k) (by omega) h
    exact ⟨K1, List.mem_append_right _ h1, h2⟩
section RT3
variable {p : Program} {l : Launch} {e : Env} {R : Room} {s : State} {m : MethodId} {args : Array Value} {below : List Frame} {meth : Method} {c : Code} {Q : State → Prop} {D : va_G} {A : Nat → Prop} {H0 : Heap} {z : rj_Z} {N0 : Nat} {σ0 : Nat → Int} {w0 : va_W} {nL cs ss : Nat} {cc : ByteArray} {o : Nat}
theorem to_table {d a0 b0 : Int} {offs : Array Int} {len : Nat} {st : rj_S} {sts : List rj_S} (X : rj_Xc p R s m args c D A H0 z nL cc o cs ss) (hdg : decode cc st.1 = .ok (.tableswitch d a0 b0 offs, len)) (h : rj_table d a0 b0 offs st = some sts) (hs : ∀ t ∈ sts, rj_W p l e R s m args below meth c Q D A H0 z N0 σ0 w0 nL cs ss t) : rj_W p l e R s m args below meth c Q D A H0 z N0 σ0 w0 nL cs ss st := by
  obtain ⟨hx, hb, -⟩ := X
  obtain ⟨pc, lo, sk, hp, K, wr⟩ := st
  intro ls stk H locs ⟨σ, ws, lv, hB, hl, h1, h2, h3⟩
  unfold rj_table at h
  split at h
  · rename_i _ _ x sk' _ _ _ hst
    cases hst
    split at h
    · cases h
    · rename_i hk
      cases h
      rw [Bool.and_eq_true, Bool.and_eq_true] at hk
      obtain ⟨k1, k2, k3⟩ := hk
      rw [decide_eq_true_eq] at k3
      match stk, h2 with
      | [], h2 => exact h2.elim
      | vx :: stk, ⟨⟨kx, ex, gx⟩, h2⟩ =>
        subst ex
        have fin : ∀ {K1 : rj_K} {pc1 : Nat}, rj_sat σ K1 → K1.1.length = K.1.length → rj_W p l e R s m args below meth c Q D A H0 z N0 σ0 w0 nL cs ss (pc1, lo, sk', hp, K1, wr) → W p l e R s m args below meth c H locs cs ss Q (F0 m pc1 ls stk) := by
          intro K1 pc1 k1 l1 hw
          have u := up_len k1 l1
          exact hw _ _ _ _ ⟨σ, ws, lv, Gb_up hB u, hl, lo_ag u.2.1 u.1 h1, sk_ag u.2.1 u.1 h2, hp_ag u.2.1 u.1 h3⟩
        by_cases hlo : kx.toInt < a0
        · obtain ⟨K1, e1, g1, l1⟩ := tst_ok (Gb_K hB) .lt (y := rj_k a0) gx.1 wf_k (by show rj_ev σ _ < _; rw [gx.2, ev_k]; exact hlo)
          exact lv_tableOut hx hb hdg (Or.inl hlo) (ri_tgt_ok k1) (fin g1 l1 (hs _ (List.mem_append_left _ (List.mem_map.mpr ⟨K1, e1, rfl⟩))))
        · by_cases hhi : b0 < kx.toInt
          · obtain ⟨K1, e1, g1, l1⟩ := tst_ok (Gb_K hB) .gt (y := rj_k b0) gx.1 wf_k (by show rj_ev σ _ < _; rw [gx.2, ev_k]; exact hhi)
            exact lv_tableOut hx hb hdg (Or.inr hhi) (ri_tgt_ok k1) (fin g1 l1 (hs _ (List.mem_append_right _ (List.mem_append_left _ (List.mem_map.mpr ⟨K1, e1, rfl⟩)))))
          · obtain ⟨f, hf⟩ : ∃ f, offs.toList[(kx.toInt - a0).toNat]? = some f := ⟨_, List.getElem?_eq_getElem (by omega)⟩
            have hf2 : offs[(kx.toInt - a0).toNat]? = some f := by rw [← Array.getElem?_toList]; exact hf
            have ht := List.all_eq_true.mp k2 f (List.mem_of_getElem? hf)
            obtain ⟨K1, g0, g1, l1⟩ := jtsw_mem (mk := fun f K1 => (ri_tgt pc f, lo, sk', hp, K1, wr)) (Gb_K hB) gx (v := a0) (k := (kx.toInt - a0).toNat) (by omega) hf
            exact lv_tableIn hx hb hdg hlo hhi hf2 (ri_tgt_ok ht) (fin g1 l1 (hs _ (List.mem_append_right _ (List.mem_append_right _ g0))))
  · cases h
end RT3
