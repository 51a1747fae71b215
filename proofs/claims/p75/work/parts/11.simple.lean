/-! the step is sound: loads, stores, constants, arithmetic, branches -/
section RS1
variable {p : Program} {l : Launch} {e : Env} {R : Room} {s : State} {m : MethodId} {args : Array Value} {below : List Frame} {meth : Method} {c : Code} {Q : State → Prop} {D : va_G} {A : Nat → Prop} {H0 : Heap} {σ : Nat → Int} {b nL : Nat} {Z : List Nat} {cc : ByteArray} {o : Nat} {sc : Option Nat} {ini : Bool} {rc rs : Nat}
theorem so_ld0 {len i : Nat} {st : ri_S} {sts : List ri_S} (row : ∀ (ls : Array Slot) (stk : List Value) (H : Heap) (locs : List Loc) (x : Int32), ls[i]? = some (.val (.int x)) → W p l e R s m args below meth c H locs st.2.2.2.2.2.1 st.2.2.2.2.2.2 Q (F0 m (st.1 + len) ls (.int x :: stk)) → W p l e R s m args below meth c H locs st.2.2.2.2.2.1 st.2.2.2.2.2.2 Q (F0 m st.1 ls stk)) (h : ri_ld 0 len i st = some sts) (hs : ∀ t ∈ sts, ri_W p l e R s m args below meth c Q D A H0 σ b Z nL t) : ri_W p l e R s m args below meth c Q D A H0 σ b Z nL st := by
  obtain ⟨pc, lo, sk, hp, E, cs, ss⟩ := st
  intro ls stk H locs ⟨ws, lv, hl, h1, h2, h3, hP, hD, hS, hE, hZ⟩
  unfold ri_ld at h
  dsimp only at h h1 h2 h3 hE row ⊢
  split at h
  · cases h
  · rename_i v hv
    split at h
    · cases h
    · rename_i hk
      cases h
      obtain ⟨x, g1, g2⟩ := rk_2 h1 hv
      match v, hk, g2 with
      | .inl n, _, ⟨k, hx, hn⟩ =>
        subst hx
        exact row ls stk H locs k (hl.2.2 (i, .int k) g1) (hs _ List.mem_cons_self _ _ _ _ ⟨ws, lv, hl, h1, ⟨⟨k, rfl, hn⟩, h2⟩, h3, hP, hD, hS, hE, hZ⟩)
      | .inr (.inl n), hk, _ => cases hk
      | .inr (.inr (.inl none)), hk, _ => cases hk
      | .inr (.inr (.inl (some q))), hk, _ => cases hk
      | .inr (.inr (.inr u)), hk, _ => cases hk
theorem so_ld1 {len i : Nat} {st : ri_S} {sts : List ri_S} (row : ∀ (ls : Array Slot) (stk : List Value) (H : Heap) (locs : List Loc) (x : Int64), ls[i]? = some (.val (.long x)) → W p l e R s m args below meth c H locs st.2.2.2.2.2.1 st.2.2.2.2.2.2 Q (F0 m (st.1 + len) ls (.long x :: stk)) → W p l e R s m args below meth c H locs st.2.2.2.2.2.1 st.2.2.2.2.2.2 Q (F0 m st.1 ls stk)) (h : ri_ld 1 len i st = some sts) (hs : ∀ t ∈ sts, ri_W p l e R s m args below meth c Q D A H0 σ b Z nL t) : ri_W p l e R s m args below meth c Q D A H0 σ b Z nL st := by
  obtain ⟨pc, lo, sk, hp, E, cs, ss⟩ := st
  intro ls stk H locs ⟨ws, lv, hl, h1, h2, h3, hP, hD, hS, hE, hZ⟩
  unfold ri_ld at h
  dsimp only at h h1 h2 h3 hE row ⊢
  split at h
  · cases h
  · rename_i v hv
    split at h
    · cases h
    · rename_i hk
      cases h
      obtain ⟨x, g1, g2⟩ := rk_2 h1 hv
      match v, hk, g2 with
      | .inl n, hk, _ => cases hk
      | .inr (.inl n), _, ⟨k, hx, hn⟩ =>
        subst hx
        exact row ls stk H locs k (hl.2.2 (i, .long k) g1) (hs _ List.mem_cons_self _ _ _ _ ⟨ws, lv, hl, h1, ⟨⟨k, rfl, hn⟩, h2⟩, h3, hP, hD, hS, hE, hZ⟩)
      | .inr (.inr (.inl none)), hk, _ => cases hk
      | .inr (.inr (.inl (some q))), hk, _ => cases hk
      | .inr (.inr (.inr u)), hk, _ => cases hk
theorem so_ld2 {len i : Nat} {st : ri_S} {sts : List ri_S} (row : ∀ (ls : Array Slot) (stk : List Value) (H : Heap) (locs : List Loc) (x : Nat), ls[i]? = some (.val (.ref x)) → W p l e R s m args below meth c H locs st.2.2.2.2.2.1 st.2.2.2.2.2.2 Q (F0 m (st.1 + len) ls (.ref x :: stk)) → W p l e R s m args below meth c H locs st.2.2.2.2.2.1 st.2.2.2.2.2.2 Q (F0 m st.1 ls stk)) (h : ri_ld 2 len i st = some sts) (hs : ∀ t ∈ sts, ri_W p l e R s m args below meth c Q D A H0 σ b Z nL t) : ri_W p l e R s m args below meth c Q D A H0 σ b Z nL st := by
  obtain ⟨pc, lo, sk, hp, E, cs, ss⟩ := st
  intro ls stk H locs ⟨ws, lv, hl, h1, h2, h3, hP, hD, hS, hE, hZ⟩
  unfold ri_ld at h
  dsimp only at h h1 h2 h3 hE row ⊢
  split at h
  · cases h
  · rename_i v hv
    split at h
    · cases h
    · rename_i hk
      cases h
      obtain ⟨x, g1, g2⟩ := rk_2 h1 hv
      match v, hk, g2 with
      | .inl n, hk, _ => cases hk
      | .inr (.inl n), hk, _ => cases hk
      | .inr (.inr (.inl none)), hk, _ => cases hk
      | .inr (.inr (.inl (some q))), _, ⟨a, ha, hx⟩ =>
        subst hx
        exact row ls stk H locs a (hl.2.2 (i, .ref a) g1) (hs _ List.mem_cons_self _ _ _ _ ⟨ws, lv, hl, h1, ⟨⟨a, ha, rfl⟩, h2⟩, h3, hP, hD, hS, hE, hZ⟩)
      | .inr (.inr (.inr u)), _, hx =>
        have hx : x = .ref b := hx
        subst hx
        exact row ls stk H locs b (hl.2.2 (i, .ref b) g1) (hs _ List.mem_cons_self _ _ _ _ ⟨ws, lv, hl, h1, ⟨rfl, h2⟩, h3, hP, hD, hS, hE, hZ⟩)
theorem rl_st1 {as : List Nat} {lo : List (Nat × ri_V)} {lv : List (Nat × Value)} {i : Nat} {v : ri_V} {x : Value} (h : ri_lo as σ b lo lv) (hg : ri_g as σ b v x) : ri_lo as σ b (ri_st1 lo i v) ((i, x) :: lv.filter (fun q => !(q.1 == i) && !(q.1 + 1 == i && q.2.category == 2))) :=
  ⟨⟨rfl, hg⟩, r2_filter (fun a d had => by rw [had.1, rg_cat had.2]) h⟩
theorem rl_st2 {as : List Nat} {lo : List (Nat × ri_V)} {lv : List (Nat × Value)} {i : Nat} {v : ri_V} {x : Value} (h : ri_lo as σ b lo lv) (hg : ri_g as σ b v x) : ri_lo as σ b (ri_st2 lo i v) ((i, x) :: lv.filter (fun q => !(q.1 == i) && (!(q.1 == i + 1) && !(q.1 + 1 == i && q.2.category == 2)))) :=
  ⟨⟨rfl, hg⟩, r2_filter (fun a d had => by rw [had.1, rg_cat had.2]) h⟩
theorem so_sto0 {len i : Nat} {st : ri_S} {sts : List ri_S} (row : ∀ (ls : Array Slot) (lv : List (Nat × Value)) (stk : List Value) (H : Heap) (locs : List Loc) (x : Int32), lv_has ls nL lv → i < nL → (∀ ls' : Array Slot, lv_has ls' nL ((i, .int x) :: lv.filter (fun q => !(q.1 == i) && !(q.1 + 1 == i && q.2.category == 2))) → W p l e R s m args below meth c H locs st.2.2.2.2.2.1 st.2.2.2.2.2.2 Q (F0 m (st.1 + len) ls' stk)) → W p l e R s m args below meth c H locs st.2.2.2.2.2.1 st.2.2.2.2.2.2 Q (F0 m st.1 ls (.int x :: stk))) (h : ri_sto 0 len nL i st = some sts) (hs : ∀ t ∈ sts, ri_W p l e R s m args below meth c Q D A H0 σ b Z nL t) : ri_W p l e R s m args below meth c Q D A H0 σ b Z nL st := by
  obtain ⟨pc, lo, sk, hp, E, cs, ss⟩ := st
  intro ls stk H locs ⟨ws, lv, hl, h1, h2, h3, hP, hD, hS, hE, hZ⟩
  match sk, stk, h2 with
  | [], _, _ => cases h
  | _ :: _, [], h2 => exact h2.elim
  | v :: sk, x :: stk, ⟨hg, h2⟩ =>
    unfold ri_sto at h
    dsimp only at h h1 h3 hE row ⊢
    split at h
    · cases h
    · rename_i hk
      cases h
      rw [Bool.and_eq_true] at hk
      have hi : i < nL := Nat.blt_eq.mp hk.2
      match v, hk.1, hg with
      | .inl n, _, ⟨k, hx, hn⟩ =>
        subst hx
        exact row ls lv stk H locs k hl hi (fun ls' hl' => hs _ List.mem_cons_self _ _ _ _ ⟨ws, _, hl', rl_st1 h1 ⟨k, rfl, hn⟩, h2, h3, hP, hD, hS, hE, hZ⟩)
      | .inr (.inl n), hk, _ => cases hk
      | .inr (.inr (.inl none)), hk, _ => cases hk
      | .inr (.inr (.inl (some q))), hk, _ => cases hk
      | .inr (.inr (.inr u)), hk, _ => cases hk
theorem so_sto2 {len i : Nat} {st : ri_S} {sts : List ri_S} (row : ∀ (ls : Array Slot) (lv : List (Nat × Value)) (stk : List Value) (H : Heap) (locs : List Loc) (x : Nat), lv_has ls nL lv → i < nL → (∀ ls' : Array Slot, lv_has ls' nL ((i, .ref x) :: lv.filter (fun q => !(q.1 == i) && !(q.1 + 1 == i && q.2.category == 2))) → W p l e R s m args below meth c H locs st.2.2.2.2.2.1 st.2.2.2.2.2.2 Q (F0 m (st.1 + len) ls' stk)) → W p l e R s m args below meth c H locs st.2.2.2.2.2.1 st.2.2.2.2.2.2 Q (F0 m st.1 ls (.ref x :: stk))) (h : ri_sto 2 len nL i st = some sts) (hs : ∀ t ∈ sts, ri_W p l e R s m args below meth c Q D A H0 σ b Z nL t) : ri_W p l e R s m args below meth c Q D A H0 σ b Z nL st := by
  obtain ⟨pc, lo, sk, hp, E, cs, ss⟩ := st
  intro ls stk H locs ⟨ws, lv, hl, h1, h2, h3, hP, hD, hS, hE, hZ⟩
  match sk, stk, h2 with
  | [], _, _ => cases h
  | _ :: _, [], h2 => exact h2.elim
  | v :: sk, x :: stk, ⟨hg, h2⟩ =>
    unfold ri_sto at h
    dsimp only at h h1 h3 hE row ⊢
    split at h
    · cases h
    · rename_i hk
      cases h
      rw [Bool.and_eq_true] at hk
      have hi : i < nL := Nat.blt_eq.mp hk.2
      match v, hk.1, hg with
      | .inl n, hk, _ => cases hk
      | .inr (.inl n), hk, _ => cases hk
      | .inr (.inr (.inl none)), hk, _ => cases hk
      | .inr (.inr (.inl (some q))), _, ⟨a, ha, hx⟩ =>
        subst hx
        exact row ls lv stk H locs a hl hi (fun ls' hl' => hs _ List.mem_cons_self _ _ _ _ ⟨ws, _, hl', rl_st1 (v := .inr (.inr (.inl (some q)))) h1 ⟨a, ha, rfl⟩, h2, h3, hP, hD, hS, hE, hZ⟩)
      | .inr (.inr (.inr u)), _, hx =>
        have hx : x = .ref b := hx
        subst hx
        exact row ls lv stk H locs b hl hi (fun ls' hl' => hs _ List.mem_cons_self _ _ _ _ ⟨ws, _, hl', rl_st1 (v := .inr (.inr (.inr u))) h1 rfl, h2, h3, hP, hD, hS, hE, hZ⟩)
theorem so_sto1 {len i : Nat} {st : ri_S} {sts : List ri_S} (row : ∀ (ls : Array Slot) (lv : List (Nat × Value)) (stk : List Value) (H : Heap) (locs : List Loc) (x : Int64), lv_has ls nL lv → i + 1 < nL → (∀ ls' : Array Slot, lv_has ls' nL ((i, .long x) :: lv.filter (fun q => !(q.1 == i) && (!(q.1 == i + 1) && !(q.1 + 1 == i && q.2.category == 2)))) → W p l e R s m args below meth c H locs st.2.2.2.2.2.1 st.2.2.2.2.2.2 Q (F0 m (st.1 + len) ls' stk)) → W p l e R s m args below meth c H locs st.2.2.2.2.2.1 st.2.2.2.2.2.2 Q (F0 m st.1 ls (.long x :: stk))) (h : ri_stoL len nL i st = some sts) (hs : ∀ t ∈ sts, ri_W p l e R s m args below meth c Q D A H0 σ b Z nL t) : ri_W p l e R s m args below meth c Q D A H0 σ b Z nL st := by
  obtain ⟨pc, lo, sk, hp, E, cs, ss⟩ := st
  intro ls stk H locs ⟨ws, lv, hl, h1, h2, h3, hP, hD, hS, hE, hZ⟩
  match sk, stk, h2 with
  | [], _, _ => cases h
  | _ :: _, [], h2 => exact h2.elim
  | v :: sk, x :: stk, ⟨hg, h2⟩ =>
    unfold ri_stoL at h
    dsimp only at h h1 h3 hE row ⊢
    split at h
    · cases h
    · rename_i hk
      cases h
      rw [Bool.and_eq_true] at hk
      have hi : i + 1 < nL := Nat.blt_eq.mp hk.2
      match v, hk.1, hg with
      | .inl n, hk, _ => cases hk
      | .inr (.inl n), _, ⟨k, hx, hn⟩ =>
        subst hx
        exact row ls lv stk H locs k hl hi (fun ls' hl' => hs _ List.mem_cons_self _ _ _ _ ⟨ws, _, hl', rl_st2 (v := .inr (.inl n)) h1 ⟨k, rfl, hn⟩, h2, h3, hP, hD, hS, hE, hZ⟩)
      | .inr (.inr (.inl none)), hk, _ => cases hk
      | .inr (.inr (.inl (some q))), hk, _ => cases hk
      | .inr (.inr (.inr u)), hk, _ => cases hk
theorem so_psh {len : Nat} {v : ri_V} {x : Value} {st : ri_S} {sts : List ri_S} (hx : ∀ as, ri_g as σ b v x) (row : ∀ (ls : Array Slot) (stk : List Value) (H : Heap) (locs : List Loc), W p l e R s m args below meth c H locs st.2.2.2.2.2.1 st.2.2.2.2.2.2 Q (F0 m (st.1 + len) ls (x :: stk)) → W p l e R s m args below meth c H locs st.2.2.2.2.2.1 st.2.2.2.2.2.2 Q (F0 m st.1 ls stk)) (h : ri_psh len v st = some sts) (hs : ∀ t ∈ sts, ri_W p l e R s m args below meth c Q D A H0 σ b Z nL t) : ri_W p l e R s m args below meth c Q D A H0 σ b Z nL st := by
  obtain ⟨pc, lo, sk, hp, E, cs, ss⟩ := st
  intro ls stk H locs ⟨ws, lv, hl, h1, h2, h3, hP, hD, hS, hE, hZ⟩
  cases h
  exact row ls stk H locs (hs _ List.mem_cons_self _ _ _ _ ⟨ws, lv, hl, h1, ⟨hx _, h2⟩, h3, hP, hD, hS, hE, hZ⟩)
theorem so_bin {f : Int × Int → Int × Int → ri_N} {op : Int32 → Int32 → Int32} {st : ri_S} {sts : List ri_S} (hf : ∀ (X Y : Int × Int) (x y : Int32), ri_i X x.toInt → ri_i Y y.toInt → ri_b (f X Y) (op x y).toInt) (row : ∀ (ls : Array Slot) (stk : List Value) (H : Heap) (locs : List Loc) (x y : Int32), W p l e R s m args below meth c H locs st.2.2.2.2.2.1 st.2.2.2.2.2.2 Q (F0 m (st.1 + 1) ls (.int (op x y) :: stk)) → W p l e R s m args below meth c H locs st.2.2.2.2.2.1 st.2.2.2.2.2.2 Q (F0 m st.1 ls (.int y :: .int x :: stk))) (h : ri_bin f st = some sts) (hs : ∀ t ∈ sts, ri_W p l e R s m args below meth c Q D A H0 σ b Z nL t) : ri_W p l e R s m args below meth c Q D A H0 σ b Z nL st := by
  obtain ⟨pc, lo, sk, hp, E, cs, ss⟩ := st
  intro ls stk H locs ⟨ws, lv, hl, h1, h2, h3, hP, hD, hS, hE, hZ⟩
  unfold ri_bin at h
  split at h
  · rename_i y x sk' hst
    cases hst
    cases h
    match stk, h2 with
    | [], h2 => exact h2.elim
    | [_], h2 => exact h2.2.elim
    | vy :: vx :: stk, ⟨⟨ky, ey, hy⟩, ⟨kx, ex, hx⟩, h2⟩ =>
      subst ey
      subst ex
      exact row ls stk H locs kx ky (hs _ List.mem_cons_self _ _ _ _ ⟨ws, lv, hl, h1, ⟨⟨_, rfl, rb_n (hf _ _ _ _ (rn_iv hE hx) (rn_iv hE hy))⟩, h2⟩, h3, hP, hD, hS, hE, hZ⟩)
  · cases h
theorem so_binL {f : Int × Int → Int × Int → ri_N} {op : Int64 → Int64 → Int64} {st : ri_S} {sts : List ri_S} (hf : ∀ (X Y : Int × Int) (x y : Int64), ri_i X x.toInt → ri_i Y y.toInt → ri_b (f X Y) (op x y).toInt) (row : ∀ (ls : Array Slot) (stk : List Value) (H : Heap) (locs : List Loc) (x y : Int64), W p l e R s m args below meth c H locs st.2.2.2.2.2.1 st.2.2.2.2.2.2 Q (F0 m (st.1 + 1) ls (.long (op x y) :: stk)) → W p l e R s m args below meth c H locs st.2.2.2.2.2.1 st.2.2.2.2.2.2 Q (F0 m st.1 ls (.long y :: .long x :: stk))) (h : ri_binL f st = some sts) (hs : ∀ t ∈ sts, ri_W p l e R s m args below meth c Q D A H0 σ b Z nL t) : ri_W p l e R s m args below meth c Q D A H0 σ b Z nL st := by
  obtain ⟨pc, lo, sk, hp, E, cs, ss⟩ := st
  intro ls stk H locs ⟨ws, lv, hl, h1, h2, h3, hP, hD, hS, hE, hZ⟩
  unfold ri_binL at h
  split at h
  · rename_i y x sk' hst
    cases hst
    cases h
    match stk, h2 with
    | [], h2 => exact h2.elim
    | [_], h2 => exact h2.2.elim
    | vy :: vx :: stk, ⟨⟨ky, ey, hy⟩, ⟨kx, ex, hx⟩, h2⟩ =>
      subst ey
      subst ex
      exact row ls stk H locs kx ky (hs _ List.mem_cons_self _ _ _ _ ⟨ws, lv, hl, h1, ⟨⟨_, rfl, rb_n (hf _ _ _ _ (rn_iv hE hx) (rn_iv hE hy))⟩, h2⟩, h3, hP, hD, hS, hE, hZ⟩)
  · cases h
theorem ri_tgt_ok {pc : Nat} {off : Int} (h : decide (0 ≤ (pc : Int) + off) = true) : (pc : Int) + off = ((ri_tgt pc off : Nat) : Int) := by
  rw [decide_eq_true_eq] at h
  exact (Int.toNat_of_nonneg h).symm
theorem ri_opt_mem {α : Type} {x : Option α} {a : α} (h : x = some a) : a ∈ ri_opt x := by rw [h]; exact List.mem_cons_self
theorem rn_neS {E : ri_E} {x : ri_N} {z k : Int} (hE : ri_Eok σ E) (hx : ri_n σ x z) (h : z ≠ k) : ∃ E1, E1 ∈ ri_neS E x k ∧ ri_Eok σ E1 := by
  obtain ⟨a1, a2⟩ := rn_iv hE hx
  unfold ri_neS
  split
  · obtain ⟨E1, e1, k1⟩ := rn_neC hE hx h
    exact ⟨E1, ri_opt_mem e1, k1⟩
  · by_cases hlt : z < k
    · obtain ⟨E1, e1, k1⟩ := rn_nar hE hx a1 (show z ≤ k - 1 by omega)
      exact ⟨E1, List.mem_append_left _ (ri_opt_mem e1), k1⟩
    · obtain ⟨E1, e1, k1⟩ := rn_nar hE hx (show k + 1 ≤ z by omega) a2
      exact ⟨E1, List.mem_append_right _ (ri_opt_mem e1), k1⟩
theorem rn_nes {E : ri_E} {x y : ri_N} {z w : Int} (hE : ri_Eok σ E) (hx : ri_n σ x z) (hy : ri_n σ y w) (h : z ≠ w) : ∃ E1, E1 ∈ ri_nes E x y ∧ ri_Eok σ E1 := by
  obtain ⟨a1, a2⟩ := rn_iv hE hx
  obtain ⟨b1, b2⟩ := rn_iv hE hy
  unfold ri_nes
  split
  · rename_i hd
    rw [decide_eq_true_eq] at hd
    exact rn_neS hE hx (by omega)
  · split
    · rename_i hd
      rw [decide_eq_true_eq] at hd
      exact rn_neS hE hy (by omega)
    · exact ⟨E, List.mem_cons_self, hE⟩
theorem rn_tsts {E : ri_E} {x y : ri_N} {z w : Int} (c : ClassFile.Cond) (hE : ri_Eok σ E) (hx : ri_n σ x z) (hy : ri_n σ y w) (h : ri_h c z w) : ∃ E1, E1 ∈ ri_tsts c E x y ∧ ri_Eok σ E1 := by
  unfold ri_tsts
  split
  · exact rn_nes hE hx hy h
  · obtain ⟨E1, e1, k1⟩ := rn_tst c hE hx hy h
    exact ⟨E1, ri_opt_mem e1, k1⟩
theorem so_br {cnd : ClassFile.Cond} {off : Int} {pc : Nat} {lo : List (Nat × ri_V)} {x y : ri_N} {sk : List ri_V} {hp : List ri_C} {E : ri_E} {cs ss : Nat} {sts : List ri_S} {ls : Array Slot} {stk st0 : List Value} {H : Heap} {locs : List Loc} {zx zy : Int} {ws : va_W} {lv : List (Nat × Value)}
    (row : ∀ tgt : Nat, (pc : Int) + off = (tgt : Int) → (ri_h cnd zx zy → W p l e R s m args below meth c H locs cs ss Q (F0 m tgt ls stk)) → (¬ ri_h cnd zx zy → W p l e R s m args below meth c H locs cs ss Q (F0 m (pc + 3) ls stk)) → W p l e R s m args below meth c H locs cs ss Q (F0 m pc ls st0))
    (h : ri_br cnd off pc lo x y sk hp E cs ss = some sts) (hs : ∀ t ∈ sts, ri_W p l e R s m args below meth c Q D A H0 σ b Z nL t) (hx : ri_n σ x zx) (hy : ri_n σ y zy)
    (hl : lv_has ls nL lv) (h1 : ri_lo (ws.map Prod.fst) σ b lo lv) (h2 : ri_2 (ri_g (ws.map Prod.fst) σ b) sk stk) (h3 : ri_hp s (ws.map Prod.fst) σ b hp ws) (hP : va_P D vwCl ws H) (hD : va_D A ws) (hS : va_S A H0 H locs) (hE : ri_Eok σ E) (hZ : Z <+: ws.map Prod.fst) : W p l e R s m args below meth c H locs cs ss Q (F0 m pc ls st0) := by
  unfold ri_br at h
  split at h
  · cases h
  · rename_i hd
    cases h
    refine row _ (ri_tgt_ok hd) (fun hc => ?_) (fun hc => ?_)
    · obtain ⟨E1, e1, k1⟩ := rn_tsts cnd hE hx hy hc
      exact hs (ri_tgt pc off, lo, sk, hp, E1, cs, ss) (List.mem_append_left _ (List.mem_map.mpr ⟨E1, e1, rfl⟩)) _ _ _ _ ⟨ws, lv, hl, h1, h2, h3, hP, hD, hS, k1, hZ⟩
    · obtain ⟨E1, e1, k1⟩ := rn_tsts (ri_neg cnd) hE hx hy (rn_not hc)
      exact hs (pc + 3, lo, sk, hp, E1, cs, ss) (List.mem_append_right _ (List.mem_map.mpr ⟨E1, e1, rfl⟩)) _ _ _ _ ⟨ws, lv, hl, h1, h2, h3, hP, hD, hS, k1, hZ⟩
theorem z0 : (0 : Int32).toInt = 0 := by decide
theorem so_if {cnd : ClassFile.Cond} {off : Int} {st : ri_S} {sts : List ri_S} (X : ri_X p R s m args meth c D A H0 σ b Z nL cc o sc ini rc rs) (hdg : decode cc st.1 = .ok (.ifCond cnd off, 3)) (h : ri_if cnd off st = some sts) (hs : ∀ t ∈ sts, ri_W p l e R s m args below meth c Q D A H0 σ b Z nL t) : ri_W p l e R s m args below meth c Q D A H0 σ b Z nL st := by
  obtain ⟨hx, hb, -⟩ := X
  obtain ⟨pc, lo, sk, hp, E, cs, ss⟩ := st
  intro ls stk H locs ⟨ws, lv, hl, h1, h2, h3, hP, hD, hS, hE, hZ⟩
  unfold ri_if at h
  split at h
  · rename_i x sk' hst
    cases hst
    match stk, h2 with
    | [], h2 => exact h2.elim
    | vx :: stk, ⟨⟨kx, ex, gx⟩, h2⟩ =>
      subst ex
      refine so_br (fun tgt ht kt kf => ?_) h hs gx (rn_k σ 0) hl h1 h2 h3 hP hD hS hE hZ
      cases cnd
      · exact lv_if_eq hx hb hdg ht (fun q => kt (by rw [q]; rfl)) (fun q => kf (fun r => q (Int32.toInt_inj.mp (r.trans z0.symm))))
      · exact lv_if_ne hx hb hdg ht (fun q => kt (fun r => q (Int32.toInt_inj.mp (r.trans z0.symm)))) (fun q => kf (fun r => r (by rw [q]; rfl)))
      · exact lv_if_lt hx hb hdg ht (fun q => kt (by have := Int32.lt_iff_toInt_lt.mp q; rw [z0] at this; exact this)) (fun q => kf (fun r => q (Int32.lt_iff_toInt_lt.mpr (by rw [z0]; exact r))))
      · exact lv_if_ge hx hb hdg ht (fun q => kt (by have := Int32.le_iff_toInt_le.mp q; rw [z0] at this; exact this)) (fun q => kf (fun r => q (Int32.le_iff_toInt_le.mpr (by rw [z0]; exact r))))
      · exact lv_if_gt hx hb hdg ht (fun q => kt (by have := Int32.lt_iff_toInt_lt.mp q; rw [z0] at this; exact this)) (fun q => kf (fun r => q (Int32.lt_iff_toInt_lt.mpr (by rw [z0]; exact r))))
      · exact lv_if_le hx hb hdg ht (fun q => kt (by have := Int32.le_iff_toInt_le.mp q; rw [z0] at this; exact this)) (fun q => kf (fun r => q (Int32.le_iff_toInt_le.mpr (by rw [z0]; exact r))))
  · cases h
theorem so_icmp {cnd : ClassFile.Cond} {off : Int} {st : ri_S} {sts : List ri_S} (X : ri_X p R s m args meth c D A H0 σ b Z nL cc o sc ini rc rs) (hdg : decode cc st.1 = .ok (.if_icmp cnd off, 3)) (h : ri_icmp cnd off st = some sts) (hs : ∀ t ∈ sts, ri_W p l e R s m args below meth c Q D A H0 σ b Z nL t) : ri_W p l e R s m args below meth c Q D A H0 σ b Z nL st := by
  obtain ⟨hx, hb, -⟩ := X
  obtain ⟨pc, lo, sk, hp, E, cs, ss⟩ := st
  intro ls stk H locs ⟨ws, lv, hl, h1, h2, h3, hP, hD, hS, hE, hZ⟩
  unfold ri_icmp at h
  split at h
  · rename_i y x sk' hst
    cases hst
    match stk, h2 with
    | [], h2 => exact h2.elim
    | [_], h2 => exact h2.2.elim
    | vy :: vx :: stk, ⟨⟨ky, ey, gy⟩, ⟨kx, ex, gx⟩, h2⟩ =>
      subst ey
      subst ex
      refine so_br (fun tgt ht kt kf => ?_) h hs gx gy hl h1 h2 h3 hP hD hS hE hZ
      cases cnd
      · exact lv_icmp_eq hx hb hdg ht (fun q => kt (by rw [q]; rfl)) (fun q => kf (fun r => q (Int32.toInt_inj.mp r)))
      · exact lv_icmp_ne hx hb hdg ht (fun q => kt (fun r => q (Int32.toInt_inj.mp r))) (fun q => kf (fun r => r (by rw [q])))
      · exact lv_icmp_lt hx hb hdg ht (fun q => kt (Int32.lt_iff_toInt_lt.mp q)) (fun q => kf (fun r => q (Int32.lt_iff_toInt_lt.mpr r)))
      · exact lv_icmp_ge hx hb hdg ht (fun q => kt (Int32.le_iff_toInt_le.mp q)) (fun q => kf (fun r => q (Int32.le_iff_toInt_le.mpr r)))
      · exact lv_icmp_gt hx hb hdg ht (fun q => kt (Int32.lt_iff_toInt_lt.mp q)) (fun q => kf (fun r => q (Int32.lt_iff_toInt_lt.mpr r)))
      · exact lv_icmp_le hx hb hdg ht (fun q => kt (Int32.le_iff_toInt_le.mp q)) (fun q => kf (fun r => q (Int32.le_iff_toInt_le.mpr r)))
  · cases h
theorem so_go {off : Int} {st : ri_S} {sts : List ri_S} (X : ri_X p R s m args meth c D A H0 σ b Z nL cc o sc ini rc rs) (hdg : decode cc st.1 = .ok (.goto off, 3)) (h : ri_go off st = some sts) (hs : ∀ t ∈ sts, ri_W p l e R s m args below meth c Q D A H0 σ b Z nL t) : ri_W p l e R s m args below meth c Q D A H0 σ b Z nL st := by
  obtain ⟨hx, hb, -⟩ := X
  obtain ⟨pc, lo, sk, hp, E, cs, ss⟩ := st
  intro ls stk H locs ⟨ws, lv, hl, h1, h2, h3, hP, hD, hS, hE, hZ⟩
  unfold ri_go at h
  dsimp only at h
  split at h
  · cases h
  · rename_i hd
    cases h
    exact lv_goto hx hb hdg (ri_tgt_ok hd) (hs _ List.mem_cons_self _ _ _ _ ⟨ws, lv, hl, h1, h2, h3, hP, hD, hS, hE, hZ⟩)
theorem so_lcmp {st : ri_S} {sts : List ri_S} (X : ri_X p R s m args meth c D A H0 σ b Z nL cc o sc ini rc rs) (hdg : decode cc st.1 = .ok (.lcmp, 1)) (h : ri_lcmp st = some sts) (hs : ∀ t ∈ sts, ri_W p l e R s m args below meth c Q D A H0 σ b Z nL t) : ri_W p l e R s m args below meth c Q D A H0 σ b Z nL st := by
  obtain ⟨hx, hb, -⟩ := X
  obtain ⟨pc, lo, sk, hp, E, cs, ss⟩ := st
  intro ls stk H locs ⟨ws, lv, hl, h1, h2, h3, hP, hD, hS, hE, hZ⟩
  unfold ri_lcmp at h
  split at h
  · rename_i _ _ y x sk' _ _ _ _ hst
    cases hst
    cases h
    match stk, h2 with
    | [], h2 => exact h2.elim
    | [_], h2 => exact h2.2.elim
    | vy :: vx :: stk, ⟨⟨ky, ey, gy⟩, ⟨kx, ex, gx⟩, h2⟩ =>
      subst ey
      subst ex
      refine W.lcmp hx hb hdg ?_
      by_cases hlt : kx.toInt < ky.toInt
      · obtain ⟨E1, e1, k1⟩ := rn_lt hE gx gy hlt
        have hv : lg_cmp kx ky = -1 := by
          unfold lg_cmp
          rw [if_neg (fun q => by have := Int64.lt_iff_toInt_lt.mp q; omega), if_neg (fun q => by rw [q] at hlt; omega)]
        rw [hv]
        exact hs (pc + 1, lo, .inl (ri_k (-1)) :: sk', hp, E1, cs, ss) (List.mem_append_left _ (List.mem_map.mpr ⟨E1, ri_opt_mem e1, rfl⟩)) _ _ _ _ ⟨ws, lv, hl, h1, ⟨⟨-1, rfl, rn_k σ (-1)⟩, h2⟩, h3, hP, hD, hS, k1, hZ⟩
      · by_cases heq : kx.toInt = ky.toInt
        · obtain ⟨E1, e1, k1⟩ := rn_eq hE gx gy heq
          have hv : lg_cmp kx ky = 0 := by
            unfold lg_cmp
            rw [if_neg (fun q => by have := Int64.lt_iff_toInt_lt.mp q; omega), if_pos (Int64.toInt_inj.mp heq)]
          rw [hv]
          exact hs (pc + 1, lo, .inl (ri_k 0) :: sk', hp, E1, cs, ss) (List.mem_append_right _ (List.mem_append_left _ (List.mem_map.mpr ⟨E1, ri_opt_mem e1, rfl⟩))) _ _ _ _ ⟨ws, lv, hl, h1, ⟨⟨0, rfl, rn_k σ 0⟩, h2⟩, h3, hP, hD, hS, k1, hZ⟩
        · have hgt : ky.toInt < kx.toInt := by omega
          obtain ⟨E1, e1, k1⟩ := rn_lt hE gy gx hgt
          have hv : lg_cmp kx ky = 1 := by
            unfold lg_cmp
            rw [if_pos (Int64.lt_iff_toInt_lt.mpr hgt)]
          rw [hv]
          exact hs (pc + 1, lo, .inl (ri_k 1) :: sk', hp, E1, cs, ss) (List.mem_append_right _ (List.mem_append_right _ (List.mem_map.mpr ⟨E1, ri_opt_mem e1, rfl⟩))) _ _ _ _ ⟨ws, lv, hl, h1, ⟨⟨1, rfl, rn_k σ 1⟩, h2⟩, h3, hP, hD, hS, k1, hZ⟩
  · cases h
end RS1
theorem tsw_mem {σ : Nat → Int} {E : ri_E} {x : ri_N} {mk : Int → ri_E → ri_S} {z : Int} (hE : ri_Eok σ E) (hx : ri_n σ x z) : ∀ {fs : List Int} {v : Int} {k : Nat} {f : Int}, z = v + (k : Int) → fs[k]? = some f → ∃ E1, mk f E1 ∈ ri_tsw E x mk v fs ∧ ri_Eok σ E1
  | [], _, _, _, _, h => by simp at h
  | g :: fs, v, 0, f, hz, h => by
    rw [List.getElem?_cons_zero] at h
    cases h
    obtain ⟨E1, e1, k1⟩ := rn_eq hE hx (rn_k σ v) (by omega)
    exact ⟨E1, List.mem_append_left _ (List.mem_map.mpr ⟨E1, ri_opt_mem e1, rfl⟩), k1⟩
  | g :: fs, v, k + 1, f, hz, h => by
    rw [List.getElem?_cons_succ] at h
    obtain ⟨E1, h1, h2⟩ := tsw_mem hE hx (v := v + 1) (k := k) (by omega) h
    exact ⟨E1, List.mem_append_right _ h1, h2⟩
section RS2
variable {p : Program} {l : Launch} {e : Env} {R : Room} {s : State} {m : MethodId} {args : Array Value} {below : List Frame} {meth : Method} {c : Code} {Q : State → Prop} {D : va_G} {A : Nat → Prop} {H0 : Heap} {σ : Nat → Int} {b nL : Nat} {Z : List Nat} {cc : ByteArray} {o : Nat} {sc : Option Nat} {ini : Bool} {rc rs : Nat}
theorem so_table {d a0 b0 : Int} {offs : Array Int} {len : Nat} {st : ri_S} {sts : List ri_S} (X : ri_X p R s m args meth c D A H0 σ b Z nL cc o sc ini rc rs) (hdg : decode cc st.1 = .ok (.tableswitch d a0 b0 offs, len)) (h : ri_table d a0 b0 offs st = some sts) (hs : ∀ t ∈ sts, ri_W p l e R s m args below meth c Q D A H0 σ b Z nL t) : ri_W p l e R s m args below meth c Q D A H0 σ b Z nL st := by
  obtain ⟨hx, hb, -⟩ := X
  obtain ⟨pc, lo, sk, hp, E, cs, ss⟩ := st
  intro ls stk H locs ⟨ws, lv, hl, h1, h2, h3, hP, hD, hS, hE, hZ⟩
  unfold ri_table at h
  split at h
  · rename_i _ _ x sk' _ _ _ _ hst
    cases hst
    split at h
    · cases h
    · rename_i hk
      cases h
      rw [Bool.and_eq_true, Bool.and_eq_true] at hk
      obtain ⟨k1, k2, k3⟩ := hk
      rw [decide_eq_true_eq] at k3
      match stk, h2 with
      | [], h2 => exact h2.elim
      | vx :: stk, ⟨⟨kx, ex, gx⟩, h2⟩ =>
        subst ex
        by_cases hlo : kx.toInt < a0
        · obtain ⟨E1, e1, g1⟩ := rn_lt hE gx (rn_k σ a0) hlo
          exact lv_tableOut hx hb hdg (Or.inl hlo) (ri_tgt_ok k1) (hs (ri_tgt pc d, lo, sk', hp, E1, cs, ss) (List.mem_append_left _ (List.mem_map.mpr ⟨E1, ri_opt_mem e1, rfl⟩)) _ _ _ _ ⟨ws, lv, hl, h1, h2, h3, hP, hD, hS, g1, hZ⟩)
        · by_cases hhi : b0 < kx.toInt
          · obtain ⟨E1, e1, g1⟩ := rn_lt hE (rn_k σ b0) gx hhi
            exact lv_tableOut hx hb hdg (Or.inr hhi) (ri_tgt_ok k1) (hs (ri_tgt pc d, lo, sk', hp, E1, cs, ss) (List.mem_append_right _ (List.mem_append_left _ (List.mem_map.mpr ⟨E1, ri_opt_mem e1, rfl⟩))) _ _ _ _ ⟨ws, lv, hl, h1, h2, h3, hP, hD, hS, g1, hZ⟩)
          · obtain ⟨f, hf⟩ : ∃ f, offs.toList[(kx.toInt - a0).toNat]? = some f := ⟨_, List.getElem?_eq_getElem (by omega)⟩
            have hf2 : offs[(kx.toInt - a0).toNat]? = some f := by rw [← Array.getElem?_toList]; exact hf
            have ht := List.all_eq_true.mp k2 f (List.mem_of_getElem? hf)
            obtain ⟨E1, g0, g1⟩ := tsw_mem (mk := fun f E1 => (ri_tgt pc f, lo, sk', hp, E1, cs, ss)) hE gx (v := a0) (k := (kx.toInt - a0).toNat) (by omega) hf
            exact lv_tableIn hx hb hdg hlo hhi hf2 (ri_tgt_ok ht) (hs (ri_tgt pc f, lo, sk', hp, E1, cs, ss) (List.mem_append_right _ (List.mem_append_right _ g0)) _ _ _ _ ⟨ws, lv, hl, h1, h2, h3, hP, hD, hS, g1, hZ⟩)
  · cases h
end RS2
