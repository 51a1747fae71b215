/-! the step is sound: every instruction; the run; the call -/
section RS10
variable {p : Program} {l : Launch} {e : Env} {R : Room} {s : State} {m : MethodId} {args : Array Value} {below : List Frame} {meth : Method} {c : Code} {Q : State → Prop} {D : va_G} {A : Nat → Prop} {H0 : Heap} {σ : Nat → Int} {b nL : Nat} {Z : List Nat} {cc : ByteArray} {o : Nat} {sc : Option Nat} {ini : Bool} {rc rs : Nat} {call : Nat → List ri_V → List ri_C → ri_E → Option (List ri_O)} {d : Nat}
theorem so_iinc {k : Nat} {n : Int} {st : ri_S} {sts : List ri_S} (X : ri_X p R s m args meth c D A H0 σ b Z nL cc o sc ini rc rs) (hdg : decode cc st.1 = .ok (.iinc k n, 3)) (h : ri_stp o sc ini nL rc rs call (.iinc k n) st = some sts) (hs : ∀ t ∈ sts, ri_W p l e R s m args below meth c Q D A H0 σ b Z nL t) : ri_W p l e R s m args below meth c Q D A H0 σ b Z nL st := by
  obtain ⟨hx, hb, -⟩ := X
  obtain ⟨pc, lo, sk, hp, E, cs, ss⟩ := st
  intro ls stk H locs ⟨ws, lv, hl, h1, h2, h3, hP, hD, hS, hE, hZ⟩
  unfold ri_stp at h
  dsimp only at h h1 h2 h3 hE hdg ⊢
  split at h
  · rename_i x hkey hcond
    cases h
    rw [Bool.and_eq_true, Bool.and_eq_true, decide_eq_true_eq, decide_eq_true_eq] at hcond
    obtain ⟨c1, c2, c3⟩ := hcond
    have c1 : k < nL := Nat.blt_eq.mp c1
    obtain ⟨v, g1, kx, rfl, gx⟩ := rk_2 h1 hkey
    obtain ⟨i, hi⟩ := List.getElem?_of_mem g1
    have hn : ri_i (n, n) (Int32.ofInt n).toInt := by
      rw [ofI (by omega) (by omega)]
      exact ⟨Int.le_refl _, Int.le_refl _⟩
    exact lv_iinc hx hb hdg hl hi rfl c1 rfl (fun ls' hl' => hs _ List.mem_cons_self _ _ _ _ ⟨ws, _, hl', rl_st1 h1 ⟨_, rfl, rb_n (rb_add (rn_iv hE gx) hn)⟩, h2, h3, hP, hD, hS, hE, hZ⟩)
  · cases h
theorem so_shL {op : Int64 → Int32 → Int64} {st : ri_S} {sts : List ri_S} (row : ∀ (ls : Array Slot) (stk : List Value) (H : Heap) (locs : List Loc) (x : Int64) (y : Int32), W p l e R s m args below meth c H locs st.2.2.2.2.2.1 st.2.2.2.2.2.2 Q (F0 m (st.1 + 1) ls (.long (op x y) :: stk)) → W p l e R s m args below meth c H locs st.2.2.2.2.2.1 st.2.2.2.2.2.2 Q (F0 m st.1 ls (.int y :: .long x :: stk))) (h : ri_shL st = some sts) (hs : ∀ t ∈ sts, ri_W p l e R s m args below meth c Q D A H0 σ b Z nL t) : ri_W p l e R s m args below meth c Q D A H0 σ b Z nL st := by
  obtain ⟨pc, lo, sk, hp, E, cs, ss⟩ := st
  intro ls stk H locs ⟨ws, lv, hl, h1, h2, h3, hP, hD, hS, hE, hZ⟩
  unfold ri_shL at h
  split at h
  · rename_i _ _ y x sk' _ _ _ _ hst
    cases hst
    cases h
    match stk, h2 with
    | [], h2 => exact h2.elim
    | [_], h2 => exact h2.2.elim
    | vy :: vx :: stk, ⟨⟨ky, ey, hy⟩, ⟨kx, ex, hx⟩, h2⟩ =>
      subst ey
      subst ex
      exact row ls stk H locs kx ky (hs _ List.mem_cons_self _ _ _ _ ⟨ws, lv, hl, h1, ⟨⟨_, rfl, rb_n (rb_anyL _)⟩, h2⟩, h3, hP, hD, hS, hE, hZ⟩)
  · cases h
theorem so_i2l {st : ri_S} {sts : List ri_S} (X : ri_X p R s m args meth c D A H0 σ b Z nL cc o sc ini rc rs) (hdg : decode cc st.1 = .ok (.i2l, 1)) (h : ri_stp o sc ini nL rc rs call .i2l st = some sts) (hs : ∀ t ∈ sts, ri_W p l e R s m args below meth c Q D A H0 σ b Z nL t) : ri_W p l e R s m args below meth c Q D A H0 σ b Z nL st := by
  obtain ⟨hx, hb, -⟩ := X
  obtain ⟨pc, lo, sk, hp, E, cs, ss⟩ := st
  intro ls stk H locs ⟨ws, lv, hl, h1, h2, h3, hP, hD, hS, hE, hZ⟩
  match sk, stk, h2 with
  | [], _, _ => cases h
  | _ :: _, [], h2 => exact h2.elim
  | .inr _ :: _, _ :: _, _ => cases h
  | .inl x :: sk, vx :: stk, ⟨⟨kx, ex, gx⟩, h2⟩ =>
    subst ex
    cases h
    exact lv_i2l hx hb hdg rfl (hs _ List.mem_cons_self _ _ _ _ ⟨ws, lv, hl, h1, ⟨⟨_, rfl, by rw [Int32.toInt_toInt64]; exact gx⟩, h2⟩, h3, hP, hD, hS, hE, hZ⟩)
theorem so_i2b {st : ri_S} {sts : List ri_S} (X : ri_X p R s m args meth c D A H0 σ b Z nL cc o sc ini rc rs) (hdg : decode cc st.1 = .ok (.i2b, 1)) (h : ri_stp o sc ini nL rc rs call .i2b st = some sts) (hs : ∀ t ∈ sts, ri_W p l e R s m args below meth c Q D A H0 σ b Z nL t) : ri_W p l e R s m args below meth c Q D A H0 σ b Z nL st := by
  obtain ⟨hx, hb, -⟩ := X
  obtain ⟨pc, lo, sk, hp, E, cs, ss⟩ := st
  intro ls stk H locs ⟨ws, lv, hl, h1, h2, h3, hP, hD, hS, hE, hZ⟩
  match sk, stk, h2 with
  | [], _, _ => cases h
  | _ :: _, [], h2 => exact h2.elim
  | .inr _ :: _, _ :: _, _ => cases h
  | .inl x :: sk, vx :: stk, ⟨⟨kx, ex, gx⟩, h2⟩ =>
    subst ex
    cases h
    exact lv_i2b hx hb hdg rfl (hs _ List.mem_cons_self _ _ _ _ ⟨ws, lv, hl, h1, ⟨⟨_, rfl, (i2b_b kx).1, (i2b_b kx).2, fun z => absurd rfl z⟩, h2⟩, h3, hP, hD, hS, hE, hZ⟩)
theorem so_dup {st : ri_S} {sts : List ri_S} (X : ri_X p R s m args meth c D A H0 σ b Z nL cc o sc ini rc rs) (hdg : decode cc st.1 = .ok (.dup, 1)) (h : ri_stp o sc ini nL rc rs call .dup st = some sts) (hs : ∀ t ∈ sts, ri_W p l e R s m args below meth c Q D A H0 σ b Z nL t) : ri_W p l e R s m args below meth c Q D A H0 σ b Z nL st := by
  obtain ⟨hx, hb, -⟩ := X
  obtain ⟨pc, lo, sk, hp, E, cs, ss⟩ := st
  intro ls stk H locs ⟨ws, lv, hl, h1, h2, h3, hP, hD, hS, hE, hZ⟩
  match sk, stk, h2 with
  | [], _, _ => cases h
  | _ :: _, [], h2 => exact h2.elim
  | v :: sk, vx :: stk, ⟨gv, h2⟩ =>
    unfold ri_stp at h
    dsimp only at h
    split at h
    · rename_i hc
      cases h
      have hc := Nat.eq_of_beq_eq_true hc
      exact lv_dup hx hb hdg ((rg_cat gv).trans hc) (hs _ List.mem_cons_self _ _ _ _ ⟨ws, lv, hl, h1, ⟨gv, gv, h2⟩, h3, hP, hD, hS, hE, hZ⟩)
    · cases h
theorem so_pop {st : ri_S} {sts : List ri_S} (X : ri_X p R s m args meth c D A H0 σ b Z nL cc o sc ini rc rs) (hdg : decode cc st.1 = .ok (.pop, 1)) (h : ri_stp o sc ini nL rc rs call .pop st = some sts) (hs : ∀ t ∈ sts, ri_W p l e R s m args below meth c Q D A H0 σ b Z nL t) : ri_W p l e R s m args below meth c Q D A H0 σ b Z nL st := by
  obtain ⟨hx, hb, -⟩ := X
  obtain ⟨pc, lo, sk, hp, E, cs, ss⟩ := st
  intro ls stk H locs ⟨ws, lv, hl, h1, h2, h3, hP, hD, hS, hE, hZ⟩
  match sk, stk, h2 with
  | [], _, _ => cases h
  | _ :: _, [], h2 => exact h2.elim
  | v :: sk, vx :: stk, ⟨gv, h2⟩ =>
    unfold ri_stp at h
    dsimp only at h
    split at h
    · rename_i hc
      cases h
      have hc := Nat.eq_of_beq_eq_true hc
      exact lv_pop hx hb hdg ((rg_cat gv).trans hc) (hs _ List.mem_cons_self _ _ _ _ ⟨ws, lv, hl, h1, h2, h3, hP, hD, hS, hE, hZ⟩)
    · cases h
theorem so_step {i : Instr} {len : Nat} {st : ri_S} {sts : List ri_S} (X : ri_X p R s m args meth c D A H0 σ b Z nL cc o sc ini rc rs) (hd1 : d + 1 ≤ R.frames) (hd2 : 64 * (d + 1) ≤ R.locals) (hg : ri_good l d call) (hdg : decode cc st.1 = .ok (i, len)) (h : ri_step o sc ini nL rc rs call i len st = some sts) (hs : ∀ t ∈ sts, ri_W p l e R s m args below meth c Q D A H0 σ b Z nL t) : ri_W p l e R s m args below meth c Q D A H0 σ b Z nL st := by
  have X0 := X
  obtain ⟨hx, hb, hml, hown, hts, -⟩ := X0
  unfold ri_step at h
  split at h
  · cases h
  · rename_i hlen
    have hlen := Nat.eq_of_beq_eq_true hlen
    cases i with
    | aload_n k => have hlen : len = 1 := hlen; subst hlen; exact so_ld2 (fun ls stk H locs x hi kk => lv_aload_n hx hb hdg rfl hi kk) h hs
    | aload k => have hlen : len = 2 := hlen; subst hlen; exact so_ld2 (fun ls stk H locs x hi kk => lv_aload hx hb hdg hi kk) h hs
    | iload_n k => have hlen : len = 1 := hlen; subst hlen; exact so_ld0 (fun ls stk H locs x hi kk => lv_iload_n hx hb hdg rfl hi kk) h hs
    | iload k => have hlen : len = 2 := hlen; subst hlen; exact so_ld0 (fun ls stk H locs x hi kk => lv_iload hx hb hdg hi kk) h hs
    | lload_n k => have hlen : len = 1 := hlen; subst hlen; exact so_ld1 (fun ls stk H locs x hi kk => lv_lload_n hx hb hdg rfl hi kk) h hs
    | lload k => have hlen : len = 2 := hlen; subst hlen; exact so_ld1 (fun ls stk H locs x hi kk => lv_lload hx hb hdg hi kk) h hs
    | istore_n k => have hlen : len = 1 := hlen; subst hlen; exact so_sto0 (fun ls lv stk H locs x hl hi kk => lv_istore_n hx hb hdg rfl hl hi rfl kk) h hs
    | istore k => have hlen : len = 2 := hlen; subst hlen; exact so_sto0 (fun ls lv stk H locs x hl hi kk => lv_istore hx hb hdg hl hi rfl kk) h hs
    | astore_n k => have hlen : len = 1 := hlen; subst hlen; exact so_sto2 (fun ls lv stk H locs x hl hi kk => lv_astore_n hx hb hdg rfl hl hi rfl kk) h hs
    | astore k => have hlen : len = 2 := hlen; subst hlen; exact so_sto2 (fun ls lv stk H locs x hl hi kk => lv_astore hx hb hdg hl hi rfl kk) h hs
    | lstore_n k => have hlen : len = 1 := hlen; subst hlen; exact so_sto1 (fun ls lv stk H locs x hl hi kk => lv_lstore_n hx hb hdg rfl hl hi rfl kk) h hs
    | lstore k => have hlen : len = 2 := hlen; subst hlen; exact so_sto1 (fun ls lv stk H locs x hl hi kk => lv_lstore hx hb hdg hl hi rfl kk) h hs
    | iinc k n => have hlen : len = 3 := hlen; subst hlen; exact so_iinc X hdg h hs
    | iconst n =>
      have hlen : len = 1 := hlen
      subst hlen
      unfold ri_stp at h
      dsimp only at h
      split at h
      · rename_i hk
        rw [Bool.and_eq_true, decide_eq_true_eq, decide_eq_true_eq] at hk
        exact so_psh (v := .inl (ri_k n)) (x := .int (Int32.ofInt n)) (fun as => ⟨_, rfl, by rw [ofI (by omega) (by omega)]; exact rn_k σ n⟩) (fun ls stk H locs kk => lv_iconst hx hb hdg rfl kk) h hs
      · cases h
    | bipush n =>
      have hlen : len = 2 := hlen
      subst hlen
      unfold ri_stp at h
      dsimp only at h
      split at h
      · rename_i hk
        rw [Bool.and_eq_true, decide_eq_true_eq, decide_eq_true_eq] at hk
        exact so_psh (v := .inl (ri_k n)) (x := .int (Int8.ofInt n).toInt32) (fun as => ⟨_, rfl, by rw [of8 hk.1 hk.2]; exact rn_k σ n⟩) (fun ls stk H locs kk => lv_bipush hx hb hdg rfl kk) h hs
      · cases h
    | sipush n =>
      have hlen : len = 3 := hlen
      subst hlen
      unfold ri_stp at h
      dsimp only at h
      split at h
      · rename_i hk
        rw [Bool.and_eq_true, decide_eq_true_eq, decide_eq_true_eq] at hk
        exact so_psh (v := .inl (ri_k n)) (x := .int (Int16.ofInt n).toInt32) (fun as => ⟨_, rfl, by rw [of16 hk.1 hk.2]; exact rn_k σ n⟩) (fun ls stk H locs kk => lv_sipush hx hb hdg rfl kk) h hs
      · cases h
    | lconst n =>
      have hlen : len = 1 := hlen
      subst hlen
      exact so_psh (v := .inr (.inl (ri_k (n.val : Nat)))) (x := .long (Int64.ofNat n.val)) (fun as => ⟨_, rfl, by
        have : (Int64.ofNat n.val).toInt = (n.val : Int) := by
          match n with
          | ⟨0, _⟩ => rfl
          | ⟨1, _⟩ => rfl
        rw [this]
        exact rn_k σ _⟩) (fun ls stk H locs kk => lv_lconst hx hb hdg rfl kk) h hs
    | ldc2_w k =>
      have hlen : len = 3 := hlen
      subst hlen
      unfold ri_stp at h
      dsimp only at h
      split at h
      · rename_i n pp hk
        obtain ⟨k1, k2⟩ := tb_k_mem hk
        exact so_psh (v := .inr (.inl (ri_k n))) (x := .long (Int64.ofInt n)) (fun as => ⟨_, rfl, by rw [k2]; exact rn_k σ n⟩) (fun ls stk H locs kk => lv_ldc2 hx hb hown (hts _ k1) hdg kk) h hs
      · cases h
    | ldc k =>
      have hlen : len = 2 := hlen
      subst hlen
      unfold ri_stp at h
      dsimp only at h
      split at h
      · rename_i n pp hk
        obtain ⟨k1, k2⟩ := tb_i_mem hk
        exact so_psh (v := .inl (ri_k n)) (x := .int (Int32.ofInt n)) (fun as => ⟨_, rfl, by rw [k2]; exact rn_k σ n⟩) (fun ls stk H locs kk => lv_ldc hx hb hown (hts _ k1) hdg kk) h hs
      · cases h
    | iadd => have hlen : len = 1 := hlen; subst hlen; exact so_bin (f := ri_add) (op := fun x y => x + y) (fun _ _ _ _ a b => rb_add a b) (fun ls stk H locs x y kk => lv_iadd hx hb hdg kk) h hs
    | isub => have hlen : len = 1 := hlen; subst hlen; exact so_bin (f := ri_sbt) (op := fun x y => x - y) (fun _ _ _ _ a b => rb_sbt a b) (fun ls stk H locs x y kk => lv_isub hx hb hdg kk) h hs
    | imul => have hlen : len = 1 := hlen; subst hlen; exact so_bin (f := ri_mul) (op := fun x y => x * y) (fun _ _ _ _ a b => rb_mul a b) (fun ls stk H locs x y kk => lv_imul hx hb hdg kk) h hs
    | iand => have hlen : len = 1 := hlen; subst hlen; exact so_bin (f := ri_and) (op := fun x y => x &&& y) (fun _ _ _ _ a b => rb_and a b) (fun ls stk H locs x y kk => lv_iand hx hb hdg kk) h hs
    | ior => have hlen : len = 1 := hlen; subst hlen; exact so_bin (f := ri_any2) (op := fun x y => x ||| y) (fun _ _ _ _ _ _ => rb_any2) (fun ls stk H locs x y kk => lv_ior hx hb hdg kk) h hs
    | ixor => have hlen : len = 1 := hlen; subst hlen; exact so_bin (f := ri_any2) (op := fun x y => x ^^^ y) (fun _ _ _ _ _ _ => rb_any2) (fun ls stk H locs x y kk => lv_ixor hx hb hdg kk) h hs
    | ishl => have hlen : len = 1 := hlen; subst hlen; exact so_bin (f := ri_any2) (op := fun x y => x <<< (y &&& 31)) (fun _ _ _ _ _ _ => rb_any2) (fun ls stk H locs x y kk => lv_ishl hx hb hdg kk) h hs
    | ishr => have hlen : len = 1 := hlen; subst hlen; exact so_bin (f := ri_any2) (op := fun x y => x >>> (y &&& 31)) (fun _ _ _ _ _ _ => rb_any2) (fun ls stk H locs x y kk => lv_ishr hx hb hdg kk) h hs
    | ladd => have hlen : len = 1 := hlen; subst hlen; exact so_binL (f := ri_addL) (op := fun x y => x + y) (fun _ _ _ _ a b => rb_addL a b) (fun ls stk H locs x y kk => lv_ladd hx hb hdg kk) h hs
    | lsub => have hlen : len = 1 := hlen; subst hlen; exact so_binL (f := ri_sbtL) (op := fun x y => x - y) (fun _ _ _ _ a b => rb_sbtL a b) (fun ls stk H locs x y kk => lv_lsub hx hb hdg kk) h hs
    | land => have hlen : len = 1 := hlen; subst hlen; exact so_binL (f := ri_any2L) (op := fun x y => x &&& y) (fun _ _ _ _ _ _ => rb_anyL _) (fun ls stk H locs x y kk => lv_land hx hb hdg kk) h hs
    | lor => have hlen : len = 1 := hlen; subst hlen; exact so_binL (f := ri_any2L) (op := fun x y => x ||| y) (fun _ _ _ _ _ _ => rb_anyL _) (fun ls stk H locs x y kk => lv_lor hx hb hdg kk) h hs
    | lxor => have hlen : len = 1 := hlen; subst hlen; exact so_binL (f := ri_any2L) (op := fun x y => x ^^^ y) (fun _ _ _ _ _ _ => rb_anyL _) (fun ls stk H locs x y kk => lv_lxor hx hb hdg kk) h hs
    | lshl => have hlen : len = 1 := hlen; subst hlen; exact so_shL (op := fun x y => x <<< (y.toInt64 &&& 63)) (fun ls stk H locs x y kk => lv_lshl hx hb hdg rfl kk) h hs
    | lshr => have hlen : len = 1 := hlen; subst hlen; exact so_shL (op := fun x y => x >>> (y.toInt64 &&& 63)) (fun ls stk H locs x y kk => lv_lshr hx hb hdg rfl kk) h hs
    | i2l => have hlen : len = 1 := hlen; subst hlen; exact so_i2l X hdg h hs
    | i2b => have hlen : len = 1 := hlen; subst hlen; exact so_i2b X hdg h hs
    | dup => have hlen : len = 1 := hlen; subst hlen; exact so_dup X hdg h hs
    | pop => have hlen : len = 1 := hlen; subst hlen; exact so_pop X hdg h hs
    | ifCond cnd off => have hlen : len = 3 := hlen; subst hlen; exact so_if X hdg h hs
    | if_icmp cnd off => have hlen : len = 3 := hlen; subst hlen; exact so_icmp X hdg h hs
    | goto off => have hlen : len = 3 := hlen; subst hlen; exact so_go X hdg h hs
    | lcmp => have hlen : len = 1 := hlen; subst hlen; exact so_lcmp X hdg h hs
    | tableswitch df a0 b0 offs => exact so_table X hdg h hs
    | getfield k => have hlen : len = 3 := hlen; subst hlen; exact so_get X hdg h hs
    | putfield k => have hlen : len = 3 := hlen; subst hlen; exact so_put X hdg h hs
    | new k => have hlen : len = 3 := hlen; subst hlen; exact so_new X hdg h hs
    | newarray t => have hlen : len = 2 := hlen; subst hlen; exact so_newa X hdg h hs
    | anewarray k => have hlen : len = 3 := hlen; subst hlen; exact so_newq X hdg h hs
    | iaload => have hlen : len = 1 := hlen; subst hlen; exact so_ild X hdg h hs
    | baload => have hlen : len = 1 := hlen; subst hlen; exact so_bld X hdg h hs
    | laload => have hlen : len = 1 := hlen; subst hlen; exact so_lld X hdg h hs
    | aaload => have hlen : len = 1 := hlen; subst hlen; exact so_ald X hdg h hs
    | iastore => have hlen : len = 1 := hlen; subst hlen; exact so_ist X (Or.inl ⟨rfl, rfl⟩) hdg h hs
    | bastore => have hlen : len = 1 := hlen; subst hlen; exact so_ist X (Or.inr ⟨rfl, rfl⟩) hdg h hs
    | lastore => have hlen : len = 1 := hlen; subst hlen; exact so_lst X hdg h hs
    | aastore => have hlen : len = 1 := hlen; subst hlen; exact so_ast X hdg h hs
    | arraylength => have hlen : len = 1 := hlen; subst hlen; exact so_len X hdg h hs
    | invokevirtual k => have hlen : len = 3 := hlen; subst hlen; exact so_invV (sp := false) X hd1 hd2 hg hdg h hs
    | invokespecial k => have hlen : len = 3 := hlen; subst hlen; exact so_spec X hd1 hd2 hg hdg h hs
    | invokestatic k => have hlen : len = 3 := hlen; subst hlen; exact so_stat X hd1 hd2 hg hdg h hs
    | _ => exact nomatch (show (none : Option (List ri_S)) = some sts from h)
end RS10
