/-! v2: the step: every instruction -/
def rj_fstr : List (String × Nat × String × Nat) → Nat → Option Nat
  | [], _ => none
  | r :: l, k => match Nat.beq r.2.1 k with
    | true => some r.2.2.2
    | false => rj_fstr l k
theorem fstr_ok : ∀ {l : List (String × Nat × String × Nat)} {k i : Nat}, rj_fstr l k = some i → ∃ r ∈ l, r.2.1 = k ∧ r.2.2.2 = i
  | [], _, _, h => by cases h
  | r :: l, k, i, h => by
    unfold rj_fstr at h
    split at h
    · rename_i hq
      cases h
      exact ⟨r, List.mem_cons_self, Nat.eq_of_beq_eq_true hq, rfl⟩
    · obtain ⟨r2, h1, h2⟩ := fstr_ok h
      exact ⟨r2, List.mem_cons_of_mem _ h1, h2⟩
theorem st_own : ∀ r ∈ st_tb, r.1 = ri_own 2 := by decide +kernel
def rj_ldc (o k : Nat) (st : rj_S) : Option (List rj_S) := match ri_key (tb_i o) k with
  | some (n, _) => rj_psh 2 (.inl (rj_k n)) st
  | none => match Nat.beq o 2 with
    | false => none
    | true => match rj_fstr st_tb k with
      | none => none
      | some i => rj_psh 2 (.inr (.inr (.inr (.inl i)))) st
def rj_virt (o : Nat) (call : rj_Ca) (nat : Nat → rj_S → Option (List rj_S)) (k : Nat) (st : rj_S) : Option (List rj_S) := match ri_key (tb_l o) k with
  | none => nat (2 * k) st
  | some _ => rj_invV o call k st
def rj_stat (o : Nat) (call : rj_Ca) (nat : Nat → rj_S → Option (List rj_S)) (k : Nat) (st : rj_S) : Option (List rj_S) := match ri_key (tb_l o) k with
  | none => nat (2 * k + 1) st
  | some (1, _, _) => rj_cpy st
  | some _ => rj_invS o call k st
def rj_stp (ct : ri_T) (o : Nat) (sc : rj_Sc) (nL : Nat) (call : rj_Ca) (nat : Nat → rj_S → Option (List rj_S)) (i : Instr) (st : rj_S) : Option (List rj_S) := match i with
  | .aload_n k => rj_ld 2 1 k.val st
  | .aload k => rj_ld 2 2 k st
  | .iload_n k => rj_ld 0 1 k.val st
  | .iload k => rj_ld 0 2 k st
  | .lload_n k => rj_ld 1 1 k.val st
  | .lload k => rj_ld 1 2 k st
  | .istore_n k => rj_sto 0 1 nL k.val st
  | .istore k => rj_sto 0 2 nL k st
  | .astore_n k => rj_sto 2 1 nL k.val st
  | .astore k => rj_sto 2 2 nL k st
  | .lstore_n k => rj_stoL 1 nL k.val st
  | .lstore k => rj_stoL 2 nL k st
  | .iinc k n => rj_inc k n nL st
  | .iconst n => (match decide (-32768 ≤ n) && decide (n ≤ 32767) with | true => rj_psh 1 (.inl (rj_k n)) st | false => none)
  | .bipush n => (match decide (-128 ≤ n) && decide (n ≤ 127) with | true => rj_psh 2 (.inl (rj_k n)) st | false => none)
  | .sipush n => (match decide (-32768 ≤ n) && decide (n ≤ 32767) with | true => rj_psh 3 (.inl (rj_k n)) st | false => none)
  | .lconst n => rj_psh 1 (.inr (.inl (rj_k n.val))) st
  | .ldc2_w k => (match ri_key (tb_k o) k with
    | some (n, _) => rj_psh 3 (.inr (.inl (rj_k n))) st
    | none => none)
  | .ldc k => rj_ldc o k st
  | .ldc_w k => (match ri_key (tb_i o) k with
    | some (n, _) => rj_psh 3 (.inl (rj_k n)) st
    | none => none)
  | .iadd => rj_bin rj_iadd st
  | .isub => rj_bin rj_isub st
  | .imul => rj_bin rj_imul st
  | .iand => rj_bin rj_iand st
  | .ior => rj_bin rj_ior st
  | .ixor => rj_bin rj_ixor st
  | .ishl => rj_bin rj_ishl st
  | .ishr => rj_bin rj_ishr st
  | .idiv => rj_dvI rj_idiv st
  | .irem => rj_dvI rj_irem st
  | .ladd => rj_binL rj_ladd st
  | .lsub => rj_binL rj_lsub st
  | .lmul => rj_binL rj_lmul st
  | .land => rj_binL rj_anyL2 st
  | .lor => rj_binL rj_anyL2 st
  | .lxor => rj_binL rj_anyL2 st
  | .ldiv => rj_dvL rj_ldiv st
  | .lrem => rj_dvL rj_ldiv st
  | .lshl => rj_shL st
  | .lshr => rj_shL st
  | .ineg => rj_un1I rj_ineg st
  | .i2b => rj_un1I rj_i2b st
  | .i2s => rj_un1I rj_i2s st
  | .i2l => rj_i2l st
  | .l2i => rj_l2i st
  | .dup => rj_dup st
  | .dup2 => rj_dup2 st
  | .pop => rj_pop st
  | .ifCond c off => rj_if c off st
  | .if_icmp c off => rj_icmp c off st
  | .goto off => rj_go off st
  | .lcmp => rj_lif (ri_at ct (st.1 + 1)) st
  | .tableswitch d a b offs => rj_table d a b offs st
  | .getfield k => rj_get o k st
  | .putfield k => rj_put o k st
  | .iaload => rj_ild sc st
  | .baload => rj_ald [1, 2] false st
  | .laload => rj_ald [3] true st
  | .aaload => rj_aald st
  | .iastore => rj_ast [0] st
  | .bastore => rj_ast [1, 2] st
  | .lastore => rj_lst st
  | .arraylength => rj_len sc st
  | .invokevirtual k => rj_virt o call nat k st
  | .invokestatic k => rj_stat o call nat k st
  | _ => none
def rj_ilen (i : Instr) (len : Nat) : Nat := match i with
  | .ldc_w _ => 3
  | i => ri_ilen i len
def rj_step (ct : ri_T) (o : Nat) (sc : rj_Sc) (nL : Nat) (call : rj_Ca) (nat : Nat → rj_S → Option (List rj_S)) (i : Instr) (len : Nat) (st : rj_S) : Option (List rj_S) := match Nat.beq len (rj_ilen i len) with
  | false => none
  | true => rj_stp ct o sc nL call nat i st
theorem kd_0 {z : rj_Z} {N : Nat} {σ : Nat → Int} {v : rj_V} {x : Value} (h : rj_kd 0 v = true) (hg : rj_g z N σ v x) : ∃ k : Int32, x = .int k := by
  match v, hg with
  | .inl f, ⟨k, e, _⟩ => exact ⟨k, e⟩
  | .inr _, _ => cases h
theorem kd_1 {z : rj_Z} {N : Nat} {σ : Nat → Int} {v : rj_V} {x : Value} (h : rj_kd 1 v = true) (hg : rj_g z N σ v x) : ∃ k : Int64, x = .long k := by
  match v, hg with
  | .inl f, _ => cases h
  | .inr (.inl f), ⟨k, e, _⟩ => exact ⟨k, e⟩
  | .inr (.inr _), _ => cases h
theorem kd_2 {z : rj_Z} {N : Nat} {σ : Nat → Int} {v : rj_V} {x : Value} (h : rj_kd 2 v = true) (hg : rj_g z N σ v x) : ∃ a : Nat, x = .ref a := by
  match v, hg with
  | .inl f, _ => cases h
  | .inr (.inl f), _ => cases h
  | .inr (.inr (.inl q)), ⟨a, _, e⟩ => exact ⟨a, e⟩
  | .inr (.inr (.inr (.inl i))), e => exact ⟨_, e⟩
  | .inr (.inr (.inr (.inr _))), e => exact ⟨_, e⟩
section RT7
variable {p : Program} {l : Launch} {e : Env} {R : Room} {s : State} {m : MethodId} {args : Array Value} {below : List Frame} {meth : Method} {c : Code} {Q : State → Prop} {D : va_G} {A : Nat → Prop} {H0 : Heap} {z : rj_Z} {N0 : Nat} {σ0 : Nat → Int} {w0 : va_W} {nL cs ss : Nat} {cc : ByteArray} {o : Nat}
def rj_nok (p : Program) (l : Launch) (e : Env) (R : Room) (s : State) (m : MethodId) (args : Array Value) (below : List Frame) (meth : Method) (c : Code) (D : va_G) (A : Nat → Prop) (H0 : Heap) (z : rj_Z) (nL cs ss : Nat) (cc : ByteArray) (nat : Nat → rj_S → Option (List rj_S)) : Prop :=
  ∀ (Q : State → Prop) (N0 : Nat) (σ0 : Nat → Int) (w0 : va_W) (idx : Nat) (st : rj_S) (sts : List rj_S), ((∃ k, idx = 2 * k ∧ decode cc st.1 = .ok (.invokevirtual k, 3)) ∨ ∃ k, idx = 2 * k + 1 ∧ decode cc st.1 = .ok (.invokestatic k, 3)) → nat idx st = some sts → (∀ t ∈ sts, rj_W p l e R s m args below meth c Q D A H0 z N0 σ0 w0 nL cs ss t) → rj_W p l e R s m args below meth c Q D A H0 z N0 σ0 w0 nL cs ss st
theorem to_step {i : Instr} {len d : Nat} {ct : ri_T} {sc : rj_Sc} {call : rj_Ca} {nat : Nat → rj_S → Option (List rj_S)} {st : rj_S} {sts : List rj_S} (X : rj_Xc p R s m args c D A H0 z nL cc o cs ss) (hI : rj_inv s z w0) (hsc : rj_scr s A H0 z N0 σ0 sc) (hd1 : d + 1 ≤ R.frames) (hd2 : 64 * (d + 1) ≤ R.locals) (hg : rj_good l d call) (hn : rj_nok p l e R s m args below meth c D A H0 z nL cs ss cc nat) (hcd : ri_cdok cc ct) (hdg : decode cc st.1 = .ok (i, len)) (h : rj_step ct o sc nL call nat i len st = some sts) (hs : ∀ t ∈ sts, rj_W p l e R s m args below meth c Q D A H0 z N0 σ0 w0 nL cs ss t) : rj_W p l e R s m args below meth c Q D A H0 z N0 σ0 w0 nL cs ss st := by
  have X0 := X
  obtain ⟨hx, hb, hml, hown, hts, hK, hA, hSt, -⟩ := X0
  unfold rj_step at h
  split at h
  · cases h
  · rename_i hlen
    have hlen := Nat.eq_of_beq_eq_true hlen
    cases i with
    | aload_n k => have hlen : len = 1 := hlen; subst hlen; exact to_ld (fun ls stk H locs v x N σ hk hv hi kk => by obtain ⟨a, rfl⟩ := kd_2 hk hv; exact lv_aload_n hx hb hdg rfl hi kk) h hs
    | aload k => have hlen : len = 2 := hlen; subst hlen; exact to_ld (fun ls stk H locs v x N σ hk hv hi kk => by obtain ⟨a, rfl⟩ := kd_2 hk hv; exact lv_aload hx hb hdg hi kk) h hs
    | iload_n k => have hlen : len = 1 := hlen; subst hlen; exact to_ld (fun ls stk H locs v x N σ hk hv hi kk => by obtain ⟨a, rfl⟩ := kd_0 hk hv; exact lv_iload_n hx hb hdg rfl hi kk) h hs
    | iload k => have hlen : len = 2 := hlen; subst hlen; exact to_ld (fun ls stk H locs v x N σ hk hv hi kk => by obtain ⟨a, rfl⟩ := kd_0 hk hv; exact lv_iload hx hb hdg hi kk) h hs
    | lload_n k => have hlen : len = 1 := hlen; subst hlen; exact to_ld (fun ls stk H locs v x N σ hk hv hi kk => by obtain ⟨a, rfl⟩ := kd_1 hk hv; exact lv_lload_n hx hb hdg rfl hi kk) h hs
    | lload k => have hlen : len = 2 := hlen; subst hlen; exact to_ld (fun ls stk H locs v x N σ hk hv hi kk => by obtain ⟨a, rfl⟩ := kd_1 hk hv; exact lv_lload hx hb hdg hi kk) h hs
    | istore_n k => have hlen : len = 1 := hlen; subst hlen; exact to_sto (fun ls lv stk H locs v x N σ hk hv hl hi kk => by obtain ⟨a, rfl⟩ := kd_0 hk hv; exact lv_istore_n hx hb hdg rfl hl hi rfl kk) h hs
    | istore k => have hlen : len = 2 := hlen; subst hlen; exact to_sto (fun ls lv stk H locs v x N σ hk hv hl hi kk => by obtain ⟨a, rfl⟩ := kd_0 hk hv; exact lv_istore hx hb hdg hl hi rfl kk) h hs
    | astore_n k => have hlen : len = 1 := hlen; subst hlen; exact to_sto (fun ls lv stk H locs v x N σ hk hv hl hi kk => by obtain ⟨a, rfl⟩ := kd_2 hk hv; exact lv_astore_n hx hb hdg rfl hl hi rfl kk) h hs
    | astore k => have hlen : len = 2 := hlen; subst hlen; exact to_sto (fun ls lv stk H locs v x N σ hk hv hl hi kk => by obtain ⟨a, rfl⟩ := kd_2 hk hv; exact lv_astore hx hb hdg hl hi rfl kk) h hs
    | lstore_n k => have hlen : len = 1 := hlen; subst hlen; exact to_stoL (fun ls lv stk H locs v x N σ hk hv hl hi kk => by obtain ⟨a, rfl⟩ := kd_1 hk hv; exact lv_lstore_n hx hb hdg rfl hl hi rfl kk) h hs
    | lstore k => have hlen : len = 2 := hlen; subst hlen; exact to_stoL (fun ls lv stk H locs v x N σ hk hv hl hi kk => by obtain ⟨a, rfl⟩ := kd_1 hk hv; exact lv_lstore hx hb hdg hl hi rfl kk) h hs
    | iinc k n => have hlen : len = 3 := hlen; subst hlen; exact to_inc X hdg h hs
    | iconst n =>
      have hlen : len = 1 := hlen
      subst hlen
      unfold rj_stp at h
      dsimp only at h
      split at h
      · rename_i hk
        rw [Bool.and_eq_true, decide_eq_true_eq, decide_eq_true_eq] at hk
        exact to_psh (v := .inl (rj_k n)) (x := .int (Int32.ofInt n)) (fun N σ => ⟨_, rfl, by rw [ofI (by omega) (by omega)]; exact ⟨wf_k, ev_k σ n⟩⟩) (fun ls stk H locs kk => lv_iconst hx hb hdg rfl kk) h hs
      · cases h
    | bipush n =>
      have hlen : len = 2 := hlen
      subst hlen
      unfold rj_stp at h
      dsimp only at h
      split at h
      · rename_i hk
        rw [Bool.and_eq_true, decide_eq_true_eq, decide_eq_true_eq] at hk
        exact to_psh (v := .inl (rj_k n)) (x := .int ((Int8.ofInt n).toInt32)) (fun N σ => ⟨_, rfl, by rw [of8 hk.1 hk.2]; exact ⟨wf_k, ev_k σ n⟩⟩) (fun ls stk H locs kk => lv_bipush hx hb hdg rfl kk) h hs
      · cases h
    | sipush n =>
      have hlen : len = 3 := hlen
      subst hlen
      unfold rj_stp at h
      dsimp only at h
      split at h
      · rename_i hk
        rw [Bool.and_eq_true, decide_eq_true_eq, decide_eq_true_eq] at hk
        exact to_psh (v := .inl (rj_k n)) (x := .int ((Int16.ofInt n).toInt32)) (fun N σ => ⟨_, rfl, by rw [of16 hk.1 hk.2]; exact ⟨wf_k, ev_k σ n⟩⟩) (fun ls stk H locs kk => lv_sipush hx hb hdg rfl kk) h hs
      · cases h
    | lconst n =>
      have hlen : len = 1 := hlen
      subst hlen
      exact to_psh (v := .inr (.inl (rj_k (n.val : Nat)))) (x := .long (Int64.ofNat n.val)) (fun N σ => ⟨_, rfl, by
        have : (Int64.ofNat n.val).toInt = (n.val : Int) := by
          match n with
          | ⟨0, _⟩ => rfl
          | ⟨1, _⟩ => rfl
        rw [this]
        exact ⟨wf_k, ev_k σ _⟩⟩) (fun ls stk H locs kk => lv_lconst hx hb hdg rfl kk) h hs
    | ldc2_w k =>
      have hlen : len = 3 := hlen
      subst hlen
      unfold rj_stp at h
      dsimp only at h
      split at h
      · rename_i n pp hk
        obtain ⟨k1, k2⟩ := tb_k_mem hk
        exact to_psh (v := .inr (.inl (rj_k n))) (x := .long (Int64.ofInt n)) (fun N σ => ⟨_, rfl, by rw [k2]; exact ⟨wf_k, ev_k σ n⟩⟩) (fun ls stk H locs kk => lv_ldc2 hx hb hown (hts _ k1) hdg kk) h hs
      · cases h
    | ldc_w k =>
      have hlen : len = 3 := hlen
      subst hlen
      unfold rj_stp at h
      dsimp only at h
      split at h
      · rename_i n pp hk
        obtain ⟨k1, k2⟩ := tb_i_mem hk
        exact to_psh (v := .inl (rj_k n)) (x := .int (Int32.ofInt n)) (fun N σ => ⟨_, rfl, by rw [k2]; exact ⟨wf_k, ev_k σ n⟩⟩) (fun ls stk H locs kk => lv_ldcw hx hb hown (hts _ k1) hdg kk) h hs
      · cases h
    | ldc k =>
      have hlen : len = 2 := hlen
      subst hlen
      have g : rj_ldc o k st = some sts := h
      clear h
      unfold rj_ldc at g
      split at g
      · rename_i n pp hk
        obtain ⟨k1, k2⟩ := tb_i_mem hk
        exact to_psh (v := .inl (rj_k n)) (x := .int (Int32.ofInt n)) (fun N σ => ⟨_, rfl, by rw [k2]; exact ⟨wf_k, ev_k σ n⟩⟩) (fun ls stk H locs kk => lv_ldc hx hb hown (hts _ k1) hdg kk) g hs
      · split at g
        · cases g
        · rename_i ho
          have ho := Nat.eq_of_beq_eq_true ho
          subst ho
          split at g
          · cases g
          · rename_i i hi
            obtain ⟨r, hr, r1, r2⟩ := fstr_ok hi
            have hR := hSt.1 r hr
            rw [st_own r hr, r1, r2] at hR
            exact to_psh (v := .inr (.inr (.inr (.inl i)))) (x := .ref (z.2.2 i)) (fun N σ => rfl) (fun ls stk H locs kk => va_ldcS hx hb hown hR hdg kk) g hs
    | iadd => have hlen : len = 1 := hlen; subst hlen; exact to_bin (op := fun x y => x + y) iadd_ok (fun ls stk H locs x y kk => lv_iadd hx hb hdg kk) h hs
    | isub => have hlen : len = 1 := hlen; subst hlen; exact to_bin (op := fun x y => x - y) isub_ok (fun ls stk H locs x y kk => lv_isub hx hb hdg kk) h hs
    | imul => have hlen : len = 1 := hlen; subst hlen; exact to_bin (op := fun x y => x * y) imul_ok (fun ls stk H locs x y kk => lv_imul hx hb hdg kk) h hs
    | iand => have hlen : len = 1 := hlen; subst hlen; exact to_bin (op := fun x y => x &&& y) iand_ok (fun ls stk H locs x y kk => lv_iand hx hb hdg kk) h hs
    | ior => have hlen : len = 1 := hlen; subst hlen; exact to_bin (op := fun x y => x ||| y) ior_ok (fun ls stk H locs x y kk => lv_ior hx hb hdg kk) h hs
    | ixor => have hlen : len = 1 := hlen; subst hlen; exact to_bin (op := fun x y => x ^^^ y) ixor_ok (fun ls stk H locs x y kk => lv_ixor hx hb hdg kk) h hs
    | ishl => have hlen : len = 1 := hlen; subst hlen; exact to_bin (op := fun x y => x <<< (y &&& 31)) ishl_ok (fun ls stk H locs x y kk => lv_ishl hx hb hdg kk) h hs
    | ishr => have hlen : len = 1 := hlen; subst hlen; exact to_bin (op := fun x y => x >>> (y &&& 31)) ishr_ok (fun ls stk H locs x y kk => lv_ishr hx hb hdg kk) h hs
    | idiv => have hlen : len = 1 := hlen; subst hlen; exact to_dvI (op := fun x y => x / y) idiv_ok (fun ls stk H locs x y hne kk => lv_idiv hx hb hdg hne kk) h hs
    | irem => have hlen : len = 1 := hlen; subst hlen; exact to_dvI (op := fun x y => x - x / y * y) irem_ok (fun ls stk H locs x y hne kk => lv_irem hx hb hdg hne kk) h hs
    | ladd => have hlen : len = 1 := hlen; subst hlen; exact to_binL (op := fun x y => x + y) ladd_ok (fun ls stk H locs x y kk => lv_ladd hx hb hdg kk) h hs
    | lsub => have hlen : len = 1 := hlen; subst hlen; exact to_binL (op := fun x y => x - y) lsub_ok (fun ls stk H locs x y kk => lv_lsub hx hb hdg kk) h hs
    | lmul => have hlen : len = 1 := hlen; subst hlen; exact to_binL (op := fun x y => x * y) lmul_ok (fun ls stk H locs x y kk => lv_lmul hx hb hdg kk) h hs
    | land => have hlen : len = 1 := hlen; subst hlen; exact to_binL (op := fun x y => x &&& y) (anyL2_ok _) (fun ls stk H locs x y kk => lv_land hx hb hdg kk) h hs
    | lor => have hlen : len = 1 := hlen; subst hlen; exact to_binL (op := fun x y => x ||| y) (anyL2_ok _) (fun ls stk H locs x y kk => lv_lor hx hb hdg kk) h hs
    | lxor => have hlen : len = 1 := hlen; subst hlen; exact to_binL (op := fun x y => x ^^^ y) (anyL2_ok _) (fun ls stk H locs x y kk => lv_lxor hx hb hdg kk) h hs
    | ldiv => have hlen : len = 1 := hlen; subst hlen; exact to_dvL (op := fun x y => x / y) (ldiv_ok _) (fun ls stk H locs x y hne kk => lv_ldiv hx hb hdg hne kk) h hs
    | lrem => have hlen : len = 1 := hlen; subst hlen; exact to_dvL (op := fun x y => x - x / y * y) (ldiv_ok _) (fun ls stk H locs x y hne kk => lv_lrem hx hb hdg hne kk) h hs
    | lshl => have hlen : len = 1 := hlen; subst hlen; exact to_shL (op := fun x y => x <<< (y.toInt64 &&& 63)) (fun ls stk H locs x y kk => lv_lshl hx hb hdg rfl kk) h hs
    | lshr => have hlen : len = 1 := hlen; subst hlen; exact to_shL (op := fun x y => x >>> (y.toInt64 &&& 63)) (fun ls stk H locs x y kk => lv_lshr hx hb hdg rfl kk) h hs
    | ineg => have hlen : len = 1 := hlen; subst hlen; exact to_un1 (op := fun x => -x) ineg_ok (fun ls stk H locs x kk => lv_ineg hx hb hdg kk) h hs
    | i2b => have hlen : len = 1 := hlen; subst hlen; exact to_un1 (op := fun x => x.toInt8.toInt32) i2b_ok (fun ls stk H locs x kk => lv_i2b hx hb hdg rfl kk) h hs
    | i2s => have hlen : len = 1 := hlen; subst hlen; exact to_un1 (op := fun x => x.toInt16.toInt32) i2s_ok (fun ls stk H locs x kk => lv_i2s hx hb hdg rfl kk) h hs
    | i2l => have hlen : len = 1 := hlen; subst hlen; exact to_i2l X hdg h hs
    | l2i => have hlen : len = 1 := hlen; subst hlen; exact to_l2i X hdg h hs
    | dup => have hlen : len = 1 := hlen; subst hlen; exact to_dup X hdg h hs
    | dup2 => have hlen : len = 1 := hlen; subst hlen; exact to_dup2 X hdg h hs
    | pop => have hlen : len = 1 := hlen; subst hlen; exact to_pop X hdg h hs
    | ifCond cnd off => have hlen : len = 3 := hlen; subst hlen; exact to_if X hdg h hs
    | if_icmp cnd off => have hlen : len = 3 := hlen; subst hlen; exact to_icmp X hdg h hs
    | goto off => have hlen : len = 3 := hlen; subst hlen; exact to_go X hdg h hs
    | lcmp => have hlen : len = 1 := hlen; subst hlen; exact to_lif X hdg (fun q hq => at_dec hcd (show ri_at ct (st.1 + 1) = some (q.1, q.2) from hq)) h hs
    | getfield k => have hlen : len = 3 := hlen; subst hlen; exact to_get X hdg h hs
    | putfield k => have hlen : len = 3 := hlen; subst hlen; exact to_put X hdg h hs
    | iaload => have hlen : len = 1 := hlen; subst hlen; exact to_ild X hsc hdg h hs
    | baload => have hlen : len = 1 := hlen; subst hlen; exact to_aldI X (Or.inr ⟨rfl, rfl⟩) hdg h hs
    | laload => have hlen : len = 1 := hlen; subst hlen; exact to_aldL X hdg h hs
    | aaload => have hlen : len = 1 := hlen; subst hlen; exact to_aald X hdg h hs
    | iastore => have hlen : len = 1 := hlen; subst hlen; exact to_astI X (Or.inl ⟨rfl, rfl⟩) hdg h hs
    | bastore => have hlen : len = 1 := hlen; subst hlen; exact to_astI X (Or.inr ⟨rfl, rfl⟩) hdg h hs
    | lastore => have hlen : len = 1 := hlen; subst hlen; exact to_astL X hdg h hs
    | arraylength => have hlen : len = 1 := hlen; subst hlen; exact to_len X hsc hdg h hs
    | tableswitch df a0 b0 offs => exact to_table X hdg h hs
    | invokevirtual k =>
      have hlen : len = 3 := hlen
      subst hlen
      have h : rj_virt o call nat k st = some sts := h
      unfold rj_virt at h
      split at h
      · exact hn _ _ _ _ (2 * k) st sts (Or.inl ⟨k, rfl, hdg⟩) h hs
      · exact to_invV X hI hd1 hd2 hg hdg h hs
    | invokestatic k =>
      have hlen : len = 3 := hlen
      subst hlen
      have h : rj_stat o call nat k st = some sts := h
      unfold rj_stat at h
      split at h
      · exact hn _ _ _ _ (2 * k + 1) st sts (Or.inr ⟨k, rfl, hdg⟩) h hs
      · rename_i nest pp hlk
        have h1 := List.all_eq_true.mp (tb_l_all o) _ (rk_mem hlk)
        unfold ri_lok at h1
        dsimp only at h1
        rw [decide_eq_true_eq] at h1
        exact to_cpy X (tb_mem _ h1 rfl) hdg h hs
      · exact to_invS X hI hd1 hd2 hg hdg h hs
    | _ => exact nomatch (show (none : Option (List rj_S)) = some sts from h)
end RT7
