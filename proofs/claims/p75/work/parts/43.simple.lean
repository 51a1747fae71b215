/-! v2: what a state stands for; loads, stores, constants, arithmetic, branches -/
def rj_Gb (D : va_G) (A : Nat → Prop) (H0 : Heap) (z : rj_Z) (N0 : Nat) (σ0 : Nat → Int) (w0 : va_W) (H : Heap) (locs : List Loc) (K : rj_K) (wr : rj_Wr) (σ : Nat → Int) (ws : va_W) : Prop :=
  ws.map Prod.fst = z.1 ∧ va_P D vwCl ws H ∧ va_D A ws ∧ va_S A H0 H locs ∧ rj_un w0 ws wr ∧ rj_ag N0 σ0 σ ∧ N0 ≤ K.1.length ∧ rj_sat σ K
theorem Gb_up {D : va_G} {A : Nat → Prop} {H0 : Heap} {z : rj_Z} {N0 : Nat} {σ0 : Nat → Int} {w0 : va_W} {H : Heap} {locs : List Loc} {K K1 : rj_K} {wr : rj_Wr} {σ τ : Nat → Int} {ws : va_W} (h : rj_Gb D A H0 z N0 σ0 w0 H locs K wr σ ws) (u : rj_up K K1 σ τ) : rj_Gb D A H0 z N0 σ0 w0 H locs K1 wr τ ws := by
  obtain ⟨h1, h2, h3, h4, h5, h6, h7, h8⟩ := h
  exact ⟨h1, h2, h3, h4, h5, fun n hn => (u.1 n (Nat.lt_of_lt_of_le hn h7)).trans (h6 n hn), Nat.le_trans h7 u.2.1, u.2.2⟩
theorem Gb_K {D : va_G} {A : Nat → Prop} {H0 : Heap} {z : rj_Z} {N0 : Nat} {σ0 : Nat → Int} {w0 : va_W} {H : Heap} {locs : List Loc} {K : rj_K} {wr : rj_Wr} {σ : Nat → Int} {ws : va_W} (h : rj_Gb D A H0 z N0 σ0 w0 H locs K wr σ ws) : rj_sat σ K := h.2.2.2.2.2.2.2
def rj_G (D : va_G) (s : State) (A : Nat → Prop) (H0 : Heap) (z : rj_Z) (N0 : Nat) (σ0 : Nat → Int) (w0 : va_W) (nL : Nat) (st : rj_S) (ls : Array Slot) (stk : List Value) (H : Heap) (locs : List Loc) : Prop :=
  ∃ (σ : Nat → Int) (ws : va_W) (lv : List (Nat × Value)), rj_Gb D A H0 z N0 σ0 w0 H locs st.2.2.2.2.1 st.2.2.2.2.2 σ ws ∧ lv_has ls nL lv ∧ rj_lo z st.2.2.2.2.1.1.length σ st.2.1 lv ∧ ri_2 (rj_g z st.2.2.2.2.1.1.length σ) st.2.2.1 stk ∧ rj_hp s z st.2.2.2.2.1.1.length σ st.2.2.2.1 ws
def rj_W (p : Program) (l : Launch) (e : Env) (R : Room) (s : State) (m : MethodId) (args : Array Value) (below : List Frame) (meth : Method) (c : Code) (Q : State → Prop) (D : va_G) (A : Nat → Prop) (H0 : Heap) (z : rj_Z) (N0 : Nat) (σ0 : Nat → Int) (w0 : va_W) (nL cs ss : Nat) (st : rj_S) : Prop :=
  ∀ (ls : Array Slot) (stk : List Value) (H : Heap) (locs : List Loc), rj_G D s A H0 z N0 σ0 w0 nL st ls stk H locs → W p l e R s m args below meth c H locs cs ss Q (F0 m st.1 ls stk)
/-- the constants that are texts: where they stand, and what they are -/
def rj_St (z : rj_Z) (A : Nat → Prop) (U : State) (H : Heap) : Prop := (∀ r ∈ st_tb, vk_R r.1 r.2.1 r.2.2.1 (z.2.2 r.2.2.2) U) ∧ va_Z "java/lang/String" "COMPACT_STRINGS" "Z" (.int 1) A U H ∧ va_Zq "jdk/internal/util/Preconditions" "SIOOBE_FORMATTER" "Ljava/util/function/BiFunction;" A U H ∧ ∃ adV, vk_S st_len.length st_len st_byt z.2.2 adV A U H
/-- the script, where there is one: its length, a place, and what stands there and behind it -/
abbrev rj_Sc : Type := Option (rj_F × rj_F × List rj_F)
def rj_scr (s : State) (A : Nat → Prop) (H0 : Heap) (z : rj_Z) (N0 : Nat) (σ0 : Nat → Int) (sc : rj_Sc) : Prop := match sc with
  | none => True
  | some (lf, bf, fs) => ∃ (L : Nat) (xs : Nat → Int32), va_X z.2.1 L xs s H0 ∧ z.2.1 < H0.size ∧ ¬ A z.2.1 ∧ rj_n N0 σ0 lf (L : Int) ∧ rj_wf N0 bf ∧ L ≤ 10000 ∧ ∀ (j : Nat) (f : rj_F), fs[j]? = some f → rj_wf N0 f ∧ (0 ≤ rj_ev σ0 bf + (j : Int) → rj_ev σ0 bf + (j : Int) < (L : Int) → rj_ev σ0 f = (xs (rj_ev σ0 bf + (j : Int)).toNat).toInt)
def rj_Xc (p : Program) (R : Room) (s : State) (m : MethodId) (args : Array Value) (c : Code) (D : va_G) (A : Nat → Prop) (H0 : Heap) (z : rj_Z) (nL : Nat) (cc : ByteArray) (o cs ss : Nat) : Prop :=
  p.tables.exec = Jvm.exec ∧ c.code = cc ∧ c.maxLocals = nL ∧ s.vm.findClass (ri_own o) = some m.cls ∧ (∀ w ∈ tb, w.before args s = true) ∧ va_K D vwCl [] s ∧ (∀ q, H0.size ≤ q → A q) ∧ rj_St z A s H0 ∧ (cs ≤ R.cells ∧ ss ≤ R.slots) ∧ (1 ≤ R.frames ∧ 64 ≤ R.locals)
def rj_kd (kd : Nat) (v : rj_V) : Bool := match kd, v with
  | 0, .inl _ => true
  | 1, .inr (.inl _) => true
  | 2, .inr (.inr _) => true
  | _, _ => false
def rj_ld (kd len i : Nat) (st : rj_S) : Option (List rj_S) := match st with
  | (pc, lo, sk, hp, K, wr) => match ri_key lo i with
    | none => none
    | some v => match rj_kd kd v with
      | false => none
      | true => some [(pc + len, lo, v :: sk, hp, K, wr)]
def rj_st1 (lo : List (Nat × rj_V)) (i : Nat) (v : rj_V) : List (Nat × rj_V) := (i, v) :: lo.filter (fun q => !(q.1 == i) && !(q.1 + 1 == i && rj_cat q.2 == 2))
def rj_st2 (lo : List (Nat × rj_V)) (i : Nat) (v : rj_V) : List (Nat × rj_V) := (i, v) :: lo.filter (fun q => !(q.1 == i) && (!(q.1 == i + 1) && !(q.1 + 1 == i && rj_cat q.2 == 2)))
def rj_sto (kd len nL i : Nat) (st : rj_S) : Option (List rj_S) := match st with
  | (pc, lo, v :: sk, hp, K, wr) => (match rj_kd kd v && Nat.blt i nL with
    | false => none
    | true => some [(pc + len, rj_st1 lo i v, sk, hp, K, wr)])
  | _ => none
def rj_stoL (len nL i : Nat) (st : rj_S) : Option (List rj_S) := match st with
  | (pc, lo, v :: sk, hp, K, wr) => (match rj_kd 1 v && Nat.blt (i + 1) nL with
    | false => none
    | true => some [(pc + len, rj_st2 lo i v, sk, hp, K, wr)])
  | _ => none
def rj_psh (len : Nat) (v : rj_V) (st : rj_S) : Option (List rj_S) := match st with
  | (pc, lo, sk, hp, K, wr) => some [(pc + len, lo, v :: sk, hp, K, wr)]
def rj_bin (f : rj_K → rj_F → rj_F → rj_K × rj_F) (st : rj_S) : Option (List rj_S) := match st with
  | (pc, lo, .inl y :: .inl x :: sk, hp, K, wr) => (match f K x y with
    | (K1, r) => some [(pc + 1, lo, .inl r :: sk, hp, K1, wr)])
  | _ => none
def rj_binL (f : rj_K → rj_F → rj_F → rj_K × rj_F) (st : rj_S) : Option (List rj_S) := match st with
  | (pc, lo, .inr (.inl y) :: .inr (.inl x) :: sk, hp, K, wr) => (match f K x y with
    | (K1, r) => some [(pc + 1, lo, .inr (.inl r) :: sk, hp, K1, wr)])
  | _ => none
def rj_shL (st : rj_S) : Option (List rj_S) := match st with
  | (pc, lo, .inl _ :: .inr (.inl _) :: sk, hp, K, wr) => (match rj_anyL K with
    | (K1, r) => some [(pc + 1, lo, .inr (.inl r) :: sk, hp, K1, wr)])
  | _ => none
def rj_dvI (f : rj_K → rj_F → rj_F → Option (rj_K × rj_F)) (st : rj_S) : Option (List rj_S) := match st with
  | (pc, lo, .inl y :: .inl x :: sk, hp, K, wr) => (match f K x y with
    | none => none
    | some (K1, r) => some [(pc + 1, lo, .inl r :: sk, hp, K1, wr)])
  | _ => none
def rj_dvL (f : rj_K → rj_F → rj_F → Option (rj_K × rj_F)) (st : rj_S) : Option (List rj_S) := match st with
  | (pc, lo, .inr (.inl y) :: .inr (.inl x) :: sk, hp, K, wr) => (match f K x y with
    | none => none
    | some (K1, r) => some [(pc + 1, lo, .inr (.inl r) :: sk, hp, K1, wr)])
  | _ => none
def rj_un1I (f : rj_K → rj_F → rj_K × rj_F) (st : rj_S) : Option (List rj_S) := match st with
  | (pc, lo, .inl x :: sk, hp, K, wr) => (match f K x with
    | (K1, r) => some [(pc + 1, lo, .inl r :: sk, hp, K1, wr)])
  | _ => none
def rj_i2l (st : rj_S) : Option (List rj_S) := match st with
  | (pc, lo, .inl x :: sk, hp, K, wr) => some [(pc + 1, lo, .inr (.inl x) :: sk, hp, K, wr)]
  | _ => none
def rj_l2i (st : rj_S) : Option (List rj_S) := match st with
  | (pc, lo, .inr (.inl x) :: sk, hp, K, wr) => (match rj_mkI K x with
    | (K1, r) => some [(pc + 1, lo, .inl r :: sk, hp, K1, wr)])
  | _ => none
def rj_inc (i : Nat) (n : Int) (nL : Nat) (st : rj_S) : Option (List rj_S) := match st with
  | (pc, lo, sk, hp, K, wr) => match ri_key lo i, Nat.blt i nL && (decide (-32768 ≤ n) && decide (n ≤ 32767)) with
    | some (.inl x), true => (match rj_mkI K (rj_plus x n) with
      | (K1, r) => some [(pc + 3, rj_st1 lo i (.inl r), sk, hp, K1, wr)])
    | _, _ => none
def rj_dup (st : rj_S) : Option (List rj_S) := match st with
  | (pc, lo, v :: sk, hp, K, wr) => (match Nat.beq (rj_cat v) 1 with
    | true => some [(pc + 1, lo, v :: v :: sk, hp, K, wr)]
    | false => none)
  | _ => none
def rj_dup2 (st : rj_S) : Option (List rj_S) := match st with
  | (pc, lo, v :: sk, hp, K, wr) => (match Nat.beq (rj_cat v) 2 with
    | true => some [(pc + 1, lo, v :: v :: sk, hp, K, wr)]
    | false => match sk with
      | u :: sk1 => (match Nat.beq (rj_cat u) 1 with
        | true => some [(pc + 1, lo, v :: u :: v :: u :: sk1, hp, K, wr)]
        | false => none)
      | [] => none)
  | _ => none
def rj_pop (st : rj_S) : Option (List rj_S) := match st with
  | (pc, lo, v :: sk, hp, K, wr) => (match Nat.beq (rj_cat v) 1 with
    | true => some [(pc + 1, lo, sk, hp, K, wr)]
    | false => none)
  | _ => none
/-- a branch -/
def rj_br (c : ClassFile.Cond) (off : Int) (pc : Nat) (lo : List (Nat × rj_V)) (x y : rj_F) (sk : List rj_V) (hp : List rj_H) (K : rj_K) (wr : rj_Wr) : Option (List rj_S) := match decide (0 ≤ (pc : Int) + off) with
  | false => none
  | true => some ((rj_tst c K x y).map (fun K1 => (ri_tgt pc off, lo, sk, hp, K1, wr)) ++ (rj_tst (ri_neg c) K x y).map (fun K1 => (pc + 3, lo, sk, hp, K1, wr)))
def rj_if (c : ClassFile.Cond) (off : Int) (st : rj_S) : Option (List rj_S) := match st with
  | (pc, lo, .inl x :: sk, hp, K, wr) => rj_br c off pc lo x (rj_k 0) sk hp K wr
  | _ => none
def rj_icmp (c : ClassFile.Cond) (off : Int) (st : rj_S) : Option (List rj_S) := match st with
  | (pc, lo, .inl y :: .inl x :: sk, hp, K, wr) => rj_br c off pc lo x y sk hp K wr
  | _ => none
/-- lcmp and the if behind it -/
def rj_lif (nxt : Option (Instr × Nat)) (st : rj_S) : Option (List rj_S) := match st, nxt with
  | (pc, lo, .inr (.inl y) :: .inr (.inl x) :: sk, hp, K, wr), some (.ifCond c off, 3) => rj_br c off (pc + 1) lo x y sk hp K wr
  | _, _ => none
def rj_go (off : Int) (st : rj_S) : Option (List rj_S) := match st with
  | (pc, lo, sk, hp, K, wr) => match decide (0 ≤ (pc : Int) + off) with
    | false => none
    | true => some [(ri_tgt pc off, lo, sk, hp, K, wr)]
def rj_tsw (K : rj_K) (x : rj_F) (mk : Int → rj_K → rj_S) : Int → List Int → List rj_S
  | _, [] => []
  | v, f :: r => (rj_tst .eq K x (rj_k v)).map (mk f) ++ rj_tsw K x mk (v + 1) r
def rj_table (d a b : Int) (offs : Array Int) (st : rj_S) : Option (List rj_S) := match st with
  | (pc, lo, .inl x :: sk, hp, K, wr) => (match decide (0 ≤ (pc : Int) + d) && (offs.toList.all (fun f => decide (0 ≤ (pc : Int) + f)) && decide ((offs.toList.length : Int) = b - a + 1)) with
    | false => none
    | true => some ((rj_tst .lt K x (rj_k a)).map (fun K1 => (ri_tgt pc d, lo, sk, hp, K1, wr)) ++ ((rj_tst .gt K x (rj_k b)).map (fun K1 => (ri_tgt pc d, lo, sk, hp, K1, wr)) ++ rj_tsw K x (fun f K1 => (ri_tgt pc f, lo, sk, hp, K1, wr)) a offs.toList)))
  | _ => none
section RT1
variable {p : Program} {l : Launch} {e : Env} {R : Room} {s : State} {m : MethodId} {args : Array Value} {below : List Frame} {meth : Method} {c : Code} {Q : State → Prop} {D : va_G} {A : Nat → Prop} {H0 : Heap} {z : rj_Z} {N0 : Nat} {σ0 : Nat → Int} {w0 : va_W} {nL cs ss : Nat} {cc : ByteArray} {o : Nat}
theorem to_ld {kd len i : Nat} {st : rj_S} {sts : List rj_S} (row : ∀ (ls : Array Slot) (stk : List Value) (H : Heap) (locs : List Loc) (v : rj_V) (x : Value) (N : Nat) (σ : Nat → Int), rj_kd kd v = true → rj_g z N σ v x → ls[i]? = some (.val x) → W p l e R s m args below meth c H locs cs ss Q (F0 m (st.1 + len) ls (x :: stk)) → W p l e R s m args below meth c H locs cs ss Q (F0 m st.1 ls stk)) (h : rj_ld kd len i st = some sts) (hs : ∀ t ∈ sts, rj_W p l e R s m args below meth c Q D A H0 z N0 σ0 w0 nL cs ss t) : rj_W p l e R s m args below meth c Q D A H0 z N0 σ0 w0 nL cs ss st := by
  obtain ⟨pc, lo, sk, hp, K, wr⟩ := st
  intro ls stk H locs ⟨σ, ws, lv, hB, hl, h1, h2, h3⟩
  unfold rj_ld at h
  dsimp only at h h1 h2 h3 hB row ⊢
  split at h
  · cases h
  · rename_i v hv
    split at h
    · cases h
    · rename_i hk
      cases h
      obtain ⟨x, g1, g2⟩ := rk_3 h1 hv
      exact row ls stk H locs v x _ σ hk g2 (hl.2.2 (i, x) (rk_mem g1)) (hs _ List.mem_cons_self _ _ _ _ ⟨σ, ws, lv, hB, hl, h1, ⟨g2, h2⟩, h3⟩)
theorem lo_st1 {N : Nat} {σ : Nat → Int} {lo : List (Nat × rj_V)} {lv : List (Nat × Value)} {i : Nat} {v : rj_V} {x : Value} (h : rj_lo z N σ lo lv) (hg : rj_g z N σ v x) : rj_lo z N σ (rj_st1 lo i v) ((i, x) :: lv.filter (fun q => !(q.1 == i) && !(q.1 + 1 == i && q.2.category == 2))) :=
  ⟨⟨rfl, hg⟩, r2_filter (fun a d had => by rw [had.1, jg_cat had.2]) h⟩
theorem lo_st2 {N : Nat} {σ : Nat → Int} {lo : List (Nat × rj_V)} {lv : List (Nat × Value)} {i : Nat} {v : rj_V} {x : Value} (h : rj_lo z N σ lo lv) (hg : rj_g z N σ v x) : rj_lo z N σ (rj_st2 lo i v) ((i, x) :: lv.filter (fun q => !(q.1 == i) && (!(q.1 == i + 1) && !(q.1 + 1 == i && q.2.category == 2)))) :=
  ⟨⟨rfl, hg⟩, r2_filter (fun a d had => by rw [had.1, jg_cat had.2]) h⟩
theorem to_sto {kd len i : Nat} {st : rj_S} {sts : List rj_S} (row : ∀ (ls : Array Slot) (lv : List (Nat × Value)) (stk : List Value) (H : Heap) (locs : List Loc) (v : rj_V) (x : Value) (N : Nat) (σ : Nat → Int), rj_kd kd v = true → rj_g z N σ v x → lv_has ls nL lv → i < nL → (∀ ls' : Array Slot, lv_has ls' nL ((i, x) :: lv.filter (fun q => !(q.1 == i) && !(q.1 + 1 == i && q.2.category == 2))) → W p l e R s m args below meth c H locs cs ss Q (F0 m (st.1 + len) ls' stk)) → W p l e R s m args below meth c H locs cs ss Q (F0 m st.1 ls (x :: stk))) (h : rj_sto kd len nL i st = some sts) (hs : ∀ t ∈ sts, rj_W p l e R s m args below meth c Q D A H0 z N0 σ0 w0 nL cs ss t) : rj_W p l e R s m args below meth c Q D A H0 z N0 σ0 w0 nL cs ss st := by
  obtain ⟨pc, lo, sk, hp, K, wr⟩ := st
  intro ls stk H locs ⟨σ, ws, lv, hB, hl, h1, h2, h3⟩
  match sk, stk, h2 with
  | [], _, _ => cases h
  | _ :: _, [], h2 => exact h2.elim
  | v :: sk, x :: stk, ⟨hg, h2⟩ =>
    unfold rj_sto at h
    dsimp only at h h1 h3 hB row hg h2 ⊢
    split at h
    · cases h
    · rename_i hk
      cases h
      rw [Bool.and_eq_true] at hk
      exact row ls lv stk H locs v x _ σ hk.1 hg hl (Nat.blt_eq.mp hk.2) (fun ls' hl' => hs _ List.mem_cons_self _ _ _ _ ⟨σ, ws, _, hB, hl', lo_st1 h1 hg, h2, h3⟩)
theorem to_stoL {len i : Nat} {st : rj_S} {sts : List rj_S} (row : ∀ (ls : Array Slot) (lv : List (Nat × Value)) (stk : List Value) (H : Heap) (locs : List Loc) (v : rj_V) (x : Value) (N : Nat) (σ : Nat → Int), rj_kd 1 v = true → rj_g z N σ v x → lv_has ls nL lv → i + 1 < nL → (∀ ls' : Array Slot, lv_has ls' nL ((i, x) :: lv.filter (fun q => !(q.1 == i) && (!(q.1 == i + 1) && !(q.1 + 1 == i && q.2.category == 2)))) → W p l e R s m args below meth c H locs cs ss Q (F0 m (st.1 + len) ls' stk)) → W p l e R s m args below meth c H locs cs ss Q (F0 m st.1 ls (x :: stk))) (h : rj_stoL len nL i st = some sts) (hs : ∀ t ∈ sts, rj_W p l e R s m args below meth c Q D A H0 z N0 σ0 w0 nL cs ss t) : rj_W p l e R s m args below meth c Q D A H0 z N0 σ0 w0 nL cs ss st := by
  obtain ⟨pc, lo, sk, hp, K, wr⟩ := st
  intro ls stk H locs ⟨σ, ws, lv, hB, hl, h1, h2, h3⟩
  match sk, stk, h2 with
  | [], _, _ => cases h
  | _ :: _, [], h2 => exact h2.elim
  | v :: sk, x :: stk, ⟨hg, h2⟩ =>
    unfold rj_stoL at h
    dsimp only at h h1 h3 hB row hg h2 ⊢
    split at h
    · cases h
    · rename_i hk
      cases h
      rw [Bool.and_eq_true] at hk
      exact row ls lv stk H locs v x _ σ hk.1 hg hl (Nat.blt_eq.mp hk.2) (fun ls' hl' => hs _ List.mem_cons_self _ _ _ _ ⟨σ, ws, _, hB, hl', lo_st2 h1 hg, h2, h3⟩)
theorem to_psh {len : Nat} {v : rj_V} {x : Value} {st : rj_S} {sts : List rj_S} (hx : ∀ N σ, rj_g z N σ v x) (row : ∀ (ls : Array Slot) (stk : List Value) (H : Heap) (locs : List Loc), W p l e R s m args below meth c H locs cs ss Q (F0 m (st.1 + len) ls (x :: stk)) → W p l e R s m args below meth c H locs cs ss Q (F0 m st.1 ls stk)) (h : rj_psh len v st = some sts) (hs : ∀ t ∈ sts, rj_W p l e R s m args below meth c Q D A H0 z N0 σ0 w0 nL cs ss t) : rj_W p l e R s m args below meth c Q D A H0 z N0 σ0 w0 nL cs ss st := by
  obtain ⟨pc, lo, sk, hp, K, wr⟩ := st
  intro ls stk H locs ⟨σ, ws, lv, hB, hl, h1, h2, h3⟩
  cases h
  exact row ls stk H locs (hs _ List.mem_cons_self _ _ _ _ ⟨σ, ws, lv, hB, hl, h1, ⟨hx _ _, h2⟩, h3⟩)
/-- behind an operation -/
theorem G_op {pc : Nat} {lo : List (Nat × rj_V)} {sk : List rj_V} {hp : List rj_H} {K : rj_K} {wr : rj_Wr} {σ : Nat → Int} {ws : va_W} {lv : List (Nat × Value)} {ls : Array Slot} {stk : List Value} {H : Heap} {locs : List Loc} {r : rj_K × rj_F} {k : Int32} (hB : rj_Gb D A H0 z N0 σ0 w0 H locs K wr σ ws) (hl : lv_has ls nL lv) (h1 : rj_lo z K.1.length σ lo lv) (h2 : ri_2 (rj_g z K.1.length σ) sk stk) (h3 : rj_hp s z K.1.length σ hp ws) (h : rj_to K σ r k.toInt) : rj_G D s A H0 z N0 σ0 w0 nL (pc, lo, .inl r.2 :: sk, hp, r.1, wr) ls (.int k :: stk) H locs := by
  obtain ⟨τ, u, hn⟩ := h
  exact ⟨τ, ws, lv, Gb_up hB u, hl, lo_ag u.2.1 u.1 h1, ⟨⟨k, rfl, hn⟩, sk_ag u.2.1 u.1 h2⟩, hp_ag u.2.1 u.1 h3⟩
theorem G_opL {pc : Nat} {lo : List (Nat × rj_V)} {sk : List rj_V} {hp : List rj_H} {K : rj_K} {wr : rj_Wr} {σ : Nat → Int} {ws : va_W} {lv : List (Nat × Value)} {ls : Array Slot} {stk : List Value} {H : Heap} {locs : List Loc} {r : rj_K × rj_F} {k : Int64} (hB : rj_Gb D A H0 z N0 σ0 w0 H locs K wr σ ws) (hl : lv_has ls nL lv) (h1 : rj_lo z K.1.length σ lo lv) (h2 : ri_2 (rj_g z K.1.length σ) sk stk) (h3 : rj_hp s z K.1.length σ hp ws) (h : rj_to K σ r k.toInt) : rj_G D s A H0 z N0 σ0 w0 nL (pc, lo, .inr (.inl r.2) :: sk, hp, r.1, wr) ls (.long k :: stk) H locs := by
  obtain ⟨τ, u, hn⟩ := h
  exact ⟨τ, ws, lv, Gb_up hB u, hl, lo_ag u.2.1 u.1 h1, ⟨⟨k, rfl, hn⟩, sk_ag u.2.1 u.1 h2⟩, hp_ag u.2.1 u.1 h3⟩
theorem to_bin {f : rj_K → rj_F → rj_F → rj_K × rj_F} {op : Int32 → Int32 → Int32} {st : rj_S} {sts : List rj_S} (hf : rj_I2 f op) (row : ∀ (ls : Array Slot) (stk : List Value) (H : Heap) (locs : List Loc) (x y : Int32), W p l e R s m args below meth c H locs cs ss Q (F0 m (st.1 + 1) ls (.int (op x y) :: stk)) → W p l e R s m args below meth c H locs cs ss Q (F0 m st.1 ls (.int y :: .int x :: stk))) (h : rj_bin f st = some sts) (hs : ∀ t ∈ sts, rj_W p l e R s m args below meth c Q D A H0 z N0 σ0 w0 nL cs ss t) : rj_W p l e R s m args below meth c Q D A H0 z N0 σ0 w0 nL cs ss st := by
  obtain ⟨pc, lo, sk, hp, K, wr⟩ := st
  intro ls stk H locs ⟨σ, ws, lv, hB, hl, h1, h2, h3⟩
  unfold rj_bin at h
  split at h
  · rename_i y x sk' hst
    cases hst
    cases h
    match stk, h2 with
    | [], h2 => exact h2.elim
    | [_], h2 => exact h2.2.elim
    | vy :: vx :: stk, ⟨⟨ky, ey, hy⟩, ⟨kx, ex, hx⟩, h2⟩ =>
      subst ey
      subst ex
      exact row ls stk H locs kx ky (hs _ List.mem_cons_self _ _ _ _ (G_op hB hl h1 h2 h3 (hf σ K _ _ kx ky (Gb_K hB) hx hy)))
  · cases h
theorem to_binL {f : rj_K → rj_F → rj_F → rj_K × rj_F} {op : Int64 → Int64 → Int64} {st : rj_S} {sts : List rj_S} (hf : rj_L2 f op) (row : ∀ (ls : Array Slot) (stk : List Value) (H : Heap) (locs : List Loc) (x y : Int64), W p l e R s m args below meth c H locs cs ss Q (F0 m (st.1 + 1) ls (.long (op x y) :: stk)) → W p l e R s m args below meth c H locs cs ss Q (F0 m st.1 ls (.long y :: .long x :: stk))) (h : rj_binL f st = some sts) (hs : ∀ t ∈ sts, rj_W p l e R s m args below meth c Q D A H0 z N0 σ0 w0 nL cs ss t) : rj_W p l e R s m args below meth c Q D A H0 z N0 σ0 w0 nL cs ss st := by
  obtain ⟨pc, lo, sk, hp, K, wr⟩ := st
  intro ls stk H locs ⟨σ, ws, lv, hB, hl, h1, h2, h3⟩
  unfold rj_binL at h
  split at h
  · rename_i y x sk' hst
    cases hst
    cases h
    match stk, h2 with
    | [], h2 => exact h2.elim
    | [_], h2 => exact h2.2.elim
    | vy :: vx :: stk, ⟨⟨ky, ey, hy⟩, ⟨kx, ex, hx⟩, h2⟩ =>
      subst ey
      subst ex
      exact row ls stk H locs kx ky (hs _ List.mem_cons_self _ _ _ _ (G_opL hB hl h1 h2 h3 (hf σ K _ _ kx ky (Gb_K hB) hx hy)))
  · cases h
theorem to_shL {op : Int64 → Int32 → Int64} {st : rj_S} {sts : List rj_S} (row : ∀ (ls : Array Slot) (stk : List Value) (H : Heap) (locs : List Loc) (x : Int64) (y : Int32), W p l e R s m args below meth c H locs cs ss Q (F0 m (st.1 + 1) ls (.long (op x y) :: stk)) → W p l e R s m args below meth c H locs cs ss Q (F0 m st.1 ls (.int y :: .long x :: stk))) (h : rj_shL st = some sts) (hs : ∀ t ∈ sts, rj_W p l e R s m args below meth c Q D A H0 z N0 σ0 w0 nL cs ss t) : rj_W p l e R s m args below meth c Q D A H0 z N0 σ0 w0 nL cs ss st := by
  obtain ⟨pc, lo, sk, hp, K, wr⟩ := st
  intro ls stk H locs ⟨σ, ws, lv, hB, hl, h1, h2, h3⟩
  unfold rj_shL at h
  split at h
  · rename_i _ _ sk' hst
    cases hst
    cases h
    match stk, h2 with
    | [], h2 => exact h2.elim
    | [_], h2 => exact h2.2.elim
    | vy :: vx :: stk, ⟨⟨ky, ey, hy⟩, ⟨kx, ex, hx⟩, h2⟩ =>
      subst ey
      subst ex
      exact row ls stk H locs kx ky (hs _ List.mem_cons_self _ _ _ _ (G_opL hB hl h1 h2 h3 (anyL_ok (Gb_K hB) _)))
  · cases h
theorem to_dvI {f : rj_K → rj_F → rj_F → Option (rj_K × rj_F)} {op : Int32 → Int32 → Int32} {st : rj_S} {sts : List rj_S} (hf : rj_O2 f op) (row : ∀ (ls : Array Slot) (stk : List Value) (H : Heap) (locs : List Loc) (x y : Int32), ¬ y = 0 → W p l e R s m args below meth c H locs cs ss Q (F0 m (st.1 + 1) ls (.int (op x y) :: stk)) → W p l e R s m args below meth c H locs cs ss Q (F0 m st.1 ls (.int y :: .int x :: stk))) (h : rj_dvI f st = some sts) (hs : ∀ t ∈ sts, rj_W p l e R s m args below meth c Q D A H0 z N0 σ0 w0 nL cs ss t) : rj_W p l e R s m args below meth c Q D A H0 z N0 σ0 w0 nL cs ss st := by
  obtain ⟨pc, lo, sk, hp, K, wr⟩ := st
  intro ls stk H locs ⟨σ, ws, lv, hB, hl, h1, h2, h3⟩
  unfold rj_dvI at h
  split at h
  · rename_i y x sk' hst
    cases hst
    split at h
    · cases h
    · rename_i K1 r hr
      cases h
      match stk, h2 with
      | [], h2 => exact h2.elim
      | [_], h2 => exact h2.2.elim
      | vy :: vx :: stk, ⟨⟨ky, ey, hy⟩, ⟨kx, ex, hx⟩, h2⟩ =>
        subst ey
        subst ex
        obtain ⟨n0, ht⟩ := hf σ K _ _ kx ky (K1, r) (Gb_K hB) hx hy hr
        exact row ls stk H locs kx ky n0 (hs _ List.mem_cons_self _ _ _ _ (G_op (r := (K1, r)) hB hl h1 h2 h3 ht))
  · cases h
theorem to_dvL {f : rj_K → rj_F → rj_F → Option (rj_K × rj_F)} {op : Int64 → Int64 → Int64} {st : rj_S} {sts : List rj_S} (hf : rj_OL f op) (row : ∀ (ls : Array Slot) (stk : List Value) (H : Heap) (locs : List Loc) (x y : Int64), ¬ y = 0 → W p l e R s m args below meth c H locs cs ss Q (F0 m (st.1 + 1) ls (.long (op x y) :: stk)) → W p l e R s m args below meth c H locs cs ss Q (F0 m st.1 ls (.long y :: .long x :: stk))) (h : rj_dvL f st = some sts) (hs : ∀ t ∈ sts, rj_W p l e R s m args below meth c Q D A H0 z N0 σ0 w0 nL cs ss t) : rj_W p l e R s m args below meth c Q D A H0 z N0 σ0 w0 nL cs ss st := by
  obtain ⟨pc, lo, sk, hp, K, wr⟩ := st
  intro ls stk H locs ⟨σ, ws, lv, hB, hl, h1, h2, h3⟩
  unfold rj_dvL at h
  split at h
  · rename_i y x sk' hst
    cases hst
    split at h
    · cases h
    · rename_i K1 r hr
      cases h
      match stk, h2 with
      | [], h2 => exact h2.elim
      | [_], h2 => exact h2.2.elim
      | vy :: vx :: stk, ⟨⟨ky, ey, hy⟩, ⟨kx, ex, hx⟩, h2⟩ =>
        subst ey
        subst ex
        obtain ⟨n0, ht⟩ := hf σ K _ _ kx ky (K1, r) (Gb_K hB) hx hy hr
        exact row ls stk H locs kx ky n0 (hs _ List.mem_cons_self _ _ _ _ (G_opL (r := (K1, r)) hB hl h1 h2 h3 ht))
  · cases h
theorem to_un1 {f : rj_K → rj_F → rj_K × rj_F} {op : Int32 → Int32} {st : rj_S} {sts : List rj_S} (hf : rj_I1 f op) (row : ∀ (ls : Array Slot) (stk : List Value) (H : Heap) (locs : List Loc) (x : Int32), W p l e R s m args below meth c H locs cs ss Q (F0 m (st.1 + 1) ls (.int (op x) :: stk)) → W p l e R s m args below meth c H locs cs ss Q (F0 m st.1 ls (.int x :: stk))) (h : rj_un1I f st = some sts) (hs : ∀ t ∈ sts, rj_W p l e R s m args below meth c Q D A H0 z N0 σ0 w0 nL cs ss t) : rj_W p l e R s m args below meth c Q D A H0 z N0 σ0 w0 nL cs ss st := by
  obtain ⟨pc, lo, sk, hp, K, wr⟩ := st
  intro ls stk H locs ⟨σ, ws, lv, hB, hl, h1, h2, h3⟩
  unfold rj_un1I at h
  split at h
  · rename_i x sk' hst
    cases hst
    cases h
    match stk, h2 with
    | [], h2 => exact h2.elim
    | vx :: stk, ⟨⟨kx, ex, hx⟩, h2⟩ =>
      subst ex
      exact row ls stk H locs kx (hs _ List.mem_cons_self _ _ _ _ (G_op hB hl h1 h2 h3 (hf σ K _ kx (Gb_K hB) hx)))
  · cases h
end RT1
