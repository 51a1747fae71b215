/-! the library: calls that leave the heap alone -/
def rj_Qn (V : Option Value → Prop) : Array Value → State → Outcome → State → Prop := fun _ st oc t => ∃ v, oc = .returned v ∧ V v ∧ t.heap = st.heap ∧ st.vm.Alike t.vm
def rj_Pn (vs : List Value) : Array Value → State → Prop := fun v _ => v = vs.toArray
def rj_ans (lo hi : Int) (v : Option Value) : Prop := ∃ k : Int32, v = some (.int k) ∧ lo ≤ k.toInt ∧ k.toInt ≤ hi
theorem Pn_blind {vs : List Value} : FrameBlind (rj_Pn vs) := fun _ _ _ _ h => h
def yn_bc : MethodName := ⟨"java/lang/Integer", "bitCount", "(I)I"⟩
def yn_cp : MethodName := ⟨"java/lang/Long", "compare", "(JJ)I"⟩
def yn_sl : MethodName := ⟨"java/lang/String", "length", "()I"⟩
def yn_sc : MethodName := ⟨"java/lang/String", "coder", "()B"⟩
def yn_sa : MethodName := ⟨"java/lang/String", "charAt", "(I)C"⟩
def yn_si : MethodName := ⟨"java/lang/String", "isLatin1", "()Z"⟩
def yn_la : MethodName := ⟨"java/lang/StringLatin1", "charAt", "([BI)C"⟩
def yn_ck : MethodName := ⟨"java/lang/String", "checkIndex", "(II)V"⟩
def yn_pc : MethodName := ⟨"jdk/internal/util/Preconditions", "checkIndex", "(IILjava/util/function/BiFunction;)I"⟩
def rj_Lk (y : MethodName) (cd : ByteArray) (mx : Nat) (rt : Option FieldType) (own : String) (index n : Nat) : Prop := Cond.code y cd mx rt ∈ tb ∧ Cond.initialized y.cls ∈ tb ∧ Cond.methodLink own index y ∈ tb ∧ (y.cls ≠ "java/lang/invoke/MethodHandle" ∧ y.cls ≠ "java/lang/invoke/VarHandle") ∧ (parseMethodDescriptor y.desc).map (fun d => d.parameters.length) = some n
theorem lk_bc0 : rj_Lk yn_bc prog_12_method_49_code 1 (some .int) (ri_own 0) 119 1 := ⟨tb_mem 744 (by decide +kernel) rfl, tb_mem 129 (by decide +kernel) rfl, tb_mem 742 (by decide +kernel) rfl, by decide, by decide +kernel⟩
theorem lk_bc8 : rj_Lk yn_bc prog_12_method_49_code 1 (some .int) (ri_own 8) 167 1 := ⟨tb_mem 744 (by decide +kernel) rfl, tb_mem 129 (by decide +kernel) rfl, tb_mem 821 (by decide +kernel) rfl, by decide, by decide +kernel⟩
theorem lk_cp : rj_Lk yn_cp prog_13_method_42_code 4 (some .int) (ri_own 8) 442 2 := ⟨tb_mem 1090 (by decide +kernel) rfl, tb_mem 130 (by decide +kernel) rfl, tb_mem 1088 (by decide +kernel) rfl, by decide, by decide +kernel⟩
theorem lk_sl : rj_Lk yn_sl prog_15_method_54_code 1 (some .int) (ri_own 2) 136 0 := ⟨tb_mem 581 (by decide +kernel) rfl, tb_mem 124 (by decide +kernel) rfl, tb_mem 578 (by decide +kernel) rfl, by decide, by decide +kernel⟩
theorem lk_sa : rj_Lk yn_sa prog_15_method_56_code 2 (some .char) (ri_own 2) 142 1 := ⟨tb_mem 591 (by decide +kernel) rfl, tb_mem 124 (by decide +kernel) rfl, tb_mem 588 (by decide +kernel) rfl, by decide, by decide +kernel⟩
theorem lk_sc : rj_Lk yn_sc prog_15_method_152_code 1 (some .byte) "java/lang/String" 335 0 := ⟨tb_mem 585 (by decide +kernel) rfl, tb_mem 124 (by decide +kernel) rfl, tb_mem 582 (by decide +kernel) rfl, by decide, by decide +kernel⟩
theorem lk_si : rj_Lk yn_si prog_15_method_154_code 1 (some .boolean) "java/lang/String" 492 0 := ⟨tb_mem 595 (by decide +kernel) rfl, tb_mem 124 (by decide +kernel) rfl, tb_mem 592 (by decide +kernel) rfl, by decide, by decide +kernel⟩
theorem lk_la : rj_Lk yn_la prog_16_method_2_code 2 (some .char) "java/lang/String" 495 2 := ⟨tb_mem 598 (by decide +kernel) rfl, tb_mem 125 (by decide +kernel) rfl, tb_mem 596 (by decide +kernel) rfl, by decide, by decide +kernel⟩
theorem lk_ck : rj_Lk yn_ck prog_15_method_155_code 2 (none) "java/lang/StringLatin1" 9 2 := ⟨tb_mem 601 (by decide +kernel) rfl, tb_mem 124 (by decide +kernel) rfl, tb_mem 599 (by decide +kernel) rfl, by decide, by decide +kernel⟩
theorem lk_pc : rj_Lk yn_pc prog_19_method_11_code 3 (some .int) "java/lang/String" 1059 3 := ⟨tb_mem 606 (by decide +kernel) rfl, tb_mem 126 (by decide +kernel) rfl, tb_mem 604 (by decide +kernel) rfl, by decide, by decide +kernel⟩
section RT12
variable {p : Program} {l : Launch} {e : Env} {R : Room} {s : State} {m : MethodId} {args : Array Value} {below : List Frame} {meth : Method} {c : Code} {Q : State → Prop} {D : va_G} {A : Nat → Prop} {H0 : Heap} {z : rj_Z} {N0 : Nat} {σ0 : Nat → Int} {w0 : va_W} {nL cs ss : Nat} {cc : ByteArray} {o : Nat}
theorem nat_cont {pc : Nat} {ls : Array Slot} {st0 rest : List Value} {H : Heap} {locs : List Loc} {V : Option Value → Prop} {a : Array Value} (hr : va_Run p l e R s m args below meth c H locs cs ss 0 0 (F0 m pc ls st0) rest (rj_Qn V a) (fun _ => False)) (kk : ∀ v, V v → W p l e R s m args below meth c H locs cs ss Q (F0 m (pc + 3) ls (v.toList ++ rest))) : W p l e R s m args below meth c H locs cs ss Q (F0 m pc ls st0) := by
  intro T hT X
  obtain ⟨v, st₀, t, T', L, h0, X', hL, e1, e2, ⟨v2, hv, k1, k3, -⟩, st⟩ := hr T hT X
  cases hv
  have hLn : L = [] := by
    match L, hL with
    | [], _ => rfl
    | q :: _, hL => exact (hL q List.mem_cons_self).elim
  subst hLn
  rw [List.append_nil] at X'
  obtain ⟨t2, a1, b1⟩ := kk v k1 T' (by rw [e1, k3, h0]) X'
  exact ⟨t2, st t2 a1, b1⟩
theorem nat_S {own : String} {index n mx dd pc : Nat} {y : MethodName} {cd : ByteArray} {rt : Option FieldType} {As rest : List Value} {ls : Array Slot} {H : Heap} {locs : List Loc} {P : Array Value → State → Prop} {V : Option Value → Prop} (hx : p.tables.exec = Jvm.exec) (hb : c.code = cc) (hml : c.maxLocals = ls.size) (hown : s.vm.findClass own = some m.cls) (hts : ∀ w ∈ tb, w.before args s = true) (hM : Met l y (Cond.code y cd mx rt :: tb) (ri_rm dd 0 0) P (rj_Qn V) 0 0 (fun _ => False)) (hw : rj_Lk y cd mx rt own index n) (w3 : Cond.static y ∈ tb) (hn : As.length = n) (hbl : FrameBlind P) (hpre : ∀ U : State, U.heap = H → s.WarmedH U.vm → P As.toArray U) (hfr : dd + 1 ≤ R.frames) (hlo : 8 + (mx + 11) + 64 * dd ≤ R.locals) (hcs : cs ≤ R.cells ∧ ss ≤ R.slots) (hroom : (rest.map fun v => v.category).sum ≤ 8) (hdg : decode cc pc = .ok (.invokestatic index, 3)) (kk : ∀ v, V v → W p l e R s m args below meth c H locs cs ss Q (F0 m (pc + 3) ls (v.toList ++ rest))) : W p l e R s m args below meth c H locs cs ss Q (F0 m pc ls (As.reverse ++ rest)) := by
  obtain ⟨g1, g2, g3, g4, g5⟩ := hw
  have hpar : ∀ sig, parseMethodDescriptor y.desc = some sig → n = sig.parameters.length := fun sig hsg => by
    rw [hsg] at g5
    exact (Option.some.inj g5).symm
  exact nat_cont (va_runS (As := As) (rest := rest) (nL := ls.size) ⟨hx, hb, hml, hown, hts⟩ hM ⟨⟨rfl, rfl, show dd + 1 ≤ R.frames from hfr, show 8 + (mx + 11) + 64 * dd ≤ R.locals from hlo, tb_pay2 hts g1, List.mem_cons_self, hts _ g1, hts _ g2, g4, hpar, hts _ g3⟩, hts _ w3⟩ ⟨hbl, hpre⟩ rfl hn rfl rfl (lv_room hroom) hdg hcs) kk
theorem nat_V {own : String} {index n mx dd pc b : Nat} {y : MethodName} {cd : ByteArray} {rt : Option FieldType} {As rest : List Value} {ls : Array Slot} {H : Heap} {locs : List Loc} {P : Array Value → State → Prop} {V : Option Value → Prop} (hx : p.tables.exec = Jvm.exec) (hb : c.code = cc) (hml : c.maxLocals = ls.size) (hown : s.vm.findClass own = some m.cls) (hts : ∀ w ∈ tb, w.before args s = true) (hM : Met l y (Cond.code y cd mx rt :: tb) (ri_rm dd 0 0) P (rj_Qn V) 0 0 (fun _ => False)) (hw : rj_Lk y cd mx rt own index n) (w3 : Cond.instanceMethod y ∈ tb) (w4 : Cond.selects y.cls y y ∈ tb) (hn : As.length = n) (hbl : FrameBlind P) (hrc : ∃ cell : Cell, H[b]? = some cell ∧ cell.vm.isStatics = false ∧ s.vm.findClass y.cls = some cell.cls) (hpre : ∀ U : State, U.heap = H → s.WarmedH U.vm → P (Value.ref b :: As).toArray U) (hfr : dd + 1 ≤ R.frames) (hlo : 8 + (mx + 11) + 64 * dd ≤ R.locals) (hcs : cs ≤ R.cells ∧ ss ≤ R.slots) (hroom : (rest.map fun v => v.category).sum ≤ 8) (hdg : decode cc pc = .ok (.invokevirtual index, 3)) (kk : ∀ v, V v → W p l e R s m args below meth c H locs cs ss Q (F0 m (pc + 3) ls (v.toList ++ rest))) : W p l e R s m args below meth c H locs cs ss Q (F0 m pc ls (As.reverse ++ .ref b :: rest)) := by
  obtain ⟨g1, g2, g3, g4, g5⟩ := hw
  have hpar : ∀ sig, parseMethodDescriptor y.desc = some sig → n = sig.parameters.length := fun sig hsg => by
    rw [hsg] at g5
    exact (Option.some.inj g5).symm
  exact nat_cont (va_runV (As := As) (rest := rest) (nL := ls.size) ⟨hx, hb, hml, hown, hts⟩ hM ⟨⟨rfl, rfl, show dd + 1 ≤ R.frames from hfr, show 8 + (mx + 11) + 64 * dd ≤ R.locals from hlo, tb_pay2 hts g1, List.mem_cons_self, hts _ g1, hts _ g2, g4, hpar, hts _ g3⟩, hts _ w3, hts _ w4⟩ ⟨hbl, hrc, hpre⟩ rfl hn rfl rfl (lv_room hroom) hdg hcs) kk
theorem to_nmx {cnd : ClassFile.Cond} {op : Int32 → Int32 → Int32} {x y : rj_F} {sk : List rj_V} {st : rj_S} {sts : List rj_S} (X : rj_Xc p R s m args c D A H0 z nL cc o cs ss) (hop : ∀ a b : Int32, (ri_h cnd a.toInt b.toInt ∧ op a b = a) ∨ (ri_h (ri_neg cnd) a.toInt b.toInt ∧ op a b = b))
    (row : ∀ (ls : Array Slot) (rest : List Value) (H : Heap) (locs : List Loc) (a b : Int32), c.maxLocals = ls.size → (rest.map fun v => v.category).sum ≤ 8 → W p l e R s m args below meth c H locs cs ss Q (F0 m (st.1 + 3) ls (.int (op a b) :: rest)) → W p l e R s m args below meth c H locs cs ss Q (F0 m st.1 ls (.int b :: .int a :: rest)))
    (hst : st.2.2.1 = .inl y :: .inl x :: sk) (h : rj_nmx cnd x y sk st = some sts) (hs : ∀ t ∈ sts, rj_W p l e R s m args below meth c Q D A H0 z N0 σ0 w0 nL cs ss t) : rj_W p l e R s m args below meth c Q D A H0 z N0 σ0 w0 nL cs ss st := by
  obtain ⟨hx, hb, hml, -⟩ := X
  obtain ⟨pc, lo, sk0, hp, K, wr⟩ := st
  dsimp only at hst
  subst hst
  intro ls stk H locs ⟨σ, ws, lv, hB, hl, h1, h2, h3⟩
  unfold rj_nmx at h
  dsimp only at h
  split at h
  · rename_i hw
    cases h
    have hw := Nat.le_of_ble_eq_true hw
    match stk, h2 with
    | [], h2 => exact h2.elim
    | [_], h2 => exact h2.2.elim
    | vy :: vx :: stk, ⟨⟨ky, ey, gy⟩, ⟨kx, ex, gx⟩, h2⟩ =>
      subst ey
      subst ex
      refine row ls stk H locs kx ky (hml.trans hl.1.symm) (by rw [jg_w h2]; exact hw) ?_
      have hKs := Gb_K hB
      rcases hop kx ky with ⟨g, e1⟩ | ⟨g, e1⟩
      · obtain ⟨K1, m1, k1, l1⟩ := tst_ok hKs cnd gx.1 gy.1 (by rw [gx.2, gy.2]; exact g)
        have u := up_len k1 l1
        rw [e1]
        exact hs _ (List.mem_append_left _ (List.mem_map.mpr ⟨K1, m1, rfl⟩)) _ _ _ _ ⟨σ, ws, lv, Gb_up hB u, hl, lo_ag u.2.1 u.1 h1, ⟨⟨kx, rfl, rn_ag u.2.1 u.1 gx⟩, sk_ag u.2.1 u.1 h2⟩, hp_ag u.2.1 u.1 h3⟩
      · obtain ⟨K1, m1, k1, l1⟩ := tst_ok hKs (ri_neg cnd) gx.1 gy.1 (by rw [gx.2, gy.2]; exact g)
        have u := up_len k1 l1
        rw [e1]
        exact hs _ (List.mem_append_right _ (List.mem_map.mpr ⟨K1, m1, rfl⟩)) _ _ _ _ ⟨σ, ws, lv, Gb_up hB u, hl, lo_ag u.2.1 u.1 h1, ⟨⟨ky, rfl, rn_ag u.2.1 u.1 gy⟩, sk_ag u.2.1 u.1 h2⟩, hp_ag u.2.1 u.1 h3⟩
  · cases h
/-- an answer that is new within its range -/
theorem to_nfr {lo hi : Int} {nn : Nat} {sk : List rj_V} {st : rj_S} {sts : List rj_S} (X : rj_Xc p R s m args c D A H0 z nL cc o cs ss)
    (row : ∀ (ls : Array Slot) (stk0 : List Value) (rest : List Value) (H : Heap) (locs : List Loc) (σ : Nat → Int), c.maxLocals = ls.size → (rest.map fun v => v.category).sum ≤ 8 → ri_2 (rj_g z st.2.2.2.2.1.1.length σ) (st.2.2.1.take nn) stk0 → (∀ k : Int32, lo ≤ k.toInt → k.toInt ≤ hi → W p l e R s m args below meth c H locs cs ss Q (F0 m (st.1 + 3) ls (.int k :: rest))) → W p l e R s m args below meth c H locs cs ss Q (F0 m st.1 ls (stk0 ++ rest)))
    (hst : st.2.2.1.drop nn = sk) (h : rj_nfr lo hi sk st = some sts) (hs : ∀ t ∈ sts, rj_W p l e R s m args below meth c Q D A H0 z N0 σ0 w0 nL cs ss t) : rj_W p l e R s m args below meth c Q D A H0 z N0 σ0 w0 nL cs ss st := by
  obtain ⟨hx, hb, hml, -⟩ := X
  obtain ⟨pc, lo0, sk0, hp, K, wr⟩ := st
  dsimp only at hst
  intro ls stk H locs ⟨σ, ws, lv, hB, hl, h1, h2, h3⟩
  unfold rj_nfr at h
  dsimp only at h h1 h2 h3 hB row ⊢
  have ht := r2_take nn h2
  have hd := r2_drop nn h2
  rw [hst] at hd
  split at h
  · rename_i K1 f hw hfr
    cases h
    have hw := Nat.le_of_ble_eq_true hw
    have hq := row ls (stk.take nn) (stk.drop nn) H locs σ (hml.trans hl.1.symm) (by rw [jg_w hd]; exact hw) ht (fun k k1 k2 => by
      obtain ⟨τ, u, g⟩ := fr_up (Gb_K hB) k1 k2 hfr
      exact hs _ (List.mem_singleton.mpr rfl) _ _ _ _ ⟨τ, ws, lv, Gb_up hB u, hl, lo_ag u.2.1 u.1 h1, ⟨⟨k, rfl, g⟩, sk_ag u.2.1 u.1 hd⟩, hp_ag u.2.1 u.1 h3⟩)
    rw [List.take_append_drop] at hq
    exact hq
  · cases h
end RT12
theorem met_cp {l : Launch} (a b : Int64) : Met l yn_cp (Cond.code yn_cp prog_13_method_42_code 4 (some .int) :: tb) (ri_rm 0 0 0) (rj_Pn [.long a, .long b]) (rj_Qn (rj_ans (-1) 1)) 0 0 (fun _ => False) := by
  refine Met.ofW (cc := prog_13_method_42_code) (maxL := 4) (ret := some .int) (by decide) rfl ?_
  intro p e s m args below meth c s₁ B hml hP
  have hP : args = [Value.long a, Value.long b].toArray := hP
  subst hP
  have hx := B.exec
  have hb := B.bytes
  have hts0 := atoms_spec (ws := Cond.code yn_cp prog_13_method_42_code 4 (some .int) :: tb) B.pre
  have hts : ∀ w ∈ tb, w.before _ s = true := fun w hw => hts0 w (List.mem_cons_of_mem _ hw)
  have hown := findClass_of_methodNamed B.named
  rw [lg_entry_eq]
  have hl := lv_entry (n := 4) [Value.long a, Value.long b] (by simp [lg_sl, Value.category])
  rw [show lv_args 0 [Value.long a, Value.long b] = [(0, Value.long a), (2, Value.long b)] from rfl] at hl
  generalize ((lg_sl [Value.long a, Value.long b] ++ List.replicate (4 - (lg_sl [Value.long a, Value.long b]).length) Slot.unset).toArray) = ls at hl ⊢
  have l0 : ls[0]? = some (.val (Value.long a)) := hl.2.2 (0, Value.long a) (by simp)
  have l2 : ls[2]? = some (.val (Value.long b)) := hl.2.2 (2, Value.long b) (by simp)
  have hls : c.maxLocals = ls.size := hml.trans hl.1.symm
  have fin : ∀ (R : Room) (ar : Array Value) (k : Int32), -1 ≤ k.toInt → k.toInt ≤ 1 → W p l e R s m ar below meth c s.heap [] 0 0 (MQ below (rj_Qn (rj_ans (-1) 1)) ar s 0 0 (fun _ => False)) (F0 m 21 ls [.int k]) := fun R ar k h1 h2 => W.iret hx hb B.returns (fun t ht hW => ⟨_, rfl, ⟨k, rfl, h1, h2⟩, ht, hW.alike⟩) (fun _ h => absurd h List.not_mem_nil) (show decode prog_13_method_42_code 21 = .ok (.ireturn, 1) by decide +kernel) B.notSynchronized
  refine lv_lload_n hx hb (show decode prog_13_method_42_code 0 = .ok (.lload_n 0, 1) by decide +kernel) rfl l0 (lv_lload_n hx hb (show decode prog_13_method_42_code 1 = .ok (.lload_n 2, 1) by decide +kernel) rfl l2 (W.lcmp hx hb (show decode prog_13_method_42_code 2 = .ok (.lcmp, 1) by decide +kernel) (lv_if_ge hx hb (tgt := 10) (show decode prog_13_method_42_code 3 = .ok (.ifCond .ge 7, 3) by decide +kernel) (by decide) (fun _ => ?_) (fun _ => ?_))))
  · refine lv_lload_n hx hb (show decode prog_13_method_42_code 10 = .ok (.lload_n 0, 1) by decide +kernel) rfl l0 (lv_lload_n hx hb (show decode prog_13_method_42_code 11 = .ok (.lload_n 2, 1) by decide +kernel) rfl l2 (W.lcmp hx hb (show decode prog_13_method_42_code 12 = .ok (.lcmp, 1) by decide +kernel) (lv_if_ne hx hb (tgt := 20) (show decode prog_13_method_42_code 13 = .ok (.ifCond .ne 7, 3) by decide +kernel) (by decide) (fun _ => ?_) (fun _ => ?_))))
    · exact lv_iconst hx hb (show decode prog_13_method_42_code 20 = .ok (.iconst 1, 1) by decide +kernel) rfl (fin _ _ _ (by decide) (by decide))
    · exact lv_iconst hx hb (show decode prog_13_method_42_code 16 = .ok (.iconst 0, 1) by decide +kernel) rfl (lv_goto hx hb (tgt := 21) (show decode prog_13_method_42_code 17 = .ok (.goto 4, 3) by decide +kernel) (by decide) (fin _ _ _ (by decide) (by decide)))
  · exact lv_iconst hx hb (show decode prog_13_method_42_code 6 = .ok (.iconst (-1), 1) by decide +kernel) rfl (lv_goto hx hb (tgt := 21) (show decode prog_13_method_42_code 7 = .ok (.goto 14, 3) by decide +kernel) (by decide) (fin _ _ _ (by decide) (by decide)))
theorem met_bc {l : Launch} (a : Int32) : Met l yn_bc (Cond.code yn_bc prog_12_method_49_code 1 (some .int) :: tb) (ri_rm 0 0 0) (rj_Pn [.int a]) (rj_Qn (rj_ans 0 63)) 0 0 (fun _ => False) := by
  refine Met.ofW (cc := prog_12_method_49_code) (maxL := 1) (ret := some .int) (by decide) rfl ?_
  intro p e s m args below meth c s₁ B hml hP
  have hP : args = [Value.int a].toArray := hP
  subst hP
  have hx := B.exec
  have hb := B.bytes
  have hts0 := atoms_spec (ws := Cond.code yn_bc prog_12_method_49_code 1 (some .int) :: tb) B.pre
  have hts : ∀ w ∈ tb, w.before _ s = true := fun w hw => hts0 w (List.mem_cons_of_mem _ hw)
  have hown := findClass_of_methodNamed B.named
  rw [lg_entry_eq]
  have hl := lv_entry (n := 1) [Value.int a] (by simp [lg_sl, Value.category])
  rw [show lv_args 0 [Value.int a] = [(0, Value.int a)] from rfl] at hl
  generalize ((lg_sl [Value.int a] ++ List.replicate (1 - (lg_sl [Value.int a]).length) Slot.unset).toArray) = ls at hl ⊢
  have l0 : ls[0]? = some (.val (Value.int a)) := hl.2.2 (0, Value.int a) (by simp)
  have hls : c.maxLocals = ls.size := hml.trans hl.1.symm
  have k265 : (Cond.constant "java/lang/Integer" 265 1431655765).before _ s = true := hts _ (tb_mem 745 (by decide +kernel) rfl)
  have k266 : (Cond.constant "java/lang/Integer" 266 858993459).before _ s = true := hts _ (tb_mem 746 (by decide +kernel) rfl)
  have k267 : (Cond.constant "java/lang/Integer" 267 252645135).before _ s = true := hts _ (tb_mem 747 (by decide +kernel) rfl)
  refine lv_iload_n hx hb (show decode prog_12_method_49_code 0 = .ok (.iload_n 0, 1) by decide +kernel) rfl l0 ?_
  refine lv_iload_n hx hb (show decode prog_12_method_49_code 1 = .ok (.iload_n 0, 1) by decide +kernel) rfl l0 ?_
  refine lv_iconst hx hb (show decode prog_12_method_49_code 2 = .ok (.iconst 1, 1) by decide +kernel) rfl ?_
  refine lv_iushr hx hb (show decode prog_12_method_49_code 3 = .ok (.iushr, 1) by decide +kernel) rfl ?_
  refine lv_ldcw hx hb (own := "java/lang/Integer") hown k265 (show decode prog_12_method_49_code 4 = .ok (.ldc_w 265, 3) by decide +kernel) ?_
  refine lv_iand hx hb (show decode prog_12_method_49_code 7 = .ok (.iand, 1) by decide +kernel) ?_
  refine lv_isub hx hb (show decode prog_12_method_49_code 8 = .ok (.isub, 1) by decide +kernel) ?_
  refine lv_istore_n hx hb (show decode prog_12_method_49_code 9 = .ok (.istore_n 0, 1) by decide +kernel) rfl hl (by decide) rfl (fun ls1 hl1 => ?_)
  have m1 := hl1.2.2 _ List.mem_cons_self
  dsimp only at m1
  refine lv_iload_n hx hb (show decode prog_12_method_49_code 10 = .ok (.iload_n 0, 1) by decide +kernel) rfl m1 ?_
  refine lv_ldcw hx hb (own := "java/lang/Integer") hown k266 (show decode prog_12_method_49_code 11 = .ok (.ldc_w 266, 3) by decide +kernel) ?_
  refine lv_iand hx hb (show decode prog_12_method_49_code 14 = .ok (.iand, 1) by decide +kernel) ?_
  refine lv_iload_n hx hb (show decode prog_12_method_49_code 15 = .ok (.iload_n 0, 1) by decide +kernel) rfl m1 ?_
  refine lv_iconst hx hb (show decode prog_12_method_49_code 16 = .ok (.iconst 2, 1) by decide +kernel) rfl ?_
  refine lv_iushr hx hb (show decode prog_12_method_49_code 17 = .ok (.iushr, 1) by decide +kernel) rfl ?_
  refine lv_ldcw hx hb (own := "java/lang/Integer") hown k266 (show decode prog_12_method_49_code 18 = .ok (.ldc_w 266, 3) by decide +kernel) ?_
  refine lv_iand hx hb (show decode prog_12_method_49_code 21 = .ok (.iand, 1) by decide +kernel) ?_
  refine lv_iadd hx hb (show decode prog_12_method_49_code 22 = .ok (.iadd, 1) by decide +kernel) ?_
  refine lv_istore_n hx hb (show decode prog_12_method_49_code 23 = .ok (.istore_n 0, 1) by decide +kernel) rfl hl1 (by decide) rfl (fun ls2 hl2 => ?_)
  have m2 := hl2.2.2 _ List.mem_cons_self
  dsimp only at m2
  refine lv_iload_n hx hb (show decode prog_12_method_49_code 24 = .ok (.iload_n 0, 1) by decide +kernel) rfl m2 ?_
  refine lv_iload_n hx hb (show decode prog_12_method_49_code 25 = .ok (.iload_n 0, 1) by decide +kernel) rfl m2 ?_
  refine lv_iconst hx hb (show decode prog_12_method_49_code 26 = .ok (.iconst 4, 1) by decide +kernel) rfl ?_
  refine lv_iushr hx hb (show decode prog_12_method_49_code 27 = .ok (.iushr, 1) by decide +kernel) rfl ?_
  refine lv_iadd hx hb (show decode prog_12_method_49_code 28 = .ok (.iadd, 1) by decide +kernel) ?_
  refine lv_ldcw hx hb (own := "java/lang/Integer") hown k267 (show decode prog_12_method_49_code 29 = .ok (.ldc_w 267, 3) by decide +kernel) ?_
  refine lv_iand hx hb (show decode prog_12_method_49_code 32 = .ok (.iand, 1) by decide +kernel) ?_
  refine lv_istore_n hx hb (show decode prog_12_method_49_code 33 = .ok (.istore_n 0, 1) by decide +kernel) rfl hl2 (by decide) rfl (fun ls3 hl3 => ?_)
  have m3 := hl3.2.2 _ List.mem_cons_self
  dsimp only at m3
  refine lv_iload_n hx hb (show decode prog_12_method_49_code 34 = .ok (.iload_n 0, 1) by decide +kernel) rfl m3 ?_
  refine lv_iload_n hx hb (show decode prog_12_method_49_code 35 = .ok (.iload_n 0, 1) by decide +kernel) rfl m3 ?_
  refine lv_bipush hx hb (show decode prog_12_method_49_code 36 = .ok (.bipush 8, 2) by decide +kernel) rfl ?_
  refine lv_iushr hx hb (show decode prog_12_method_49_code 38 = .ok (.iushr, 1) by decide +kernel) rfl ?_
  refine lv_iadd hx hb (show decode prog_12_method_49_code 39 = .ok (.iadd, 1) by decide +kernel) ?_
  refine lv_istore_n hx hb (show decode prog_12_method_49_code 40 = .ok (.istore_n 0, 1) by decide +kernel) rfl hl3 (by decide) rfl (fun ls4 hl4 => ?_)
  have m4 := hl4.2.2 _ List.mem_cons_self
  dsimp only at m4
  refine lv_iload_n hx hb (show decode prog_12_method_49_code 41 = .ok (.iload_n 0, 1) by decide +kernel) rfl m4 ?_
  refine lv_iload_n hx hb (show decode prog_12_method_49_code 42 = .ok (.iload_n 0, 1) by decide +kernel) rfl m4 ?_
  refine lv_bipush hx hb (show decode prog_12_method_49_code 43 = .ok (.bipush 16, 2) by decide +kernel) rfl ?_
  refine lv_iushr hx hb (show decode prog_12_method_49_code 45 = .ok (.iushr, 1) by decide +kernel) rfl ?_
  refine lv_iadd hx hb (show decode prog_12_method_49_code 46 = .ok (.iadd, 1) by decide +kernel) ?_
  refine lv_istore_n hx hb (show decode prog_12_method_49_code 47 = .ok (.istore_n 0, 1) by decide +kernel) rfl hl4 (by decide) rfl (fun ls5 hl5 => ?_)
  have m5 := hl5.2.2 _ List.mem_cons_self
  dsimp only at m5
  refine lv_iload_n hx hb (show decode prog_12_method_49_code 48 = .ok (.iload_n 0, 1) by decide +kernel) rfl m5 ?_
  refine lv_bipush hx hb (show decode prog_12_method_49_code 49 = .ok (.bipush 63, 2) by decide +kernel) rfl ?_
  refine lv_iand hx hb (show decode prog_12_method_49_code 51 = .ok (.iand, 1) by decide +kernel) ?_
  exact W.iret hx hb B.returns (fun t ht hW => ⟨_, rfl, ⟨_, rfl, and_le (by decide)⟩, ht, hW.alike⟩) (fun _ h => absurd h List.not_mem_nil) (show decode prog_12_method_49_code 52 = .ok (.ireturn, 1) by decide +kernel) B.notSynchronized
