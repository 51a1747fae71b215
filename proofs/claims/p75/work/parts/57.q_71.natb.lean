/-! the library: Strings -/
def rj_Sx (a ad n : Nat) (bs : List Int32) (U : State) : Prop := va_O "java/lang/String" a (fun _ => False) U U.heap ∧ va_OF "java/lang/String" "coder" "B" (.int 0) a (fun _ => False) U U.heap ∧ va_OF "java/lang/String" "value" "[B" (.ref ad) a (fun _ => False) U U.heap ∧ va_T .byte ad n (fun j => .int (bs.getD j 0)) (fun _ => False) U U.heap ∧ va_Z "java/lang/String" "COMPACT_STRINGS" "Z" (.int 1) (fun _ => False) U U.heap ∧ va_Zq "jdk/internal/util/Preconditions" "SIOOBE_FORMATTER" "Ljava/util/function/BiFunction;" (fun _ => False) U U.heap
theorem Sx_moved {a ad n : Nat} {bs : List Int32} {u U : State} (hvm : u.vm.Alike U.vm) (hH : U.heap = u.heap) (h : rj_Sx a ad n bs u) : rj_Sx a ad n bs U := by
  obtain ⟨h1, h2, h3, h4, h5, h6⟩ := h
  unfold rj_Sx
  rw [hH]
  exact ⟨va_O.moved hvm h1, va_OF.moved hvm h2, va_OF.moved hvm h3, va_T.moved hvm h4, va_Z.moved hvm h5, va_Zq.moved hvm h6⟩
def rj_PX (vs : List Value) (a ad n : Nat) (bs : List Int32) : Array Value → State → Prop := fun v U => v = vs.toArray ∧ rj_Sx a ad n bs U
theorem PX_blind {vs : List Value} {a ad n : Nat} {bs : List Int32} : FrameBlind (rj_PX vs a ad n bs) := fun b U g mk h => ⟨h.1, Sx_moved (u := U) (U := U.calling g mk b) (Vm.Alike.refl U.vm) rfl h.2⟩
theorem S_same (h : Heap) : va_S (fun _ => False) h h [] := ⟨Nat.le_refl _, fun _ _ _ => rfl, fun _ h => absurd h List.not_mem_nil⟩
theorem lf_cs : Cond.fieldLink "java/lang/String" 38 "java/lang/String" "COMPACT_STRINGS" "Z" ∈ tb := tb_mem 586 (by decide +kernel) rfl
theorem lf_si : Cond.fieldLink "java/lang/String" 1053 "jdk/internal/util/Preconditions" "SIOOBE_FORMATTER" "Ljava/util/function/BiFunction;" ∈ tb := tb_mem 602 (by decide +kernel) rfl
theorem lf_va : Cond.fieldLink "java/lang/String" 9 "java/lang/String" "value" "[B" ∈ tb := tb_mem 2093 (by decide +kernel) rfl
theorem lf_co : Cond.fieldLink "java/lang/String" 15 "java/lang/String" "coder" "B" ∈ tb := tb_mem 2094 (by decide +kernel) rfl
theorem li_sl : Cond.instanceMethod yn_sl ∈ tb := tb_mem 579 (by decide +kernel) rfl
theorem ls_sl : Cond.selects yn_sl.cls yn_sl yn_sl ∈ tb := tb_mem 580 (by decide +kernel) rfl
theorem li_sc : Cond.instanceMethod yn_sc ∈ tb := tb_mem 583 (by decide +kernel) rfl
theorem ls_sc : Cond.selects yn_sc.cls yn_sc yn_sc ∈ tb := tb_mem 584 (by decide +kernel) rfl
theorem li_sa : Cond.instanceMethod yn_sa ∈ tb := tb_mem 589 (by decide +kernel) rfl
theorem ls_sa : Cond.selects yn_sa.cls yn_sa yn_sa ∈ tb := tb_mem 590 (by decide +kernel) rfl
theorem li_si : Cond.instanceMethod yn_si ∈ tb := tb_mem 593 (by decide +kernel) rfl
theorem ls_si : Cond.selects yn_si.cls yn_si yn_si ∈ tb := tb_mem 594 (by decide +kernel) rfl
theorem lt_la : Cond.static yn_la ∈ tb := tb_mem 597 (by decide +kernel) rfl
theorem lt_ck : Cond.static yn_ck ∈ tb := tb_mem 600 (by decide +kernel) rfl
theorem lt_pc : Cond.static yn_pc ∈ tb := tb_mem 605 (by decide +kernel) rfl
theorem met_sc {l : Launch} {a ad n : Nat} {bs : List Int32} : Met l yn_sc (Cond.code yn_sc prog_15_method_152_code 1 (some .byte) :: tb) (ri_rm 0 0 0) (rj_PX [.ref a] a ad n bs) (rj_Qn (fun v => v = some (.int 0))) 0 0 (fun _ => False) := by
  refine Met.ofW (cc := prog_15_method_152_code) (maxL := 1) (ret := some .byte) (by decide) rfl ?_
  intro p e s m args below meth c s₁ B hml hP
  obtain ⟨hP, hSx⟩ := hP
  have hSx0 := hSx
  obtain ⟨x1, x2, x3, x4, x5, x6⟩ := hSx0
  have hSS := S_same s.heap
  subst hP
  have hx := B.exec
  have hb := B.bytes
  have hts0 := atoms_spec (ws := Cond.code yn_sc prog_15_method_152_code 1 (some .byte) :: tb) B.pre
  have hts : ∀ w ∈ tb, w.before _ s = true := fun w hw => hts0 w (List.mem_cons_of_mem _ hw)
  have hown := findClass_of_methodNamed B.named
  rw [lg_entry_eq]
  have hl := lv_entry (n := 1) [Value.ref a] (by simp [lg_sl, Value.category])
  rw [show lv_args 0 [Value.ref a] = [(0, Value.ref a)] from rfl] at hl
  generalize ((lg_sl [Value.ref a] ++ List.replicate (1 - (lg_sl [Value.ref a]).length) Slot.unset).toArray) = ls at hl ⊢
  have l0 : ls[0]? = some (.val (Value.ref a)) := hl.2.2 (0, Value.ref a) (by simp)
  have hls : c.maxLocals = ls.size := hml.trans hl.1.symm
  refine va_gets hx hb x5 hSS hown (hts _ lf_cs) (fun _ h => h) (show decode prog_15_method_152_code 0 = .ok (.getstatic 38, 3) by decide +kernel) (lv_if_eq hx hb (tgt := 13) (show decode prog_15_method_152_code 3 = .ok (.ifCond .eq 10, 3) by decide +kernel) (by decide) (fun h => absurd h (by decide)) (fun _ => lv_aload_n hx hb (show decode prog_15_method_152_code 6 = .ok (.aload_n 0, 1) by decide +kernel) rfl l0 (vk_getf hx hb x2 hSS hown (hts _ lf_co) (fun _ h => h) (show decode prog_15_method_152_code 7 = .ok (.getfield 15, 3) by decide +kernel) (lv_goto hx hb (tgt := 14) (show decode prog_15_method_152_code 10 = .ok (.goto 4, 3) by decide +kernel) (by decide) ?_))))
  exact W.zret hx hb B.returns (by decide) (fun t ht hW => ⟨_, rfl, rfl, ht, hW.alike⟩) (fun _ h => absurd h List.not_mem_nil) (show decode prog_15_method_152_code 14 = .ok (.ireturn, 1) by decide +kernel) B.notSynchronized
theorem met_si {l : Launch} {a ad n : Nat} {bs : List Int32} : Met l yn_si (Cond.code yn_si prog_15_method_154_code 1 (some .boolean) :: tb) (ri_rm 0 0 0) (rj_PX [.ref a] a ad n bs) (rj_Qn (fun v => v = some (.int 1))) 0 0 (fun _ => False) := by
  refine Met.ofW (cc := prog_15_method_154_code) (maxL := 1) (ret := some .boolean) (by decide) rfl ?_
  intro p e s m args below meth c s₁ B hml hP
  obtain ⟨hP, hSx⟩ := hP
  have hSx0 := hSx
  obtain ⟨x1, x2, x3, x4, x5, x6⟩ := hSx0
  have hSS := S_same s.heap
  subst hP
  have hx := B.exec
  have hb := B.bytes
  have hts0 := atoms_spec (ws := Cond.code yn_si prog_15_method_154_code 1 (some .boolean) :: tb) B.pre
  have hts : ∀ w ∈ tb, w.before _ s = true := fun w hw => hts0 w (List.mem_cons_of_mem _ hw)
  have hown := findClass_of_methodNamed B.named
  rw [lg_entry_eq]
  have hl := lv_entry (n := 1) [Value.ref a] (by simp [lg_sl, Value.category])
  rw [show lv_args 0 [Value.ref a] = [(0, Value.ref a)] from rfl] at hl
  generalize ((lg_sl [Value.ref a] ++ List.replicate (1 - (lg_sl [Value.ref a]).length) Slot.unset).toArray) = ls at hl ⊢
  have l0 : ls[0]? = some (.val (Value.ref a)) := hl.2.2 (0, Value.ref a) (by simp)
  have hls : c.maxLocals = ls.size := hml.trans hl.1.symm
  refine va_gets hx hb x5 hSS hown (hts _ lf_cs) (fun _ h => h) (show decode prog_15_method_154_code 0 = .ok (.getstatic 38, 3) by decide +kernel) (lv_if_eq hx hb (tgt := 17) (show decode prog_15_method_154_code 3 = .ok (.ifCond .eq 14, 3) by decide +kernel) (by decide) (fun h => absurd h (by decide)) (fun _ => lv_aload_n hx hb (show decode prog_15_method_154_code 6 = .ok (.aload_n 0, 1) by decide +kernel) rfl l0 (vk_getf hx hb x2 hSS hown (hts _ lf_co) (fun _ h => h) (show decode prog_15_method_154_code 7 = .ok (.getfield 15, 3) by decide +kernel) (lv_if_ne hx hb (tgt := 17) (show decode prog_15_method_154_code 10 = .ok (.ifCond .ne 7, 3) by decide +kernel) (by decide) (fun h => absurd rfl h) (fun _ => lv_iconst hx hb (v := 1) (show decode prog_15_method_154_code 13 = .ok (.iconst 1, 1) by decide +kernel) (by decide) (lv_goto hx hb (tgt := 18) (show decode prog_15_method_154_code 14 = .ok (.goto 4, 3) by decide +kernel) (by decide) ?_))))))
  exact W.zret hx hb B.returns (by decide) (fun t ht hW => ⟨_, rfl, rfl, ht, hW.alike⟩) (fun _ h => absurd h List.not_mem_nil) (show decode prog_15_method_154_code 18 = .ok (.ireturn, 1) by decide +kernel) B.notSynchronized
theorem met_sl {l : Launch} {a ad n : Nat} {bs : List Int32} (hn : n < 2 ^ 31) : Met l yn_sl (Cond.code yn_sl prog_15_method_54_code 1 (some .int) :: tb) (ri_rm 1 0 0) (rj_PX [.ref a] a ad n bs) (rj_Qn (fun v => v = some (.int (Int32.ofNat n)))) 0 0 (fun _ => False) := by
  refine Met.ofW (cc := prog_15_method_54_code) (maxL := 1) (ret := some .int) (by decide) rfl ?_
  intro p e s m args below meth c s₁ B hml hP
  obtain ⟨hP, hSx⟩ := hP
  have hSx0 := hSx
  obtain ⟨x1, x2, x3, x4, x5, x6⟩ := hSx0
  have hSS := S_same s.heap
  subst hP
  have hx := B.exec
  have hb := B.bytes
  have hts0 := atoms_spec (ws := Cond.code yn_sl prog_15_method_54_code 1 (some .int) :: tb) B.pre
  have hts : ∀ w ∈ tb, w.before _ s = true := fun w hw => hts0 w (List.mem_cons_of_mem _ hw)
  have hown := findClass_of_methodNamed B.named
  rw [lg_entry_eq]
  have hl := lv_entry (n := 1) [Value.ref a] (by simp [lg_sl, Value.category])
  rw [show lv_args 0 [Value.ref a] = [(0, Value.ref a)] from rfl] at hl
  generalize ((lg_sl [Value.ref a] ++ List.replicate (1 - (lg_sl [Value.ref a]).length) Slot.unset).toArray) = ls at hl ⊢
  have l0 : ls[0]? = some (.val (Value.ref a)) := hl.2.2 (0, Value.ref a) (by simp)
  have hls : c.maxLocals = ls.size := hml.trans hl.1.symm
  obtain ⟨cell, y1, y2, y3, -⟩ := x1
  refine lv_aload_n hx hb (show decode prog_15_method_54_code 0 = .ok (.aload_n 0, 1) by decide +kernel) rfl l0 (vk_getf hx hb x3 hSS hown (hts _ lf_va) (fun _ h => h) (show decode prog_15_method_54_code 1 = .ok (.getfield 9, 3) by decide +kernel) (va_tlen hx hb x4 hSS (v := Int32.ofNat n) rfl (show decode prog_15_method_54_code 4 = .ok (.arraylength, 1) by decide +kernel) (lv_aload_n hx hb (show decode prog_15_method_54_code 5 = .ok (.aload_n 0, 1) by decide +kernel) rfl l0 ?_)))
  refine nat_V (As := []) (rest := [Value.int (Int32.ofNat n)]) (b := a) (dd := 0) hx hb hls hown hts (met_sc (a := a) (ad := ad) (n := n) (bs := bs)) lk_sc li_sc ls_sc rfl PX_blind ⟨cell, y1, y2, y3⟩ (fun U hU hW => ⟨rfl, Sx_moved hW.alike hU hSx⟩) (Nat.le_of_ble_eq_true rfl) (Nat.le_of_ble_eq_true rfl) ⟨Nat.zero_le _, Nat.zero_le _⟩ (by simp [Value.category]) (show decode prog_15_method_54_code 6 = .ok (.invokevirtual 335, 3) by decide +kernel) (fun v hv => ?_)
  subst hv
  refine lv_ishr hx hb (x := Int32.ofNat n) (y := 0) (show decode prog_15_method_54_code 9 = .ok (.ishr, 1) by decide +kernel) ?_
  exact W.iret hx hb B.returns (fun t ht hW => ⟨_, rfl, congrArg (fun q => some (Value.int q)) (sc_shr0 hn), ht, hW.alike⟩) (fun _ h => absurd h List.not_mem_nil) (show decode prog_15_method_54_code 10 = .ok (.ireturn, 1) by decide +kernel) B.notSynchronized
theorem met_pc {l : Launch} {i k : Int32} {f : Value} (hf : f.category = 1) (h0 : ¬ i < 0) (h1 : i < k) : Met l yn_pc (Cond.code yn_pc prog_19_method_11_code 3 (some .int) :: tb) (ri_rm 0 0 0) (rj_Pn [.int i, .int k, f]) (rj_Qn (fun v => ∃ q : Int32, v = some (.int q))) 0 0 (fun _ => False) := by
  refine Met.ofW (cc := prog_19_method_11_code) (maxL := 3) (ret := some .int) (by decide) rfl ?_
  intro p e s m args below meth c s₁ B hml hP
  have hP : args = [Value.int i, Value.int k, f].toArray := hP
  subst hP
  have hx := B.exec
  have hb := B.bytes
  have hts0 := atoms_spec (ws := Cond.code yn_pc prog_19_method_11_code 3 (some .int) :: tb) B.pre
  have hts : ∀ w ∈ tb, w.before _ s = true := fun w hw => hts0 w (List.mem_cons_of_mem _ hw)
  have hown := findClass_of_methodNamed B.named
  rw [lg_entry_eq]
  have hl := lv_entry (n := 3) [Value.int i, Value.int k, f] (by simp [lg_sl, hf, show ∀ q : Int32, (Value.int q).category = 1 from fun _ => rfl])
  rw [show lv_args 0 [Value.int i, Value.int k, f] = [(0, Value.int i), (1, Value.int k), (2, f)] from rfl] at hl
  generalize ((lg_sl [Value.int i, Value.int k, f] ++ List.replicate (3 - (lg_sl [Value.int i, Value.int k, f]).length) Slot.unset).toArray) = ls at hl ⊢
  have l0 : ls[0]? = some (.val (Value.int i)) := hl.2.2 (0, Value.int i) (by simp)
  have l1 : ls[1]? = some (.val (Value.int k)) := hl.2.2 (1, Value.int k) (by simp)
  have l2 : ls[2]? = some (.val (f)) := hl.2.2 (2, f) (by simp)
  have hls : c.maxLocals = ls.size := hml.trans hl.1.symm
  refine lv_iload_n hx hb (show decode prog_19_method_11_code 0 = .ok (.iload_n 0, 1) by decide +kernel) rfl l0 (lv_if_lt hx hb (tgt := 9) (show decode prog_19_method_11_code 1 = .ok (.ifCond .lt 8, 3) by decide +kernel) (by decide) (fun h => absurd h h0) (fun _ => lv_iload_n hx hb (show decode prog_19_method_11_code 4 = .ok (.iload_n 0, 1) by decide +kernel) rfl l0 (lv_iload_n hx hb (show decode prog_19_method_11_code 5 = .ok (.iload_n 1, 1) by decide +kernel) rfl l1 (lv_icmp_lt hx hb (tgt := 16) (show decode prog_19_method_11_code 6 = .ok (.if_icmp .lt 10, 3) by decide +kernel) (by decide) (fun _ => lv_iload_n hx hb (show decode prog_19_method_11_code 16 = .ok (.iload_n 0, 1) by decide +kernel) rfl l0 ?_) (fun h => absurd h1 h)))))
  exact W.iret hx hb B.returns (fun t ht hW => ⟨_, rfl, ⟨_, rfl⟩, ht, hW.alike⟩) (fun _ h => absurd h List.not_mem_nil) (show decode prog_19_method_11_code 17 = .ok (.ireturn, 1) by decide +kernel) B.notSynchronized
theorem met_ck {l : Launch} {i k : Int32} {a ad n : Nat} {bs : List Int32} (h0 : ¬ i < 0) (h1 : i < k) : Met l yn_ck (Cond.code yn_ck prog_15_method_155_code 2 (none) :: tb) (ri_rm 1 0 0) (rj_PX [.int i, .int k] a ad n bs) (rj_Qn (fun v => v = none)) 0 0 (fun _ => False) := by
  refine Met.ofW (cc := prog_15_method_155_code) (maxL := 2) (ret := none) (by decide) rfl ?_
  intro p e s m args below meth c s₁ B hml hP
  obtain ⟨hP, hSx⟩ := hP
  have hSx0 := hSx
  obtain ⟨x1, x2, x3, x4, x5, x6⟩ := hSx0
  have hSS := S_same s.heap
  subst hP
  have hx := B.exec
  have hb := B.bytes
  have hts0 := atoms_spec (ws := Cond.code yn_ck prog_15_method_155_code 2 (none) :: tb) B.pre
  have hts : ∀ w ∈ tb, w.before _ s = true := fun w hw => hts0 w (List.mem_cons_of_mem _ hw)
  have hown := findClass_of_methodNamed B.named
  rw [lg_entry_eq]
  have hl := lv_entry (n := 2) [Value.int i, Value.int k] (by simp [lg_sl, Value.category])
  rw [show lv_args 0 [Value.int i, Value.int k] = [(0, Value.int i), (1, Value.int k)] from rfl] at hl
  generalize ((lg_sl [Value.int i, Value.int k] ++ List.replicate (2 - (lg_sl [Value.int i, Value.int k]).length) Slot.unset).toArray) = ls at hl ⊢
  have l0 : ls[0]? = some (.val (Value.int i)) := hl.2.2 (0, Value.int i) (by simp)
  have l1 : ls[1]? = some (.val (Value.int k)) := hl.2.2 (1, Value.int k) (by simp)
  have hls : c.maxLocals = ls.size := hml.trans hl.1.symm
  have go : ∀ f : Value, f.category = 1 → va_Z "jdk/internal/util/Preconditions" "SIOOBE_FORMATTER" "Ljava/util/function/BiFunction;" f (fun _ => False) s s.heap → W p l e (headSpec (Cond.code yn_ck prog_15_method_155_code 2 none :: tb) (ri_rm 1 0 0)).room s m [Value.int i, Value.int k].toArray below meth c s.heap [] 0 0 (MQ below (rj_Qn (fun v => v = none)) [Value.int i, Value.int k].toArray s 0 0 (fun _ => False)) (F0 m 0 ls []) := by
    intro f hf hZ
    refine lv_iload_n hx hb (show decode prog_15_method_155_code 0 = .ok (.iload_n 0, 1) by decide +kernel) rfl l0 (lv_iload_n hx hb (show decode prog_15_method_155_code 1 = .ok (.iload_n 1, 1) by decide +kernel) rfl l1 (va_gets hx hb hZ hSS hown (hts _ lf_si) (fun _ h => h) (show decode prog_15_method_155_code 2 = .ok (.getstatic 1053, 3) by decide +kernel) ?_))
    refine nat_S (As := [.int i, .int k, f]) (rest := []) (dd := 0) hx hb hls hown hts (met_pc hf h0 h1) lk_pc lt_pc rfl Pn_blind (fun U hU hW => rfl) (Nat.le_of_ble_eq_true rfl) (Nat.le_of_ble_eq_true rfl) ⟨Nat.zero_le _, Nat.zero_le _⟩ (by simp) (show decode prog_15_method_155_code 5 = .ok (.invokestatic 1059, 3) by decide +kernel) (fun v hv => ?_)
    obtain ⟨q, rfl⟩ := hv
    exact lv_pop hx hb (va := .int q) (show decode prog_15_method_155_code 8 = .ok (.pop, 1) by decide +kernel) rfl (W.vret hx hb B.returns (fun t ht hW => ⟨_, rfl, rfl, ht, hW.alike⟩) (fun _ h => absurd h List.not_mem_nil) (show decode prog_15_method_155_code 9 = .ok (.return_, 1) by decide +kernel) B.notSynchronized)
  rcases x6 with x6 | ⟨t, x6⟩
  · exact go _ rfl x6
  · exact go _ rfl x6
theorem met_la {l : Launch} {j a ad n : Nat} {bs : List Int32} (hj : j < n) (hn : n < 2 ^ 31) : Met l yn_la (Cond.code yn_la prog_16_method_2_code 2 (some .char) :: tb) (ri_rm 2 0 0) (rj_PX [.ref ad, .int (nI j)] a ad n bs) (rj_Qn (fun v => v = some (.int (bs.getD j 0 &&& 255)))) 0 0 (fun _ => False) := by
  refine Met.ofW (cc := prog_16_method_2_code) (maxL := 2) (ret := some .char) (by decide) rfl ?_
  intro p e s m args below meth c s₁ B hml hP
  obtain ⟨hP, hSx⟩ := hP
  have hSx0 := hSx
  obtain ⟨x1, x2, x3, x4, x5, x6⟩ := hSx0
  have hSS := S_same s.heap
  subst hP
  have hx := B.exec
  have hb := B.bytes
  have hts0 := atoms_spec (ws := Cond.code yn_la prog_16_method_2_code 2 (some .char) :: tb) B.pre
  have hts : ∀ w ∈ tb, w.before _ s = true := fun w hw => hts0 w (List.mem_cons_of_mem _ hw)
  have hown := findClass_of_methodNamed B.named
  rw [lg_entry_eq]
  have hl := lv_entry (n := 2) [Value.ref ad, Value.int (nI j)] (by simp [lg_sl, Value.category])
  rw [show lv_args 0 [Value.ref ad, Value.int (nI j)] = [(0, Value.ref ad), (1, Value.int (nI j))] from rfl] at hl
  generalize ((lg_sl [Value.ref ad, Value.int (nI j)] ++ List.replicate (2 - (lg_sl [Value.ref ad, Value.int (nI j)]).length) Slot.unset).toArray) = ls at hl ⊢
  have l0 : ls[0]? = some (.val (Value.ref ad)) := hl.2.2 (0, Value.ref ad) (by simp)
  have l1 : ls[1]? = some (.val (Value.int (nI j))) := hl.2.2 (1, Value.int (nI j)) (by simp)
  have hls : c.maxLocals = ls.size := hml.trans hl.1.symm
  have h1 : nI j < Int32.ofNat n := nI_lt hj hn
  have h0 : ¬ nI j < 0 := nI_pos (by omega)
  refine lv_iload_n hx hb (show decode prog_16_method_2_code 0 = .ok (.iload_n 1, 1) by decide +kernel) rfl l1 (lv_aload_n hx hb (show decode prog_16_method_2_code 1 = .ok (.aload_n 0, 1) by decide +kernel) rfl l0 (va_tlen hx hb x4 hSS (v := Int32.ofNat n) rfl (show decode prog_16_method_2_code 2 = .ok (.arraylength, 1) by decide +kernel) ?_))
  refine nat_S (As := [.int (nI j), .int (Int32.ofNat n)]) (rest := []) (dd := 1) hx hb hls hown hts (met_ck (a := a) (ad := ad) (n := n) (bs := bs) h0 h1) lk_ck lt_ck rfl PX_blind (fun U hU hW => ⟨rfl, Sx_moved hW.alike hU hSx⟩) (Nat.le_of_ble_eq_true rfl) (Nat.le_of_ble_eq_true rfl) ⟨Nat.zero_le _, Nat.zero_le _⟩ (by simp) (show decode prog_16_method_2_code 3 = .ok (.invokestatic 9, 3) by decide +kernel) (fun v hv => ?_)
  subst hv
  refine lv_aload_n hx hb (show decode prog_16_method_2_code 6 = .ok (.aload_n 0, 1) by decide +kernel) rfl l0 (lv_iload_n hx hb (show decode prog_16_method_2_code 7 = .ok (.iload_n 1, 1) by decide +kernel) rfl l1 (va_tb hx hb x4 hSS (vp_in_nI hj hn) rfl (show decode prog_16_method_2_code 8 = .ok (.baload, 1) by decide +kernel) (lv_sipush hx hb (v := 255) (show decode prog_16_method_2_code 9 = .ok (.sipush 255, 3) by decide +kernel) (by decide) (lv_iand hx hb (show decode prog_16_method_2_code 12 = .ok (.iand, 1) by decide +kernel) (lv_i2c hx hb (show decode prog_16_method_2_code 13 = .ok (.i2c, 1) by decide +kernel) (sc_c2 _) ?_)))))
  exact W.zret hx hb B.returns (sc_nar _) (fun t ht hW => ⟨_, rfl, by rw [nI_clamp (by omega)], ht, hW.alike⟩) (fun _ h => absurd h List.not_mem_nil) (show decode prog_16_method_2_code 14 = .ok (.ireturn, 1) by decide +kernel) B.notSynchronized
theorem met_sa {l : Launch} {j a ad n : Nat} {bs : List Int32} (hj : j < n) (hn : n < 2 ^ 31) : Met l yn_sa (Cond.code yn_sa prog_15_method_56_code 2 (some .char) :: tb) (ri_rm 3 0 0) (rj_PX [.ref a, .int (nI j)] a ad n bs) (rj_Qn (fun v => v = some (.int (bs.getD j 0 &&& 255)))) 0 0 (fun _ => False) := by
  refine Met.ofW (cc := prog_15_method_56_code) (maxL := 2) (ret := some .char) (by decide) rfl ?_
  intro p e s m args below meth c s₁ B hml hP
  obtain ⟨hP, hSx⟩ := hP
  have hSx0 := hSx
  obtain ⟨x1, x2, x3, x4, x5, x6⟩ := hSx0
  have hSS := S_same s.heap
  subst hP
  have hx := B.exec
  have hb := B.bytes
  have hts0 := atoms_spec (ws := Cond.code yn_sa prog_15_method_56_code 2 (some .char) :: tb) B.pre
  have hts : ∀ w ∈ tb, w.before _ s = true := fun w hw => hts0 w (List.mem_cons_of_mem _ hw)
  have hown := findClass_of_methodNamed B.named
  rw [lg_entry_eq]
  have hl := lv_entry (n := 2) [Value.ref a, Value.int (nI j)] (by simp [lg_sl, Value.category])
  rw [show lv_args 0 [Value.ref a, Value.int (nI j)] = [(0, Value.ref a), (1, Value.int (nI j))] from rfl] at hl
  generalize ((lg_sl [Value.ref a, Value.int (nI j)] ++ List.replicate (2 - (lg_sl [Value.ref a, Value.int (nI j)]).length) Slot.unset).toArray) = ls at hl ⊢
  have l0 : ls[0]? = some (.val (Value.ref a)) := hl.2.2 (0, Value.ref a) (by simp)
  have l1 : ls[1]? = some (.val (Value.int (nI j))) := hl.2.2 (1, Value.int (nI j)) (by simp)
  have hls : c.maxLocals = ls.size := hml.trans hl.1.symm
  obtain ⟨cell, y1, y2, y3, -⟩ := x1
  refine lv_aload_n hx hb (show decode prog_15_method_56_code 0 = .ok (.aload_n 0, 1) by decide +kernel) rfl l0 ?_
  refine nat_V (As := []) (rest := []) (b := a) (dd := 0) hx hb hls hown hts (met_si (a := a) (ad := ad) (n := n) (bs := bs)) lk_si li_si ls_si rfl PX_blind ⟨cell, y1, y2, y3⟩ (fun U hU hW => ⟨rfl, Sx_moved hW.alike hU hSx⟩) (Nat.le_of_ble_eq_true rfl) (Nat.le_of_ble_eq_true rfl) ⟨Nat.zero_le _, Nat.zero_le _⟩ (by simp) (show decode prog_15_method_56_code 1 = .ok (.invokevirtual 492, 3) by decide +kernel) (fun v hv => ?_)
  subst hv
  refine lv_if_eq hx hb (x := 1) (tgt := 16) (show decode prog_15_method_56_code 4 = .ok (.ifCond .eq 12, 3) by decide +kernel) (by decide) (fun h => absurd h (by decide)) (fun _ => lv_aload_n hx hb (show decode prog_15_method_56_code 7 = .ok (.aload_n 0, 1) by decide +kernel) rfl l0 (vk_getf hx hb x3 hSS hown (hts _ lf_va) (fun _ h => h) (show decode prog_15_method_56_code 8 = .ok (.getfield 9, 3) by decide +kernel) (lv_iload_n hx hb (show decode prog_15_method_56_code 11 = .ok (.iload_n 1, 1) by decide +kernel) rfl l1 ?_)))
  refine nat_S (As := [.ref ad, .int (nI j)]) (rest := []) (dd := 2) hx hb hls hown hts (met_la (a := a) (ad := ad) (n := n) (bs := bs) hj hn) lk_la lt_la rfl PX_blind (fun U hU hW => ⟨rfl, Sx_moved hW.alike hU hSx⟩) (Nat.le_of_ble_eq_true rfl) (Nat.le_of_ble_eq_true rfl) ⟨Nat.zero_le _, Nat.zero_le _⟩ (by simp) (show decode prog_15_method_56_code 12 = .ok (.invokestatic 495, 3) by decide +kernel) (fun v hv => ?_)
  subst hv
  exact W.zret hx hb B.returns (sc_nar _) (fun t ht hW => ⟨_, rfl, rfl, ht, hW.alike⟩) (fun _ h => absurd h List.not_mem_nil) (show decode prog_15_method_56_code 15 = .ok (.ireturn, 1) by decide +kernel) B.notSynchronized
