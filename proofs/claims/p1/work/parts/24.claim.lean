/-! the claim out of the law's run (the frame of it is the kit's skeleton) -/
def R_law : String := "NorthRoadLaw"
def lw_P (b : Addr) (xs : List Int32) (args : Array Value) (s : State) : Prop := args = #[.ref b] ∧ s.IntsAt b xs ∧ xs.length ≤ 6 ∧ (Jvm.Cond.and given_1 narrow_1).before args s = true
def lw_Q (_ : Array Value) (s : State) (o : Outcome) (t : State) : Prop := o = .returned (some (.int 1)) ∧ Framed s o t [] 600000 7302249
def lw_Z (below : List Frame) (a : Array Value) (s : State) : State → Prop := fun t => ∃ o, t.status = .running ∧ Ended t below o ∧ lw_Q a s o t
/-- the law's own end, with 1 on the stack, nothing written that was there before, its room as the claim has it -/
theorem lw_ret {p : Program} {l : Launch} {e : Env} {s : State} {m : MethodId} {below : List Frame} {meth : Method} {c : Code} {b : Nat} (hx : p.tables.exec = Jvm.exec) (hb : c.code = code) (hr : meth.sig.returnType = ret) (hlocks : meth.locks = false) {pc : Nat} {H : Heap} {ls : Array Slot} (hdg : decode code pc = .ok (.ireturn, 1)) : W p l e room_1 s m #[Value.ref b] below meth c H [] 600000 7302249 (lw_Z below #[Value.ref b] s) (F0 m pc ls [.int 1]) := by
  intro T hT X
  obtain ⟨fs, hret, hrun, hended, hW, hframe⟩ := X.leave (v := some (.int 1)) (hlocks := hlocks) (fun h => by rw [hr] at h; cases h)
  have hmeth' : T.vm.method? m = some meth := X.method'
  refine ⟨T.setFrames fs, ?_, .returned (some (.int 1)), hrun, hended, rfl, ⟨_, rfl⟩, hW, hframe⟩
  jvm_step X.here [X.here.top, hx, hb, hdg, hmeth', hr, ret, narrow_b1]
  (try refine ⟨rfl, ?_⟩); (try refine ⟨rfl, ?_⟩)
  first | (intro acts; rw [hret _ acts rfl rfl rfl]) | rw [hret _ _ rfl rfl rfl]
  exact Steps.refl _
/-- what holds at the law's entry: the machine, the code, the tables' words (any of lw_tbl by 'hts w (by decide +kernel)'), the script of L ints xs at the cell b, what the Statement gives of the start (any of its parts by flat_of_before) -/
def lw_At (p : Program) (s : State) (m : MethodId) (meth : Method) (c : Code) (b L : Nat) (xs : Nat → Int32) : Prop :=
  p.tables.exec = Jvm.exec ∧ c.code = code ∧ meth.sig.returnType = ret ∧ c.maxLocals = 4 ∧ s.vm.findClass R_law = some m.cls ∧ (∀ w ∈ lw_tbl, w.before #[Value.ref b] s = true) ∧ va_X b L xs s s.heap ∧ b < s.heap.size ∧ meth.locks = false ∧ (Jvm.Cond.and given_1 narrow_1).before #[Value.ref b] s = true
theorem tg_ok : ∀ t ∈ tg1, t = 2207 ∨ ri_lawC t = true := List.forall_mem_cons.mpr ⟨Or.inr law_c2386, List.forall_mem_cons.mpr ⟨Or.inr law_c344, List.forall_mem_cons.mpr ⟨Or.inr law_c407, List.forall_mem_cons.mpr ⟨Or.inr law_c430, List.forall_mem_cons.mpr ⟨Or.inr law_c443, List.forall_mem_cons.mpr ⟨Or.inr law_c466, List.forall_mem_cons.mpr ⟨Or.inr law_c499, List.forall_mem_cons.mpr ⟨Or.inr law_c532, List.forall_mem_cons.mpr ⟨Or.inr law_c565, List.forall_mem_cons.mpr ⟨Or.inr law_c598, List.forall_mem_cons.mpr ⟨Or.inr law_c631, List.forall_mem_cons.mpr ⟨Or.inr law_c654, List.forall_mem_cons.mpr ⟨Or.inr law_c677, List.forall_mem_cons.mpr ⟨Or.inr law_c700, List.forall_mem_cons.mpr ⟨Or.inr law_c723, List.forall_mem_cons.mpr ⟨Or.inr law_c756, List.forall_mem_cons.mpr ⟨Or.inr law_c789, List.forall_mem_cons.mpr ⟨Or.inr law_c812, List.forall_mem_cons.mpr ⟨Or.inr law_c835, List.forall_mem_cons.mpr ⟨Or.inr law_c858, List.forall_mem_cons.mpr ⟨Or.inr law_c881, List.forall_mem_cons.mpr ⟨Or.inr law_c914, List.forall_mem_cons.mpr ⟨Or.inr law_c937, List.forall_mem_cons.mpr ⟨Or.inr law_c960, List.forall_mem_cons.mpr ⟨Or.inr law_c983, List.forall_mem_cons.mpr ⟨Or.inr law_c996, List.forall_mem_cons.mpr ⟨Or.inr law_c1009, List.forall_mem_cons.mpr ⟨Or.inr law_c1032, List.forall_mem_cons.mpr ⟨Or.inr law_c1065, List.forall_mem_cons.mpr ⟨Or.inr law_c1088, List.forall_mem_cons.mpr ⟨Or.inr law_c1111, List.forall_mem_cons.mpr ⟨Or.inr law_c1144, List.forall_mem_cons.mpr ⟨Or.inr law_c1167, List.forall_mem_cons.mpr ⟨Or.inr law_c1180, List.forall_mem_cons.mpr ⟨Or.inr law_c1203, List.forall_mem_cons.mpr ⟨Or.inr law_c1226, List.forall_mem_cons.mpr ⟨Or.inr law_c1239, List.forall_mem_cons.mpr ⟨Or.inr law_c1262, List.forall_mem_cons.mpr ⟨Or.inr law_c1275, List.forall_mem_cons.mpr ⟨Or.inr law_c1288, List.forall_mem_cons.mpr ⟨Or.inr law_c1301, List.forall_mem_cons.mpr ⟨Or.inr law_c1314, List.forall_mem_cons.mpr ⟨Or.inr law_c1337, List.forall_mem_cons.mpr ⟨Or.inr law_c1360, List.forall_mem_cons.mpr ⟨Or.inr law_c1383, List.forall_mem_cons.mpr ⟨Or.inr law_c1406, List.forall_mem_cons.mpr ⟨Or.inr law_c1439, List.forall_mem_cons.mpr ⟨Or.inr law_c1462, List.forall_mem_cons.mpr ⟨Or.inr law_c1485, List.forall_mem_cons.mpr ⟨Or.inr law_c1518, List.forall_mem_cons.mpr ⟨Or.inr law_c1551, List.forall_mem_cons.mpr ⟨Or.inr law_c1584, List.forall_mem_cons.mpr ⟨Or.inr law_c1617, List.forall_mem_cons.mpr ⟨Or.inr law_c1650, List.forall_mem_cons.mpr ⟨Or.inr law_c1693, List.forall_mem_cons.mpr ⟨Or.inr law_c1716, List.forall_mem_cons.mpr ⟨Or.inr law_c1739, List.forall_mem_cons.mpr ⟨Or.inr law_c1752, List.forall_mem_cons.mpr ⟨Or.inr law_c1785, List.forall_mem_cons.mpr ⟨Or.inr law_c1838, List.forall_mem_cons.mpr ⟨Or.inr law_c1871, List.forall_mem_cons.mpr ⟨Or.inr law_c1894, List.forall_mem_cons.mpr ⟨Or.inr law_c1927, List.forall_mem_cons.mpr ⟨Or.inr law_c1970, List.forall_mem_cons.mpr ⟨Or.inr law_c2003, List.forall_mem_cons.mpr ⟨Or.inr law_c2016, List.forall_mem_cons.mpr ⟨Or.inr law_c2029, List.forall_mem_cons.mpr ⟨Or.inr law_c2062, List.forall_mem_cons.mpr ⟨Or.inr law_c2105, List.forall_mem_cons.mpr ⟨Or.inr law_c2138, List.forall_mem_cons.mpr ⟨Or.inr law_c2161, List.forall_mem_cons.mpr ⟨Or.inr law_c2184, List.forall_mem_cons.mpr ⟨Or.inl rfl, List.forall_mem_cons.mpr ⟨Or.inr law_c2250, List.forall_mem_cons.mpr ⟨Or.inr law_c2323, fun _ h => absurd h List.not_mem_nil⟩⟩⟩⟩⟩⟩⟩⟩⟩⟩⟩⟩⟩⟩⟩⟩⟩⟩⟩⟩⟩⟩⟩⟩⟩⟩⟩⟩⟩⟩⟩⟩⟩⟩⟩⟩⟩⟩⟩⟩⟩⟩⟩⟩⟩⟩⟩⟩⟩⟩⟩⟩⟩⟩⟩⟩⟩⟩⟩⟩⟩⟩⟩⟩⟩⟩⟩⟩⟩⟩⟩⟩⟩⟩⟩
theorem tb_ins {ci : Nat} {q : vw_C} (h : vwCl[ci]? = some q) : Cond.instantiable q.1 q.2.2 ∈ tb := by
  match ci, h with
  | 0, h => cases h; exact tb_mem 302 (by decide +kernel) rfl
  | 1, h => cases h; exact tb_mem 446 (by decide +kernel) rfl
  | 2, h => cases h; exact tb_mem 140 (by decide +kernel) rfl
  | 3, h => cases h; exact tb_mem 175 (by decide +kernel) rfl
  | 4, h => cases h; exact tb_mem 418 (by decide +kernel) rfl
  | 5, h => cases h; exact tb_mem 399 (by decide +kernel) rfl
  | 6, h => cases h; exact tb_mem 279 (by decide +kernel) rfl
  | 7, h => cases h; exact tb_mem 370 (by decide +kernel) rfl
  | 8, h => cases h; exact tb_mem 132 (by decide +kernel) rfl
  | 9, h => cases h; exact tb_mem 1301 (by decide +kernel) rfl
  | n + 10, h => simp [vwCl] at h
theorem eok_set {σ : Nat → Int} {E : ri_E} {n : Nat} {x : Int × Int} (hE : ri_Eok σ E) (h1 : x.1 ≤ σ (n + 1)) (h2 : σ (n + 1) ≤ x.2) : ri_Eok σ (E.set n x) := by
  intro k q hk
  by_cases hkn : n = k
  · subst hkn
    rw [List.getElem?_set] at hk
    simp only [if_true] at hk
    split at hk
    · cases hk
      exact ⟨h1, h2⟩
    · cases hk
  · rw [List.getElem?_set_ne hkn] at hk
    exact hE k q hk
section LW1
variable {p : Program} {l : Launch} {e : Env} {s : State} {m : MethodId} {below : List Frame} {meth : Method} {c : Code} {D : va_G} {σ : Nat → Int} {b L : Nat}
theorem law_end {st : ri_S} (X : ri_X p room_1 s m #[Value.ref b] meth c D (fun q => s.heap.size ≤ q) s.heap σ b [] 4 code 10 (some L) false 600000 7302249) (hr : meth.sig.returnType = ret) (hlk : meth.locks = false) (h : ri_end1 st = true) : ri_W p l e room_1 s m #[Value.ref b] below meth c (lw_Z below #[Value.ref b] s) D (fun q => s.heap.size ≤ q) s.heap σ b [] 4 st := by
  obtain ⟨hx, hb, -⟩ := X
  obtain ⟨pc, lo, sk, hp, E, cs, ss⟩ := st
  intro ls stk H locs ⟨ws, lv, hl, h1, h2, h3, hP, hD, hS, hE, hZ⟩
  unfold ri_end1 at h
  split at h
  · rename_i x _ _ _ hat hst
    cases hst
    rw [Bool.and_eq_true, Bool.and_eq_true, decide_eq_true_eq] at h
    match stk, h2 with
    | [], h2 => exact h2.elim
    | _ :: _ :: _, h2 => exact h2.2.elim
    | [vx], ⟨⟨kx, ex, gx⟩, _⟩ =>
      subst ex
      have hbx := rn_iv hE gx
      rw [h.1] at hbx
      have hk : kx = 1 := Int32.toInt_inj.mp (show kx.toInt = 1 by have a1 := hbx.1; have a2 := hbx.2; dsimp only at a1 a2; omega)
      subst hk
      exact va_forget (fun q hq => hS.2.2 q hq) (W.widen (Nat.le_of_ble_eq_true h.2.1) (Nat.le_of_ble_eq_true h.2.2) (lw_ret hx hb hr hlk (at_dec cd_law hat)))
  · cases h
theorem law_from {st : ri_S} {sts : List ri_S} (X : ri_X p room_1 s m #[Value.ref b] meth c D (fun q => s.heap.size ≤ q) s.heap σ b [] 4 code 10 (some L) false 600000 7302249) (hr : meth.sig.returnType = ret) (hlk : meth.locks = false) (hrun : ri_run ct_law (ri_step 10 (some L) false 4 600000 7302249 (ri_callT 12)) 100000 st = some sts) (h : sts.all ri_end1 = true) : ri_W p l e room_1 s m #[Value.ref b] below meth c (lw_Z below #[Value.ref b] s) D (fun q => s.heap.size ≤ q) s.heap σ b [] 4 st :=
  so_run X (d := 12) (Nat.le_of_ble_eq_true rfl) (Nat.le_of_ble_eq_true rfl) (so_call l 12) cd_law 100000 _ sts hrun (fun t ht => law_end X hr hlk (List.all_eq_true.mp h t ht))
theorem law_ofL {L : Nat} (h : ri_law L 100000 = true) : ∃ sts, ri_run ct_law (ri_step 10 (some L) false 4 600000 7302249 (ri_callT 12)) 100000 (ri_st0 L) = some sts ∧ sts.all ri_end1 = true := by
  unfold ri_law at h
  split at h
  · cases h
  · rename_i sts hrun
    exact ⟨sts, hrun, h⟩
theorem law_ofC {t : Nat} (h : ri_lawC t = true) : ∃ sts, ri_run ct_law (ri_step 10 (some 6) false 4 600000 7302249 (ri_callT 12)) 100000 (st1 t) = some sts ∧ sts.all ri_end1 = true := by
  unfold ri_lawC at h
  split at h
  · cases h
  · rename_i sts hrun
    exact ⟨sts, hrun, h⟩
theorem law_ofE {t : Nat} {x : Int × Int} (h : ri_lawE t x = true) : ∃ sts, ri_run ct_law (ri_step 10 (some 6) false 4 600000 7302249 (ri_callT 12)) 100000 (st1E t x) = some sts ∧ sts.all ri_end1 = true := by
  unfold ri_lawE at h
  split at h
  · cases h
  · rename_i sts hrun
    exact ⟨sts, hrun, h⟩
theorem law_row (X : ri_X p room_1 s m #[Value.ref b] meth c D (fun q => s.heap.size ≤ q) s.heap σ b [] 4 code 10 (some 6) false 600000 7302249) (hr : meth.sig.returnType = ret) (hlk : meth.locks = false) : ri_W p l e room_1 s m #[Value.ref b] below meth c (lw_Z below #[Value.ref b] s) D (fun q => s.heap.size ≤ q) s.heap σ b [] 4 (st1 2207) := by
  intro ls stk H locs ⟨ws, lv, hl, h1, h2, h3, hP, hD, hS, hE, hZ⟩
  have hE : ri_Eok σ (List.replicate 6 (-2147483648, 2147483647)) := hE
  have hz := hE 1 (-2147483648, 2147483647) rfl
  have fin : ∀ x : Int × Int, ri_lawE 2207 x = true → x.1 ≤ σ 2 → σ 2 ≤ x.2 → W p l e room_1 s m #[Value.ref b] below meth c H locs 172 8065 (lw_Z below #[Value.ref b] s) (F0 m 2207 ls stk) := fun x hx a1 a2 => by
    obtain ⟨sts, r1, r2⟩ := law_ofE hx
    exact law_from (st := st1E 2207 x) X hr hlk r1 r2 ls stk H locs ⟨ws, lv, hl, h1, h2, h3, hP, hD, hS, eok_set (n := 1) hE a1 a2, hZ⟩
  dsimp only at hz
  by_cases c1 : σ 2 ≤ -1
  · exact fin _ law_ra hz.1 c1
  · by_cases c2 : σ 2 = 0
    · exact fin _ law_rb (by dsimp only; omega) (by dsimp only; omega)
    · by_cases c3 : σ 2 = 1
      · exact fin _ law_rc (by dsimp only; omega) (by dsimp only; omega)
      · by_cases c4 : σ 2 = 2
        · exact fin _ law_rd (by dsimp only; omega) (by dsimp only; omega)
        · by_cases c5 : σ 2 = 3
          · exact fin _ law_re (by dsimp only; omega) (by dsimp only; omega)
          · exact fin _ law_rf (by dsimp only; omega) hz.2
theorem law_six (X : ri_X p room_1 s m #[Value.ref b] meth c D (fun q => s.heap.size ≤ q) s.heap σ b [] 4 code 10 (some 6) false 600000 7302249) (hr : meth.sig.returnType = ret) (hlk : meth.locks = false) : ri_W p l e room_1 s m #[Value.ref b] below meth c (lw_Z below #[Value.ref b] s) D (fun q => s.heap.size ≤ q) s.heap σ b [] 4 (ri_st0 6) := by
  refine so_runS X (d := 12) (Nat.le_of_ble_eq_true rfl) (Nat.le_of_ble_eq_true rfl) (so_call l 12) cd_law 1000 _ _ (dd_opt_ok law_a) (fun t ht => ?_)
  obtain ⟨k, hk, rfl⟩ := List.mem_map.mp ht
  rcases tg_ok k hk with rfl | h
  · exact law_row X hr hlk
  · obtain ⟨sts, r1, r2⟩ := law_ofC h
    exact law_from X hr hlk r1 r2
end LW1
def ri_sig (xs : Nat → Int32) (n : Nat) : Int := match n with
  | 0 => 0
  | j + 1 => (xs j).toInt
theorem whole_start {p : Program} {e : Env} {s : State} {m : MethodId} {below : List Frame} {meth : Method} {c : Code} (l : Launch) (hflags : l.flags = flags0) {b L : Nat} {xs : Nat → Int32} (hL : L ≤ 6) (C0 : lw_At p s m meth c b L xs) : W p l e room_1 s m #[Value.ref b] below meth c s.heap [] 0 0 (lw_Z below #[Value.ref b] s) (entryFrame m ([Value.ref b] : List Value).toArray 4) := by
  obtain ⟨hx, hb, hr, hml, hown, hts, hX, hbl, hlk, -⟩ := C0
  have htb : ∀ w ∈ tb, w.before #[Value.ref b] s = true := fun w hw => hts w (List.mem_filter.mp hw).1
  have hk : ∀ ci : Nat, ∃ D : ClassId × (Nat → Nat), ∀ q, vwCl[ci]? = some q → u_Kn s q.1 q.2.1 q.2.2 D.1 D.2 := by
    intro ci
    cases hq : vwCl[ci]? with
    | none => exact ⟨(m.cls, fun _ => 0), fun q h => by cases h⟩
    | some q =>
      obtain ⟨cC, iS, hKn⟩ := u_known htb (tb_cl hq).2.2 (htb _ (tb_ins hq))
      exact ⟨(cC, iS), fun q' h => by cases h; exact hKn⟩
  obtain ⟨f, hf⟩ := Classical.axiomOfChoice hk
  have hK : va_K (fun c => (f c).1, fun c => (f c).2) vwCl [] s := ⟨fun c q h => hf c q h, fun k q h => by simp at h⟩
  have X : ri_X p room_1 s m #[Value.ref b] meth c (fun c => (f c).1, fun c => (f c).2) (fun q => s.heap.size ≤ q) s.heap (ri_sig xs) b [] 4 code 10 (some L) false 600000 7302249 :=
    ⟨hx, hb, hml, hown, htb, hK, fun q hq => hq, fun h => absurd h Bool.false_ne_true, ⟨xs, hX, hbl, Nat.not_le.mpr hbl, fun j _ => rfl⟩, ⟨rfl, rfl⟩, Nat.le_of_ble_eq_true rfl, Nat.le_of_ble_eq_true rfl⟩
  have key : ri_W p l e room_1 s m #[Value.ref b] below meth c (lw_Z below #[Value.ref b] s) (fun c => (f c).1, fun c => (f c).2) (fun q => s.heap.size ≤ q) s.heap (ri_sig xs) b [] 4 (ri_st0 L) := by
    match L, hL, X with
    | 0, _, X => obtain ⟨sts, r1, r2⟩ := law_ofL law_0; exact law_from X hr hlk r1 r2
    | 1, _, X => obtain ⟨sts, r1, r2⟩ := law_ofL law_1; exact law_from X hr hlk r1 r2
    | 2, _, X => obtain ⟨sts, r1, r2⟩ := law_ofL law_2; exact law_from X hr hlk r1 r2
    | 3, _, X => obtain ⟨sts, r1, r2⟩ := law_ofL law_3; exact law_from X hr hlk r1 r2
    | 4, _, X => obtain ⟨sts, r1, r2⟩ := law_ofL law_4; exact law_from X hr hlk r1 r2
    | 5, _, X => obtain ⟨sts, r1, r2⟩ := law_ofL law_5; exact law_from X hr hlk r1 r2
    | 6, _, X => exact law_six X hr hlk
    | n + 7, h, _ => exact absurd h (by omega)
  have hE0 : ri_Eok (ri_sig xs) (List.replicate L (-2147483648, 2147483647)) := by
    intro n x h
    rw [List.getElem?_replicate] at h
    split at h
    · cases h
      exact ⟨r32_lo _, r32_hi _⟩
    · cases h
  have hP0 : va_P (fun c => (f c).1, fun c => (f c).2) vwCl [] s.heap := fun k q h => by simp at h
  have hD0 : va_D (fun q => s.heap.size ≤ q) [] := ⟨fun i j p q h => by simp at h, fun k q h => by simp at h⟩
  rw [lg_entry_eq]
  exact key _ _ _ _ ⟨[], lv_args 0 [Value.ref b], lv_entry [Value.ref b] (Nat.le_of_ble_eq_true rfl), ⟨⟨rfl, rfl⟩, trivial⟩, trivial, trivial, hP0, hD0, ⟨Nat.le_refl _, fun _ _ _ => rfl, fun _ h => absurd h List.not_mem_nil⟩, hE0, List.prefix_refl _⟩
set_option maxHeartbeats 4000000 in
theorem lw_walk (l : Launch) (hflags : l.flags = flags0) (b : Addr) (xs : List Int32) : MetFree l x (headSpec (Jvm.Cond.code x code maxLocals ret :: tables_1) room_1) (lw_P b xs) (fun _ _ _ _ _ => True) lw_Q := by
  refine MetFree.of_bodyS (code := code) (maxLocals := maxLocals) (ret := ret) (by decide) ?_ ?_
  · intro args s m h hn
    obtain ⟨meth, c, h1, h2, h3, h4, h5, h6, -, -⟩ := Cond.code_spec hn (atoms_spec (ws := Jvm.Cond.code x code maxLocals ret :: tables_1) h _ List.mem_cons_self)
    exact ⟨meth, c, h1, h2, h3, h4, h5, h6⟩
  · intro p e s m args below meth c s₁ B hml0 hP _
    obtain ⟨rfl, hx, hbd, hgv⟩ := hP
    obtain ⟨scr, harrAt, hlist, hof, hsmall⟩ := hx
    obtain ⟨hcb, hkn, -, -⟩ := State.arrayAt?_spec harrAt
    have hown : s.vm.findClass R_law = some m.cls := findClass_of_methodNamed B.named
    have hts0 : ∀ c ∈ (Jvm.Cond.code x code maxLocals ret :: tables_1), c.before #[Value.ref b] s = true := atoms_spec (ws := Jvm.Cond.code x code maxLocals ret :: tables_1) B.pre
    have hts : ∀ w ∈ lw_tbl, w.before #[Value.ref b] s = true := k2_hts_sels lw_privs (fun w hw => hts0 w (List.mem_cons_of_mem _ hw)) lw_privs_ok
    have hml : c.maxLocals = 4 := B.maxLocals_eq (hts0 _ List.mem_cons_self)
    have X₀ : Stand p l e room_1 s m #[Value.ref b] below meth c s₁ [] 0 0 := Stand.of_body B
    have hh0 : s₁.heap = s.heap := by rw [B.state]; rfl
    have hsz : scr.slots.size = xs.length := by rw [← Array.length_toList, hlist, List.length_map]
    have hval : ∀ j : Nat, j < xs.length → scr.slots[j]? = some (.int (xs.getD j 0)) := fun j hj => by
      rw [← Array.getElem?_toList, hlist]
      simp [hj]
    have hbl : b < s.heap.size := (Array.getElem?_eq_some_iff.mp hcb).1
    have hX : va_X b xs.length (fun j => xs.getD j 0) s s.heap := ⟨scr, hcb, hof, hkn, hsz, hval⟩
    have K : W p l e room_1 s m #[Value.ref b] below meth c s₁.heap [] 0 0 (lw_Z below #[Value.ref b] s) (entryFrame m ([Value.ref b] : List Value).toArray 4) := by
      rw [hh0]
      exact whole_start l hflags hbd ⟨B.exec, B.bytes, B.returns, hml, hown, hts, hX, hbl, B.notSynchronized, hgv⟩
    obtain ⟨t, a1, o, b1, b2, b3⟩ := K s₁ rfl X₀
    exact ⟨t, o, a1, b1, b2, b3⟩
theorem lw_pre_spec {args : Array Value} {s : State} (h : (Jvm.Cond.and given_1 narrow_1).before args s = true) (hr : rest_1_c.before args s = true) : ∃ (b : Addr) (xs : List Int32), lw_P b xs args s := by
  have hs := flat_of_before _ h
  have hq := flat_of_before _ hr
  have hc : (Cond.count 1).before args s = true := hs _ (by decide +kernel)
  have harr : (Cond.arrayOf (.arg 0) .int).before args s = true := hs _ (by decide +kernel)
  have hle : (Cond.le (.length (.arg 0)) (.int 6)).before args s = true := hs _ (by decide +kernel)
  have hlen : (Cond.isInt (.length (.arg 0))).before args s = true := hq _ (by decide +kernel)
  have hall : (Cond.all (.arg 0) (.isInt (.elem (.arg 0) (.index 0)))).before args s = true := hq _ (by decide +kernel)
  obtain ⟨b, xs, hb, hx⟩ := State.ints_of_pre rfl harr hlen hall
  have hsm : xs.length < 2 ^ 31 := hx.choose_spec.2.2.2
  have hev : (Term.length (.arg 0)).eval args s none [] s = some (.int xs.length.toInt32) := hx.length_eval hb
  have hv := Cond.le_ints hev (show (Term.int 6).eval args s none [] s = some (.int 6) from rfl)
  have hd : xs.length.toInt32 ≤ 6 := by
    simpa [Cond.before, Cond.holds, hv] using hle
  have hN : xs.length ≤ 6 := (Int32.ofNat_le_ofNat hsm (by decide)).mp (show Int32.ofNat xs.length ≤ Int32.ofNat 6 from hd)
  exact ⟨b, xs, Cond.one_arg hc (show args[0]? = some (.ref b) from hb), hx, hN, h⟩
theorem lw_comes (l : Launch) (hflags : l.flags = flags0) : Comes l x (Jvm.Cond.code x code maxLocals ret :: tables_1) room_1 (fun tb e args s => Calls_1 tb e args s ∧ rest_1 tb e args s ∧ Pre_1 tb e args s)
    (fun _ _ args s o t => lw_Q args s o t) := by
  intro p e ha hc hk s m args below hf hfit hheap happ hpre
  obtain ⟨b, xs, hP⟩ := lw_pre_spec hpre.2.2 hpre.2.1
  obtain ⟨k, o, h1, h2, h3, hQ⟩ := lw_walk l hflags b xs p e ha hc hk s m args below hf ((Spec.applies_iff_loose hf).mp happ).1 hP trivial
  exact ⟨k, o, h1, h2, h3, hQ⟩
theorem lw_frame {s t : State} {o : Outcome} {args : Array Value} (h : Framed s o t [] 600000 7302249) :
    Framed s o t (fieldLocs frame_1_writes args s ++ arrayLocs frame_1_arrays args s ++ staticLocs frame_1_statics s) 600000 7302249 := h
theorem lw_limb (L : Cond) (hL : ∀ (args : Array Value) (s t : State), L.after args s (.returned (some (.int 1))) t = true) :
    ArmFor flags0 classFile x code maxLocals ret World_1 tables_1 room_1 Calls_1 rest_1 Pre_1
      (fun tb e a s o t => postC L tb e a s o t ∧ Framed s o t (fieldLocs frame_1_writes a s ++ arrayLocs frame_1_arrays a s ++ staticLocs frame_1_statics s) 600000 7302249) := by
  intro l hflags _ _ p e ha hc hk s m args below hf hfit hheap happ hpre
  obtain ⟨k, o, h1, h2, h3, rfl, hF⟩ := lw_comes l hflags p e ha hc hk s m args below hf hfit hheap happ hpre
  exact ⟨k, _, h1, h2, h3, hL args s _, lw_frame hF⟩
theorem i_vc : Claimed_1_1 ∧ Claimed_1_2 := ⟨lw_limb limb_1_1 (fun args s t => by simp [limb_1_1, Cond.after, Cond.holds, Cond.value]), lw_limb limb_1_2 (fun args s t => Cond.after_iff.mpr (by
  first | (rw [show limb_1_2 = Cond.eq .result (.int 1) from rfl, Cond.eq_ints (x := 1) (y := 1) rfl rfl]; simp; done) | (simp [limb_1_2, Cond.value, Term.eval]; done)))⟩
