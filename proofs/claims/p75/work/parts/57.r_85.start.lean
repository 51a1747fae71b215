/-! the start: the constructors by v1, Strings, statics; the claim, but for what is checked -/
def lw_st0 : ri_S := (0, [(0, .inr (.inr (.inr ())))], [], [], [], 0, 0)
def lw_lo1 (sk : List ri_V) (lo : List (Nat × ri_V)) : Bool := match sk, ri_key lo 0, ri_key lo 1, ri_key lo 2, ri_key lo 3 with
  | [], some (.inr (.inr (.inr _))), some (.inr (.inr (.inl (some a)))), some (.inr (.inr (.inl (some b)))), some (.inl n) => Nat.beq a 0 && (Nat.beq b 106 && (decide (n.1 = 0) && decide (n.2.1 = 0)))
  | _, _, _, _, _ => false
def lw_chk1 (t : ri_S) : Bool := match t with
  | (pc, lo, sk, hp, _, cs, ss) => Nat.beq pc 18 && (Nat.beq cs 172 && (Nat.beq ss 8065 && (bg_L 0 hp gi_h && (bg_L 0 hp hp_S && lw_lo1 sk lo))))
def lw_v1 : Bool := match ri_runS (fun pc => Nat.beq pc 18) ct_law (ri_step 10 none false 4 600000 7302250 (ri_callT 12)) 100000 lw_st0 with
  | none => false
  | some sts => sts.all lw_chk1
theorem lwv1 : lw_v1 = true := by decide +kernel
theorem lwF0 : rj_chL [] rj_en0 hp_S ([], []) lw_F = true := by decide +kernel
theorem lwE0 : rj_chL [] rj_en0 hp_S ([], []) (lw_E.flatMap lw_pf) = true := by decide +kernel
def lw_tm (i : Nat) : Term := match st_tb[i]? with
  | some r => .string r.1 r.2.1
  | none => .string "" 0
theorem fl_ex : ∀ i, i < 13 → Cond.exactly (lw_tm i) "java/lang/String" ∈ flatC (Jvm.Cond.and given_1 narrow_1) := by decide +kernel
theorem fl_co : ∀ i, i < 13 → Cond.eq (.field (lw_tm i) "java/lang/String" "coder" "B") (.int 0) ∈ flatC (Jvm.Cond.and given_1 narrow_1) := by decide +kernel
theorem fl_ar : ∀ i, i < 13 → Cond.arrayOf (.field (lw_tm i) "java/lang/String" "value" "[B") .byte ∈ flatC (Jvm.Cond.and given_1 narrow_1) := by decide +kernel
theorem fl_le : ∀ i, i < 13 → Cond.eq (.length (.field (lw_tm i) "java/lang/String" "value" "[B")) (.int (Int32.ofNat (st_len.getD i 0))) ∈ flatC (Jvm.Cond.and given_1 narrow_1) := by decide +kernel
theorem fl_el : ∀ i, i < 13 → ∀ j, j < st_len.getD i 0 → Cond.eq (.elem (.field (lw_tm i) "java/lang/String" "value" "[B") (.int (Int32.ofNat j))) (.int ((st_byt.getD i []).getD j 0)) ∈ flatC (Jvm.Cond.and given_1 narrow_1) := by decide +kernel
theorem fl_ne0 : ∀ j, j < 13 → 0 < j → ((flatC (Jvm.Cond.and given_1 narrow_1))[[0, 150, 88, 89, 90, 91, 92, 106, 118, 133, 165, 183, 202].getD j 0]? = some (Cond.not (Cond.eq (lw_tm 0) (lw_tm j))) ∨ (flatC (Jvm.Cond.and given_1 narrow_1))[[0, 150, 88, 89, 90, 91, 92, 106, 118, 133, 165, 183, 202].getD j 0]? = some (Cond.not (Cond.eq (lw_tm j) (lw_tm 0)))) := by decide +kernel
theorem fl_ne1 : ∀ j, j < 13 → 1 < j → ((flatC (Jvm.Cond.and given_1 narrow_1))[[0, 0, 145, 146, 147, 148, 149, 151, 152, 153, 169, 187, 206].getD j 0]? = some (Cond.not (Cond.eq (lw_tm 1) (lw_tm j))) ∨ (flatC (Jvm.Cond.and given_1 narrow_1))[[0, 0, 145, 146, 147, 148, 149, 151, 152, 153, 169, 187, 206].getD j 0]? = some (Cond.not (Cond.eq (lw_tm j) (lw_tm 1)))) := by decide +kernel
theorem fl_ne2 : ∀ j, j < 13 → 2 < j → ((flatC (Jvm.Cond.and given_1 narrow_1))[[0, 0, 0, 47, 55, 66, 77, 101, 113, 128, 160, 178, 197].getD j 0]? = some (Cond.not (Cond.eq (lw_tm 2) (lw_tm j))) ∨ (flatC (Jvm.Cond.and given_1 narrow_1))[[0, 0, 0, 47, 55, 66, 77, 101, 113, 128, 160, 178, 197].getD j 0]? = some (Cond.not (Cond.eq (lw_tm j) (lw_tm 2)))) := by decide +kernel
theorem fl_ne3 : ∀ j, j < 13 → 3 < j → ((flatC (Jvm.Cond.and given_1 narrow_1))[[0, 0, 0, 0, 56, 67, 78, 102, 114, 129, 161, 179, 198].getD j 0]? = some (Cond.not (Cond.eq (lw_tm 3) (lw_tm j))) ∨ (flatC (Jvm.Cond.and given_1 narrow_1))[[0, 0, 0, 0, 56, 67, 78, 102, 114, 129, 161, 179, 198].getD j 0]? = some (Cond.not (Cond.eq (lw_tm j) (lw_tm 3)))) := by decide +kernel
theorem fl_ne4 : ∀ j, j < 13 → 4 < j → ((flatC (Jvm.Cond.and given_1 narrow_1))[[0, 0, 0, 0, 0, 68, 79, 103, 115, 130, 162, 180, 199].getD j 0]? = some (Cond.not (Cond.eq (lw_tm 4) (lw_tm j))) ∨ (flatC (Jvm.Cond.and given_1 narrow_1))[[0, 0, 0, 0, 0, 68, 79, 103, 115, 130, 162, 180, 199].getD j 0]? = some (Cond.not (Cond.eq (lw_tm j) (lw_tm 4)))) := by decide +kernel
theorem fl_ne5 : ∀ j, j < 13 → 5 < j → ((flatC (Jvm.Cond.and given_1 narrow_1))[[0, 0, 0, 0, 0, 0, 80, 104, 116, 131, 163, 181, 200].getD j 0]? = some (Cond.not (Cond.eq (lw_tm 5) (lw_tm j))) ∨ (flatC (Jvm.Cond.and given_1 narrow_1))[[0, 0, 0, 0, 0, 0, 80, 104, 116, 131, 163, 181, 200].getD j 0]? = some (Cond.not (Cond.eq (lw_tm j) (lw_tm 5)))) := by decide +kernel
theorem fl_ne6 : ∀ j, j < 13 → 6 < j → ((flatC (Jvm.Cond.and given_1 narrow_1))[[0, 0, 0, 0, 0, 0, 0, 105, 117, 132, 164, 182, 201].getD j 0]? = some (Cond.not (Cond.eq (lw_tm 6) (lw_tm j))) ∨ (flatC (Jvm.Cond.and given_1 narrow_1))[[0, 0, 0, 0, 0, 0, 0, 105, 117, 132, 164, 182, 201].getD j 0]? = some (Cond.not (Cond.eq (lw_tm j) (lw_tm 6)))) := by decide +kernel
theorem fl_ne7 : ∀ j, j < 13 → 7 < j → ((flatC (Jvm.Cond.and given_1 narrow_1))[[0, 0, 0, 0, 0, 0, 0, 0, 119, 134, 166, 184, 203].getD j 0]? = some (Cond.not (Cond.eq (lw_tm 7) (lw_tm j))) ∨ (flatC (Jvm.Cond.and given_1 narrow_1))[[0, 0, 0, 0, 0, 0, 0, 0, 119, 134, 166, 184, 203].getD j 0]? = some (Cond.not (Cond.eq (lw_tm j) (lw_tm 7)))) := by decide +kernel
theorem fl_ne8 : ∀ j, j < 13 → 8 < j → ((flatC (Jvm.Cond.and given_1 narrow_1))[[0, 0, 0, 0, 0, 0, 0, 0, 0, 135, 167, 185, 204].getD j 0]? = some (Cond.not (Cond.eq (lw_tm 8) (lw_tm j))) ∨ (flatC (Jvm.Cond.and given_1 narrow_1))[[0, 0, 0, 0, 0, 0, 0, 0, 0, 135, 167, 185, 204].getD j 0]? = some (Cond.not (Cond.eq (lw_tm j) (lw_tm 8)))) := by decide +kernel
theorem fl_ne9 : ∀ j, j < 13 → 9 < j → ((flatC (Jvm.Cond.and given_1 narrow_1))[[0, 0, 0, 0, 0, 0, 0, 0, 0, 0, 168, 186, 205].getD j 0]? = some (Cond.not (Cond.eq (lw_tm 9) (lw_tm j))) ∨ (flatC (Jvm.Cond.and given_1 narrow_1))[[0, 0, 0, 0, 0, 0, 0, 0, 0, 0, 168, 186, 205].getD j 0]? = some (Cond.not (Cond.eq (lw_tm j) (lw_tm 9)))) := by decide +kernel
theorem fl_ne10 : ∀ j, j < 13 → 10 < j → ((flatC (Jvm.Cond.and given_1 narrow_1))[[0, 0, 0, 0, 0, 0, 0, 0, 0, 0, 0, 188, 207].getD j 0]? = some (Cond.not (Cond.eq (lw_tm 10) (lw_tm j))) ∨ (flatC (Jvm.Cond.and given_1 narrow_1))[[0, 0, 0, 0, 0, 0, 0, 0, 0, 0, 0, 188, 207].getD j 0]? = some (Cond.not (Cond.eq (lw_tm j) (lw_tm 10)))) := by decide +kernel
theorem fl_ne11 : ∀ j, j < 13 → 11 < j → ((flatC (Jvm.Cond.and given_1 narrow_1))[[0, 0, 0, 0, 0, 0, 0, 0, 0, 0, 0, 0, 208].getD j 0]? = some (Cond.not (Cond.eq (lw_tm 11) (lw_tm j))) ∨ (flatC (Jvm.Cond.and given_1 narrow_1))[[0, 0, 0, 0, 0, 0, 0, 0, 0, 0, 0, 0, 208].getD j 0]? = some (Cond.not (Cond.eq (lw_tm j) (lw_tm 11)))) := by decide +kernel
theorem fl_ne12 : ∀ j, j < 13 → 12 < j → ((flatC (Jvm.Cond.and given_1 narrow_1))[[0, 0, 0, 0, 0, 0, 0, 0, 0, 0, 0, 0, 0].getD j 0]? = some (Cond.not (Cond.eq (lw_tm 12) (lw_tm j))) ∨ (flatC (Jvm.Cond.and given_1 narrow_1))[[0, 0, 0, 0, 0, 0, 0, 0, 0, 0, 0, 0, 0].getD j 0]? = some (Cond.not (Cond.eq (lw_tm j) (lw_tm 12)))) := by decide +kernel
theorem fl_lt : ∀ i, i < 13 → ∀ j, j < 13 → i < j → (Cond.not (Cond.eq (lw_tm i) (lw_tm j)) ∈ flatC (Jvm.Cond.and given_1 narrow_1) ∨ Cond.not (Cond.eq (lw_tm j) (lw_tm i)) ∈ flatC (Jvm.Cond.and given_1 narrow_1)) := by
  intro i hi j hj hij
  match i, hi with
  | 0, _ => exact (fl_ne0 j hj hij).imp List.mem_of_getElem? List.mem_of_getElem?
  | 1, _ => exact (fl_ne1 j hj hij).imp List.mem_of_getElem? List.mem_of_getElem?
  | 2, _ => exact (fl_ne2 j hj hij).imp List.mem_of_getElem? List.mem_of_getElem?
  | 3, _ => exact (fl_ne3 j hj hij).imp List.mem_of_getElem? List.mem_of_getElem?
  | 4, _ => exact (fl_ne4 j hj hij).imp List.mem_of_getElem? List.mem_of_getElem?
  | 5, _ => exact (fl_ne5 j hj hij).imp List.mem_of_getElem? List.mem_of_getElem?
  | 6, _ => exact (fl_ne6 j hj hij).imp List.mem_of_getElem? List.mem_of_getElem?
  | 7, _ => exact (fl_ne7 j hj hij).imp List.mem_of_getElem? List.mem_of_getElem?
  | 8, _ => exact (fl_ne8 j hj hij).imp List.mem_of_getElem? List.mem_of_getElem?
  | 9, _ => exact (fl_ne9 j hj hij).imp List.mem_of_getElem? List.mem_of_getElem?
  | 10, _ => exact (fl_ne10 j hj hij).imp List.mem_of_getElem? List.mem_of_getElem?
  | 11, _ => exact (fl_ne11 j hj hij).imp List.mem_of_getElem? List.mem_of_getElem?
  | 12, _ => exact (fl_ne12 j hj hij).imp List.mem_of_getElem? List.mem_of_getElem?
  | n + 13, hi => exact absurd hi (by omega)
theorem fl_ne : ∀ i, i < 13 → ∀ j, j < 13 → i ≠ j → (Cond.not (Cond.eq (lw_tm i) (lw_tm j)) ∈ flatC (Jvm.Cond.and given_1 narrow_1) ∨ Cond.not (Cond.eq (lw_tm j) (lw_tm i)) ∈ flatC (Jvm.Cond.and given_1 narrow_1)) := by
  intro i hi j hj hij
  rcases Nat.lt_or_gt_of_ne hij with h | h
  · exact fl_lt i hi j hj h
  · exact (fl_lt j hj i hi h).symm
theorem fl_cs : Cond.eq (.static "java/lang/String" "COMPACT_STRINGS" "Z") (.int 1) ∈ flatC (Jvm.Cond.and given_1 narrow_1) := by decide +kernel
theorem fl_si : Cond.isRef (.static "jdk/internal/util/Preconditions" "SIOOBE_FORMATTER" "Ljava/util/function/BiFunction;") ∈ flatC (Jvm.Cond.and given_1 narrow_1) := by decide +kernel
theorem st_lt : ∀ i, i < 13 → st_len.getD i 0 < 2 ^ 31 := by decide +kernel
theorem ml_cs : Cond.laysStatic "java/lang/String" "COMPACT_STRINGS" "Z" ∈ lw_tbl := List.mem_of_getElem? (i := 587) (by decide +kernel)
theorem ml_si : Cond.laysStatic "jdk/internal/util/Preconditions" "SIOOBE_FORMATTER" "Ljava/util/function/BiFunction;" ∈ lw_tbl := List.mem_of_getElem? (i := 603) (by decide +kernel)
theorem mi_cs : Cond.initialized "java/lang/String" ∈ lw_tbl := List.mem_of_getElem? (i := 124) (by decide +kernel)
theorem mi_si : Cond.initialized "jdk/internal/util/Preconditions" ∈ lw_tbl := List.mem_of_getElem? (i := 126) (by decide +kernel)
def st_pos : List Nat := [638, 650, 573, 630, 635, 636, 637, 643, 644, 645, 655, 656, 657]
theorem st_rows : ∀ r ∈ st_tb, lw_tbl[st_pos.getD r.2.2.2 0]? = some (.stringRef r.1 r.2.1 r.2.2.1) ∧ r.2.2.2 < 13 ∧ lw_tm r.2.2.2 = .string r.1 r.2.1 := by decide +kernel
theorem tb_ins {ci : Nat} {q : vw_C} (h : vwCl[ci]? = some q) : Cond.instantiable q.1 q.2.2 ∈ tb := by
  match ci, h with
  | 0, h => cases h; exact tb_mem 302 (by decide +kernel) rfl
  | 1, h => cases h; exact tb_mem 446 (by decide +kernel) rfl
  | 2, h => cases h; exact tb_mem 140 (by decide +kernel) rfl
  | 3, h => cases h; exact tb_mem 175 (by decide +kernel) rfl
  | 4, h => cases h; exact tb_mem 418 (by decide +kernel) rfl
  | 5, h => cases h; exact tb_mem 399 (by decide +kernel) rfl
  | 6, h => cases h; exact tb_mem 279 (by decide +kernel) rfl
  | 7, h => cases h; exact tb_mem 370 (by decide +kernel) rfl
  | 8, h => cases h; exact tb_mem 132 (by decide +kernel) rfl
  | 9, h => cases h; exact tb_mem 1301 (by decide +kernel) rfl
  | n + 10, h => simp [vwCl] at h
def lw_At (p : Program) (s : State) (m : MethodId) (meth : Method) (c : Code) (b L : Nat) (xs : Nat → Int32) : Prop :=
  p.tables.exec = Jvm.exec ∧ c.code = code ∧ meth.sig.returnType = ret ∧ c.maxLocals = 4 ∧ s.vm.findClass R_law = some m.cls ∧ (∀ w ∈ lw_tbl, w.before #[Value.ref b] s = true) ∧ va_X b L xs s s.heap ∧ b < s.heap.size ∧ meth.locks = false ∧ (Jvm.Cond.and given_1 narrow_1).before #[Value.ref b] s = true
theorem lw_St {s : State} {b : Nat} (hts : ∀ w ∈ lw_tbl, w.before #[Value.ref b] s = true) (hgv : (Jvm.Cond.and given_1 narrow_1).before #[Value.ref b] s = true) : ∃ adK : Nat → Nat, ∀ (as : List Nat) (q : Nat), rj_St (as, q, adK) (fun q => s.heap.size ≤ q) s s.heap := by
  have hf := flat_of_before _ hgv
  have hA : ∀ a : Nat, a < s.heap.size → ¬ (fun q => s.heap.size ≤ q) a := fun a h => Nat.not_le.mpr h
  obtain ⟨adK, adV, h1, h2⟩ := vk_Sof (args := #[Value.ref b]) (s := s) (N := 13) (tm := lw_tm) (len := st_len) (byt := st_byt) (A := fun q => s.heap.size ≤ q) st_lt (fun i hi => hf _ (fl_ex i hi)) (fun i hi => hf _ (fl_co i hi)) (fun i hi => hf _ (fl_ar i hi)) (fun i hi => hf _ (fl_le i hi)) (fun i hi j hj => hf _ (fl_el i hi j hj)) (fun i j hi hj hij => (fl_ne i hi j hj hij).imp (fun h => hf _ h) (fun h => hf _ h)) hA
  refine ⟨adK, fun as q => ⟨fun r hr => ?_, va_Zof (hts _ ml_cs) (hts _ mi_cs) (va_eqi (hf _ fl_cs)) hA, va_Zqof (hts _ ml_si) (hts _ mi_si) (hf _ fl_si) hA, adV, h1⟩⟩
  obtain ⟨g1, g2, g3⟩ := st_rows r hr
  have h3 := h2 r.2.2.2 g2
  rw [g3] at h3
  exact vk_R.of (hts _ (List.mem_of_getElem? g1)) h3
theorem whole_start (lwn : lw_n 80 = true) (lwk : ∀ k, k < 80 → lw_k k = true) {p : Program} {e : Env} {s : State} {m : MethodId} {below : List Frame} {meth : Method} {c : Code} (l : Launch) (hSm : ∀ S ∈ lw_sms, rj_sm l S) {b L : Nat} {xs : Nat → Int32} (hL : L ≤ 3072) (C0 : lw_At p s m meth c b L xs) : W p l e room_1 s m #[Value.ref b] below meth c s.heap [] 0 0 (lw_Z below #[Value.ref b] s) (entryFrame m ([Value.ref b] : List Value).toArray 4) := by
  obtain ⟨hx, hb, hr, hml, hown, hts, hX, hbl, hlk, hgv⟩ := C0
  have htb : ∀ w ∈ tb, w.before #[Value.ref b] s = true := fun w hw => hts w (List.mem_filter.mp hw).1
  have hk : ∀ ci : Nat, ∃ D : ClassId × (Nat → Nat), ∀ q, vwCl[ci]? = some q → u_Kn s q.1 q.2.1 q.2.2 D.1 D.2 := by
    intro ci
    cases hq : vwCl[ci]? with
    | none => exact ⟨(m.cls, fun _ => 0), fun q h => by cases h⟩
    | some q =>
      obtain ⟨cC, iS, hKn⟩ := u_known htb (tb_cl hq).2.2 (htb _ (tb_ins hq))
      exact ⟨(cC, iS), fun q' h => by cases h; exact hKn⟩
  obtain ⟨f, hf⟩ := Classical.axiomOfChoice hk
  have hK : va_K (fun c => (f c).1, fun c => (f c).2) vwCl [] s := ⟨fun c q h => hf c q h, fun k q h => by simp at h⟩
  obtain ⟨adK, hSt⟩ := lw_St hts hgv
  have X : ri_X p room_1 s m #[Value.ref b] meth c (fun c => (f c).1, fun c => (f c).2) (fun q => s.heap.size ≤ q) s.heap (fun _ => 0) b [] 4 code 10 none false 600000 7302250 :=
    ⟨hx, hb, hml, hown, htb, hK, fun q hq => hq, fun h => absurd h Bool.false_ne_true, trivial, ⟨rfl, rfl⟩, Nat.le_of_ble_eq_true rfl, Nat.le_of_ble_eq_true rfl⟩
  have hv := lwv1
  unfold lw_v1 at hv
  split at hv
  · cases hv
  · rename_i sts hrun
    have key := so_runS (l := l) (e := e) (below := below) (Q := lw_Z below #[Value.ref b] s) X (d := 12) (Nat.le_of_ble_eq_true rfl) (Nat.le_of_ble_eq_true rfl) (so_call l 12) cd_law 100000 _ _ hrun (fun t ht => by
      have hc := List.all_eq_true.mp hv t ht
      obtain ⟨pc, lo, sk, hp, E, cs, ss⟩ := t
      intro ls stk H locs ⟨ws, lv, hl, h1, h2, h3, hP, hD, hS, hE, hZ⟩
      dsimp only at h1 h2 h3 ⊢
      unfold lw_chk1 at hc
      simp only [Bool.and_eq_true] at hc
      obtain ⟨c1, c2, c3, c4, c5, c6⟩ := hc
      have c1 := Nat.eq_of_beq_eq_true c1
      have c2 := Nat.eq_of_beq_eq_true c2
      have c3 := Nat.eq_of_beq_eq_true c3
      subst c1 c2 c3
      unfold lw_lo1 at c6
      split at c6
      · rename_i u0 q0 q1 n e0 e1 e2 e3
        simp only [Bool.and_eq_true, decide_eq_true_eq] at c6
        obtain ⟨d1, d2, d3, d4⟩ := c6
        have d1 := Nat.eq_of_beq_eq_true d1
        have d2 := Nat.eq_of_beq_eq_true d2
        subst d1 d2
        match stk, h2 with
        | _ :: _, h2 => exact h2.elim
        | [], _ =>
          obtain ⟨x0, m0, g0⟩ := rk_2 h1 e0
          obtain ⟨x1, m1, g1⟩ := rk_2 h1 e1
          obtain ⟨x2, m2, g2⟩ := rk_2 h1 e2
          obtain ⟨x3, m3, g3⟩ := rk_2 h1 e3
          have g0 : x0 = .ref b := g0
          obtain ⟨a0, p0, r0⟩ := g1
          obtain ⟨a1, p1, r1⟩ := g2
          obtain ⟨k3, r3, n1, n2, -⟩ := g3
          have hk3 : k3 = nI 0 := Int32.toInt_inj.mp (by rw [nI_toInt (by decide)]; omega)
          subst g0 r0 r1 r3 hk3
          have X2 : rj_Xc p room_1 s m #[Value.ref b] c (fun c => (f c).1, fun c => (f c).2) (fun q => s.heap.size ≤ q) s.heap (ws.map Prod.fst, b, adK) 4 code 10 172 8065 :=
            ⟨hx, hb, hml, hown, htb, hK, fun q hq => hq, hSt _ _, ⟨Nat.le_of_ble_eq_true rfl, Nat.le_of_ble_eq_true rfl⟩, Nat.le_of_ble_eq_true rfl, Nat.le_of_ble_eq_true rfl⟩
          have iv := bg_hp (z := (ws.map Prod.fst, b, adK)) rfl h3 c4
          have is := bg_hp (z := (ws.map Prod.fst, b, adK)) rfl h3 c5
          have hK0 : rj_sat (fun _ => 0) (([], []) : rj_K) := ⟨fun n y hy => by simp at hy, fun _ h => absurd h List.not_mem_nil⟩
          refine law_loop lwn lwk X2 hSm hr hlk hX hbl rfl hL p0 p1 L 0 (by omega) (by omega) ls ws H locs ⟨iv, chL_ok (lo := []) (lv := []) is hK0 trivial en0_ok lwF0, fun e he => pf_ok (fun F hF => chL_ok (lo := []) (lv := []) is hK0 trivial en0_ok lwE0 F (List.mem_flatMap.mpr ⟨e, he, hF⟩)), rfl, hP, hD, hS, hl.1, hl.2.1, fun q hq => hl.2.2 q ?_⟩
          rcases List.mem_cons.mp hq with rfl | hq
          · exact m0
          · rcases List.mem_cons.mp hq with rfl | hq
            · exact m1
            · rcases List.mem_cons.mp hq with rfl | hq
              · exact m2
              · rw [List.mem_singleton.mp hq]
                exact m3
      · cases c6)
    have hP0 : va_P (fun c => (f c).1, fun c => (f c).2) vwCl [] s.heap := fun k q h => by simp at h
    have hD0 : va_D (fun q => s.heap.size ≤ q) [] := ⟨fun i j p q h => by simp at h, fun k q h => by simp at h⟩
    rw [lg_entry_eq]
    exact key _ _ _ _ ⟨[], lv_args 0 [Value.ref b], lv_entry [Value.ref b] (Nat.le_of_ble_eq_true rfl), ⟨⟨rfl, rfl⟩, trivial⟩, trivial, trivial, hP0, hD0, ⟨Nat.le_refl _, fun _ _ _ => rfl, fun _ h => absurd h List.not_mem_nil⟩, fun n y hy => by have hy : ([] : List (Int × Int))[n]? = some y := hy; simp at hy, List.prefix_refl _⟩
