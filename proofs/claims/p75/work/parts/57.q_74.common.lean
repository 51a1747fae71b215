/-! common: by recursion; two steps halve -/
theorem rem_g {a b : Int32} (hb : b.toInt ≠ 0) (ha : 0 < b.toInt ∨ -2147483647 ≤ a.toInt) : (a - a / b * b).toInt = a.toInt.tmod b.toInt := by
  by_cases hp : 0 < b.toInt
  · exact rem_v hp
  · have ha : -2147483647 ≤ a.toInt := ha.resolve_left hp
    have l := r32_lo b
    have h := r32_hi a
    have hc : 0 < -b.toInt := by omega
    have em : a.toInt.tmod b.toInt = a.toInt.tmod (-b.toInt) := (Int.tmod_neg a.toInt b.toInt).symm
    have ed : a.toInt.tdiv b.toInt = -(a.toInt.tdiv (-b.toInt)) := by rw [Int.tdiv_neg, Int.neg_neg]
    obtain ⟨t1, t2, t3, t4⟩ := tm_b (a := a.toInt) hc
    rw [← em] at t1 t2 t3 t4
    have e := Int.mul_tdiv_add_tmod a.toInt b.toInt
    have ecomm : a.toInt.tdiv b.toInt * b.toInt = a.toInt - a.toInt.tmod b.toInt := by
      rw [Int.mul_comm]
      omega
    have rng : -2147483648 ≤ a.toInt - a.toInt.tmod b.toInt ∧ a.toInt - a.toInt.tmod b.toInt ≤ 2147483647 := by
      rcases Int.le_total 0 a.toInt with h0 | h0
      · have := t3 h0
        omega
      · have := t4 h0
        omega
    have dr : -2147483648 ≤ a.toInt.tdiv b.toInt ∧ a.toInt.tdiv b.toInt ≤ 2147483647 := by
      rw [ed]
      rcases Int.le_total 0 a.toInt with h0 | h0
      · rw [Int.tdiv_eq_ediv_of_nonneg h0]
        have h1 : 0 ≤ a.toInt / (-b.toInt) := Int.ediv_nonneg h0 (by omega)
        have h2 : a.toInt / (-b.toInt) ≤ a.toInt := Int.ediv_le_self _ h0
        omega
      · have e2 : a.toInt.tdiv (-b.toInt) = -((-a.toInt) / (-b.toInt)) := by
          rw [← Int.tdiv_eq_ediv_of_nonneg (show 0 ≤ -a.toInt by omega), Int.neg_tdiv, Int.neg_neg]
        have h1 : 0 ≤ (-a.toInt) / (-b.toInt) := Int.ediv_nonneg (by omega) (by omega)
        have h2 : (-a.toInt) / (-b.toInt) ≤ -a.toInt := Int.ediv_le_self _ (by omega)
        omega
    rw [Int32.toInt_sub, Int32.toInt_mul, Int32.toInt_div, bm_32 dr.1 dr.2, ecomm, bm_32 rng.1 rng.2]
    have f : a.toInt - (a.toInt - a.toInt.tmod b.toInt) = a.toInt.tmod b.toInt := by omega
    rw [f]
    exact bm_32 (by omega) (by omega)
theorem mod_half {a b : Nat} (h : 0 < a % b) (hb : 0 < b) : 2 * (b % (a % b)) < b := by
  have h1 := Nat.mod_lt a hb
  have h2 := Nat.mod_lt b h
  have h3 : b % (a % b) ≤ b - a % b := by
    rw [Nat.mod_eq_sub_mod (Nat.le_of_lt h1)]
    exact Nat.mod_le _ _
  omega
theorem lk_cm : rj_Lk yX9_common cX9_common 2 (some .int) RX9 376 2 := ⟨tb_mem 1910 (by decide +kernel) rfl, tb_mem 122 (by decide +kernel) rfl, tb_mem 1908 (by decide +kernel) rfl, by decide, by decide +kernel⟩
theorem lt_cm : Cond.static yX9_common ∈ tb := tb_mem 1909 (by decide +kernel) rfl
theorem neg_v {a : Int32} (h : -2147483647 ≤ a.toInt) : (-a).toInt = -a.toInt := by
  have h2 := r32_hi a
  rw [Int32.toInt_neg]
  exact bm_32 (by omega) (by omega)
theorem cm1 {l : Launch} {d : Nat} {a b : Int32} (h0 : b.toInt = 0 → a.toInt ≠ 0 ∧ -2147483647 ≤ a.toInt) (hrec : b.toInt ≠ 0 → (Met l yX9_common (Cond.code yX9_common cX9_common 2 (some .int) :: tb) (ri_rm d 0 0) (rj_Pn [.int b, .int (a - a / b * b)]) (rj_Qn (rj_ans 1 2147483647)) 0 0 (fun _ => False))) : Met l yX9_common (Cond.code yX9_common cX9_common 2 (some .int) :: tb) (ri_rm (d + 1) 0 0) (rj_Pn [.int a, .int b]) (rj_Qn (rj_ans 1 2147483647)) 0 0 (fun _ => False) := by
  refine Met.ofW (cc := cX9_common) (maxL := 2) (ret := some .int) (by decide) rfl ?_
  intro p e s m args below meth c s₁ B hml hP
  have hP : args = [Value.int a, Value.int b].toArray := hP
  subst hP
  have hx := B.exec
  have hb := B.bytes
  have hts0 := atoms_spec (ws := Cond.code yX9_common cX9_common 2 (some .int) :: tb) B.pre
  have hts : ∀ w ∈ tb, w.before _ s = true := fun w hw => hts0 w (List.mem_cons_of_mem _ hw)
  have hown := findClass_of_methodNamed B.named
  rw [lg_entry_eq]
  have hl := lv_entry (n := 2) [Value.int a, Value.int b] (by simp [lg_sl, Value.category])
  rw [show lv_args 0 [Value.int a, Value.int b] = [(0, Value.int a), (1, Value.int b)] from rfl] at hl
  generalize ((lg_sl [Value.int a, Value.int b] ++ List.replicate (2 - (lg_sl [Value.int a, Value.int b]).length) Slot.unset).toArray) = ls at hl ⊢
  have l0 : ls[0]? = some (.val (Value.int a)) := hl.2.2 (0, Value.int a) (by simp)
  have l1 : ls[1]? = some (.val (Value.int b)) := hl.2.2 (1, Value.int b) (by simp)
  have hls : c.maxLocals = ls.size := hml.trans hl.1.symm
  refine lv_iload_n hx hb (show decode cX9_common 0 = .ok (.iload_n 1, 1) by decide +kernel) rfl l1 (lv_if_ne hx hb (tgt := 17) (show decode cX9_common 1 = .ok (.ifCond .ne 16, 3) by decide +kernel) (by decide) (fun hb0 => ?_) (fun hb0 => ?_))
  · have hbn : b.toInt ≠ 0 := fun q => hb0 (Int32.toInt_inj.mp (q.trans z0.symm))
    refine lv_iload_n hx hb (show decode cX9_common 17 = .ok (.iload_n 1, 1) by decide +kernel) rfl l1 (lv_iload_n hx hb (show decode cX9_common 18 = .ok (.iload_n 0, 1) by decide +kernel) rfl l0 (lv_iload_n hx hb (show decode cX9_common 19 = .ok (.iload_n 1, 1) by decide +kernel) rfl l1 (lv_irem hx hb (show decode cX9_common 20 = .ok (.irem, 1) by decide +kernel) hb0 ?_)))
    refine nat_S (As := [.int b, .int (a - a / b * b)]) (rest := []) (dd := d) hx hb hls hown hts (hrec hbn) lk_cm lt_cm rfl Pn_blind (fun U hU hW => rfl) (Nat.le_refl _) (by show 8 + (2 + 11) + 64 * d ≤ 64 * (d + 1); omega) ⟨Nat.zero_le _, Nat.zero_le _⟩ (by simp) (show decode cX9_common 21 = .ok (.invokestatic 376, 3) by decide +kernel) (fun v hv => ?_)
    obtain ⟨k, rfl, k1, k2⟩ := hv
    exact W.iret hx hb B.returns (fun t ht hW => ⟨_, rfl, ⟨_, rfl, k1, k2⟩, ht, hW.alike⟩) (fun _ h => absurd h List.not_mem_nil) (show decode cX9_common 24 = .ok (.ireturn, 1) by decide +kernel) B.notSynchronized
  · have hbz : b.toInt = 0 := by rw [hb0]; exact z0
    obtain ⟨a1, a2⟩ := h0 hbz
    have a3 := r32_hi a
    refine lv_iload_n hx hb (show decode cX9_common 4 = .ok (.iload_n 0, 1) by decide +kernel) rfl l0 (lv_if_ge hx hb (tgt := 13) (show decode cX9_common 5 = .ok (.ifCond .ge 8, 3) by decide +kernel) (by decide) (fun ha => ?_) (fun ha => ?_))
    · have ha2 := Int32.le_iff_toInt_le.mp ha
      rw [z0] at ha2
      exact lv_iload_n hx hb (show decode cX9_common 13 = .ok (.iload_n 0, 1) by decide +kernel) rfl l0 (lv_goto hx hb (tgt := 24) (show decode cX9_common 14 = .ok (.goto 10, 3) by decide +kernel) (by decide) (W.iret hx hb B.returns (fun t ht hW => ⟨_, rfl, ⟨_, rfl, (by omega), a3⟩, ht, hW.alike⟩) (fun _ h => absurd h List.not_mem_nil) (show decode cX9_common 24 = .ok (.ireturn, 1) by decide +kernel) B.notSynchronized))
    · have ha2 : a.toInt < 0 := by have := Int32.lt_iff_toInt_lt.mp (Int32.not_le.mp ha); rw [z0] at this; exact this
      have hn := neg_v a2
      exact lv_iload_n hx hb (show decode cX9_common 8 = .ok (.iload_n 0, 1) by decide +kernel) rfl l0 (lv_ineg hx hb (show decode cX9_common 9 = .ok (.ineg, 1) by decide +kernel) (lv_goto hx hb (tgt := 24) (show decode cX9_common 10 = .ok (.goto 14, 3) by decide +kernel) (by decide) (W.iret hx hb B.returns (fun t ht hW => ⟨_, rfl, ⟨_, rfl, (by rw [hn]; omega), (by rw [hn]; omega)⟩, ht, hW.alike⟩) (fun _ h => absurd h List.not_mem_nil) (show decode cX9_common 24 = .ok (.ireturn, 1) by decide +kernel) B.notSynchronized)))
theorem cm_all {l : Launch} : ∀ (k : Nat) (a b : Int32), b.toInt.natAbs < 2 ^ k → (b.toInt = 0 → a.toInt ≠ 0 ∧ -2147483647 ≤ a.toInt) → -2147483647 ≤ b.toInt → (0 < b.toInt ∨ -2147483647 ≤ a.toInt) → Met l yX9_common (Cond.code yX9_common cX9_common 2 (some .int) :: tb) (ri_rm (2 * k + 2) 0 0) (rj_Pn [.int a, .int b]) (rj_Qn (rj_ans 1 2147483647)) 0 0 (fun _ => False)
  | 0, a, b, h1, h2, _, _ => cm1 h2 (fun hb => absurd (by omega) hb)
  | k + 1, a, b, h1, h2, h3, h4 => by
    have e1 : 2 * (k + 1) + 2 = (2 * k + 2) + 1 + 1 := by omega
    rw [e1]
    refine cm1 h2 (fun hb => ?_)
    have hr := rem_g hb h4
    generalize a - a / b * b = r at hr ⊢
    have hn : r.toInt.natAbs = a.toInt.natAbs % b.toInt.natAbs := by rw [hr, Int.natAbs_tmod]
    have hbp : 0 < b.toInt.natAbs := by omega
    have hb31 := r32_hi b
    have hlt := Nat.mod_lt a.toInt.natAbs hbp
    rw [← hn] at hlt
    refine cm1 (fun _ => ⟨hb, h3⟩) (fun hrn => ?_)
    have hr2 := rem_g (a := b) hrn (Or.inr h3)
    generalize b - b / r * r = q at hr2 ⊢
    have hq : q.toInt.natAbs = b.toInt.natAbs % r.toInt.natAbs := by rw [hr2, Int.natAbs_tmod]
    have hrp : 0 < a.toInt.natAbs % b.toInt.natAbs := by rw [← hn]; omega
    have hh := mod_half hrp hbp
    rw [← hn, ← hq] at hh
    have hpw : 2 ^ (k + 1) = 2 * 2 ^ k := by rw [Nat.pow_succ]; omega
    exact cm_all k r q (by omega) (fun _ => ⟨hrn, by omega⟩) (by omega) (Or.inr (by omega))
theorem met_fr {l : Launch} {y : MethodName} {ws : List Cond} {rm : Room} {P : Array Value → State → Prop} {Q : Array Value → State → Outcome → State → Prop} {mc ms : Nat} {fr fr' : Addr → Prop} (h : Met l y ws rm P Q mc ms fr) (hf : ∀ q, fr q → fr' q) : Met l y ws rm P Q mc ms fr' := by
  intro p e h1 h2 h3 s m args below h4 h5 h6 h7
  obtain ⟨n, oc, a1, a2, a3, a4, L, a5, a6⟩ := h p e h1 h2 h3 s m args below h4 h5 h6 h7
  exact ⟨n, oc, a1, a2, a3, a4, L, a5, fun q hq => hf _ (a6 q hq)⟩
set_option maxRecDepth 100000 in
theorem row_cm : ri_row 292 = some rw_X9_common := rfl
theorem sm_cm {l : Launch} : rj_sm l sm_226 := by
  intro y cd o mx rt n stt mc ms ct ps hrow D z ws sz vs
  have hrow : some rw_X9_common = some (y, cd, o, mx, rt, n, stt, mc, ms, ct, ps) := row_cm.symm.trans hrow
  unfold rw_X9_common at hrow
  cases hrow
  refine met_cases (fun ar U hP => ?_)
  have hP0 := hP
  obtain ⟨h1, h2, h3, h4, h5, h6, h7, h8, h9, h10⟩ := hP0
  match vs, h3 with
  | [], h3 => exact h3.elim
  | [_], h3 => exact h3.2.elim
  | _ :: _ :: _ :: _, h3 => exact h3.2.2.elim
  | [v1, v2], ⟨⟨a, ea, a1, a2⟩, ⟨b, eb, b1, b2⟩, _⟩ =>
    subst ea
    subst eb
    have hM := cm_all (l := l) 31 a b (by omega) (fun q => absurd q (by omega)) (by omega) (Or.inl (by omega))
    refine ⟨_, _, met_fr (fr' := ri_A z.1 sz) hM (fun _ h => h.elim), h1, fun oc t hQ => ?_⟩
    obtain ⟨v, q1, ⟨k, q2, q3, q4⟩, q5, q6⟩ := hQ
    refine ⟨⟨v, ws, q1, h2, ?_, by rw [q5]; exact h5, ⟨h6.1, fun i q hk => Or.inl (by rw [← h2]; exact List.mem_map.mpr ⟨q, List.mem_of_getElem? hk, rfl⟩)⟩, un_refl ws _, inv_moved q6 h8, q6, [], List.mem_singleton.mpr rfl, fun _ h => absurd h List.not_mem_nil⟩, by rw [q5]; exact Nat.le_refl _, fun q _ _ => by rw [q5]⟩
    rw [q2]
    exact ⟨k, rfl, q3, q4⟩
