/-! times: by recursion -/
theorem lk_tm : rj_Lk yX9_times cX9_times 1 (some .int) RX9 373 1 := ⟨tb_mem 1904 (by decide +kernel) rfl, tb_mem 122 (by decide +kernel) rfl, tb_mem 1902 (by decide +kernel) rfl, by decide, by decide +kernel⟩
theorem lt_tm : Cond.static yX9_times ∈ tb := tb_mem 1903 (by decide +kernel) rfl
theorem tm1 {l : Launch} {d : Nat} {a : Int32} {V V2 : Option Value → Prop} (hV : ∀ v, V v → ∃ k : Int32, v = some (.int k)) (h1 : V2 (some (.int (Int32.ofInt 1)))) (hmul : 2 ≤ a.toInt → ∀ k : Int32, V (some (.int k)) → V2 (some (.int (a * k)))) (hrec : 2 ≤ a.toInt → (Met l yX9_times (Cond.code yX9_times cX9_times 1 (some .int) :: tb) (ri_rm d 0 0) (rj_Pn [.int (a - Int32.ofInt 1)]) (rj_Qn V) 0 0 (fun _ => False))) : Met l yX9_times (Cond.code yX9_times cX9_times 1 (some .int) :: tb) (ri_rm (d + 1) 0 0) (rj_Pn [.int a]) (rj_Qn V2) 0 0 (fun _ => False) := by
  refine Met.ofW (cc := cX9_times) (maxL := 1) (ret := some .int) (by decide) rfl ?_
  intro p e s m args below meth c s₁ B hml hP
  have hP : args = [Value.int a].toArray := hP
  subst hP
  have hx := B.exec
  have hb := B.bytes
  have hts0 := atoms_spec (ws := Cond.code yX9_times cX9_times 1 (some .int) :: tb) B.pre
  have hts : ∀ w ∈ tb, w.before _ s = true := fun w hw => hts0 w (List.mem_cons_of_mem _ hw)
  have hown := findClass_of_methodNamed B.named
  rw [lg_entry_eq]
  have hl := lv_entry (n := 1) [Value.int a] (by simp [lg_sl, Value.category])
  rw [show lv_args 0 [Value.int a] = [(0, Value.int a)] from rfl] at hl
  generalize ((lg_sl [Value.int a] ++ List.replicate (1 - (lg_sl [Value.int a]).length) Slot.unset).toArray) = ls at hl ⊢
  have l0 : ls[0]? = some (.val (Value.int a)) := hl.2.2 (0, Value.int a) (by simp)
  have hls : c.maxLocals = ls.size := hml.trans hl.1.symm
  refine lv_iload_n hx hb (show decode cX9_times 0 = .ok (.iload_n 0, 1) by decide +kernel) rfl l0 (lv_iconst hx hb (v := Int32.ofInt 2) (show decode cX9_times 1 = .ok (.iconst 2, 1) by decide +kernel) rfl (lv_icmp_ge hx hb (tgt := 9) (show decode cX9_times 2 = .ok (.if_icmp .ge 7, 3) by decide +kernel) (by decide) (fun h2 => ?_) (fun _ => ?_)))
  · have h3 : 2 ≤ a.toInt := by have := Int32.le_iff_toInt_le.mp h2; rw [show (Int32.ofInt 2).toInt = 2 by decide] at this; exact this
    refine lv_iload_n hx hb (show decode cX9_times 9 = .ok (.iload_n 0, 1) by decide +kernel) rfl l0 (lv_iload_n hx hb (show decode cX9_times 10 = .ok (.iload_n 0, 1) by decide +kernel) rfl l0 (lv_iconst hx hb (v := Int32.ofInt 1) (show decode cX9_times 11 = .ok (.iconst 1, 1) by decide +kernel) rfl (lv_isub hx hb (show decode cX9_times 12 = .ok (.isub, 1) by decide +kernel) ?_)))
    refine nat_S (As := [.int (a - Int32.ofInt 1)]) (rest := [Value.int a]) (dd := d) hx hb hls hown hts (hrec h3) lk_tm lt_tm rfl Pn_blind (fun U hU hW => rfl) (Nat.le_refl _) (by show 8 + (1 + 11) + 64 * d ≤ 64 * (d + 1); omega) ⟨Nat.zero_le _, Nat.zero_le _⟩ (by simp [Value.category]) (show decode cX9_times 13 = .ok (.invokestatic 373, 3) by decide +kernel) (fun v hv => ?_)
    obtain ⟨k, rfl⟩ := hV v hv
    exact lv_imul hx hb (show decode cX9_times 16 = .ok (.imul, 1) by decide +kernel) (W.iret hx hb B.returns (fun t ht hW => ⟨_, rfl, hmul h3 k hv, ht, hW.alike⟩) (fun _ h => absurd h List.not_mem_nil) (show decode cX9_times 17 = .ok (.ireturn, 1) by decide +kernel) B.notSynchronized)
  · exact lv_iconst hx hb (show decode cX9_times 5 = .ok (.iconst 1, 1) by decide +kernel) rfl (lv_goto hx hb (tgt := 17) (show decode cX9_times 6 = .ok (.goto 11, 3) by decide +kernel) (by decide) (W.iret hx hb B.returns (fun t ht hW => ⟨_, rfl, h1, ht, hW.alike⟩) (fun _ h => absurd h List.not_mem_nil) (show decode cX9_times 17 = .ok (.ireturn, 1) by decide +kernel) B.notSynchronized))
theorem sub1_v {a : Int32} (h : 2 ≤ a.toInt) : (a - Int32.ofInt 1).toInt = a.toInt - 1 := by
  have h3 := r32_hi a
  rw [Int32.toInt_sub, show (Int32.ofInt 1).toInt = 1 by decide, bm_32 (by omega) (by omega)]
theorem tm_all {l : Launch} : ∀ (k : Nat) (a : Int32), a.toInt ≤ (k : Int) → Met l yX9_times (Cond.code yX9_times cX9_times 1 (some .int) :: tb) (ri_rm (k + 1) 0 0) (rj_Pn [.int a]) (rj_Qn (rj_ans (-2147483648) 2147483647)) 0 0 (fun _ => False)
  | 0, a, h => tm1 (V := rj_ans (-2147483648) 2147483647) (fun v hv => ⟨hv.choose, hv.choose_spec.1⟩) ⟨_, rfl, by decide, by decide⟩ (fun _ k _ => ⟨_, rfl, r32_lo _, r32_hi _⟩) (fun h2 => absurd h2 (by omega))
  | k + 1, a, h => tm1 (V := rj_ans (-2147483648) 2147483647) (fun v hv => ⟨hv.choose, hv.choose_spec.1⟩) ⟨_, rfl, by decide, by decide⟩ (fun _ k _ => ⟨_, rfl, r32_lo _, r32_hi _⟩) (fun h2 => tm_all k _ (by rw [sub1_v h2]; omega))
def tm_f : Nat → Int
  | 0 => 1
  | k + 1 => ((k : Int) + 1) * tm_f k
theorem tm_six : ∀ k, k < 7 → (1 ≤ tm_f k ∧ tm_f k ≤ 720) := by decide
theorem tm_fac {l : Launch} : ∀ (k : Nat) (a : Int32), k < 7 → a.toInt ≤ (k : Int) → Met l yX9_times (Cond.code yX9_times cX9_times 1 (some .int) :: tb) (ri_rm (k + 1) 0 0) (rj_Pn [.int a]) (rj_Qn (rj_ans 1 (tm_f k))) 0 0 (fun _ => False)
  | 0, a, hk, h => tm1 (V := rj_ans 1 1) (fun v hv => ⟨hv.choose, hv.choose_spec.1⟩) ⟨_, rfl, by decide, by decide⟩ (fun h2 => absurd h2 (by omega)) (fun h2 => absurd h2 (by omega))
  | k + 1, a, hk, h => tm1 (V := rj_ans 1 (tm_f k)) (fun v hv => ⟨hv.choose, hv.choose_spec.1⟩) ⟨_, rfl, by decide, by have := (tm_six (k + 1) hk).1; rw [show (Int32.ofInt 1).toInt = 1 by decide]; exact this⟩ (fun h2 q hq => by
      obtain ⟨q', e, q1, q2⟩ := hq
      cases e
      have t1 := tm_six (k + 1) hk
      have m1 : 1 * 1 ≤ a.toInt * q.toInt := Int.mul_le_mul (by omega) q1 (by decide) (by omega)
      have m2 : a.toInt * q.toInt ≤ ((k : Int) + 1) * tm_f k := Int.mul_le_mul (by omega) q2 (by omega) (by omega)
      have e1 : tm_f (k + 1) = ((k : Int) + 1) * tm_f k := rfl
      refine ⟨_, rfl, ?_, ?_⟩
      · rw [Int32.toInt_mul, bm_32 (by omega) (by omega)]
        omega
      · rw [Int32.toInt_mul, bm_32 (by omega) (by omega), e1]
        exact m2) (fun h2 => tm_fac k _ (by omega) (by rw [sub1_v h2]; omega))
set_option maxRecDepth 100000 in
theorem row_tm : ri_row 291 = some rw_X9_times := rfl
def sm_tm : rj_Sm := (291, [.inr (.inr (false, (-2147483648), 63, 0))], [], [], some (.inr (false, (-2147483648), 2147483647, 0)), [[]], [], [], 64)
def sm_tn : rj_Sm := (291, [.inr (.inr (false, (-2147483648), 6, 0))], [], [], some (.inr (false, 1, 720, 0)), [[]], [], [], 7)
theorem so_tm {l : Launch} : rj_sm l sm_tm := by
  intro y cd o mx rt n stt mc ms ct ps hrow D z ws sz vs
  have hrow : some rw_X9_times = some (y, cd, o, mx, rt, n, stt, mc, ms, ct, ps) := row_tm.symm.trans hrow
  unfold rw_X9_times at hrow
  cases hrow
  refine met_cases (fun ar U hP => ?_)
  have hP0 := hP
  obtain ⟨h1, h2, h3, h4, h5, h6, h7, h8, h9, h10⟩ := hP0
  match vs, h3 with
  | [], h3 => exact h3.elim
  | _ :: _ :: _, h3 => exact h3.2.elim
  | [v1], ⟨⟨a, ea, a1, a2⟩, _⟩ =>
    subst ea
    have hM := tm_all (l := l) 63 a (by omega)
    refine ⟨_, _, met_fr (fr' := ri_A z.1 sz) hM (fun _ h => h.elim), h1, fun oc t hQ => ?_⟩
    obtain ⟨v, q1, ⟨k, q2, q3, q4⟩, q5, q6⟩ := hQ
    refine ⟨⟨v, ws, q1, h2, ?_, by rw [q5]; exact h5, ⟨h6.1, fun i q hk => Or.inl (by rw [← h2]; exact List.mem_map.mpr ⟨q, List.mem_of_getElem? hk, rfl⟩)⟩, un_refl ws _, inv_moved q6 h8, q6, [], List.mem_singleton.mpr rfl, fun _ h => absurd h List.not_mem_nil⟩, by rw [q5]; exact Nat.le_refl _, fun q _ _ => by rw [q5]⟩
    rw [q2]
    exact ⟨k, rfl, q3, q4⟩
theorem so_tn {l : Launch} : rj_sm l sm_tn := by
  intro y cd o mx rt n stt mc ms ct ps hrow D z ws sz vs
  have hrow : some rw_X9_times = some (y, cd, o, mx, rt, n, stt, mc, ms, ct, ps) := row_tm.symm.trans hrow
  unfold rw_X9_times at hrow
  cases hrow
  refine met_cases (fun ar U hP => ?_)
  have hP0 := hP
  obtain ⟨h1, h2, h3, h4, h5, h6, h7, h8, h9, h10⟩ := hP0
  match vs, h3 with
  | [], h3 => exact h3.elim
  | _ :: _ :: _, h3 => exact h3.2.elim
  | [v1], ⟨⟨a, ea, a1, a2⟩, _⟩ =>
    subst ea
    have hM := tm_fac (l := l) 6 a (by decide) (by omega)
    refine ⟨_, _, met_fr (fr' := ri_A z.1 sz) hM (fun _ h => h.elim), h1, fun oc t hQ => ?_⟩
    obtain ⟨v, q1, ⟨k, q2, q3, q4⟩, q5, q6⟩ := hQ
    refine ⟨⟨v, ws, q1, h2, ?_, by rw [q5]; exact h5, ⟨h6.1, fun i q hk => Or.inl (by rw [← h2]; exact List.mem_map.mpr ⟨q, List.mem_of_getElem? hk, rfl⟩)⟩, un_refl ws _, inv_moved q6 h8, q6, [], List.mem_singleton.mpr rfl, fun _ h => absurd h List.not_mem_nil⟩, by rw [q5]; exact Nat.le_refl _, fun q _ _ => by rw [q5]⟩
    rw [q2]
    exact ⟨k, rfl, q3, Int.le_trans q4 (by decide)⟩
