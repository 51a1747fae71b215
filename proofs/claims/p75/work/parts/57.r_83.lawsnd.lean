/-! the law: its loop is sound -/
def R_law : String := "NorthRoadLaw"
def lw_P (b : Addr) (xs : List Int32) (args : Array Value) (s : State) : Prop := args = #[.ref b] ∧ s.IntsAt b xs ∧ xs.length ≤ 3072 ∧ (Jvm.Cond.and given_1 narrow_1).before args s = true
def lw_Q (_ : Array Value) (s : State) (o : Outcome) (t : State) : Prop := o = .returned (some (.int 1)) ∧ Framed s o t [] 600000 7302250
def lw_Z (below : List Frame) (a : Array Value) (s : State) : State → Prop := fun t => ∃ o, t.status = .running ∧ Ended t below o ∧ lw_Q a s o t
theorem lw_ret {p : Program} {l : Launch} {e : Env} {s : State} {m : MethodId} {below : List Frame} {meth : Method} {c : Code} {b : Nat} (hx : p.tables.exec = Jvm.exec) (hb : c.code = code) (hr : meth.sig.returnType = ret) (hlocks : meth.locks = false) {pc : Nat} {H : Heap} {ls : Array Slot} (hdg : decode code pc = .ok (.ireturn, 1)) : W p l e room_1 s m #[Value.ref b] below meth c H [] 600000 7302250 (lw_Z below #[Value.ref b] s) (F0 m pc ls [.int 1]) := by
  intro T hT X
  obtain ⟨fs, hret, hrun, hended, hW, hframe⟩ := X.leave (v := some (.int 1)) (hlocks := hlocks) (fun h => by rw [hr] at h; cases h)
  have hmeth' : T.vm.method? m = some meth := X.method'
  refine ⟨T.setFrames fs, ?_, .returned (some (.int 1)), hrun, hended, rfl, ⟨_, rfl⟩, hW, hframe⟩
  jvm_step X.here [X.here.top, hx, hb, hdg, hmeth', hr, ret, narrow_b1]
  (try refine ⟨rfl, ?_⟩); (try refine ⟨rfl, ?_⟩)
  first | (intro acts; rw [hret _ acts rfl rfl rfl]) | rw [hret _ _ rfl rfl rfl]
  exact Steps.refl _
def lw_s (L i : Nat) (xs : Nat → Int32) (k : Nat) : Int := match k with
  | 0 => (L : Int)
  | 1 => (i : Int)
  | k + 2 => (xs (i + k)).toInt
theorem K0_ok {L i : Nat} {xs : Nat → Int32} (hL : L ≤ 3072) (hi : i ≤ 3072) : rj_sat (lw_s L i xs) lw_K0 := by
  refine ⟨fun n y hy => ?_, fun _ h => absurd h List.not_mem_nil⟩
  match n, hy with
  | 0, hy =>
    have hy : some ((0 : Int), (3072 : Int)) = some y := hy
    cases hy
    exact ⟨by show (0 : Int) ≤ (L : Int); omega, by show (L : Int) ≤ 3072; omega⟩
  | 1, hy =>
    have hy : some ((0 : Int), (3072 : Int)) = some y := hy
    cases hy
    exact ⟨by show (0 : Int) ≤ (i : Int); omega, by show (i : Int) ≤ 3072; omega⟩
  | 2, hy => have hy : some ((-2147483648 : Int), (2147483647 : Int)) = some y := hy; cases hy; exact ⟨r32_lo _, r32_hi _⟩
  | 3, hy => have hy : some ((-2147483648 : Int), (2147483647 : Int)) = some y := hy; cases hy; exact ⟨r32_lo _, r32_hi _⟩
  | 4, hy => have hy : some ((-2147483648 : Int), (2147483647 : Int)) = some y := hy; cases hy; exact ⟨r32_lo _, r32_hi _⟩
  | 5, hy => have hy : some ((-2147483648 : Int), (2147483647 : Int)) = some y := hy; cases hy; exact ⟨r32_lo _, r32_hi _⟩
  | 6, hy => have hy : some ((-2147483648 : Int), (2147483647 : Int)) = some y := hy; cases hy; exact ⟨r32_lo _, r32_hi _⟩
  | 7, hy => have hy : some ((-2147483648 : Int), (2147483647 : Int)) = some y := hy; cases hy; exact ⟨r32_lo _, r32_hi _⟩
  | n + 8, hy =>
    have hy : (none : Option (Int × Int)) = some y := hy
    cases hy
theorem sc_nm {j : Nat} {f : rj_F} (h : [rj_nm 2, rj_nm 3, rj_nm 4, rj_nm 5, rj_nm 6, rj_nm 7][j]? = some f) : f = rj_nm (j + 2) ∧ j < 6 := by
  match j, h with
  | 0, h => cases h; exact ⟨rfl, by decide⟩
  | 1, h => cases h; exact ⟨rfl, by decide⟩
  | 2, h => cases h; exact ⟨rfl, by decide⟩
  | 3, h => cases h; exact ⟨rfl, by decide⟩
  | 4, h => cases h; exact ⟨rfl, by decide⟩
  | 5, h => cases h; exact ⟨rfl, by decide⟩
  | j + 6, h => simp at h
theorem scr0 {s : State} {A : Nat → Prop} {z : rj_Z} {b L i : Nat} {xs : Nat → Int32} (hX : va_X b L xs s s.heap) (hbl : b < s.heap.size) (hnA : ¬ A b) (hz : z.2.1 = b) (hL : L ≤ 3072) : rj_scr s A s.heap z 8 (lw_s L i xs) lw_sc := by
  refine ⟨L, xs, by rw [hz]; exact hX, by rw [hz]; exact hbl, by rw [hz]; exact hnA, ⟨wf_nm (by decide), ev_nm _ 0⟩, wf_nm (by decide), by omega, fun j f hf => ?_⟩
  obtain ⟨rfl, hj⟩ := sc_nm hf
  have e1 : rj_ev (lw_s L i xs) (rj_nm 1) = (i : Int) := ev_nm _ 1
  refine ⟨wf_nm (by omega), fun _ _ => ?_⟩
  rw [e1, show ((i : Int) + (j : Int)).toNat = i + j by omega]
  exact ev_nm _ (j + 2)
theorem lwpt_ok {σ : Nat → Int} {n : Nat} {lo : Int} {cnt : Nat} {K : rj_K} (hK : rj_sat σ K) : ∃ K1 ∈ lw_pt n lo cnt K, rj_sat σ K1 ∧ K1.1.length = K.1.length := by
  unfold lw_pt
  split
  · rename_i hn
    have hn : n < K.1.length := Nat.le_of_ble_eq_true hn
    have hw := wf_nm hn
    have hv : rj_n K.1.length σ (rj_nm n) (σ n) := ⟨hw, ev_nm σ n⟩
    by_cases h1 : σ n < lo
    · obtain ⟨K1, m1, k1, l1⟩ := tst_ok hK .lt hw (wf_k (c := lo)) (by rw [ev_nm, ev_k]; exact h1)
      exact ⟨K1, List.mem_append_left _ m1, k1, l1⟩
    · by_cases h2 : lo + (cnt : Int) ≤ σ n
      · obtain ⟨K1, m1, k1, l1⟩ := tst_ok hK .ge hw (wf_k (c := lo + (cnt : Int))) (by rw [ev_nm, ev_k]; exact h2)
        exact ⟨K1, List.mem_append_right _ (List.mem_append_left _ m1), k1, l1⟩
      · obtain ⟨K1, m1, k1, l1⟩ := pts_ok hK hv cnt lo (by omega) (by omega)
        exact ⟨K1, List.mem_append_right _ (List.mem_append_right _ m1), k1, l1⟩
  · exact ⟨K, List.mem_singleton.mpr rfl, hK, rfl⟩
theorem lwsp_ok {σ : Nat → Int} : ∀ (ps : List (Nat × Int × Nat)) {ks : List rj_K} {K : rj_K}, K ∈ ks → rj_sat σ K → ∃ K1 ∈ lw_sp ps ks, rj_sat σ K1 ∧ K1.1.length = K.1.length
  | [], ks, K, hm, hK => ⟨K, hm, hK, rfl⟩
  | (n, lo, cnt) :: r, ks, K, hm, hK => by
    obtain ⟨K1, m1, k1, l1⟩ := lwpt_ok (n := n) (lo := lo) (cnt := cnt) hK
    obtain ⟨K2, m2, k2, l2⟩ := lwsp_ok r (List.mem_flatMap.mpr ⟨K, hm, m1⟩) k1
    exact ⟨K2, m2, k2, l2.trans l1⟩
/-- what holds at the loop's head -/
def lw_I (s : State) (D : va_G) (z : rj_Z) (b a0 a1 i : Nat) (ls : Array Slot) (ws : va_W) (H : Heap) (locs : List Loc) : Prop :=
  rj_inv s z ws ∧ (∀ F ∈ lw_F, rj_fh (rj_sv (fun _ => 0) [] 0 [] ws) F) ∧ (∀ e ∈ lw_E, rj_wfv ws e.1 e.2.1 = rj_wev ws e.2.2.1 e.2.2.2) ∧ ws.map Prod.fst = z.1 ∧ va_P D vwCl ws H ∧ va_D (fun q => s.heap.size ≤ q) ws ∧ va_S (fun q => s.heap.size ≤ q) s.heap H locs ∧ lv_has ls 4 [(0, Value.ref b), (1, Value.ref a0), (2, Value.ref a1), (3, Value.int (nI i))]
theorem lok_ok {z : rj_Z} {N : Nat} {σ : Nat → Int} {lo : List (Nat × rj_V)} {lv : List (Nat × Value)} {ls : Array Slot} {b a0 a1 i : Nat} (hz : z.2.1 = b) (ha0 : z.1[0]? = some a0) (ha1 : z.1[106]? = some a1) (hi : i ≤ 3072) (hs : σ 1 = (i : Int)) (hl : lv_has ls 4 lv) (h : rj_lo z N σ lo lv) (hc : lw_lok lo = true) : lv_has ls 4 [(0, Value.ref b), (1, Value.ref a0), (2, Value.ref a1), (3, Value.int (nI i))] := by
  unfold lw_lok at hc
  split at hc
  · rename_i u q0 q1 f e0 e1 e2 e3
    rw [Bool.and_eq_true, Bool.and_eq_true] at hc
    obtain ⟨c1, c2, c3⟩ := hc
    have c1 := Nat.eq_of_beq_eq_true c1
    have c2 := Nat.eq_of_beq_eq_true c2
    have c3 := beq_ok c3
    subst c1
    subst c2
    subst c3
    obtain ⟨x0, m0, g0⟩ := rk_3 h e0
    obtain ⟨x1, m1, g1⟩ := rk_3 h e1
    obtain ⟨x2, m2, g2⟩ := rk_3 h e2
    obtain ⟨x3, m3, g3⟩ := rk_3 h e3
    have g0 : x0 = .ref z.2.1 := g0
    obtain ⟨y1, p1, r1⟩ := g1
    obtain ⟨y2, p2, r2⟩ := g2
    obtain ⟨k3, p3, r3⟩ := g3
    rw [ha0] at p1
    rw [ha1] at p2
    cases p1
    cases p2
    have r3 : (i : Int) = k3.toInt := by have := r3.2; rw [ev_nm, hs] at this; exact this
    have hk : k3 = nI i := Int32.toInt_inj.mp (by rw [nI_toInt (by omega)]; omega)
    rw [hz] at g0
    subst g0
    subst r1
    subst r2
    subst p3
    subst hk
    refine ⟨hl.1, hl.2.1, fun q hq => ?_⟩
    rcases List.mem_cons.mp hq with rfl | hq
    · exact hl.2.2 _ (rk_mem m0)
    · rcases List.mem_cons.mp hq with rfl | hq
      · exact hl.2.2 _ (rk_mem m1)
      · rcases List.mem_cons.mp hq with rfl | hq
        · exact hl.2.2 _ (rk_mem m2)
        · rw [List.mem_singleton.mp hq]
          exact hl.2.2 _ (rk_mem m3)
  · cases hc
section LW2
variable {p : Program} {l : Launch} {e : Env} {s : State} {m : MethodId} {below : List Frame} {meth : Method} {c : Code} {D : va_G} {z : rj_Z} {b L i a0 a1 : Nat} {xs : Nat → Int32}
theorem law_end {N0 : Nat} {τ : Nat → Int} {ws : va_W} {v : rj_S} (X : rj_Xc p room_1 s m #[Value.ref b] c D (fun q => s.heap.size ≤ q) s.heap z 4 code 10 172 8065) (hr : meth.sig.returnType = ret) (hlk : meth.locks = false) (hz : z.2.1 = b) (ha0 : z.1[0]? = some a0) (ha1 : z.1[106]? = some a1) (hi : i ≤ 3072) (hN : 8 ≤ N0) (ht : ∀ k, k < 8 → τ k = lw_s L i xs k) (hinv : rj_inv s z ws)
    (hback : i + 6 ≤ L → ∀ (ls : Array Slot) (ws : va_W) (H : Heap) (locs : List Loc), lw_I s D z b a0 a1 (i + 6) ls ws H locs → W p l e room_1 s m #[Value.ref b] below meth c H locs 172 8065 (lw_Z below #[Value.ref b] s) (F0 m 18 ls []))
    (h : lw_end v = true) : rj_W p l e room_1 s m #[Value.ref b] below meth c (lw_Z below #[Value.ref b] s) D (fun q => s.heap.size ≤ q) s.heap z N0 τ ws 4 172 8065 v := by
  obtain ⟨hx, hb, -⟩ := X
  obtain ⟨pc, lo, sk, hp, K, wr⟩ := v
  intro ls stk H locs ⟨σ, ws1, lv, hB, hl, h1, h2, h3⟩
  have hB0 := hB
  obtain ⟨b1, b2, b3, b4, b5, b6, b7, b8⟩ := hB0
  dsimp only at h1 h2 h3 b5 b7 b8 ⊢
  unfold lw_end at h
  dsimp only at h
  split at h
  · rename_i hpc
    have hpc := Nat.eq_of_beq_eq_true hpc
    subst hpc
    rw [Bool.and_eq_true, Bool.and_eq_true, Bool.and_eq_true, Bool.and_eq_true] at h
    obtain ⟨c1, c2, c3, c4, c5⟩ := h
    match stk, h2 with
    | _ :: _, h2 => exact h2.elim
    | [], _ =>
      have s0 : σ 0 = (L : Int) := (b6 0 (by omega)).trans (ht 0 (by omega))
      have s1 : σ 1 = (i : Int) := (b6 1 (by omega)).trans (ht 1 (by omega))
      have hle := le_ok b8 (g := rj_plus (rj_sub (rj_nm 1) (rj_nm 0)) 6) (wf_sub (wf_nm (by omega)) (wf_nm (by omega))) c4
      rw [ev_plus, ev_sub, ev_nm, ev_nm, s0, s1] at hle
      have hl4 := lok_ok hz ha0 ha1 hi s1 hl h1 c1
      refine lv_iinc hx hb (k := 3) (x := nI i) (v := nI (i + 6)) (show decode code 2386 = .ok (.iinc 3 6, 3) from at_dec cd_law rfl) hl4 rfl ?_ (by decide) rfl (fun ls2 hl2 => ?_)
      · have h6 : (Int32.ofInt 6).toInt = 6 := by decide
        refine Int32.toInt_inj.mp ?_
        rw [Int32.toInt_add, nI_toInt (by omega), h6, nI_toInt (by omega), bm_32 (by omega) (by omega)]
        omega
      · refine lv_goto hx hb (tgt := 18) (show decode code 2389 = .ok (.goto (-2371), 3) from at_dec cd_law rfl) (by decide) ?_
        refine hback (by omega) ls2 ws1 H locs ⟨wiL_ok h3 b8 b5 hinv c2, chL_ok (lo := []) (lv := []) h3 b8 trivial en0_ok c3, fun e he => pf_ok (fun F hF => chL_ok (lo := []) (lv := []) h3 b8 trivial en0_ok c5 F (List.mem_flatMap.mpr ⟨e, he, hF⟩)), b1, b2, b3, b4, hl2.1, hl2.2.1, fun q hq => hl2.2.2 q ?_⟩
        rcases List.mem_cons.mp hq with rfl | hq
        · exact List.mem_cons_of_mem _ List.mem_cons_self
        · rcases List.mem_cons.mp hq with rfl | hq
          · exact List.mem_cons_of_mem _ (List.mem_cons_of_mem _ List.mem_cons_self)
          · rcases List.mem_cons.mp hq with rfl | hq
            · exact List.mem_cons_of_mem _ (List.mem_cons_of_mem _ (List.mem_cons_of_mem _ List.mem_cons_self))
            · rw [List.mem_singleton.mp hq]
              exact List.mem_cons_self
  · rename_i f hpc
    rw [Bool.and_eq_true, Bool.and_eq_true, decide_eq_true_eq, decide_eq_true_eq] at h
    obtain ⟨c1, c2, c3⟩ := h
    have c1 := Nat.eq_of_beq_eq_true c1
    subst c1
    match stk, h2 with
    | [], h2 => exact h2.elim
    | _ :: _ :: _, h2 => exact h2.2.elim
    | [vx], ⟨⟨kx, ex, gx⟩, _⟩ =>
      subst ex
      have hbx := iv_ok b8.1 gx.1
      rw [gx.2, c2, c3] at hbx
      have hk : kx = 1 := Int32.toInt_inj.mp (show kx.toInt = 1 by omega)
      subst hk
      exact va_forget (fun q hq => b4.2.2 q hq) (W.widen (Nat.le_of_ble_eq_true rfl) (Nat.le_of_ble_eq_true rfl) (lw_ret hx hb hr hlk (show decode code 2393 = .ok (.ireturn, 1) from at_dec cd_law rfl)))
  · cases h
theorem law_iter (lwn : lw_n 80 = true) (lwk : ∀ k, k < 80 → lw_k k = true) (X : rj_Xc p room_1 s m #[Value.ref b] c D (fun q => s.heap.size ≤ q) s.heap z 4 code 10 172 8065) (hS : ∀ S ∈ lw_sms, rj_sm l S) (hr : meth.sig.returnType = ret) (hlk : meth.locks = false) (hX : va_X b L xs s s.heap) (hbl : b < s.heap.size) (hz : z.2.1 = b) (hL : L ≤ 3072) (ha0 : z.1[0]? = some a0) (ha1 : z.1[106]? = some a1) (hi : i ≤ 3072)
    (hback : i + 6 ≤ L → ∀ (ls : Array Slot) (ws : va_W) (H : Heap) (locs : List Loc), lw_I s D z b a0 a1 (i + 6) ls ws H locs → W p l e room_1 s m #[Value.ref b] below meth c H locs 172 8065 (lw_Z below #[Value.ref b] s) (F0 m 18 ls []))
    (ls : Array Slot) (ws : va_W) (H : Heap) (locs : List Loc) (hI : lw_I s D z b a0 a1 i ls ws H locs) : W p l e room_1 s m #[Value.ref b] below meth c H locs 172 8065 (lw_Z below #[Value.ref b] s) (F0 m 18 ls []) := by
  obtain ⟨i1, i2, i0, i3, i4, i5, i6, i7⟩ := hI
  have hK0 := K0_ok (xs := xs) hL hi
  unfold lw_n at lwn
  split at lwn
  · cases lwn
  · rename_i sts hAe
    have hAe0 := hAe
    have hlen := Nat.le_of_ble_eq_true lwn
    have hnk : ∀ t ∈ sts, (lw_sp (lw_pts t.1) [t.2.2.2.2.1]).all (lw_B1 t) = true := fun t ht => by
      obtain ⟨k, hk⟩ := List.getElem?_of_mem ht
      have hlt := (List.getElem?_eq_some_iff.mp hk).1
      have h1 := lwk k (by omega)
      unfold lw_k at h1
      rw [hAe0] at h1
      dsimp only at h1
      rw [hk] at h1
      exact h1
    unfold lw_A at hAe
    split at hAe
    · cases hAe
    · rename_i hpE KE hsm
      obtain ⟨τE, uE, gE⟩ := smL_ok lw_E (hp_ag (N := 0) (M := lw_K0.1.length) (σ := fun _ => 0) (τ := lw_s L i xs) (Nat.zero_le _) (fun n hn => absurd hn (Nat.not_lt_zero n)) i1) hK0 i0 hsm
      split at hAe
      · rename_i hp1 K1 has
        obtain ⟨hp2, K2, τ, eo, u0, g⟩ := asL_ok (lo := []) (lv := []) lw_F gE uE.2.2 trivial en0_ok i2 has
        have u := up_trans uE u0
        cases eo
        have hN : 8 ≤ K1.1.length := u.2.1
        have ht : ∀ k, k < 8 → τ k = lw_s L i xs k := fun k hk => u.1 k hk
        have hg : rj_good l 80 (rj_callT rj_lpf rj_spf lw_sms rj_nat 80) := callT_ok hS nat_ok 80
        have hn : rj_nok p l e room_1 s m #[Value.ref b] below meth c D (fun q => s.heap.size ≤ q) s.heap z 4 172 8065 code (fun _ _ => none) := fun Q N0 σ0 w0 idx st sts _ h _ => by cases h
        have hsc : rj_scr s (fun q => s.heap.size ≤ q) s.heap z K1.1.length τ lw_sc := scr_ag (N := 8) hN (fun n hn => ht n hn) (scr0 hX hbl (Nat.not_le.mpr hbl) hz hL)
        have stage : ∀ t ∈ sts, rj_W p l e room_1 s m #[Value.ref b] below meth c (lw_Z below #[Value.ref b] s) D (fun q => s.heap.size ≤ q) s.heap z K1.1.length τ ws 4 172 8065 t := by
          intro t htm ls1 stk1 H1 locs1 ⟨σ, ws1, lv, hB, hl, h1, h2, h3⟩
          obtain ⟨K2, m2, k2, l2⟩ := lwsp_ok (lw_pts t.1) (List.mem_singleton.mpr rfl) (Gb_K hB)
          have hb2 := List.all_eq_true.mp (hnk t htm) K2 m2
          unfold lw_B1 at hb2
          split at hb2
          · cases hb2
          · rename_i ends hrun2
            have u2 := up_len k2 l2
            exact to_run X (d := 80) (Nat.le_of_ble_eq_true rfl) (Nat.le_of_ble_eq_true rfl) hg hn cd_law 100000 _ _ ends K1.1.length τ ws i1 en0_ok hsc hrun2 (fun v hv => law_end X hr hlk hz ha0 ha1 hi hN ht i1 hback (List.all_eq_true.mp hb2 v hv)) ls1 stk1 H1 locs1 ⟨σ, ws1, lv, Gb_up hB u2, hl, lo_ag u2.2.1 u2.1 h1, sk_ag u2.2.1 u2.1 h2, hp_ag u2.2.1 u2.1 h3⟩
        have hlo : rj_lo z K1.1.length τ lw_lo [(0, Value.ref b), (1, Value.ref a0), (2, Value.ref a1), (3, Value.int (nI i))] := by
          refine ⟨⟨rfl, ?_⟩, ⟨rfl, a0, ha0, rfl⟩, ⟨rfl, a1, ha1, rfl⟩, ⟨rfl, nI i, rfl, wf_nm (by omega), ?_⟩, trivial⟩
          · show Value.ref b = .ref z.2.1
            rw [hz]
          · rw [ev_nm, ht 1 (by omega), nI_toInt (by omega)]
            rfl
        exact to_run X (d := 80) (Nat.le_of_ble_eq_true rfl) (Nat.le_of_ble_eq_true rfl) hg hn cd_law 1000 _ _ sts K1.1.length τ ws i1 en0_ok hsc hAe stage ls [] H locs ⟨τ, ws, _, ⟨i3, i4, i5, i6, un_refl ws [], fun _ _ => rfl, Nat.le_refl _, u.2.2⟩, i7, hlo, trivial, g⟩
      · cases hAe
theorem law_loop (lwn : lw_n 80 = true) (lwk : ∀ k, k < 80 → lw_k k = true) (X : rj_Xc p room_1 s m #[Value.ref b] c D (fun q => s.heap.size ≤ q) s.heap z 4 code 10 172 8065) (hS : ∀ S ∈ lw_sms, rj_sm l S) (hr : meth.sig.returnType = ret) (hlk : meth.locks = false) (hX : va_X b L xs s s.heap) (hbl : b < s.heap.size) (hz : z.2.1 = b) (hL : L ≤ 3072) (ha0 : z.1[0]? = some a0) (ha1 : z.1[106]? = some a1) :
    ∀ (n i : Nat), L ≤ i + n → i ≤ 3072 → ∀ (ls : Array Slot) (ws : va_W) (H : Heap) (locs : List Loc), lw_I s D z b a0 a1 i ls ws H locs → W p l e room_1 s m #[Value.ref b] below meth c H locs 172 8065 (lw_Z below #[Value.ref b] s) (F0 m 18 ls [])
  | 0, i, h1, h2 => law_iter lwn lwk X hS hr hlk hX hbl hz hL ha0 ha1 h2 (fun h => absurd h (by omega))
  | n + 1, i, h1, h2 => law_iter lwn lwk X hS hr hlk hX hbl hz hL ha0 ha1 h2 (fun h => law_loop lwn lwk X hS hr hlk hX hbl hz hL ha0 ha1 n (i + 6) (by omega) (by omega))
end LW2
