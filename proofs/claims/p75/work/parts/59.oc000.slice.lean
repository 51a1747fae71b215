/-! summaries checked by slices -/
abbrev rj_Rn : Type := Option (Nat × Nat × Nat) → rj_S → Option (List rj_S)
/-- the body of a loop: to a cut, then those states from a on, n of them, of NN at most -/
def rj_bdy (one : rj_S → Option (List rj_S)) (run : rj_Rn) (cut md : Nat × Nat × Nat) (NN a n : Nat) (x1 : rj_S) : Option (List rj_S) := match one x1 with
  | none => none
  | some s1 => match rj_all (run (some cut)) s1 with
    | none => none
    | some F => match Nat.ble F.length NN with
      | false => none
      | true => rj_all (run (some md)) ((F.drop a).take n)
theorem all_app {g : rj_S → Option (List rj_S)} : ∀ {l1 l2 a b : List rj_S}, rj_all g l1 = some a → rj_all g l2 = some b → rj_all g (l1 ++ l2) = some (a ++ b)
  | [], l2, a, b, h1, h2 => by
    cases h1
    exact h2
  | x1 :: l1, l2, a, b, h1, h2 => by
    unfold rj_all at h1
    split at h1
    · cases h1
    · rename_i a1 ha1
      split at h1
      · cases h1
      · rename_i b1 hb1
        cases h1
        show rj_all g (x1 :: (l1 ++ l2)) = _
        unfold rj_all
        rw [ha1]
        dsimp only
        rw [all_app hb1 h2]
        dsimp only
        rw [List.append_assoc]
theorem bd_app {one : rj_S → Option (List rj_S)} {run : rj_Rn} {cut md : Nat × Nat × Nat} {NN a n1 n2 : Nat} {x1 : rj_S} {o1 o2 : List rj_S} (h1 : rj_bdy one run cut md NN a n1 x1 = some o1) (h2 : rj_bdy one run cut md NN (a + n1) n2 x1 = some o2) : rj_bdy one run cut md NN a (n1 + n2) x1 = some (o1 ++ o2) := by
  unfold rj_bdy at h1 h2 ⊢
  cases e1 : one x1 with
  | none => rw [e1] at h1; cases h1
  | some s1 =>
    rw [e1] at h1 h2
    dsimp only at h1 h2 ⊢
    cases e2 : rj_all (run (some cut)) s1 with
    | none => rw [e2] at h1; cases h1
    | some F =>
      rw [e2] at h1 h2
      dsimp only at h1 h2 ⊢
      cases e3 : Nat.ble F.length NN with
      | false => rw [e3] at h1; cases h1
      | true =>
        rw [e3] at h1 h2
        dsimp only at h1 h2 ⊢
        rw [List.take_add, List.drop_drop]
        exact all_app h1 h2
theorem ext_app {h : Nat} {wr md : rj_Wr} : ∀ (l1 l2 : List rj_S), rj_ext h wr md (l1 ++ l2) = rj_ext h wr md l1 ++ rj_ext h wr md l2
  | [], l2 => rfl
  | t :: l1, l2 => by
    have e : ∀ r, rj_ext h wr md (t :: r) = (match Nat.beq t.1 h with
      | true => rj_ext h wr md r
      | false => (t.1, t.2.1, t.2.2.1, t.2.2.2.1, t.2.2.2.2.1, rj_unw (rj_unw t.2.2.2.2.2 wr) md) :: rj_ext h wr md r) := fun r => rfl
    rw [List.cons_append, e, e]
    cases Nat.beq t.1 h with
    | true => exact ext_app l1 l2
    | false =>
      dsimp only
      rw [ext_app l1 l2, List.cons_append]
theorem loop_app {en : rj_En} {sp : rj_Lp} {b1 b2 b : rj_S → Option (List rj_S)} {st : rj_S} {e1 e2 : List rj_S} (h1 : rj_loop en sp b1 st = some e1) (h2 : rj_loop en sp b2 st = some e2) (hb : ∀ y o1 o2, b1 y = some o1 → b2 y = some o2 → b y = some (o1 ++ o2)) : rj_loop en sp b st = some (e1 ++ e2) := by
  obtain ⟨pc, lo, sk, hp, K, wr⟩ := st
  unfold rj_loop at h1 h2 ⊢
  dsimp only at h1 h2 ⊢
  cases q1 : rj_pick sp.2.2.1 lo with
  | none => rw [q1] at h1; cases h1
  | some kl =>
    rw [q1] at h1 h2
    dsimp only at h1 h2 ⊢
    cases q2 : (sk.isEmpty && (rj_wiL hp K wr && (rj_inA K sp.2.2.1 kl kl && (rj_chL kl en hp K sp.2.2.2.2.1 && (sp.2.2.2.1.all rj_wk && rj_qk0 K kl sp.2.2.2.2.2.2))))) with
    | false => rw [q2] at h1; cases h1
    | true =>
      rw [q2] at h1 h2
      dsimp only at h1 h2 ⊢
      cases q3 : rj_gen K sp.2.2.1 kl with
      | mk K1 lg =>
        rw [q3] at h1 h2
        dsimp only at h1 h2 ⊢
        cases q4 : rj_rdm (rj_hv hp sp.2.2.2.1) K1 sp.2.2.2.2.2.1.1 with
        | mk hp2 K2 =>
          rw [q4] at h1 h2
          dsimp only at h1 h2 ⊢
          cases q5 : rj_qkA K2 lg hp2 sp.2.2.2.2.2.2 with
          | none => rw [q5] at h1; cases h1
          | some hp3 =>
            rw [q5] at h1 h2
            dsimp only at h1 h2 ⊢
            cases q6 : rj_asL lg en sp.2.2.2.2.1 hp3 K2 with
            | none => rw [q6] at h1; cases h1
            | some oo =>
              rw [q6] at h1 h2
              cases oo with
              | none =>
                dsimp only at h1 h2 ⊢
                cases h1
                cases h2
                rfl
              | some hk =>
                obtain ⟨hp4, K4⟩ := hk
                dsimp only at h1 h2 ⊢
                cases q7 : rj_mf lg hp4 sp.2.2.2.2.2.1.1 with
                | none => rw [q7] at h1; cases h1
                | some fx =>
                  rw [q7] at h1 h2
                  dsimp only at h1 h2 ⊢
                  cases q8 : b1 (pc, lg, [], hp4, K4, []) with
                  | none => rw [q8] at h1; cases h1
                  | some o1 =>
                    cases q9 : b2 (pc, lg, [], hp4, K4, []) with
                    | none => rw [q9] at h2; cases h2
                    | some o2 =>
                      rw [q8] at h1
                      rw [q9] at h2
                      rw [hb _ _ _ q8 q9]
                      dsimp only at h1 h2 ⊢
                      split at h1
                      · cases h1
                      · rename_i c1
                        split at h2
                        · cases h2
                        · rename_i c2
                          rw [List.all_append, c1, c2]
                          cases h1
                          cases h2
                          rw [ext_app]
                          rfl
def rj_nice (S : rj_Sm) (ct : ri_T) (rt : Option FieldType) (en : rj_En) (one : rj_S → Option (List rj_S)) (run : rj_Rn) : Nat → rj_S → Prop
  | 0, t => rj_fin S ct rt en (run none t) = true
  | n + 1, t => (∃ md F, run (some md) t = some F ∧ ∀ u ∈ F, rj_nice S ct rt en one run n u) ∨ (∃ (sp : rj_Lp) (cut : Nat × Nat × Nat) (NN : Nat) (ext : List rj_S), rj_loop en sp (rj_bdy one run cut sp.1 NN 0 NN) t = some ext ∧ ∀ u ∈ ext, rj_nice S ct rt en one run n u) ∨ rj_nice S ct rt en one run n t
section RT14
variable {p : Program} {l : Launch} {e : Env} {R : Room} {s : State} {m : MethodId} {args : Array Value} {below : List Frame} {meth : Method} {c : Code} {Q : State → Prop} {D : va_G} {A : Nat → Prop} {H0 : Heap} {z : rj_Z} {N0 : Nat} {σ0 : Nat → Int} {w0 : va_W} {nL cs ss : Nat} {cc : ByteArray} {o : Nat}
theorem to_nice {S : rj_Sm} {d : Nat} {ct : ri_T} {rt : Option FieldType} {en : rj_En} {ar : Nat → Int} {w00 : va_W} {lps : List rj_Lp} {call : rj_Ca} {nat : Nat → rj_S → Option (List rj_S)} (X : rj_Xc p R s m args c D A H0 z nL cc o cs ss) (hd1 : d + 1 ≤ R.frames) (hd2 : 64 * (d + 1) ≤ R.locals) (hg : rj_good l d call) (hn : rj_nok p l e R s m args below meth c D A H0 z nL cs ss cc nat) (hcd : ri_cdok cc ct) (hI : rj_inv s z w0) (hen : rj_en N0 σ0 ar w00 0 en)
    (hfin : ∀ t, rj_fin S ct rt en (rj_run ct en lps (rj_step ct o none nL call nat) 100000 none t) = true → rj_W p l e R s m args below meth c Q D A H0 z N0 σ0 w0 nL cs ss t) :
    ∀ (n : Nat) (t : rj_S), rj_nice S ct rt en (rj_one ct (rj_step ct o none nL call nat)) (rj_run ct en lps (rj_step ct o none nL call nat) 100000) n t → rj_W p l e R s m args below meth c Q D A H0 z N0 σ0 w0 nL cs ss t
  | 0, t, h => hfin t h
  | n + 1, t, h => by
    rcases h with ⟨md, F, h1, h2⟩ | ⟨sp, cut, NN, ext, h1, h2⟩ | h
    · exact to_run (sc := none) X hd1 hd2 hg hn hcd 100000 (some md) t F N0 σ0 w0 hI hen trivial h1 (fun u hu => to_nice X hd1 hd2 hg hn hcd hI hen hfin n u (h2 u hu))
    · refine to_loop hI hen (fun y outs N σ w hN ha hw hb ho => ?_) h1 (fun u hu => to_nice X hd1 hd2 hg hn hcd hI hen hfin n u (h2 u hu))
      unfold rj_bdy at hb
      split at hb
      · cases hb
      · rename_i s1 hs1
        split at hb
        · cases hb
        · rename_i F hF
          split at hb
          · cases hb
          · rename_i hlen
            have hlen := Nat.le_of_ble_eq_true hlen
            rw [List.drop_zero, List.take_of_length_le hlen] at hb
            unfold rj_one at hs1
            cases hat : ri_at ct y.1 with
            | none =>
              rw [hat] at hs1
              cases hs1
            | some q =>
              obtain ⟨i, len⟩ := q
              rw [hat] at hs1
              dsimp only at hs1
              exact to_step (sc := none) X hw trivial hd1 hd2 hg hn hcd (at_dec hcd hat) hs1 (fun t ht => by
                obtain ⟨a, g1, g2⟩ := jall_sub hF t ht
                exact to_run (sc := none) X hd1 hd2 hg hn hcd 100000 (some cut) t a N σ w hw (en_ag hN ha hen) trivial g1 (fun u hu => by
                  obtain ⟨b, g3, g4⟩ := jall_sub hb u (g2 u hu)
                  exact to_run (sc := none) X hd1 hd2 hg hn hcd 100000 (some sp.1) u b N σ w hw (en_ag hN ha hen) trivial g3 (fun v hv => ho v (g4 v hv))))
    · exact to_nice X hd1 hd2 hg hn hcd hI hen hfin n t h
end RT14
theorem chk_nice {l : Launch} {S : rj_Sm} {d : Nat} {call : rj_Ca} {nat : rj_Nt} {lps : List rj_Lp} {en : rj_En} {av : List rj_V} {ks : List (List rj_H × rj_K)} {y : MethodName} {cd : ByteArray} {o mx : Nat} {rt : Option FieldType} {n : Nat} {stt : Bool} {mc ms : Nat} {ct : ri_T} {ps : List Nat} (hrow : ri_row S.1 = some (y, cd, o, mx, rt, n, stt, mc, ms, ct, ps)) (hd : S.2.2.2.2.2.2.2.2 = d + 1) (hg : rj_good l d call) (hnat : rj_natok l nat) (hbeg : rj_beg S = some (en, av, ks)) (hw : Nat.ble (rj_w av) mx = true) (nn : Nat) (h : ∀ k ∈ ks, rj_nice S ct rt en (rj_one ct (rj_step ct o none mx call (rj_nt nat d o))) (rj_run ct en lps (rj_step ct o none mx call (rj_nt nat d o)) 100000) nn (0, rj_nl k.2 (rj_args 0 av), [], k.1, k.2, [])) : rj_sm l S := by
  intro y' cd' o' mx' rt' n' stt' mc' ms' ct' ps' hrow' D z ws sz vs
  rw [hrow] at hrow'
  cases hrow'
  rw [hd]
  have hw := Nat.le_of_ble_eq_true hw
  obtain ⟨w1, w2, w3, w4, w5, w6, w7, w8, w9, w10, w11, w12⟩ := row_facts hrow
  refine Met.ofW (cc := cd) (maxL := mx) (ret := rt) w5 rfl ?_
  intro p e s m args below meth c s₁ B hml hP
  obtain ⟨rfl, q2, q3, rfl, q5, q6, q7, q8, q9, q10⟩ := hP
  have X := mk_X hrow B hml q7 q10
  have hD : va_D (ri_A z.1 s.heap.size) ws := ⟨q6.1, fun k q hk => Or.inl (by rw [← q2]; exact List.mem_map.mpr ⟨q, List.mem_of_getElem? hk, rfl⟩)⟩
  obtain ⟨k, hk, τ, g1, g2, g3, g4⟩ := beg_ok q8 q3 q9 hbeg
  have hlo := jargs_ok 0 g3
  rw [lg_entry_eq]
  refine to_nice X (d := d) (Nat.le_refl _) (Nat.le_refl _) hg (nt_ok hnat X) w11 q8 g4 (fun t0 hrun => ?_) nn _ (h k hk) _ _ _ _ ⟨τ, ws, lv_args 0 vs, ⟨q2, q5, hD, ⟨Nat.le_refl _, fun _ _ _ => rfl, fun _ h => absurd h List.not_mem_nil⟩, un_refl ws [], fun _ _ => rfl, Nat.le_refl _, g1⟩, lv_entry vs (by rw [jargs_len g3]; exact hw), nl_ok g1 hlo, trivial, g2⟩
  unfold rj_fin at hrun
  split at hrun
  · cases hrun
  · rename_i sts hr
    split at hrun
    · cases hrun
    · rename_i outs ho
      exact to_run (sc := none) X (d := d) (Nat.le_refl _) (Nat.le_refl _) hg (nt_ok hnat X) w11 100000 none _ sts k.2.1.length τ ws q8 g4 trivial hr (fun t ht => by
        obtain ⟨x, hx1, hx2⟩ := jouts_sub ho t ht
        have hend := List.all_eq_true.mp hrun x hx2
        unfold rj_end at hend
        rw [Bool.and_eq_true, Bool.and_eq_true, Bool.and_eq_true] at hend
        obtain ⟨e1, e2, e3, e4⟩ := hend
        obtain ⟨alt, e5, e6⟩ := List.any_eq_true.mp e4
        exact to_out X w11 B.returns B.notSynchronized (fun rv ws' τ' T hW a1 a2 a3 a4 a5 a6 a7 a8 a9 a10 => by
          have inv1 := wiL_ok a6 a4 a9 q8 e2
          have en1 := en_ag a3 a2 g4
          refine ⟨⟨rv, ws', rfl, a1, rok_ok a4 a5 e3, a7, a8, ⟨a9.1, fun q p0 p1 h0 h1 => ?_⟩, inv_moved hW.alike inv1, hW.alike, alt, e5, ?_⟩, a10⟩
          · exact un1_trans (un1_refl q [] p0.2) (a9.2 q p0 p1 h0 h1) (fun _ h => absurd h List.not_mem_nil) (subW_ok e1)
          · exact chL_ok (lo := []) (lv := []) (en := (en.1, en.2.1, rj_rf x.1)) a6 a4 trivial ⟨en1.1, en1.2.1, rf_ok a5⟩ e6) hx1)
/-! the slices as checks: at the top (T), in a loop (L) -/
def rj_slT (S : rj_Sm) (ct : ri_T) (rt : Option FieldType) (en : rj_En) (run : rj_Rn) (cut : Nat × Nat × Nat) (NN a n : Nat) (st0 : rj_S) : Bool := match run (some cut) st0 with
  | none => false
  | some F => Nat.ble F.length NN && ((F.drop a).take n).all (fun t => rj_fin S ct rt en (run none t))
def rj_slL (S : rj_Sm) (ct : ri_T) (rt : Option FieldType) (en : rj_En) (lps : List rj_Lp) (one : rj_S → Option (List rj_S)) (run : rj_Rn) (h : Nat) (cut : Nat × Nat × Nat) (NN a n : Nat) (st0 : rj_S) : Bool := match run (some (h, 0, 99999)) st0 with
  | none => false
  | some F => F.all (fun t => match Nat.beq t.1 h with
    | false => rj_fin S ct rt en (run none t)
    | true => match rj_flp lps t.1 t.2.1 with
      | none => false
      | some sp => match rj_loop en sp (rj_bdy one run cut sp.1 NN a n) t with
        | none => false
        | some ext => ext.all (fun u => rj_fin S ct rt en (run none u)))
theorem slT_ok {S : rj_Sm} {ct : ri_T} {rt : Option FieldType} {en : rj_En} {one : rj_S → Option (List rj_S)} {run : rj_Rn} {cut : Nat × Nat × Nat} {c M : Nat} {st0 : rj_S} (hc : 0 < c) (hM : 0 < M) (h : ∀ j, j < M → rj_slT S ct rt en run cut (c * M) (c * j) c st0 = true) : rj_nice S ct rt en one run 1 st0 := by
  have h0 := h 0 hM
  unfold rj_slT at h0
  split at h0
  · cases h0
  · rename_i F hF
    rw [Bool.and_eq_true] at h0
    have hlen := Nat.le_of_ble_eq_true h0.1
    refine Or.inl ⟨cut, F, hF, fun u hu => ?_⟩
    obtain ⟨i, hi⟩ := List.getElem?_of_mem hu
    have hlt := (List.getElem?_eq_some_iff.mp hi).1
    have hj : i / c < M := (Nat.div_lt_iff_lt_mul hc).mpr (by rw [Nat.mul_comm]; omega)
    have h1 := h (i / c) hj
    unfold rj_slT at h1
    rw [hF] at h1
    dsimp only at h1
    rw [Bool.and_eq_true] at h1
    refine List.all_eq_true.mp h1.2 u (List.mem_of_getElem? (i := i % c) ?_)
    rw [List.getElem?_take, if_pos (Nat.mod_lt i hc), List.getElem?_drop, Nat.div_add_mod]
    exact hi
theorem slL_ok {S : rj_Sm} {ct : ri_T} {rt : Option FieldType} {en : rj_En} {lps : List rj_Lp} {one : rj_S → Option (List rj_S)} {run : rj_Rn} {hh : Nat} {cut : Nat × Nat × Nat} {c M : Nat} {st0 : rj_S} (hM : 0 < M) (h : ∀ j, j < M → rj_slL S ct rt en lps one run hh cut (c * M) (c * j) c st0 = true) : rj_nice S ct rt en one run 2 st0 := by
  have h0 := h 0 hM
  unfold rj_slL at h0
  split at h0
  · cases h0
  · rename_i F hF
    refine Or.inl ⟨(hh, 0, 99999), F, hF, fun t ht => ?_⟩
    have ht0 := List.all_eq_true.mp h0 t ht
    split at ht0
    · exact Or.inr (Or.inr ht0)
    · rename_i hb
      split at ht0
      · cases ht0
      · rename_i sp hsp
        have key : ∀ k, k < M → ∃ ext, rj_loop en sp (rj_bdy one run cut sp.1 (c * M) 0 (c * (k + 1))) t = some ext ∧ ∀ u ∈ ext, rj_nice S ct rt en one run 0 u := by
          intro k
          induction k with
          | zero =>
            intro _
            split at ht0
            · cases ht0
            · rename_i ext hext
              exact ⟨ext, by rw [Nat.zero_add, Nat.mul_one]; exact hext, fun u hu => List.all_eq_true.mp ht0 u hu⟩
          | succ k ih =>
            intro hk
            obtain ⟨ext, e1, e2⟩ := ih (by omega)
            have h1 := h (k + 1) hk
            unfold rj_slL at h1
            rw [hF] at h1
            dsimp only at h1
            have h2 := List.all_eq_true.mp h1 t ht
            rw [hb] at h2
            dsimp only at h2
            rw [hsp] at h2
            dsimp only at h2
            split at h2
            · cases h2
            · rename_i ext2 hext2
              refine ⟨ext ++ ext2, ?_, fun u hu => ?_⟩
              · refine loop_app e1 hext2 (fun y o1 o2 a1 a2 => ?_)
                have a3 := bd_app (a := 0) (n1 := c * (k + 1)) (n2 := c) a1 (by rw [Nat.zero_add]; exact a2)
                rw [show c * (k + 1 + 1) = c * (k + 1) + c from Nat.mul_succ c (k + 1)]
                exact a3
              · rcases List.mem_append.mp hu with hu | hu
                · exact e2 u hu
                · exact List.all_eq_true.mp h2 u hu
        obtain ⟨ext, e1, e2⟩ := key (M - 1) (by omega)
        rw [show M - 1 + 1 = M by omega] at e1
        exact Or.inr (Or.inl ⟨sp, cut, c * M, ext, e1, e2⟩)
def rj_okT (S : rj_Sm) (sms : List rj_Sm) (cut : Nat × Nat × Nat) (NN k a n : Nat) : Bool := match ri_row S.1, S.2.2.2.2.2.2.2.2 with
  | some (_, _, o, mx, rt, _, _, _, _, ct, _), d + 1 => (match rj_beg S with
    | none => false
    | some (en, av, ks) => Nat.ble (rj_w av) mx && (match ks[k]? with
      | none => true
      | some q => rj_slT S ct rt en (rj_run ct en (rj_lpf S.1) (rj_step ct o none mx (rj_callT rj_lpf rj_spf sms rj_nat d) (rj_nt rj_nat d o)) 100000) cut NN a n (0, rj_nl q.2 (rj_args 0 av), [], q.1, q.2, [])))
  | _, _ => false
def rj_okL (S : rj_Sm) (sms : List rj_Sm) (hh : Nat) (cut : Nat × Nat × Nat) (NN k a n : Nat) : Bool := match ri_row S.1, S.2.2.2.2.2.2.2.2 with
  | some (_, _, o, mx, rt, _, _, _, _, ct, _), d + 1 => (match rj_beg S with
    | none => false
    | some (en, av, ks) => Nat.ble (rj_w av) mx && (match ks[k]? with
      | none => true
      | some q => rj_slL S ct rt en (rj_lpf S.1) (rj_one ct (rj_step ct o none mx (rj_callT rj_lpf rj_spf sms rj_nat d) (rj_nt rj_nat d o))) (rj_run ct en (rj_lpf S.1) (rj_step ct o none mx (rj_callT rj_lpf rj_spf sms rj_nat d) (rj_nt rj_nat d o)) 100000) hh cut NN a n (0, rj_nl q.2 (rj_args 0 av), [], q.1, q.2, [])))
  | _, _ => false
theorem ok_smT {l : Launch} {S : rj_Sm} {sms : List rj_Sm} {cut : Nat × Nat × Nat} {ns c M : Nat} (hN : rj_natok l rj_nat) (hS : ∀ T ∈ sms, rj_sm l T) (hc : 0 < c) (hM : 0 < M) (hn : rj_okN S (ns + 1) = true) (h : ∀ k, k < ns + 1 → ∀ j, j < M → rj_okT S sms cut (c * M) k (c * j) c = true) : rj_sm l S := by
  have h0 := h 0 (Nat.succ_pos ns) 0 hM
  unfold rj_okT at h0
  split at h0
  · rename_i y cd o mx rt n1 stt mc ms ct ps d hrow hd
    split at h0
    · cases h0
    · rename_i en av ks hbeg
      rw [Bool.and_eq_true] at h0
      refine chk_nice (lps := rj_lpf S.1) hrow hd (callT_ok (lpf := rj_lpf) (spf := rj_spf) hS hN d) hN hbeg h0.1 1 (fun k hk => ?_)
      obtain ⟨i, hi⟩ := List.getElem?_of_mem hk
      unfold rj_okN at hn
      rw [hbeg] at hn
      have hn := Nat.le_of_ble_eq_true hn
      have hlt := (List.getElem?_eq_some_iff.mp hi).1
      refine slT_ok (c := c) (M := M) (cut := cut) hc hM (fun j hj => ?_)
      have hk2 := h i (by omega) j hj
      unfold rj_okT at hk2
      rw [hrow, hd] at hk2
      dsimp only at hk2
      rw [hbeg] at hk2
      dsimp only at hk2
      rw [Bool.and_eq_true, hi] at hk2
      exact hk2.2
  · cases h0
theorem ok_smL {l : Launch} {S : rj_Sm} {sms : List rj_Sm} {hh : Nat} {cut : Nat × Nat × Nat} {ns c M : Nat} (hN : rj_natok l rj_nat) (hS : ∀ T ∈ sms, rj_sm l T) (hM : 0 < M) (hn : rj_okN S (ns + 1) = true) (h : ∀ k, k < ns + 1 → ∀ j, j < M → rj_okL S sms hh cut (c * M) k (c * j) c = true) : rj_sm l S := by
  have h0 := h 0 (Nat.succ_pos ns) 0 hM
  unfold rj_okL at h0
  split at h0
  · rename_i y cd o mx rt n1 stt mc ms ct ps d hrow hd
    split at h0
    · cases h0
    · rename_i en av ks hbeg
      rw [Bool.and_eq_true] at h0
      refine chk_nice (lps := rj_lpf S.1) hrow hd (callT_ok (lpf := rj_lpf) (spf := rj_spf) hS hN d) hN hbeg h0.1 2 (fun k hk => ?_)
      obtain ⟨i, hi⟩ := List.getElem?_of_mem hk
      unfold rj_okN at hn
      rw [hbeg] at hn
      have hn := Nat.le_of_ble_eq_true hn
      have hlt := (List.getElem?_eq_some_iff.mp hi).1
      refine slL_ok (lps := rj_lpf S.1) (c := c) (M := M) (hh := hh) (cut := cut) hM (fun j hj => ?_)
      have hk2 := h i (by omega) j hj
      unfold rj_okL at hk2
      rw [hrow, hd] at hk2
      dsimp only at hk2
      rw [hbeg] at hk2
      dsimp only at hk2
      rw [Bool.and_eq_true, hi] at hk2
      exact hk2.2
  · cases h0
