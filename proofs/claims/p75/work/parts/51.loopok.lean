/-! v2: loops are sound -/
theorem wev_un {w0 w : va_W} {wr : rj_Wr} {q : Nat} (h : rj_un w0 w wr) (hq : (q, 0) ∉ wr) (j : Nat) : rj_wev w q j = rj_wev w0 q j := by
  unfold rj_wev
  cases h0 : w0[q]? with
  | none =>
    have : w[q]? = none := by
      rw [List.getElem?_eq_none_iff] at h0 ⊢
      rw [h.1]
      exact h0
    rw [this]
  | some p0 =>
    have hlt : q < w.length := by rw [h.1]; exact (List.getElem?_eq_some_iff.mp h0).1
    have hw := List.getElem?_eq_getElem hlt
    have hu := h.2 q p0 _ h0 hw
    rw [hw]
    cases hp : w[q] with
    | mk ad en =>
      rw [hp] at hu
      obtain ⟨a0, e0⟩ := p0
      match e0, en, hu with
      | .inr (c0, v0), .inr (c1, v1), _ => rfl
      | .inl x0, .inl x1, ⟨_, _, _, h4⟩ =>
        rw [h4 hq]
        obtain ⟨cA, n, a⟩ := x0
        match a with
        | .inl f => rfl
        | .inr (.inl f) => rfl
        | .inr (.inr _) => rfl
theorem qkB_ok {U : State} {z : rj_Z} {σ : Nat → Int} {K : rj_K} {lg kb : List (Nat × rj_V)} {lk lb : List (Nat × Value)} {hp : List rj_H} {w w1 : va_W} {md wr : rj_Wr} {ck : rj_Ck} (hK : rj_sat σ K) (hg : ∀ (j : Nat) (v : rj_V) (f : rj_F), ri_key lg j = some v → rj_vf v = some f → rj_n K.1.length σ f (rj_kv lk j)) (hb : rj_lo z K.1.length σ kb lb) (hH : rj_hp U z K.1.length σ hp w1) (hun : rj_un w w1 wr) (hsub : ∀ x ∈ wr, x ∈ md) (hP : rj_qkP ck lk w) (h : rj_qkB md lg kb hp K ck = true) : rj_qkP ck lb w1 := by
  match ck, hP, h with
  | none, _, _ => trivial
  | some (q, (j, c), i), ⟨p1, p2⟩, h =>
    unfold rj_qkB at h
    dsimp only at h
    split at h
    · rename_i vj uj vi ui hvj huj hvi hui
      split at h
      · rename_i fj gj fi gi gg nn me ex hfj hgj hfi hgi hq
        simp only [Bool.and_eq_true, Bool.or_eq_true, Bool.not_eq_true', decide_eq_true_eq] at h
        obtain ⟨k1, k2, k3, k4, k5, k6, k7, k8, k9⟩ := h
        have nj := hg j vj fj hvj hfj
        have ni := hg i vi fi hvi hfi
        have mj := kv_n hb huj hgj
        have mi := kv_n hb hui hgi
        have e1 : c * rj_kv lb j = c * rj_kv lk j := by
          rcases k1 with k1 | k1
          · rw [k1, Int.zero_mul, Int.zero_mul]
          · rw [← mj.2, ← nj.2, beq_ok k1]
        have e2 : rj_kv lb i = rj_kv lk i + 3 := by
          rw [← mi.2, ← ni.2, beq_ok k2, ev_plus]
        have hq0 : (q, 0) ∉ wr := fun hx => by
          have : md.any (fun y => Nat.beq y.1 q && Nat.beq y.2 0) = true := List.any_eq_true.mpr ⟨(q, 0), hsub _ hx, by rw [Bool.and_eq_true]; exact ⟨Nat.beq_refl q, rfl⟩⟩
          rw [this] at k3
          cases k3
        have hew := wev_un hun hq0
        have b4 := iv_ok hK.1 ni.1
        rw [ni.2] at b4
        obtain ⟨y, hy⟩ := dv_ok σ k5
        have e3 : rj_kv lk i = 3 * (fi.1 / 3 + y) := by
          rw [← ni.2]
          unfold rj_ev
          rw [hy]
          omega
        have hlt : q < w1.length := by rw [← hH.1]; exact (List.getElem?_eq_some_iff.mp hq).1
        have hw := List.getElem?_eq_getElem hlt
        have hc := hH.2 q _ _ hq hw
        have key : ∀ (r : Nat) (lo hi : Int) (pl : rj_F), rj_n K.1.length σ pl (c * rj_kv lk j + rj_kv lk i + (r : Int)) → rj_rg1 K (lo, hi) (rj_find me (rj_norm K.1 pl)) = true → rj_in (lo, hi) (rj_wev w1 q ((c * rj_kv lk j).toNat + (rj_kv lk i).toNat + r)) := by
          intro r lo hi pl npl hrg
          unfold rj_rg1 at hrg
          split at hrg
          · cases hrg
          · rename_i v hv
            rw [Bool.and_eq_true, decide_eq_true_eq, decide_eq_true_eq] at hrg
            have hm := find_ok hv
            have npl := n_norm hK npl
            have fin : ∀ f : Nat → Int, rj_ar K.1.length σ q nn me ex f → (∀ n, rj_wev w1 q n = f n) → rj_in (lo, hi) (rj_wev w1 q ((c * rj_kv lk j).toNat + (rj_kv lk i).toNat + r)) := by
              intro f har hfe
              obtain ⟨a1, a2, a3, a4, a5⟩ := har.2.1 _ hm
              dsimp only at a1 a2 a3 a4 a5
              rw [npl.2] at a3 a4 a5
              have e5 : (c * rj_kv lk j + rj_kv lk i + (r : Int)).toNat = (c * rj_kv lk j).toNat + (rj_kv lk i).toNat + r := by omega
              rw [e5] at a5
              rw [hfe, a5]
              have b5 := iv_ok hK.1 a2
              exact ⟨by have := hrg.1; dsimp only at this; show lo ≤ _; omega, by have := hrg.2; dsimp only at this; show _ ≤ hi; omega⟩
            cases hpp : w1[q] with
            | mk ad en =>
              rw [hpp] at hw hc
              dsimp only at hc
              rcases hc with ⟨cA, f, rfl, g3, g4, g5⟩ | ⟨cA, f, rfl, g3, g4, g5⟩
              · exact fin _ g5 (wev_i hw)
              · exact fin _ g5 (wev_l hw)
        have nb := n_add (n_scale c nj) ni
        refine ⟨by rw [e1]; exact p1, fun n hn => ?_⟩
        rw [e1]
        by_cases hlt3 : 3 * (n : Int) < rj_kv lk i
        · rw [hew, hew, hew]
          exact p2 n hlt3
        · have en : 3 * n = (rj_kv lk i).toNat := by omega
          have r0 := key 0 0 2 _ ⟨nb.1, by rw [nb.2]; omega⟩ k7
          have r1 := key 1 0 24 (rj_plus (rj_add (rj_scale c fj) fi) 1) ⟨nb.1, by rw [ev_plus, nb.2]; rfl⟩ k8
          have r2 := key 2 0 11 (rj_plus (rj_add (rj_scale c fj) fi) 2) ⟨nb.1, by rw [ev_plus, nb.2]; rfl⟩ k9
          rw [← en] at r0 r1 r2
          exact ⟨r0, r1, r2⟩
      · cases h
    · cases h
theorem ext_mem {h : Nat} {wr md : rj_Wr} {t : rj_S} (hne : ¬ t.1 = h) : ∀ {outs : List rj_S}, t ∈ outs → (t.1, t.2.1, t.2.2.1, t.2.2.2.1, t.2.2.2.2.1, rj_unw (rj_unw t.2.2.2.2.2 wr) md) ∈ rj_ext h wr md outs
  | [], ht => absurd ht List.not_mem_nil
  | x :: r, ht => by
    unfold rj_ext
    rcases List.mem_cons.mp ht with rfl | ht
    · split
      · rename_i hq
        exact absurd (Nat.eq_of_beq_eq_true hq) hne
      · exact List.mem_cons_self
    · split
      · exact ext_mem hne ht
      · exact List.mem_cons_of_mem _ (ext_mem hne ht)
def rj_sgn (sg : Bool) (v : Int) : Int := match sg with
  | true => v
  | false => -v
section RT8
variable {p : Program} {l : Launch} {e : Env} {R : Room} {s : State} {m : MethodId} {args : Array Value} {below : List Frame} {meth : Method} {c : Code} {Q : State → Prop} {D : va_G} {A : Nat → Prop} {H0 : Heap} {z : rj_Z} {N0 : Nat} {σ0 : Nat → Int} {w0 : va_W} {nL cs ss : Nat} {cc : ByteArray} {o : Nat}
theorem to_loop {en : rj_En} {ar : Nat → Int} {w00 : va_W} {body : rj_S → Option (List rj_S)} {sp : rj_Lp} {st : rj_S} {sts : List rj_S} (hI : rj_inv s z w0) (hen : rj_en N0 σ0 ar w00 0 en)
    (hbody : ∀ (x : rj_S) (outs : List rj_S) (N : Nat) (σ : Nat → Int) (w : va_W), N0 ≤ N → rj_ag N0 σ0 σ → rj_inv s z w → body x = some outs → (∀ t ∈ outs, rj_W p l e R s m args below meth c Q D A H0 z N σ w nL cs ss t) → rj_W p l e R s m args below meth c Q D A H0 z N σ w nL cs ss x)
    (h : rj_loop en sp body st = some sts) (hs : ∀ t ∈ sts, rj_W p l e R s m args below meth c Q D A H0 z N0 σ0 w0 nL cs ss t) : rj_W p l e R s m args below meth c Q D A H0 z N0 σ0 w0 nL cs ss st := by
  obtain ⟨pc, lo, sk, hp, K, wr⟩ := st
  obtain ⟨⟨hh, bl, bh⟩, sig, lc, md, fts, ⟨ms, sg⟩, ck⟩ := sp
  intro ls stk H locs ⟨σ, ws, lv, hB, hl, h1, h2, h3⟩
  unfold rj_loop at h
  dsimp only at h h1 h2 h3 hB ⊢
  split at h
  · cases h
  · rename_i kl hkl
    split at h
    · cases h
    · rename_i hk
      simp only [Bool.and_eq_true, List.isEmpty_iff] at hk
      obtain ⟨c1, c2, c3, c4, c5, c6⟩ := hk
      have hK := Gb_K hB
      have hwk : ∀ x ∈ md, rj_wk x = true := fun x hx => List.all_eq_true.mp c5 x hx
      obtain ⟨lk0, p1, p2⟩ := pick_ok h1 hkl
      have hwf := lo_wf p1
      have hN0 := hB.2.2.2.2.2.2.1
      have hag0 := hB.2.2.2.2.2.1
      cases hgen : rj_gen K lc kl with
      | mk K1 lg =>
        rw [hgen] at h
        dsimp only at h
        cases hrd : rj_rdm (rj_hv hp md) K1 ms with
        | mk hp2 K2 =>
          rw [hrd] at h
          dsimp only at h
          split at h
          · cases h
          · rename_i hp3 hck
            have enu : ∀ {K' : rj_K} {τ : Nat → Int}, rj_up K K' σ τ → rj_en K'.1.length τ ar w00 0 en := fun u => en_ag (Nat.le_trans hN0 u.2.1) (fun n hn => (u.1 n (Nat.lt_of_lt_of_le hn hN0)).trans (hag0 n hn)) hen
            have pre : ∀ (w1 : va_W) (lk : List (Nat × Value)) (oo : Option (List rj_H × rj_K)), rj_un ws w1 md → rj_inv s z w1 → rj_ls z K.1.length σ lc kl lk → (∀ F ∈ fts, rj_fh (rj_sv ar w00 0 lk w1) F) → rj_qkP ck lk w1 → rj_asL lg en fts hp3 K2 = some oo → ∃ hp4 K4 τ, oo = some (hp4, K4) ∧ rj_up K K4 σ τ ∧ rj_lo z K4.1.length τ lg lk ∧ rj_hp s z K4.1.length τ hp4 w1 := by
              intro w1 lk oo hun hinv hls hft hqk has
              obtain ⟨τ1, u1, g1⟩ := gen_ok hK hls hgen
              have hH1 := hvL_ok hinv md (hB_un h3 hun hinv hwk) (fun x hx => hx)
              obtain ⟨τ2, u2, hH2⟩ := rdm_ok (hp_ag u1.2.1 u1.1 hH1) u1.2.2 hrd
              have hl2 := lo_ag u2.2.1 u2.1 g1
              have hH3 := qkA_ok u2.2.2 hl2 hH2 hqk hck
              obtain ⟨hp4, K4, τ4, eo, u4, hH4⟩ := asL_ok fts hH3 u2.2.2 hl2 (enu (up_trans u1 u2)) hft has
              exact ⟨hp4, K4, τ4, eo, up_trans (up_trans u1 u2) u4, lo_ag u4.2.1 u4.1 hl2, hH4⟩
            have i0 : rj_inv s z ws := wiL_ok h3 hK hB.2.2.2.2.1 hI c2
            have l0 : rj_ls z K.1.length σ lc kl lk0 := inA_ok (fun _ _ => rfl) hK hwf p1 c3
            have f0 := chL_ok h3 hK p1 (enu (up_refl hK)) c4
            have q0 : rj_qkP ck lk0 ws := qk0_ok hK p1 c6
            have s0 : stk = [] := by
              subst c1
              match stk, h2 with
              | [], _ => rfl
              | _ :: _, h2 => exact h2.elim
            have lh0 : lv_has ls nL lk0 := ⟨hl.1, hl.2.1, fun q hq => hl.2.2 q (p2 q hq)⟩
            split at h
            · cases h
            · rename_i has
              obtain ⟨hp4, K4, τ, eo, -⟩ := pre ws lk0 none (un_refl ws md) i0 l0 f0 q0 has
              cases eo
            · rename_i hp4 K4 has
              split at h
              · cases h
              · rename_i fx hfx
                split at h
                · cases h
                · rename_i outs hbd
                  split at h
                  · cases h
                  · rename_i hall
                    cases h
                    have main : ∀ (n : Nat) (ls : Array Slot) (stk : List Value) (H : Heap) (locs : List Loc) (w1 : va_W) (lk : List (Nat × Value)), stk = [] → w1.map Prod.fst = z.1 → va_P D vwCl w1 H → va_D A w1 → va_S A H0 H locs → rj_un ws w1 md → rj_inv s z w1 → lv_has ls nL lk → rj_ls z K.1.length σ lc kl lk → (∀ F ∈ fts, rj_fh (rj_sv ar w00 0 lk w1) F) → rj_qkP ck lk w1 → 9223372036854775809 - rj_sgn sg (rj_mv lk w1 ms) ≤ (n : Int) → W p l e R s m args below meth c H locs cs ss Q (F0 m pc ls stk) := by
                      intro n
                      induction n with
                      | zero =>
                        intro ls stk H locs w1 lk _ _ _ _ _ _ _ _ _ _ _ hn
                        have hb := mv_b lk w1 ms
                        cases sg with
                        | true =>
                          have hn : 9223372036854775809 - rj_mv lk w1 ms ≤ 0 := hn
                          omega
                        | false =>
                          have hn : 9223372036854775809 - -rj_mv lk w1 ms ≤ 0 := hn
                          omega
                      | succ n ih =>
                        intro ls stk H locs w1 lk hst d1 d2 d3 d4 hun hinv hlh hls hft hqk hn
                        subst hst
                        obtain ⟨hp4', K4', τ4, eo, u4, g4, hH4⟩ := pre w1 lk _ hun hinv hls hft hqk has
                        cases eo
                        have hfx4 := mf_ok g4 hH4 hfx
                        refine hbody _ outs K4.1.length τ4 w1 (Nat.le_trans hN0 u4.2.1) (fun n hn => (u4.1 n (Nat.lt_of_lt_of_le hn hN0)).trans (hag0 n hn)) hinv hbd (fun t ht => ?_) ls [] H locs ⟨τ4, w1, lk, ⟨d1, d2, d3, d4, un_refl w1 [], fun _ _ => rfl, Nat.le_refl _, u4.2.2⟩, hlh, g4, trivial, hH4⟩
                        intro ls5 stk5 H5 locs5 ⟨σ5, w5, lv5, hB5, hl5, g5, g6, g7⟩
                        have hK5 := Gb_K hB5
                        have ag5 := hB5.2.2.2.2.2.1
                        have N5 := hB5.2.2.2.2.2.2.1
                        have agK : rj_ag K.1.length σ σ5 := fun n hn => (ag5 n (Nat.lt_of_lt_of_le hn u4.2.1)).trans (u4.1 n hn)
                        have un5 := hB5.2.2.2.2.1
                        by_cases htp : t.1 = pc
                        · have hb := List.all_eq_true.mp hall t ht
                          rw [htp, Nat.beq_refl] at hb
                          have hb : rj_bk en ((hh, bl, bh), sig, lc, md, fts, (ms, sg), ck) kl lg fx t = true := hb
                          obtain ⟨pc5, lo5, sk5, hp5, K5, wr5⟩ := t
                          dsimp only at htp g5 g6 g7 hB5 hK5 N5 un5 ⊢
                          subst htp
                          unfold rj_bk at hb
                          dsimp only at hb
                          split at hb
                          · cases hb
                          · rename_i kb hkb
                            split at hb
                            · cases hb
                            · rename_i fb hfb
                              simp only [Bool.and_eq_true, List.isEmpty_iff] at hb
                              obtain ⟨m1, m2, m3, m4, m5, m6, m7⟩ := hb
                              obtain ⟨lk5, r1, r2⟩ := pick_ok g5 hkb
                              have en5 : rj_en K5.1.length σ5 ar w00 0 en := en_ag (Nat.le_trans hN0 (Nat.le_trans u4.2.1 N5)) (fun n hn => (agK n (Nat.lt_of_lt_of_le hn hN0)).trans (hag0 n hn)) hen
                              have hfb5 := mf_ok r1 g7 hfb
                              have hfx5 := rn_ag N5 ag5 hfx4
                              have hs5 : stk5 = [] := by
                                subst m1
                                match stk5, g6 with
                                | [], _ => rfl
                                | _ :: _, g6 => exact g6.elim
                              refine ih ls5 stk5 H5 locs5 w5 lk5 hs5 hB5.1 hB5.2.1 hB5.2.2.1 hB5.2.2.2.1 (un_trans hun un5 (fun _ h => h) (subW_ok m2)) (wiL_ok g7 hK5 un5 hinv m3) ⟨hl5.1, hl5.2.1, fun q hq => hl5.2.2 q (r2 q hq)⟩ (inA_ok agK hK5 hwf r1 m4) (chL_ok g7 hK5 r1 en5 m5) (qkB_ok hK5 (fun j v f hv hf => rn_ag N5 ag5 (kv_n g4 hv hf)) r1 g7 un5 (subW_ok m2) hqk m7) ?_
                              cases sg with
                              | true =>
                                have m6 := le_ok hK5 (show rj_wf K5.1.length (rj_plus (rj_sub fx fb) 1) from wf_sub hfx5.1 hfb5.1) m6
                                rw [ev_plus, ev_sub, hfx5.2, hfb5.2] at m6
                                have hn : 9223372036854775809 - rj_mv lk w1 ms ≤ ((n + 1 : Nat) : Int) := hn
                                show 9223372036854775809 - rj_mv lk5 w5 ms ≤ (n : Int)
                                omega
                              | false =>
                                have m6 := le_ok hK5 (show rj_wf K5.1.length (rj_plus (rj_sub fb fx) 1) from wf_sub hfb5.1 hfx5.1) m6
                                rw [ev_plus, ev_sub, hfx5.2, hfb5.2] at m6
                                have hn : 9223372036854775809 - -rj_mv lk w1 ms ≤ ((n + 1 : Nat) : Int) := hn
                                show 9223372036854775809 - -rj_mv lk5 w5 ms ≤ (n : Int)
                                omega
                        · have hmem := hs _ (ext_mem (wr := wr) (md := md) htp ht)
                          have x1 := unw_ok wr t.2.2.2.2.2
                          have x2 := unw_ok md (rj_unw t.2.2.2.2.2 wr)
                          exact hmem ls5 stk5 H5 locs5 ⟨σ5, w5, lv5, ⟨hB5.1, hB5.2.1, hB5.2.2.1, hB5.2.2.2.1, un_trans (un_trans (wr := rj_unw (rj_unw t.2.2.2.2.2 wr) md) hB.2.2.2.2.1 hun (fun x hx => x2.1 x (x1.2 x hx)) (fun x hx => x2.2 x hx)) un5 (fun x hx => hx) (fun x hx => x2.1 x (x1.1 x hx)), fun n hn => (agK n (Nat.lt_of_lt_of_le hn hN0)).trans (hag0 n hn), Nat.le_trans hN0 (Nat.le_trans u4.2.1 N5), hK5⟩, hl5, g5, g6, g7⟩
                    exact main (9223372036854775809 - rj_sgn sg (rj_mv lk0 ws ms)).toNat ls stk H locs ws lk0 s0 hB.1 hB.2.1 hB.2.2.1 hB.2.2.2.1 (un_refl ws md) i0 lh0 l0 f0 q0 (by omega)
end RT8
