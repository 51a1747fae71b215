/-! the library: all of it -/
theorem nk_ok {o idx k : Nat} (h : rj_nk o idx = some k) : (o, idx, k) ∈ [(0, 239, 0), (1, 95, 1), (2, 261, 2), (2, 272, 5), (2, 284, 6), (8, 325, 1), (8, 335, 0), (8, 885, 3), (8, 933, 4)] := by
  unfold rj_nk at h
  have h2 := rk_mem h
  clear h
  split at h2
  all_goals
    simp at h2 ⊢
    try omega
theorem st_fact : ∀ i, i < st_len.length → (st_len.getD i 0 = (st_byt.getD i []).length ∧ st_len.getD i 0 < 100 ∧ ∀ b ∈ st_byt.getD i [], b &&& 255 = b) := by decide +kernel
theorem mx_1 : Cond.methodLink (ri_own 1) 47 Lib.Math.max.name ∈ tb := tb_mem 1149 (by decide +kernel) rfl
theorem mx_8 : Cond.methodLink (ri_own 8) 162 Lib.Math.max.name ∈ tb := tb_mem 814 (by decide +kernel) rfl
theorem mx_s : Cond.static Lib.Math.max.name ∈ tb := tb_mem 815 (by decide +kernel) rfl
theorem mx_i : Cond.initialized "java/lang/Math" ∈ tb := tb_mem 123 (by decide +kernel) rfl
theorem mx_c : Cond.code Lib.Math.max.name Lib.Math.max.code 2 (some .int) ∈ tb := tb_mem 816 (by decide +kernel) rfl
theorem mn_2 : Cond.methodLink (ri_own 2) 130 Lib.Math.min.name ∈ tb := tb_mem 562 (by decide +kernel) rfl
theorem mn_s : Cond.static Lib.Math.min.name ∈ tb := tb_mem 563 (by decide +kernel) rfl
theorem mn_c : Cond.code Lib.Math.min.name Lib.Math.min.code 2 (some .int) ∈ tb := tb_mem 564 (by decide +kernel) rfl
theorem ma_8 : Cond.methodLink (ri_own 8) 466 Lib.MathLoose.abs_long.x ∈ tb := tb_mem 1067 (by decide +kernel) rfl
theorem ma_s : Cond.static Lib.MathLoose.abs_long.x ∈ tb := tb_mem 1068 (by decide +kernel) rfl
theorem ma_c : Cond.code Lib.MathLoose.abs_long.x Lib.MathLoose.abs_long.code 2 (some .long) ∈ tb := tb_mem 1069 (by decide +kernel) rfl
theorem lt_bc : Cond.static yn_bc ∈ tb := tb_mem 743 (by decide +kernel) rfl
theorem lt_cp : Cond.static yn_cp ∈ tb := tb_mem 1089 (by decide +kernel) rfl
section RT13
variable {p : Program} {l : Launch} {e : Env} {R : Room} {s : State} {m : MethodId} {args : Array Value} {below : List Frame} {meth : Method} {c : Code} {Q : State → Prop} {D : va_G} {A : Nat → Prop} {H0 : Heap} {z : rj_Z} {N0 : Nat} {σ0 : Nat → Int} {w0 : va_W} {nL cs ss : Nat} {cc : ByteArray} {o : Nat}
theorem Sx_of {i : Nat} {H : Heap} {locs : List Loc} (hSt : rj_St z A s H0) (hS : va_S A H0 H locs) (hi : i < st_len.length) : ∃ ad, (∃ cell : Cell, H[z.2.2 i]? = some cell ∧ cell.vm.isStatics = false ∧ s.vm.findClass "java/lang/String" = some cell.cls) ∧ ∀ U : State, U.heap = H → s.WarmedH U.vm → rj_Sx (z.2.2 i) ad (st_len.getD i 0) (st_byt.getD i []) U := by
  obtain ⟨-, g3, g4, adV, g2⟩ := hSt
  obtain ⟨q1, q2, q3, q4⟩ := g2.1 i hi
  have kq : ∀ a : Nat, a < H0.size → ¬ A a → H[a]? = H0[a]? := fun a h1 h2 => hS.2.1 a h1 h2
  refine ⟨adV i, ?_, fun U hU hW => ?_⟩
  · obtain ⟨cell, y1, y2, y3, -⟩ := q1.kept kq
    exact ⟨cell, y1, y2, y3⟩
  · unfold rj_Sx
    rw [hU]
    exact ⟨((va_O.moved hW.alike q1).kept kq).narrow (fun _ h => h.elim), ((va_OF.moved hW.alike q2).kept kq).narrow (fun _ h => h.elim), ((va_OF.moved hW.alike q3).kept kq).narrow (fun _ h => h.elim), ((va_T.moved hW.alike q4).kept kq).narrow (fun _ h => h.elim), ((va_Z.moved hW.alike g3).kept kq).narrow (fun _ h => h.elim), ((va_Zq.moved hW.alike g4).kept kq).narrow (fun _ h => h.elim)⟩
theorem to_nlen {i : Nat} {sk : List rj_V} {st : rj_S} {sts : List rj_S} (X : rj_Xc p R s m args c D A H0 z nL cc 2 cs ss) (hf : 6 ≤ R.frames) (hlc : 384 ≤ R.locals) (hdg : decode cc st.1 = .ok (.invokevirtual 136, 3)) (hst : st.2.2.1 = .inr (.inr (.inr (.inl i))) :: sk) (h : rj_nlen i sk st = some sts) (hs : ∀ t ∈ sts, rj_W p l e R s m args below meth c Q D A H0 z N0 σ0 w0 nL cs ss t) : rj_W p l e R s m args below meth c Q D A H0 z N0 σ0 w0 nL cs ss st := by
  obtain ⟨hx, hb, hml, hown, hts, hK, hA, hSt, hr, hr3, hr4⟩ := X
  obtain ⟨pc, lo, sk0, hp, K, wr⟩ := st
  dsimp only at hst
  subst hst
  intro ls stk H locs ⟨σ, ws, lv, hB, hl, h1, h2, h3⟩
  unfold rj_nlen at h
  dsimp only at h h1 h2 h3 hB hdg ⊢
  split at h
  · rename_i n hw hn
    cases h
    have hw := Nat.le_of_ble_eq_true hw
    obtain ⟨hi, hin⟩ := List.getElem?_eq_some_iff.mp hn
    obtain ⟨f1, f2, f3⟩ := st_fact i hi
    have hgd : st_len.getD i 0 = n := by rw [List.getD_eq_getElem?_getD, hn]; rfl
    match stk, h2 with
    | [], h2 => exact h2.elim
    | v :: stk, ⟨ev, h2⟩ =>
      have ev : v = .ref (z.2.2 i) := ev
      subst ev
      obtain ⟨ad, hrc, hSx⟩ := Sx_of hSt hB.2.2.2.1 hi
      refine nat_V (As := []) (rest := stk) (b := z.2.2 i) (dd := 1) hx hb (hml.trans hl.1.symm) hown hts (met_sl (a := z.2.2 i) (ad := ad) (n := st_len.getD i 0) (bs := st_byt.getD i []) (by omega)) lk_sl li_sl ls_sl rfl PX_blind hrc (fun U hU hW => ⟨rfl, hSx U hU hW⟩) (by omega) (by omega) hr (by rw [jg_w h2]; exact hw) hdg (fun v hv => ?_)
      subst hv
      exact hs _ (List.mem_singleton.mpr rfl) _ _ _ _ ⟨σ, ws, lv, hB, hl, h1, ⟨⟨_, rfl, wf_k, by rw [ev_k]; exact (hgd ▸ (nI_toInt (show st_len.getD i 0 < 2 ^ 31 by omega)).symm)⟩, h2⟩, h3⟩
  · cases h
theorem to_ncha {i : Nat} {xf : rj_F} {sk : List rj_V} {st : rj_S} {sts : List rj_S} (X : rj_Xc p R s m args c D A H0 z nL cc 2 cs ss) (hf : 6 ≤ R.frames) (hlc : 384 ≤ R.locals) (hdg : decode cc st.1 = .ok (.invokevirtual 142, 3)) (hst : st.2.2.1 = .inl xf :: .inr (.inr (.inr (.inl i))) :: sk) (h : rj_ncha xf i sk st = some sts) (hs : ∀ t ∈ sts, rj_W p l e R s m args below meth c Q D A H0 z N0 σ0 w0 nL cs ss t) : rj_W p l e R s m args below meth c Q D A H0 z N0 σ0 w0 nL cs ss st := by
  obtain ⟨hx, hb, hml, hown, hts, hK, hA, hSt, hr, hr3, hr4⟩ := X
  obtain ⟨pc, lo, sk0, hp, K, wr⟩ := st
  dsimp only at hst
  subst hst
  intro ls stk H locs ⟨σ, ws, lv, hB, hl, h1, h2, h3⟩
  unfold rj_ncha at h
  dsimp only at h h1 h2 h3 hB hdg ⊢
  split at h
  · rename_i j hj
    split at h
    · rename_i bs hw hbs
      split at h
      · rename_i b hbj
        cases h
        rw [Bool.and_eq_true, decide_eq_true_eq] at hw
        have hw1 := Nat.le_of_ble_eq_true hw.1
        have hgb : st_byt.getD i [] = bs := by rw [List.getD_eq_getElem?_getD, hbs]; rfl
        have hi : i < st_len.length := (List.getElem?_eq_some_iff.mp hbs).1
        obtain ⟨f1, f2, f3⟩ := st_fact i hi
        rw [hgb] at f1 f3
        have hlt := (List.getElem?_eq_some_iff.mp hbj).1
        match stk, h2 with
        | [], h2 => exact h2.elim
        | [_], h2 => exact h2.2.elim
        | vk :: v :: stk, ⟨⟨kk, ek, gk⟩, ev, h2⟩ =>
          have ev : v = .ref (z.2.2 i) := ev
          subst ev
          subst ek
          have hno := norm_ok (Gb_K hB).1 gk.1
          rw [hj, gk.2] at hno
          have hkj : j = kk.toInt := (ev_k σ j).symm.trans hno.1
          have hkn : kk = nI j.toNat := Int32.toInt_inj.mp (by rw [nI_toInt (by omega)]; omega)
          obtain ⟨ad, hrc, hSx⟩ := Sx_of hSt hB.2.2.2.1 hi
          rw [hgb] at hSx
          rw [hkn]
          refine nat_V (As := [.int (nI j.toNat)]) (rest := stk) (b := z.2.2 i) (dd := 3) hx hb (hml.trans hl.1.symm) hown hts (met_sa (j := j.toNat) (a := z.2.2 i) (ad := ad) (n := st_len.getD i 0) (bs := bs) (by omega) (by omega)) lk_sa li_sa ls_sa rfl PX_blind hrc (fun U hU hW => ⟨rfl, hSx U hU hW⟩) (by omega) (by omega) hr (by rw [jg_w h2]; exact hw1) hdg (fun v hv => ?_)
          subst hv
          have hbb : bs.getD j.toNat 0 &&& 255 = b := by
            rw [List.getD_eq_getElem?_getD, hbj]
            exact f3 b (List.mem_of_getElem? hbj)
          rw [hbb]
          exact hs _ (List.mem_singleton.mpr rfl) _ _ _ _ ⟨σ, ws, lv, hB, hl, h1, ⟨⟨_, rfl, wf_k, by rw [ev_k]⟩, h2⟩, h3⟩
      · cases h
    · cases h
  · cases h
end RT13
theorem nat_ok {l : Launch} : rj_natok l rj_nat := by
  intro p e R s m args below meth c D A H0 z nL cc o X hf hl Q N0 σ0 w0 idx st sts hdg h hs
  have X0 := X
  obtain ⟨hx, hb, hml, hown, hts, hK, hA, hSt, hr, hr3, hr4⟩ := X0
  unfold rj_nat at h
  split at h
  · rename_i f sk hk hst
    have hk := nk_ok hk
    simp only [List.mem_cons, Prod.mk.injEq, List.not_mem_nil, or_false] at hk
    refine to_nfr X (nn := 1) (fun ls stk0 rest H locs σ hls hw hg kk => ?_) (by rw [hst]; rfl) h hs
    rw [hst] at hg
    match stk0, hg with
    | [], hg => exact hg.elim
    | _ :: _ :: _, hg => exact hg.2.elim
    | [v], ⟨⟨kx, ex, _⟩, _⟩ =>
      subst ex
      rcases hdg with ⟨k, hk2, -⟩ | ⟨k, hk2, hd⟩
      · omega
      · have hk3 : (o = 0 ∧ k = 119) ∨ (o = 8 ∧ k = 167) := by omega
        rcases hk3 with ⟨rfl, rfl⟩ | ⟨rfl, rfl⟩
        · exact nat_S (As := [.int kx]) (rest := rest) (dd := 0) hx hb hls hown hts (met_bc kx) lk_bc0 lt_bc rfl Pn_blind (fun U _ _ => rfl) (by omega) (by omega) hr hw hd (fun v hv => by obtain ⟨k, rfl, k1, k2⟩ := hv; exact kk k k1 k2)
        · exact nat_S (As := [.int kx]) (rest := rest) (dd := 0) hx hb hls hown hts (met_bc kx) lk_bc8 lt_bc rfl Pn_blind (fun U _ _ => rfl) (by omega) (by omega) hr hw hd (fun v hv => by obtain ⟨k, rfl, k1, k2⟩ := hv; exact kk k k1 k2)
  · rename_i y1 x1 sk hk hst
    have hk := nk_ok hk
    simp only [List.mem_cons, Prod.mk.injEq, List.not_mem_nil, or_false] at hk
    refine to_nmx X (op := fun a b => if a < b then b else a) (fun a b => ?_) (fun ls rest H locs a b hls hw kk => ?_) hst h hs
    · by_cases hab : a < b
      · exact Or.inr ⟨Int32.lt_iff_toInt_lt.mp hab, if_pos hab⟩
      · exact Or.inl ⟨Int32.le_iff_toInt_le.mp (Int32.not_lt.mp hab), if_neg hab⟩
    · rcases hdg with ⟨k, hk2, -⟩ | ⟨k, hk2, hd⟩
      · omega
      · have hk3 : (o = 1 ∧ k = 47) ∨ (o = 8 ∧ k = 162) := by omega
        rcases hk3 with ⟨rfl, rfl⟩ | ⟨rfl, rfl⟩
        · exact va_mmax hx hb hls hown (hts _ mx_1) (hts _ mx_s) (hts _ mx_i) (hts _ mx_c) (by omega) (by omega) hr.1 hr.2 hd kk
        · exact va_mmax hx hb hls hown (hts _ mx_8) (hts _ mx_s) (hts _ mx_i) (hts _ mx_c) (by omega) (by omega) hr.1 hr.2 hd kk
  · rename_i y1 x1 sk hk hst
    have hk := nk_ok hk
    simp only [List.mem_cons, Prod.mk.injEq, List.not_mem_nil, or_false] at hk
    refine to_nmx X (op := fun a b => if b < a then b else a) (fun a b => ?_) (fun ls rest H locs a b hls hw kk => ?_) hst h hs
    · by_cases hab : b < a
      · exact Or.inr ⟨Int32.lt_iff_toInt_lt.mp hab, if_pos hab⟩
      · exact Or.inl ⟨Int32.le_iff_toInt_le.mp (Int32.not_lt.mp hab), if_neg hab⟩
    · rcases hdg with ⟨k, hk2, -⟩ | ⟨k, hk2, hd⟩
      · omega
      · have hk3 : o = 2 ∧ k = 130 := by omega
        obtain ⟨rfl, rfl⟩ := hk3
        exact va_mmin hx hb hls hown (hts _ mn_2) (hts _ mn_s) (hts _ mx_i) (hts _ mn_c) (by omega) (by omega) hr.1 hr.2 hd kk
  · rename_i f1 f2 sk hk hst
    have hk := nk_ok hk
    simp only [List.mem_cons, Prod.mk.injEq, List.not_mem_nil, or_false] at hk
    refine to_nfr X (nn := 2) (fun ls stk0 rest H locs σ hls hw hg kk => ?_) (by rw [hst]; rfl) h hs
    rw [hst] at hg
    match stk0, hg with
    | [], hg => exact hg.elim
    | [_], hg => exact hg.2.elim
    | _ :: _ :: _ :: _, hg => exact hg.2.2.elim
    | [v, v2], ⟨⟨ky, ey, _⟩, ⟨kx, ex, _⟩, _⟩ =>
      subst ex
      subst ey
      rcases hdg with ⟨k, hk2, -⟩ | ⟨k, hk2, hd⟩
      · omega
      · have hk3 : o = 8 ∧ k = 442 := by omega
        obtain ⟨rfl, rfl⟩ := hk3
        exact nat_S (As := [.long kx, .long ky]) (rest := rest) (dd := 0) hx hb hls hown hts (met_cp kx ky) lk_cp lt_cp rfl Pn_blind (fun U _ _ => rfl) (by omega) (by omega) hr hw hd (fun v hv => by obtain ⟨k, rfl, k1, k2⟩ := hv; exact kk k k1 k2)
  · rename_i f1 sk hk hst
    have hk := nk_ok hk
    simp only [List.mem_cons, Prod.mk.injEq, List.not_mem_nil, or_false] at hk
    split at h
    · rename_i K1 fr hw hfr
      cases h
      have hw := Nat.le_of_ble_eq_true hw
      obtain ⟨pc, lo, sk0, hp, K, wr⟩ := st
      dsimp only at hst
      subst hst
      intro ls stk H locs ⟨σ, ws, lv, hB, hl2, h1, h2, h3⟩
      dsimp only at h1 h2 h3 hB hdg hfr ⊢
      match stk, h2 with
      | [], h2 => exact h2.elim
      | v :: stk, ⟨⟨kx, ex, _⟩, h2⟩ =>
        subst ex
        rcases hdg with ⟨k, hk2, -⟩ | ⟨k, hk2, hd⟩
        · omega
        · have hk3 : o = 8 ∧ k = 466 := by omega
          obtain ⟨rfl, rfl⟩ := hk3
          refine va_mabs_long hx hb (hml.trans hl2.1.symm) hown (hts _ ma_8) (hts _ ma_s) (hts _ mx_i) (hts _ ma_c) (by omega) (by rw [jg_w h2]; omega) hr.1 hr.2 hd ?_
          obtain ⟨τ, u, g⟩ := fr_up (Gb_K hB) (r64_lo (if 0 < kx then kx else -kx)) (r64_hi (if 0 < kx then kx else -kx)) hfr
          exact hs _ (List.mem_singleton.mpr rfl) _ _ _ _ ⟨τ, ws, lv, Gb_up hB u, hl2, lo_ag u.2.1 u.1 h1, ⟨⟨_, rfl, g⟩, sk_ag u.2.1 u.1 h2⟩, hp_ag u.2.1 u.1 h3⟩
    · cases h
  · rename_i i sk hk hst
    have hk := nk_ok hk
    simp only [List.mem_cons, Prod.mk.injEq, List.not_mem_nil, or_false] at hk
    rcases hdg with ⟨k, hk2, hd⟩ | ⟨k, hk2, -⟩
    · have hk3 : o = 2 ∧ k = 136 := by omega
      obtain ⟨rfl, rfl⟩ := hk3
      exact to_nlen X hf hl hd hst h hs
    · omega
  · rename_i x1 i sk hk hst
    have hk := nk_ok hk
    simp only [List.mem_cons, Prod.mk.injEq, List.not_mem_nil, or_false] at hk
    rcases hdg with ⟨k, hk2, hd⟩ | ⟨k, hk2, -⟩
    · have hk3 : o = 2 ∧ k = 142 := by omega
      obtain ⟨rfl, rfl⟩ := hk3
      exact to_ncha X hf hl hd hst h hs
    · omega
  · cases h
