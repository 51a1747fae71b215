/-! the step is sound: fields, arrays, new cells -/
theorem lset_same {α : Type} : ∀ {l : List α} {i : Nat} {a : α}, l[i]? = some a → l.set i a = l
  | [], _, _, h => by simp at h
  | x :: l, 0, a, h => by
    rw [List.getElem?_cons_zero] at h
    cases h
    rfl
  | x :: l, i + 1, a, h => by
    rw [List.getElem?_cons_succ] at h
    rw [List.set_cons_succ, lset_same h]
theorem fst_set {ws : va_W} {q a : Nat} {e e1 : va_E} (h : ws[q]? = some (a, e)) : (ws.set q (a, e1)).map Prod.fst = ws.map Prod.fst := by
  rw [List.map_set]
  exact lset_same (by rw [List.getElem?_map, h]; rfl)
theorem at_ref {s : State} {as : List Nat} {σ : Nat → Int} {b : Nat} {hp : List ri_C} {ws : va_W} {q a : Nat} {c : ri_C} (h3 : ri_hp s as σ b hp ws) (ha : (ws.map Prod.fst)[q]? = some a) (hq : hp[q]? = some c) : ∃ e, ws[q]? = some (a, e) ∧ ri_c s as σ b c e := by
  obtain ⟨w, h1, h2⟩ := r2_get h3 hq
  rw [List.getElem?_map, h1] at ha
  cases ha
  exact ⟨w.2, h1, h2⟩
theorem r2_map {α β γ : Type} {R : β → γ → Prop} {f : α → β} {g : α → γ} : ∀ (l : List α), (∀ k ∈ l, R (f k) (g k)) → ri_2 R (l.map f) (l.map g)
  | [], _ => trivial
  | a :: l, h => ⟨h a List.mem_cons_self, r2_map l (fun k hk => h k (List.mem_cons_of_mem _ hk))⟩
def ri_tok (t : FieldType) : Bool := match t with
  | .float => false
  | .double => false
  | _ => true
theorem dfl_ok {as : List Nat} {σ : Nat → Int} {b : Nat} {t : FieldType} (h : ri_tok t = true) : ri_g as σ b (ri_dfl t) (defaultValue t) := by
  cases t <;> first | (cases h; done) | exact ⟨0, rfl, ⟨by decide, by decide, fun h => absurd rfl h⟩⟩ | rfl
theorem tk_all {ci : Nat} {q : vw_C} (h : vwCl[ci]? = some q) : ∀ k, k < q.2.2 → ri_tok (ri_ty ci k) = true := by
  match ci, h with
  | 0, h => cases h; decide +kernel
  | 1, h => cases h; decide +kernel
  | 2, h => cases h; decide +kernel
  | 3, h => cases h; decide +kernel
  | 4, h => cases h; decide +kernel
  | 5, h => cases h; decide +kernel
  | 6, h => cases h; decide +kernel
  | 7, h => cases h; decide +kernel
  | 8, h => cases h; decide +kernel
  | 9, h => cases h; decide +kernel
  | n + 10, h => simp [vwCl] at h
theorem i32_01 {x : Int32} (h1 : 0 ≤ x.toInt) (h2 : x.toInt ≤ 1) : x = 0 ∨ x = 1 := by
  rcases (show x.toInt = 0 ∨ x.toInt = 1 by omega) with h | h
  · exact Or.inl (Int32.toInt_inj.mp h)
  · exact Or.inr (Int32.toInt_inj.mp h)
theorem fits_ok {as : List Nat} {σ : Nat → Int} {b : Nat} {E : ri_E} {t : FieldType} {v : ri_V} {x : Value} (hE : ri_Eok σ E) (hg : ri_g as σ b v x) (h : ri_fits t E v = true) : narrow t x = x ∧ fits t x = true := by
  unfold ri_fits at h
  split at h
  · obtain ⟨k, rfl, -⟩ := hg
    exact ⟨rfl, rfl⟩
  · rename_i n
    obtain ⟨k, rfl, hn⟩ := hg
    have hb := rn_iv hE hn
    unfold ri_sub at h
    rw [Bool.and_eq_true, decide_eq_true_eq, decide_eq_true_eq] at h
    rcases i32_01 (x := k) (by have := h.1; dsimp only at this; omega) (by have := h.2; dsimp only at this; omega) with rfl | rfl
    · exact ⟨rfl, rfl⟩
    · exact ⟨rfl, rfl⟩
  · obtain ⟨k, rfl, -⟩ := hg
    exact ⟨rfl, rfl⟩
  · rename_i oq
    cases oq with
    | none => cases (show x = .null from hg); exact ⟨rfl, rfl⟩
    | some q => obtain ⟨a, -, rfl⟩ := hg; exact ⟨rfl, rfl⟩
  · rename_i oq
    cases oq with
    | none => cases (show x = .null from hg); exact ⟨rfl, rfl⟩
    | some q => obtain ⟨a, -, rfl⟩ := hg; exact ⟨rfl, rfl⟩
  · cases h
section RS3
variable {p : Program} {l : Launch} {e : Env} {R : Room} {s : State} {m : MethodId} {args : Array Value} {below : List Frame} {meth : Method} {c : Code} {Q : State → Prop} {D : va_G} {A : Nat → Prop} {H0 : Heap} {σ : Nat → Int} {b nL : Nat} {Z : List Nat} {cc : ByteArray} {o : Nat} {sc : Option Nat} {ini : Bool} {rc rs : Nat}
theorem so_get {idx : Nat} {st : ri_S} {sts : List ri_S} (X : ri_X p R s m args meth c D A H0 σ b Z nL cc o sc ini rc rs) (hdg : decode cc st.1 = .ok (.getfield idx, 3)) (h : ri_get o idx st = some sts) (hs : ∀ t ∈ sts, ri_W p l e R s m args below meth c Q D A H0 σ b Z nL t) : ri_W p l e R s m args below meth c Q D A H0 σ b Z nL st := by
  obtain ⟨hx, hb, hml, hown, hts, hK, hA, -⟩ := X
  obtain ⟨pc, lo, sk, hp, E, cs, ss⟩ := st
  intro ls stk H locs ⟨ws, lv, hl, h1, h2, h3, hP, hD, hS, hE, hZ⟩
  unfold ri_get at h
  split at h
  · rename_i _ _ q sk' _ _ _ _ hst
    cases hst
    split at h
    · rename_i ci k pp c1 fs hf hq
      split at h
      · rename_i v hc hv
        cases h
        have hc := Nat.eq_of_beq_eq_true hc
        subst hc
        match stk, h2 with
        | [], h2 => exact h2.elim
        | va :: stk, ⟨⟨a, ha, ea⟩, h2⟩ =>
          subst ea
          obtain ⟨e1, g1, vs, rfl, g2⟩ := at_ref h3 ha hq
          obtain ⟨x, g3, g4⟩ := r2_get g2 hv
          obtain ⟨⟨C, T, N⟩, f1, f2, f3⟩ := tb_f_mem hf
          exact va_get (D := D) hx hb hts (tb_cl f1).2.2 hown hK hP q g1 f1 k f2 (hts _ f3) (fun _ h => h) g3 hdg (hs _ List.mem_cons_self _ _ _ _ ⟨ws, lv, hl, h1, ⟨g4, h2⟩, h3, hP, hD, hS, hE, hZ⟩)
      · cases h
    · cases h
  · cases h
theorem so_put {idx : Nat} {st : ri_S} {sts : List ri_S} (X : ri_X p R s m args meth c D A H0 σ b Z nL cc o sc ini rc rs) (hdg : decode cc st.1 = .ok (.putfield idx, 3)) (h : ri_put o ini idx st = some sts) (hs : ∀ t ∈ sts, ri_W p l e R s m args below meth c Q D A H0 σ b Z nL t) : ri_W p l e R s m args below meth c Q D A H0 σ b Z nL st := by
  obtain ⟨hx, hb, hml, hown, hts, hK, hA, hini, -⟩ := X
  obtain ⟨pc, lo, sk, hp, E, cs, ss⟩ := st
  intro ls stk H locs ⟨ws, lv, hl, h1, h2, h3, hP, hD, hS, hE, hZ⟩
  unfold ri_put at h
  split at h
  · rename_i _ _ v q sk' _ _ _ _ hst
    cases hst
    split at h
    · rename_i ci k pp c1 fs hf hq
      split at h
      · rename_i hk
        cases h
        rw [Bool.and_eq_true, Bool.and_eq_true, Bool.and_eq_true] at hk
        obtain ⟨k1, k2, k3, k4⟩ := hk
        have hc := Nat.eq_of_beq_eq_true k1
        subst hc
        have k2 : k < fs.length := Nat.blt_eq.mp k2
        match stk, h2 with
        | [], h2 => exact h2.elim
        | [_], h2 => exact h2.2.elim
        | x :: va :: stk, ⟨hg, ⟨a, ha, ea⟩, h2⟩ =>
          subst ea
          obtain ⟨e1, g1, vs, rfl, g2⟩ := at_ref h3 ha hq
          obtain ⟨⟨C, T, N⟩, f1, f2, f3⟩ := tb_f_mem hf
          obtain ⟨n1, n2⟩ := fits_ok hE hg k3
          have hkl : k < vs.length := by rw [← r2_len g2]; exact k2
          have hmap := fst_set (e1 := .inr (c1, vs.set k x)) g1
          have fin : ∀ (H1 : Heap) (locs1 : List Loc), va_P D vwCl (ws.set q (a, .inr (c1, vs.set k x))) H1 → va_D A (ws.set q (a, .inr (c1, vs.set k x))) → va_S A H0 H1 locs1 → W p l e R s m args below meth c H1 locs1 cs ss Q (F0 m (pc + 3) ls stk) := by
            intro H1 locs1 hP1 hD1 hS1
            refine hs _ List.mem_cons_self _ _ _ _ ⟨ws.set q (a, .inr (c1, vs.set k x)), lv, hl, ?_, ?_, ?_, hP1, hD1, hS1, hE, by rw [hmap]; exact hZ⟩
            · rw [hmap]; exact h1
            · rw [hmap]; exact h2
            · rw [hmap]; exact r2_set q h3 ⟨vs.set k x, rfl, r2_set k g2 hg⟩
          have hfin : ri_fin c1 k = (T k).2.2.2 := by
            unfold ri_fin
            rw [f1]
          cases hz : ri_fin c1 k with
          | false => exact va_put (D := D) hx hb hts (tb_cl f1).2.2 (ri_ty c1) (tb_cl f1).1 (tb_cl f1).2.1 hown hK hP hD hS q g1 f1 k f2 (hts _ f3) (fun _ h => h) (hfin.symm.trans hz) ((tb_cl f1).1 k f2) n1 n2 hkl hdg fin
          | true =>
            rw [hz] at k4
            dsimp only at k4
            rw [Bool.and_eq_true] at k4
            have ho := Nat.eq_of_beq_eq_true k4.2
            subst ho
            have hdecl : (T k).1 = ri_own c1 := by
              have e : ri_own c1 = C := by
                unfold ri_own
                rw [f1]
              rw [e]
              exact tb_decl f1 k f2
            exact va_putF (D := D) hx hb hts (tb_cl f1).2.2 (ri_ty c1) (tb_cl f1).1 (tb_cl f1).2.1 hown hK hP hD hS q g1 f1 k f2 (hts _ f3) (fun _ h => h) (hfin.symm.trans hz) (hini k4.1) hdecl ((tb_cl f1).1 k f2) n1 n2 hkl hdg fin
      · cases h
    · cases h
  · cases h
theorem vp_V_map {N : Nat} {f : Nat → Value} {j : Nat} (h : j < N) : vp_V ((List.range N).map f) j = f j := by
  unfold vp_V
  rw [List.getD_eq_getElem?_getD, List.getElem?_map, List.getElem?_range h]
  rfl
theorem so_new {idx : Nat} {st : ri_S} {sts : List ri_S} (X : ri_X p R s m args meth c D A H0 σ b Z nL cc o sc ini rc rs) (hdg : decode cc st.1 = .ok (.new idx, 3)) (h : ri_new o rc rs idx st = some sts) (hs : ∀ t ∈ sts, ri_W p l e R s m args below meth c Q D A H0 σ b Z nL t) : ri_W p l e R s m args below meth c Q D A H0 σ b Z nL st := by
  obtain ⟨hx, hb, hml, hown, hts, hK, hA, hini, hsc, ⟨hr1, hr2⟩, -⟩ := X
  obtain ⟨pc, lo, sk, hp, E, cs, ss⟩ := st
  intro ls stk H locs ⟨ws, lv, hl, h1, h2, h3, hP, hD, hS, hE, hZ⟩
  unfold ri_new at h
  dsimp only at h h1 h2 h3 hE ⊢
  split at h
  · cases h
  · rename_i ci r hc
    split at h
    · cases h
    · rename_i q0 hq0
      split at h
      · cases h
      · rename_i hk
        cases h
        rw [Bool.and_eq_true] at hk
        obtain ⟨k1, k2⟩ := hk
        have k1 := Nat.le_of_ble_eq_true k1
        have k2 := Nat.le_of_ble_eq_true k2
        obtain ⟨⟨C, T, N⟩, f1, f2, f3, f4⟩ := tb_c_mem hc
        rw [f1] at hq0
        cases hq0
        refine va_new (ci := ci) (fs := (List.range N).map (fun k => defaultValue (ri_ty ci k))) (C := C) (T := T) (N := N) hx hb hts (tb_cl f1).2.2 (ri_ty ci) (tb_cl f1).1 hown (hts _ f2) (hts _ f3) (hts _ f4) hK hP hD hS hA f1 (fun j hj => (vp_V_map (f := fun k => defaultValue (ri_ty ci k)) hj).symm) (by rw [hr1]; exact k1) (by rw [hr2]; exact k2) hdg (fun qa H1 hP1 hD1 hS1 => ?_)
        have hm : (ws ++ [(qa, (.inr (ci, (List.range N).map (fun k => defaultValue (ri_ty ci k))) : va_E))]).map Prod.fst = ws.map Prod.fst ++ [qa] := by rw [List.map_append]; rfl
        have hlen : hp.length = (ws.map Prod.fst).length := by rw [List.length_map]; exact r2_len h3
        refine hs _ List.mem_cons_self _ _ _ _ ⟨_, lv, hl, ?_, ?_, ?_, hP1, hD1, hS1, hE, by rw [hm]; exact hZ.trans (List.prefix_append _ _)⟩
        · rw [hm]; exact r2_mono (fun _ _ h => ⟨h.1, rg_app h.2⟩) h1
        · rw [hm]; exact ⟨⟨qa, by rw [hlen]; simp, rfl⟩, r2_mono (fun _ _ h => rg_app h) h2⟩
        · rw [hm]
          exact r2_app (show ri_hp s (ws.map Prod.fst ++ [qa]) σ b [.inl (ci, (List.range N).map (fun k => ri_dfl (ri_ty ci k)))] [(qa, .inr (ci, (List.range N).map (fun k => defaultValue (ri_ty ci k))))] from ⟨⟨_, rfl, r2_map _ (fun k hk => dfl_ok (tk_all f1 k (List.mem_range.mp hk)))⟩, trivial⟩) (r2_mono (fun _ _ h => rc_app h) h3)
end RS3
