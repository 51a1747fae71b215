/-! v2: the run is sound; what comes back; starts that are split -/
theorem scr_ag {s : State} {A : Nat → Prop} {H0 : Heap} {z : rj_Z} {N M : Nat} {σ τ : Nat → Int} {sc : rj_Sc} (hNM : N ≤ M) (ha : rj_ag N σ τ) (h : rj_scr s A H0 z N σ sc) : rj_scr s A H0 z M τ sc := by
  match sc, h with
  | none, _ => trivial
  | some (lf, bf, fs), ⟨L, xs, x1, x2, x3, x4, x5, x6, x7⟩ =>
    refine ⟨L, xs, x1, x2, x3, rn_ag hNM ha x4, wf_le hNM x5, x6, fun j f hf => ⟨wf_le hNM (x7 j f hf).1, fun h1 h2 => ?_⟩⟩
    rw [ev_ag ha x5] at h1 h2 ⊢
    rw [ev_ag ha (x7 j f hf).1]
    exact (x7 j f hf).2 h1 h2
section RT9
variable {p : Program} {l : Launch} {e : Env} {R : Room} {s : State} {m : MethodId} {args : Array Value} {below : List Frame} {meth : Method} {c : Code} {Q : State → Prop} {D : va_G} {A : Nat → Prop} {H0 : Heap} {z : rj_Z} {N0 : Nat} {σ0 : Nat → Int} {w0 : va_W} {nL cs ss : Nat} {cc : ByteArray} {o : Nat}
theorem to_run {d : Nat} {ct : ri_T} {en : rj_En} {ar : Nat → Int} {w00 : va_W} {lps : List rj_Lp} {sc : rj_Sc} {call : rj_Ca} {nat : Nat → rj_S → Option (List rj_S)} (X : rj_Xc p R s m args c D A H0 z nL cc o cs ss) (hd1 : d + 1 ≤ R.frames) (hd2 : 64 * (d + 1) ≤ R.locals) (hg : rj_good l d call) (hn : rj_nok p l e R s m args below meth c D A H0 z nL cs ss cc nat) (hcd : ri_cdok cc ct) : ∀ (f : Nat) (md : Option (Nat × Nat × Nat)) (st : rj_S) (sts : List rj_S) (N0 : Nat) (σ0 : Nat → Int) (w0 : va_W), rj_inv s z w0 → rj_en N0 σ0 ar w00 0 en → rj_scr s A H0 z N0 σ0 sc → rj_run ct en lps (rj_step ct o sc nL call nat) f md st = some sts → (∀ t ∈ sts, rj_W p l e R s m args below meth c Q D A H0 z N0 σ0 w0 nL cs ss t) → rj_W p l e R s m args below meth c Q D A H0 z N0 σ0 w0 nL cs ss st := by
  intro f
  induction f with
  | zero =>
    intro md st sts N0 σ0 w0 _ _ _ h
    cases h
  | succ f ih =>
    intro md st sts N0 σ0 w0 hI hen hsc h hs
    unfold rj_run at h
    split at h
    · cases h
      exact hs st List.mem_cons_self
    · split at h
      · rename_i sp hsp
        split at h
        · cases h
        · rename_i ext hlp
          refine to_loop hI hen (fun y outs N σ w hN ha hw hb ho => ?_) hlp (fun t ht => ?_)
          · unfold rj_one at hb
            cases hat : ri_at ct y.1 with
            | none =>
              rw [hat] at hb
              cases hb
            | some q =>
              obtain ⟨i, len⟩ := q
              rw [hat] at hb
              dsimp only at hb
              split at hb
              · cases hb
              · rename_i sts1 hst
                exact to_step X hw (scr_ag hN ha hsc) hd1 hd2 hg hn hcd (at_dec hcd hat) hst (fun t ht => by
                  obtain ⟨a, h1, h2⟩ := jall_sub hb t ht
                  exact ih _ t a N σ w hw (en_ag hN ha hen) (scr_ag hN ha hsc) h1 (fun u hu => ho u (h2 u hu)))
          · obtain ⟨a, h1, h2⟩ := jall_sub h t ht
            exact ih _ t a N0 σ0 w0 hI hen hsc h1 (fun u hu => hs u (h2 u hu))
      · split at h
        · cases h
        · rename_i i len hat
          split at h
          · cases h
            exact hs st List.mem_cons_self
          · split at h
            · cases h
            · rename_i s1 hst
              exact to_step X hI hsc hd1 hd2 hg hn hcd (at_dec hcd hat) hst (fun t ht => by
                rw [List.mem_singleton.mp ht]
                exact ih _ s1 sts N0 σ0 w0 hI hen hsc h hs)
            · rename_i sts1 _ hst
              exact to_step X hI hsc hd1 hd2 hg hn hcd (at_dec hcd hat) hst (fun t ht => by
                obtain ⟨a, h1, h2⟩ := jall_sub h t ht
                exact ih _ t a N0 σ0 w0 hI hen hsc h1 (fun u hu => hs u (h2 u hu)))
end RT9
def rj_out (ct : ri_T) (rt : Option FieldType) (st : rj_S) : Option rj_O := match st with
  | (pc, _, sk, hp, K, wr) => match ri_at ct pc, rt, sk with
    | some (.ireturn, 1), some .int, [.inl x] => some (some (.inl x), hp, K, wr)
    | some (.ireturn, 1), some .boolean, [.inl x] => (match rj_wi K x 0 1 with
      | true => some (some (.inl x), hp, K, wr)
      | false => none)
    | some (.lreturn, 1), some .long, [.inr (.inl x)] => some (some (.inr (.inl x)), hp, K, wr)
    | some (.areturn, 1), some (.object _), [.inr (.inr (.inl q))] => some (some (.inr (.inr (.inl q))), hp, K, wr)
    | some (.return_, 1), none, [] => some (none, hp, K, wr)
    | _, _, _ => none
def rj_outs (ct : ri_T) (rt : Option FieldType) : List rj_S → Option (List rj_O)
  | [] => some []
  | s :: r => match rj_out ct rt s with
    | none => none
    | some a => match rj_outs ct rt r with
      | none => none
      | some b => some (a :: b)
theorem jouts_sub {ct : ri_T} {rt : Option FieldType} : ∀ {l : List rj_S} {r : List rj_O}, rj_outs ct rt l = some r → ∀ s ∈ l, ∃ z, rj_out ct rt s = some z ∧ z ∈ r
  | [], _, _, s, hs => absurd hs List.not_mem_nil
  | x :: l, r, h, s, hs => by
    unfold rj_outs at h
    split at h
    · cases h
    · rename_i a ha
      split at h
      · cases h
      · rename_i b hb
        cases h
        rcases List.mem_cons.mp hs with rfl | hs
        · exact ⟨a, ha, List.mem_cons_self⟩
        · obtain ⟨z, h1, h2⟩ := jouts_sub hb s hs
          exact ⟨z, h1, List.mem_cons_of_mem _ h2⟩
def rj_args : Nat → List rj_V → List (Nat × rj_V)
  | _, [] => []
  | i, v :: r => (i, v) :: rj_args (i + rj_cat v) r
theorem jargs_ok {z : rj_Z} {N : Nat} {σ : Nat → Int} : ∀ {av : List rj_V} {vs : List Value} (i : Nat), ri_2 (rj_g z N σ) av vs → rj_lo z N σ (rj_args i av) (lv_args i vs)
  | [], [], _, _ => trivial
  | v :: av, x :: vs, i, h => by
    refine ⟨⟨rfl, h.1⟩, ?_⟩
    have hc := jg_cat h.1
    have e : (if x.category = 2 then i + 2 else i + 1) = i + rj_cat v := by
      rw [hc]
      unfold rj_cat
      split <;> rfl
    show rj_lo z N σ (rj_args (i + rj_cat v) av) (lv_args (if x.category = 2 then i + 2 else i + 1) vs)
    rw [e]
    exact jargs_ok (i + rj_cat v) h.2
  | [], _ :: _, _, h => h.elim
  | _ :: _, [], _, h => h.elim
theorem jargs_len {z : rj_Z} {N : Nat} {σ : Nat → Int} : ∀ {av : List rj_V} {vs : List Value}, ri_2 (rj_g z N σ) av vs → (lg_sl vs).length = rj_w av
  | [], [], _ => rfl
  | v :: av, x :: vs, h => by
    have hc := jg_cat h.1
    have ih := jargs_len h.2
    have e : lg_sl (x :: vs) = (if x.category = 2 then [.val x, .second] else [.val x]) ++ lg_sl vs := by
      unfold lg_sl
      rw [List.flatMap_cons]
    rw [e, List.length_append, ih, hc]
    show _ = rj_cat v + rj_w av
    unfold rj_cat
    split <;> rfl
  | [], _ :: _, h => h.elim
  | _ :: _, [], h => h.elim
/-- at the end: the state meets what is told of the outs -/
theorem to_out {p : Program} {l : Launch} {e : Env} {R : Room} {s : State} {m : MethodId} {args : Array Value} {below : List Frame} {meth : Method} {c : Code} {D : va_G} {z : rj_Z} {N0 : Nat} {σ0 : Nat → Int} {w0 : va_W} {nL : Nat} {cc : ByteArray} {o : Nat} {ct : ri_T} {rt : Option FieldType} {st : rj_S} {x : rj_O} {Qc : Array Value → State → Outcome → State → Prop} (X : rj_Xc p R s m args c D (ri_A z.1 s.heap.size) s.heap z nL cc o 0 0) (hcd : ri_cdok cc ct) (hrt : meth.sig.returnType = rt) (hlk : meth.locks = false)
    (post : ∀ (rv : Option Value) (ws : va_W) (τ : Nat → Int) (t : State), s.WarmedH t.vm → ws.map Prod.fst = z.1 → rj_ag N0 σ0 τ → N0 ≤ x.2.2.1.1.length → rj_sat τ x.2.2.1 → rj_og z x.2.2.1.1.length τ x.1 rv → rj_hp s z x.2.2.1.1.length τ x.2.1 ws → va_P D vwCl ws t.heap → va_D (ri_A z.1 s.heap.size) ws → rj_un w0 ws x.2.2.2 → va_F (ri_A z.1 s.heap.size) s t → Qc args s (.returned rv) t)
    (h : rj_out ct rt st = some x) : rj_W p l e R s m args below meth c (MQ below Qc args s 0 0 (ri_A z.1 s.heap.size)) D (ri_A z.1 s.heap.size) s.heap z N0 σ0 w0 nL 0 0 st := by
  obtain ⟨hx, hb, -⟩ := X
  obtain ⟨pc, lo, sk, hp, K, wr⟩ := st
  intro ls stk H locs ⟨σ, ws, lv, hB, hl, h1, h2, h3⟩
  obtain ⟨b1, b2, b3, b4, b5, b6, b7, b8⟩ := hB
  have fin : ∀ (rv : Option Value) (v : Option rj_V), x = (v, hp, K, wr) → rj_og z K.1.length σ v rv → ∀ t : State, t.heap = H → s.WarmedH t.vm → Qc args s (.returned rv) t := by
    intro rv v hxv hog t ht hW
    subst hxv
    exact post rv ws σ t hW b1 b6 b7 b8 hog h3 (by rw [ht]; exact b2) b3 b5 ⟨by rw [ht]; exact b4.1, fun q hq hA => by rw [ht]; exact b4.2.1 q hq hA⟩
  have hf : ∀ q ∈ locs, ri_A z.1 s.heap.size q.base := b4.2.2
  unfold rj_out at h
  dsimp only at h h1 h2 h3 ⊢
  split at h
  · rename_i y hat
    cases h
    match stk, h2 with
    | [], h2 => exact h2.elim
    | _ :: _ :: _, h2 => exact h2.2.elim
    | [vx], ⟨⟨kx, ex, gx⟩, _⟩ =>
      subst ex
      exact W.iret hx hb hrt (fin _ (some (.inl y)) rfl ⟨kx, rfl, gx⟩) hf (at_dec hcd hat) hlk
  · rename_i y hat
    split at h
    · rename_i hr
      cases h
      match stk, h2 with
      | [], h2 => exact h2.elim
      | _ :: _ :: _, h2 => exact h2.2.elim
      | [vx], ⟨⟨kx, ex, gx⟩, _⟩ =>
        subst ex
        have hbx := wi_ok b8 gx.1 hr
        rw [gx.2] at hbx
        have hn : narrow .boolean (.int kx) = .int kx := by
          rcases i32_01 (x := kx) hbx.1 hbx.2 with rfl | rfl <;> rfl
        exact W.zret hx hb hrt hn (fin _ (some (.inl y)) rfl ⟨kx, rfl, gx⟩) hf (at_dec hcd hat) hlk
    · cases h
  · rename_i y hat
    cases h
    match stk, h2 with
    | [], h2 => exact h2.elim
    | _ :: _ :: _, h2 => exact h2.2.elim
    | [vx], ⟨⟨kx, ex, gx⟩, _⟩ =>
      subst ex
      exact W.lret hx hb hrt (fin _ (some (.inr (.inl y))) rfl ⟨kx, rfl, gx⟩) hf (at_dec hcd hat) hlk
  · rename_i nm q hat
    cases h
    match stk, h2 with
    | [], h2 => exact h2.elim
    | _ :: _ :: _, h2 => exact h2.2.elim
    | [vx], ⟨⟨a, ha, ea⟩, _⟩ =>
      subst ea
      exact W.aret hx hb hrt (Or.inl ⟨_, rfl⟩) (Or.inr ⟨a, rfl⟩) (fin _ (some (.inr (.inr (.inl q)))) rfl ⟨a, ha, rfl⟩) hf (at_dec hcd hat) hlk
  · rename_i hat
    cases h
    match stk, h2 with
    | _ :: _, h2 => exact h2.elim
    | [], _ => exact W.vret hx hb hrt (fin _ none rfl trivial) hf (at_dec hcd hat) hlk
  · cases h
/-- names that are known -/
def rj_nV (E : rj_E) (v : rj_V) : rj_V := match v with
  | .inl f => .inl (rj_norm E f)
  | .inr (.inl f) => .inr (.inl (rj_norm E f))
  | v => v
theorem nV_ok {z : rj_Z} {K : rj_K} {σ : Nat → Int} {v : rj_V} {x : Value} (hK : rj_sat σ K) (h : rj_g z K.1.length σ v x) : rj_g z K.1.length σ (rj_nV K.1 v) x := by
  match v, h with
  | .inl f, ⟨k, e, h⟩ => exact ⟨k, e, n_norm hK h⟩
  | .inr (.inl f), ⟨k, e, h⟩ => exact ⟨k, e, n_norm hK h⟩
  | .inr (.inr (.inl q)), h => exact h
  | .inr (.inr (.inr (.inl i))), h => exact h
  | .inr (.inr (.inr (.inr _))), h => exact h
theorem nVs_ok {z : rj_Z} {K : rj_K} {σ : Nat → Int} (hK : rj_sat σ K) : ∀ {av : List rj_V} {vs : List Value}, ri_2 (rj_g z K.1.length σ) av vs → ri_2 (rj_g z K.1.length σ) (av.map (rj_nV K.1)) vs
  | [], [], _ => trivial
  | v :: av, x :: vs, h => ⟨nV_ok hK h.1, nVs_ok hK h.2⟩
  | [], _ :: _, h => h.elim
  | _ :: _, [], h => h.elim
theorem nV_cat (E : rj_E) (v : rj_V) : rj_cat (rj_nV E v) = rj_cat v := by
  match v with
  | .inl f => rfl
  | .inr (.inl f) => rfl
  | .inr (.inr (.inl q)) => rfl
  | .inr (.inr (.inr (.inl i))) => rfl
  | .inr (.inr (.inr (.inr _))) => rfl
/-- a slot's values one by one -/
def rj_pts (K : rj_K) (f : rj_F) : Int → Nat → List rj_K
  | _, 0 => []
  | a, n + 1 => rj_tst .eq K f (rj_k a) ++ rj_pts K f (a + 1) n
theorem pts_ok {σ : Nat → Int} {K : rj_K} {f : rj_F} {v : Int} (hK : rj_sat σ K) (hf : rj_n K.1.length σ f v) : ∀ (n : Nat) (a : Int), a ≤ v → v < a + (n : Int) → ∃ K1 ∈ rj_pts K f a n, rj_sat σ K1 ∧ K1.1.length = K.1.length
  | 0, a, h1, h2 => absurd h2 (by omega)
  | n + 1, a, h1, h2 => by
    by_cases hv : v = a
    · obtain ⟨K1, e1, k1, l1⟩ := tst_ok hK .eq (x := f) (y := rj_k a) hf.1 wf_k (by
        show rj_ev σ f = rj_ev σ (rj_k a)
        rw [hf.2, ev_k]
        exact hv)
      exact ⟨K1, List.mem_append_left _ e1, k1, l1⟩
    · obtain ⟨K1, e1, h⟩ := pts_ok hK hf n (a + 1) (by omega) (by omega)
      exact ⟨K1, List.mem_append_right _ e1, h⟩
def rj_sp1 (lo : List (Nat × rj_V)) (en : rj_En) (sl : rj_L) (hp : List rj_H) (K : rj_K) : Option (List (List rj_H × rj_K)) := match rj_sf lo en hp K sl with
  | none => none
  | some (hp1, K1, f) => some ((rj_pts K1 f (rj_iv K1.1 f).1 ((rj_iv K1.1 f).2 - (rj_iv K1.1 f).1 + 1).toNat).map (fun K2 => (hp1, K2)))
def rj_spA (lo : List (Nat × rj_V)) (en : rj_En) (sl : rj_L) : List (List rj_H × rj_K) → Option (List (List rj_H × rj_K))
  | [] => some []
  | x :: r => match rj_sp1 lo en sl x.1 x.2 with
    | none => none
    | some a => match rj_spA lo en sl r with
      | none => none
      | some b => some (a ++ b)
def rj_spL (lo : List (Nat × rj_V)) (en : rj_En) : List rj_L → List (List rj_H × rj_K) → Option (List (List rj_H × rj_K))
  | [], xs => some xs
  | sl :: r, xs => match rj_spA lo en sl xs with
    | none => none
    | some ys => rj_spL lo en r ys
section RT10
variable {U : State} {z : rj_Z} {w : va_W} {lo : List (Nat × rj_V)} {lv : List (Nat × Value)} {en : rj_En} {ar : Nat → Int} {w0 : va_W} {rt : Int}
theorem sp1_ok {σ : Nat → Int} {hp : List rj_H} {K : rj_K} {sl : rj_L} {ys : List (List rj_H × rj_K)} (hH : rj_hp U z K.1.length σ hp w) (hK : rj_sat σ K) (hl : rj_lo z K.1.length σ lo lv) (he : rj_en K.1.length σ ar w0 rt en) (h : rj_sp1 lo en sl hp K = some ys) : ∃ y ∈ ys, ∃ τ, rj_up K y.2 σ τ ∧ rj_hp U z y.2.1.length τ y.1 w := by
  unfold rj_sp1 at h
  split at h
  · cases h
  · rename_i hp1 K1 f hf
    cases h
    obtain ⟨τ, u, g1, g2⟩ := sf_ok hH hK hl he hf
    have hb := iv_ok u.2.2.1 g2.1
    obtain ⟨K2, m1, m2, m3⟩ := pts_ok u.2.2 ⟨g2.1, rfl⟩ ((rj_iv K1.1 f).2 - (rj_iv K1.1 f).1 + 1).toNat (rj_iv K1.1 f).1 hb.1 (by omega)
    have u2 := up_len m2 m3
    exact ⟨(hp1, K2), List.mem_map.mpr ⟨K2, m1, rfl⟩, τ, up_trans u u2, hp_ag u2.2.1 u2.1 g1⟩
theorem spA_ok {sl : rj_L} : ∀ {xs ys : List (List rj_H × rj_K)}, rj_spA lo en sl xs = some ys → ∀ y ∈ xs, ∃ zs, rj_sp1 lo en sl y.1 y.2 = some zs ∧ ∀ t ∈ zs, t ∈ ys
  | [], _, _, y, hy => absurd hy List.not_mem_nil
  | x :: r, ys, h, y, hy => by
    unfold rj_spA at h
    split at h
    · cases h
    · rename_i a ha
      split at h
      · cases h
      · rename_i b hb
        cases h
        rcases List.mem_cons.mp hy with rfl | hy
        · exact ⟨a, ha, fun t ht => List.mem_append_left _ ht⟩
        · obtain ⟨zs, h1, h2⟩ := spA_ok hb y hy
          exact ⟨zs, h1, fun t ht => List.mem_append_right _ (h2 t ht)⟩
theorem spL_ok : ∀ (sls : List rj_L) {xs ys : List (List rj_H × rj_K)} {x : List rj_H × rj_K} {σ : Nat → Int}, x ∈ xs → rj_hp U z x.2.1.length σ x.1 w → rj_sat σ x.2 → rj_lo z x.2.1.length σ lo lv → rj_en x.2.1.length σ ar w0 rt en → rj_spL lo en sls xs = some ys → ∃ y ∈ ys, ∃ τ, rj_up x.2 y.2 σ τ ∧ rj_hp U z y.2.1.length τ y.1 w
  | [], xs, ys, x, σ, hx, hH, hK, hl, he, h => by
    cases h
    exact ⟨x, hx, σ, up_refl hK, hH⟩
  | sl :: r, xs, ys, x, σ, hx, hH, hK, hl, he, h => by
    unfold rj_spL at h
    split at h
    · cases h
    · rename_i y1 hy1
      obtain ⟨zs, h1, h2⟩ := spA_ok hy1 x hx
      obtain ⟨y, m1, τ, u, g⟩ := sp1_ok hH hK hl he h1
      obtain ⟨y2, m2, τ2, u2, g2⟩ := spL_ok r (h2 y m1) g u.2.2 (lo_ag u.2.1 u.1 hl) (en_ag u.2.1 u.1 he) h
      exact ⟨y2, m2, τ2, up_trans u u2, g2⟩
end RT10
