/-! v2: a call whose arguments are split first -/
theorem met_cases {l : Launch} {y : MethodName} {ws : List Cond} {rm : Room} {P : Array Value → State → Prop} {Q : Array Value → State → Outcome → State → Prop} {mc ms : Nat} {fr : Addr → Prop} (h : ∀ a U, P a U → ∃ P' Q', Met l y ws rm P' Q' mc ms fr ∧ P' a U ∧ ∀ oc t, Q' a U oc t → Q a U oc t) : Met l y ws rm P Q mc ms fr := by
  intro p e h1 h2 h3 s m args below h4 h5 h6 h7
  obtain ⟨P', Q', hM, hP, hQ⟩ := h _ _ h6
  obtain ⟨n, oc, a1, a2, a3, a4, a5⟩ := hM p e h1 h2 h3 s m args below h4 h5 hP h7
  exact ⟨n, oc, a1, a2, a3, hQ _ _ a4, a5⟩
def rj_pt1 (av : List rj_V) (i : Nat) (K : rj_K) : List rj_K := match av[i]? with
  | none => [K]
  | some v => rj_pts K (rj_af v) (rj_iv K.1 (rj_af v)).1 ((rj_iv K.1 (rj_af v)).2 - (rj_iv K.1 (rj_af v)).1 + 1).toNat
def rj_spK (av : List rj_V) : List Nat → List rj_K → List rj_K
  | [], ks => ks
  | i :: r, ks => rj_spK av r (ks.flatMap (rj_pt1 av i))
theorem spK_ok {z : rj_Z} {av : List rj_V} {vs : List Value} {σ : Nat → Int} : ∀ (is : List Nat) {ks : List rj_K} {K : rj_K}, K ∈ ks → rj_sat σ K → ri_2 (rj_g z K.1.length σ) av vs → ∃ K1 ∈ rj_spK av is ks, rj_sat σ K1 ∧ K1.1.length = K.1.length
  | [], ks, K, hk, hK, _ => ⟨K, hk, hK, rfl⟩
  | i :: r, ks, K, hk, hK, hv => by
    have key : ∃ K1 ∈ rj_pt1 av i K, rj_sat σ K1 ∧ K1.1.length = K.1.length := by
      unfold rj_pt1
      split
      · exact ⟨K, List.mem_cons_self, hK, rfl⟩
      · rename_i v hvi
        obtain ⟨x, g1, g2⟩ := r2_get hv hvi
        have hf := af_ok g2
        have hb := iv_ok hK.1 hf.1
        exact pts_ok hK ⟨hf.1, rfl⟩ _ _ hb.1 (by omega)
    obtain ⟨K1, m1, k1, l1⟩ := key
    obtain ⟨K2, m2, k2, l2⟩ := spK_ok r (List.mem_flatMap.mpr ⟨K, hk, m1⟩) k1 (by rw [l1]; exact hv)
    exact ⟨K2, m2, k2, l2.trans l1⟩
def rj_cL (g : rj_K → Option (List rj_O)) : List rj_K → Option (List rj_O)
  | [] => some []
  | K :: r => match g K with
    | none => none
    | some a => match rj_cL g r with
      | none => none
      | some b => some (a ++ b)
theorem cL_sub {g : rj_K → Option (List rj_O)} : ∀ {l : List rj_K} {r : List rj_O}, rj_cL g l = some r → ∀ s ∈ l, ∃ a, g s = some a ∧ ∀ t ∈ a, t ∈ r
  | [], _, _, s, hs => absurd hs List.not_mem_nil
  | x :: l, r, h, s, hs => by
    unfold rj_cL at h
    split at h
    · cases h
    · rename_i a ha
      split at h
      · cases h
      · rename_i b hb
        cases h
        rcases List.mem_cons.mp hs with rfl | hs
        · exact ⟨a, ha, fun t ht => List.mem_append_left _ ht⟩
        · obtain ⟨a2, h1, h2⟩ := cL_sub hb s hs
          exact ⟨a2, h1, fun t ht => List.mem_append_right _ (h2 t ht)⟩
def rj_cc1 (dd : Nat) (sms : List rj_Sm) (j : Nat) (av : List rj_V) (hp : List rj_H) (wr : rj_Wr) (K : rj_K) : Option (List rj_O) := match rj_fsm sms dd j K (av.map (rj_nV K.1)) with
  | none => none
  | some S => match Nat.beq S.2.2.2.2.2.2.2.2 dd with
    | true => rj_sumc S (av.map (rj_nV K.1)) hp K wr
    | false => none
def rj_callC (cj dd : Nat) (is : List Nat) (sms : List rj_Sm) (call : rj_Ca) : rj_Ca := fun j av hp K wr => match Nat.beq j cj with
  | false => call j av hp K wr
  | true => rj_cL (rj_cc1 dd sms j av hp wr) (rj_spK av is [K])
theorem callC_ok {l : Launch} {cj dd d : Nat} {is : List Nat} {sms : List rj_Sm} {call : rj_Ca} (hS : ∀ S ∈ sms, rj_sm l S) (hdd : dd ≤ d) (hg : rj_good l d call) : rj_good l d (rj_callC cj dd is sms call) := by
  intro j av hp K wr outs y cd o mx rt n stt mc ms ct ps hrow hcall
  unfold rj_callC at hcall
  split at hcall
  · exact hg j av hp K wr outs y cd o mx rt n stt mc ms ct ps hrow hcall
  · refine ⟨dd, hdd, fun D z σ w0 ws sz vs => met_cases (fun a U hP => ?_)⟩
    have hP0 := hP
    obtain ⟨h1, h2, h3, h4, h5, h6, h7, h8, h9, h10⟩ := hP0
    obtain ⟨K1, m1, k1, l1⟩ := spK_ok is (List.mem_singleton.mpr rfl) h9 h3
    obtain ⟨o1, c1, c2⟩ := cL_sub hcall K1 m1
    unfold rj_cc1 at c1
    split at c1
    · cases c1
    · rename_i S hf
      split at c1
      · rename_i hd
        have hd := Nat.eq_of_beq_eq_true hd
        obtain ⟨f1, f2, -⟩ := fsm_ok hf
        have hM := hS S f1
        unfold rj_sm at hM
        rw [f2, hd] at hM
        refine ⟨_, _, sumc_ok (σ := σ) (w0 := w0) (hM y cd o mx rt n stt mc ms ct ps hrow D z ws sz vs) c1, ⟨h1, h2, nVs_ok k1 (by rw [l1]; exact h3), h4, by rw [l1]; exact h5, h6, h7, h8, k1, h10⟩, ?_⟩
        intro oc t hQ
        obtain ⟨⟨x, hx, rv, w1, τ, q1, q2, q3, q4, q5⟩, q6⟩ := hQ
        rw [l1] at q3 q4
        exact ⟨⟨x, c2 x hx, rv, w1, τ, q1, q2, q3, q4, q5⟩, q6⟩
      · cases c1
def rj_okC (S : rj_Sm) (sms : List rj_Sm) (cj dd : Nat) (is : List Nat) : Bool := match ri_row S.1, S.2.2.2.2.2.2.2.2 with
  | some (_, _, o, mx, rt, _, _, _, _, ct, _), d + 1 => Nat.ble dd d && rj_chk S ct o mx rt (rj_lpf S.1) (rj_callC cj dd is sms (rj_callT rj_lpf rj_spf sms rj_nat d)) (rj_nt rj_nat d o)
  | _, _ => false
theorem ok_smC {l : Launch} {S : rj_Sm} {sms : List rj_Sm} {cj dd : Nat} {is : List Nat} (hN : rj_natok l rj_nat) (hS : ∀ T ∈ sms, rj_sm l T) (h : rj_okC S sms cj dd is = true) : rj_sm l S := by
  unfold rj_okC at h
  split at h
  · rename_i y cd o mx rt n stt mc ms ct ps d hrow hd
    rw [Bool.and_eq_true] at h
    obtain ⟨h1, h⟩ := h
    unfold rj_chk at h
    split at h
    · cases h
    · rename_i en av ks hbeg
      rw [Bool.and_eq_true] at h
      exact chk_ok (j := 0) hrow hd (callC_ok hS (Nat.le_of_ble_eq_true h1) (callT_ok hS hN d)) hN hbeg h.1 (fun k hk => List.all_eq_true.mp h.2 k hk)
  · cases h
