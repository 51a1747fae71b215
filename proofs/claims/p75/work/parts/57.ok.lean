/-! v2: a summary is checked -/
def rj_ok (S : rj_Sm) (sms : List rj_Sm) : Bool := match ri_row S.1, S.2.2.2.2.2.2.2.2 with
  | some (_, _, o, mx, rt, _, _, _, _, ct, _), d + 1 => rj_chk S ct o mx rt (rj_lpf S.1) (rj_callT rj_lpf rj_spf sms rj_nat d) (rj_nt rj_nat d o)
  | _, _ => false
theorem ok_sm {l : Launch} {S : rj_Sm} {sms : List rj_Sm} (hN : rj_natok l rj_nat) (hS : ∀ T ∈ sms, rj_sm l T) (h : rj_ok S sms = true) : rj_sm l S := by
  unfold rj_ok at h
  split at h
  · rename_i y cd o mx rt n stt mc ms ct ps d hrow hd
    unfold rj_chk at h
    split at h
    · cases h
    · rename_i en av ks hbeg
      rw [Bool.and_eq_true] at h
      exact chk_ok (j := 0) hrow hd (callT_ok hS hN d) hN hbeg h.1 (fun k hk => List.all_eq_true.mp h.2 k hk)
  · cases h
/-! by its starts, one by one -/
def rj_okK (S : rj_Sm) (sms : List rj_Sm) (k : Nat) : Bool := match ri_row S.1, S.2.2.2.2.2.2.2.2 with
  | some (_, _, o, mx, rt, _, _, _, _, ct, _), d + 1 => (match rj_beg S with
    | none => false
    | some (en, av, ks) => Nat.ble (rj_w av) mx && (match ks[k]? with
      | none => true
      | some x => rj_go1 S ct o mx rt (rj_lpf S.1) (rj_callT rj_lpf rj_spf sms rj_nat d) (rj_nt rj_nat d o) en av x))
  | _, _ => false
def rj_okN (S : rj_Sm) (n : Nat) : Bool := match rj_beg S with
  | some (_, _, ks) => Nat.ble ks.length n
  | none => false
theorem ok_smK {l : Launch} {S : rj_Sm} {sms : List rj_Sm} {n : Nat} (hN : rj_natok l rj_nat) (hS : ∀ T ∈ sms, rj_sm l T) (hn : rj_okN S (n + 1) = true) (h : ∀ k, k < n + 1 → rj_okK S sms k = true) : rj_sm l S := by
  have h0 := h 0 (Nat.succ_pos n)
  unfold rj_okK at h0
  split at h0
  · rename_i y cd o mx rt n1 stt mc ms ct ps d hrow hd
    split at h0
    · cases h0
    · rename_i en av ks hbeg
      rw [Bool.and_eq_true] at h0
      refine chk_ok (j := 0) (lps := rj_lpf S.1) hrow hd (callT_ok (lpf := rj_lpf) (spf := rj_spf) hS hN d) hN hbeg h0.1 (fun k hk => ?_)
      obtain ⟨i, hi⟩ := List.getElem?_of_mem hk
      unfold rj_okN at hn
      rw [hbeg] at hn
      have hn := Nat.le_of_ble_eq_true hn
      have hlt := (List.getElem?_eq_some_iff.mp hi).1
      have hk2 := h i (by omega)
      unfold rj_okK at hk2
      rw [hrow, hd] at hk2
      dsimp only at hk2
      rw [hbeg] at hk2
      dsimp only at hk2
      rw [Bool.and_eq_true, hi] at hk2
      exact hk2.2
  · cases h0
