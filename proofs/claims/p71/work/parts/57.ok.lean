/-! v2: a summary is checked -/
def rj_ok (S : rj_Sm) (sms : List rj_Sm) : Bool := match ri_row S.1, S.2.2.2.2.2.2.2.2 with
  | some (_, _, o, mx, rt, _, _, _, _, ct, _), d + 1 => rj_chk S ct o mx rt (rj_lpf S.1) (rj_callT rj_lpf rj_spf sms rj_nat d) (rj_nt rj_nat d o)
  | _, _ => false
theorem ok_sm {l : Launch} {S : rj_Sm} {sms : List rj_Sm} (hN : rj_natok l rj_nat) (hS : ∀ T ∈ sms, rj_sm l T) (h : rj_ok S sms = true) : rj_sm l S := by
  unfold rj_ok at h
  split at h
  · rename_i y cd o mx rt n stt mc ms ct ps d hrow hd
    unfold rj_chk at h
    split at h
    · cases h
    · rename_i en av ks hbeg
      rw [Bool.and_eq_true] at h
      exact chk_ok (j := 0) hrow hd (callT_ok hS hN d) hN hbeg h.1 (fun k hk => List.all_eq_true.mp h.2 k hk)
  · cases h
