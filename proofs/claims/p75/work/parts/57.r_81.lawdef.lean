/-! two slots that are one number: the second gets the first one's form -/
abbrev lw_Pr : Type := Nat × Nat × Nat × Nat
def rj_sm1 (e : lw_Pr) (hp : List rj_H) (K : rj_K) : Option (List rj_H × rj_K) := match rj_sf0 [] rj_en0 hp K 1 e.1 e.2.1 with
  | none => none
  | some (hp1, K1, f) => match hp1[e.2.2.1]? with
    | some (.inr (.inl (g, n, me, ex))) => (match Nat.ble (e.2.2.2 + 1) n with
      | true => some (hp1.set e.2.2.1 (.inr (.inl (g, n, (rj_k (e.2.2.2 : Int), f) :: me, ex))), K1)
      | false => none)
    | _ => none
def rj_smL : List lw_Pr → List rj_H → rj_K → Option (List rj_H × rj_K)
  | [], hp, K => some (hp, K)
  | e :: r, hp, K => match rj_sm1 e hp K with
    | none => none
    | some (hp1, K1) => rj_smL r hp1 K1
theorem ar_me {N : Nat} {σ : Nat → Int} {q n j : Nat} {me : List (rj_F × rj_F)} {ex : List rj_X} {f : rj_F} {fn : Nat → Int} (h : rj_ar N σ q n me ex fn) (hj : j < n) (hf : rj_n N σ f (fn j)) : rj_ar N σ q n ((rj_k (j : Int), f) :: me) ex fn := by
  obtain ⟨h1, h2, h3, h4⟩ := h
  refine ⟨h1, fun p hp => ?_, h3, h4⟩
  rcases List.mem_cons.mp hp with rfl | hp
  · refine ⟨wf_k, hf.1, ?_, ?_, ?_⟩
    · rw [ev_k]; omega
    · rw [ev_k]; omega
    · rw [ev_k, show ((j : Int)).toNat = j by omega]
      exact hf.2.symm
  · exact h2 p hp
theorem sm1_ok {U : State} {z : rj_Z} {w : va_W} {e : lw_Pr} {σ : Nat → Int} {hp hp1 : List rj_H} {K K1 : rj_K} (hH : rj_hp U z K.1.length σ hp w) (hK : rj_sat σ K) (he : rj_wfv w e.1 e.2.1 = rj_wev w e.2.2.1 e.2.2.2) (h : rj_sm1 e hp K = some (hp1, K1)) : ∃ τ, rj_up K K1 σ τ ∧ rj_hp U z K1.1.length τ hp1 w := by
  unfold rj_sm1 at h
  split at h
  · cases h
  · rename_i hp2 K2 f hf
    split at h
    · rename_i g n me ex hq
      split at h
      · rename_i hj
        have hj := Nat.le_of_ble_eq_true hj
        cases h
        obtain ⟨τ, u, g1, g2⟩ := sf0_ok (lo := []) (lv := []) hH hK trivial (en0_ok (N := K.1.length) (σ := σ)) hf
        have g2 : rj_n K1.1.length τ f (rj_wfv w e.1 e.2.1) := g2
        rw [he] at g2
        refine ⟨τ, u, ?_, fun q c p h1 h2 => ?_⟩
        · rw [List.length_set]; exact g1.1
        · rw [List.getElem?_set] at h1
          split at h1
          · rename_i hqq
            subst hqq
            split at h1
            · cases h1
              have hc := g1.2 _ _ p hq h2
              rcases hc with ⟨cA, f0, e1, e2, e3, e4⟩ | ⟨cA, f0, e1, e2, e3, e4⟩
              · refine Or.inl ⟨cA, f0, e1, e2, e3, ar_me e4 hj ?_⟩
                obtain ⟨ad, pe⟩ := p
                dsimp only at e1
                rw [e1] at h2
                rw [wev_i h2] at g2
                exact g2
              · refine Or.inr ⟨cA, f0, e1, e2, e3, ar_me e4 hj ?_⟩
                obtain ⟨ad, pe⟩ := p
                dsimp only at e1
                rw [e1] at h2
                rw [wev_l h2] at g2
                exact g2
            · cases h1
          · exact g1.2 q c p h1 h2
      · cases h
    · cases h
theorem smL_ok {U : State} {z : rj_Z} {w : va_W} : ∀ (es : List lw_Pr) {σ : Nat → Int} {hp hp1 : List rj_H} {K K1 : rj_K}, rj_hp U z K.1.length σ hp w → rj_sat σ K → (∀ e ∈ es, rj_wfv w e.1 e.2.1 = rj_wev w e.2.2.1 e.2.2.2) → rj_smL es hp K = some (hp1, K1) → ∃ τ, rj_up K K1 σ τ ∧ rj_hp U z K1.1.length τ hp1 w
  | [], σ, hp, hp1, K, K1, hH, hK, _, h => by
    cases h
    exact ⟨σ, up_refl hK, hH⟩
  | e :: r, σ, hp, hp1, K, K1, hH, hK, he, h => by
    unfold rj_smL at h
    split at h
    · cases h
    · rename_i hp2 K2 h1
      obtain ⟨τ, u, g⟩ := sm1_ok hH hK (he e List.mem_cons_self) h1
      obtain ⟨τ2, u2, g2⟩ := smL_ok r g u.2.2 (fun q hq => he q (List.mem_cons_of_mem _ hq)) h
      exact ⟨τ2, up_trans u u2, g2⟩
/-- the two facts of a pair -/
def lw_pf (e : lw_Pr) : List rj_Ft := [(0, [((1, e.1, e.2.1, 0), 1), ((2, e.2.2.1, e.2.2.2, 0), -1)], []), (0, [((2, e.2.2.1, e.2.2.2, 0), 1), ((1, e.1, e.2.1, 0), -1)], [])]
theorem pf_ok {ar : Nat → Int} {w0 w : va_W} {rt : Int} {lv : List (Nat × Value)} {e : lw_Pr} (h : ∀ F ∈ lw_pf e, rj_fh (rj_sv ar w0 rt lv w) F) : rj_wfv w e.1 e.2.1 = rj_wev w e.2.2.1 e.2.2.2 := by
  have h1 := h _ List.mem_cons_self (fun _ h => absurd h List.not_mem_nil)
  have h2 := h _ (List.mem_cons_of_mem _ List.mem_cons_self) (fun _ h => absurd h List.not_mem_nil)
  simp only [rj_ssum, rj_sv, rj_sv0] at h1 h2
  omega
/-! the law: what is known at its loop's head, and its run from there -/
def lw_sc : rj_Sc := some (rj_nm 0, rj_nm 1, [rj_nm 2, rj_nm 3, rj_nm 4, rj_nm 5, rj_nm 6, rj_nm 7])
def lw_K0 : rj_K := ([(0, 3072), (0, 3072), (-2147483648, 2147483647), (-2147483648, 2147483647), (-2147483648, 2147483647), (-2147483648, 2147483647), (-2147483648, 2147483647), (-2147483648, 2147483647)], [])
def lw_lo : List (Nat × rj_V) := [(0, .inr (.inr (.inr (.inr ())))), (1, .inr (.inr (.inl 0))), (2, .inr (.inr (.inl 106))), (3, .inl (rj_nm 1))]
def lw_F : List rj_Ft := [(0, [((2, 4, 0, 0), 1), ((2, 5, 0, 0), (-1))], [((1, 3, 4, 0), true, 1)]), (0, [((2, 4, 1, 0), 1), ((2, 5, 1, 0), (-1))], [((1, 3, 4, 0), true, 2)]), (0, [((2, 4, 2, 0), 1), ((2, 5, 2, 0), (-1))], [((1, 3, 4, 0), true, 3)]), (0, [((2, 28, 0, 0), 1), ((2, 29, 0, 0), (-1))], [((1, 27, 4, 0), true, 1)]), (0, [((2, 28, 1, 0), 1), ((2, 29, 1, 0), (-1))], [((1, 27, 4, 0), true, 2)]), (0, [((2, 28, 2, 0), 1), ((2, 29, 2, 0), (-1))], [((1, 27, 4, 0), true, 3)]), (0, [((2, 39, 0, 0), 1), ((2, 40, 0, 0), (-1))], [((1, 38, 4, 0), true, 1)]), (0, [((2, 39, 1, 0), 1), ((2, 40, 1, 0), (-1))], [((1, 38, 4, 0), true, 2)]), (0, [((2, 39, 2, 0), 1), ((2, 40, 2, 0), (-1))], [((1, 38, 4, 0), true, 3)]), (0, [((2, 50, 0, 0), 1), ((2, 51, 0, 0), (-1))], [((1, 49, 4, 0), true, 1)]), (0, [((2, 50, 1, 0), 1), ((2, 51, 1, 0), (-1))], [((1, 49, 4, 0), true, 2)]), (0, [((2, 50, 2, 0), 1), ((2, 51, 2, 0), (-1))], [((1, 49, 4, 0), true, 3)]), (0, [((2, 114, 0, 0), 1), ((2, 114, 1, 0), (-1))], []), (0, [((2, 114, 3, 0), 1), ((2, 114, 4, 0), (-1))], []), (0, [((2, 114, 6, 0), 1), ((2, 114, 7, 0), (-1))], []), (0, [((2, 114, 9, 0), 1), ((2, 114, 10, 0), (-1))], []), (0, [((2, 114, 12, 0), 1), ((2, 114, 13, 0), (-1))], []), (0, [((2, 114, 15, 0), 1), ((2, 114, 16, 0), (-1))], []), (0, [((2, 114, 18, 0), 1), ((2, 114, 19, 0), (-1))], []), (0, [((2, 114, 21, 0), 1), ((2, 114, 22, 0), (-1))], []), (0, [((2, 114, 24, 0), 1), ((2, 114, 25, 0), (-1))], []), (0, [((2, 114, 27, 0), 1), ((2, 114, 28, 0), (-1))], []), (0, [((2, 114, 30, 0), 1), ((2, 114, 31, 0), (-1))], []), (0, [((2, 114, 33, 0), 1), ((2, 114, 34, 0), (-1))], []), (0, [((2, 114, 36, 0), 1), ((2, 114, 37, 0), (-1))], []), (0, [((2, 114, 39, 0), 1), ((2, 114, 40, 0), (-1))], []), (0, [((2, 114, 42, 0), 1), ((2, 114, 43, 0), (-1))], [])]
def hp_fld (k : Nat) (h : rj_H) : rj_H := match h with
  | .inl (c, fs) => .inl (c, fs.set k (some (.inl (rj_k 0))))
  | h => h
def hp_mem (js : List Int) (h : rj_H) : rj_H := match h with
  | .inr (.inl (g, n, _, _)) => .inr (.inl (g, n, js.map (fun j => (rj_k j, rj_k 0)), []))
  | h => h
def hp_fl2 (k : Nat) (v : Int) (h : rj_H) : rj_H := match h with
  | .inl (c, fs) => .inl (c, fs.set k (some (.inl (rj_k v))))
  | h => h
def hp_me2 (js : List Int) (v : Int) (h : rj_H) : rj_H := match h with
  | .inr (.inl (g, n, _, _)) => .inr (.inl (g, n, js.map (fun j => (rj_k j, rj_k v)), []))
  | h => h
def hp_upd (q : Nat) (f : rj_H → rj_H) (hs : List rj_H) : List rj_H := match hs[q]? with
  | some h => hs.set q (f h)
  | none => hs
def hp_S : List rj_H := hp_upd 3 (hp_fld 4) (hp_upd 27 (hp_fld 4) (hp_upd 38 (hp_fld 4) (hp_upd 49 (hp_fld 4) (hp_upd 114 (hp_mem [0, 1, 3, 4, 6, 7, 9, 10, 12, 13, 15, 16, 18, 19, 21, 22, 24, 25, 27, 28, 30, 31, 33, 34, 36, 37, 39, 40, 42, 43]) (hp_upd 67 (fun h => hp_fl2 2 0 (hp_fl2 1 (-1) h)) (hp_upd 65 (fun h => hp_fl2 2 0 (hp_fl2 1 (-1) h)) (hp_upd 63 (fun h => hp_fl2 2 0 (hp_fl2 1 (-1) h)) (hp_upd 61 (fun h => hp_fl2 2 0 (hp_fl2 1 (-1) h)) (hp_upd 107 (hp_me2 [0, 1, 2, 3] (-1)) (hp_upd 108 (hp_me2 [0, 1, 2, 3] 0) gi_h))))))))))
def lw_sms : List rj_Sm := [sm_1, sm_2, sm_16, sm_17, sm_18, sm_19, sm_33, sm_34, sm_35, sm_37, sm_38, sm_39, sm_40, sm_41, sm_42, sm_44, sm_45, sm_46, sm_47, sm_49, sm_50, sm_52, sm_53, sm_55, sm_57, sm_58, sm_59, sm_60, sm_61, sm_62, sm_63, sm_64, sm_65, sm_67, sm_76, sm_77, sm_78, sm_81, sm_82, sm_83, sm_84, sm_85, sm_86, sm_87, sm_90, sm_99, sm_100, sm_105, sm_106, sm_107, sm_110, sm_111, sm_112, sm_113, sm_114, sm_115, sm_117, sm_118, sm_119, sm_120, sm_121, sm_122, sm_123, sm_125, sm_126, sm_128, sm_129, sm_130, sm_132, sm_140, sm_143, sm_145, sm_146, sm_147, sm_149, sm_161, sm_162, sm_164, sm_173, sm_174, sm_175, sm_177, sm_178, sm_179, sm_180, sm_181, sm_182, sm_184, sm_185, sm_186, sm_187, sm_189, sm_190, sm_192, sm_193, sm_195, sm_196, sm_197, sm_198, sm_199, sm_200, sm_201, sm_202, sm_203, sm_204, sm_206, sm_214, sm_215, sm_216, sm_218, sm_220, sm_221, sm_222, sm_223, sm_224, sm_225, sm_227, sm_230, sm_231, sm_232, sm_233, sm_234, sm_235, sm_236, sm_237, sm_238, sm_239, sm_240, sm_242, sm_243, sm_245, sm_246, sm_247, sm_249, sm_250, sm_251, sm_252, sm_253, sm_254, sm_255, sm_256, sm_257, sm_258, sm_259, sm_261, sm_262, sm_263]
def lw_step : Instr → Nat → rj_S → Option (List rj_S) := rj_step ct_law 10 lw_sc 4 (rj_callT rj_lpf rj_spf lw_sms rj_nat 80) (fun _ _ => none)
def lw_E : List lw_Pr := [(61, 1, 107, 0), (61, 2, 108, 0), (63, 1, 107, 1), (63, 2, 108, 1), (65, 1, 107, 2), (65, 2, 108, 2), (67, 1, 107, 3), (67, 2, 108, 3)]
def lw_A : Option (List rj_S) := match rj_smL lw_E gi_h lw_K0 with
  | none => none
  | some (hpE, KE) => match rj_asL [] rj_en0 lw_F hpE KE with
    | some (some (hp, K)) => rj_run ct_law rj_en0 [] lw_step 1000 (some (99999, 0, 343)) (18, lw_lo, [], hp, K, [])
    | _ => none
def lw_lok (lo : List (Nat × rj_V)) : Bool := match ri_key lo 0, ri_key lo 1, ri_key lo 2, ri_key lo 3 with
  | some (.inr (.inr (.inr (.inr _)))), some (.inr (.inr (.inl a))), some (.inr (.inr (.inl b))), some (.inl f) => Nat.beq a 0 && (Nat.beq b 106 && rj_beq f (rj_nm 1))
  | _, _, _, _ => false
def lw_end (t : rj_S) : Bool := match t with
  | (pc, lo, sk, hp, K, wr) => match Nat.beq pc 2386, sk with
    | true, [] => lw_lok lo && (rj_wiL hp K wr && (rj_chL [] rj_en0 hp K lw_F && (rj_le K (rj_plus (rj_sub (rj_nm 1) (rj_nm 0)) 6) && rj_chL [] rj_en0 hp K (lw_E.flatMap lw_pf))))
    | false, [.inl f] => Nat.beq pc 2393 && (decide ((rj_iv K.1 f).1 = 1) && decide ((rj_iv K.1 f).2 = 1))
    | _, _ => false
def lw_pt (n : Nat) (lo : Int) (cnt : Nat) (K : rj_K) : List rj_K := match Nat.ble (n + 1) K.1.length with
  | true => rj_tst .lt K (rj_nm n) (rj_k lo) ++ (rj_tst .ge K (rj_nm n) (rj_k (lo + (cnt : Int))) ++ rj_pts K (rj_nm n) lo cnt)
  | false => [K]
def lw_sp : List (Nat × Int × Nat) → List rj_K → List rj_K
  | [], ks => ks
  | (n, lo, cnt) :: r, ks => lw_sp r (ks.flatMap (lw_pt n lo cnt))
def lw_B1 (t : rj_S) (K1 : rj_K) : Bool := match rj_run ct_law rj_en0 [] lw_step 100000 (some (2386, 0, 99999)) (t.1, t.2.1, t.2.2.1, t.2.2.2.1, K1, t.2.2.2.2.2) with
  | none => false
  | some sts => sts.all lw_end
def lw_pts (pc : Nat) : List (Nat × Int × Nat) := match ri_key [(2161, [(3, 0, 3)]), (2184, [(3, 0, 3)]), (2207, [(3, 0, 4)]), (2323, [(3, 0, 4), (5, 0, 4)])] pc with
  | some r => r
  | none => []
def lw_k (k : Nat) : Bool := match lw_A with
  | none => false
  | some sts => match sts[k]? with
    | none => true
    | some t => (lw_sp (lw_pts t.1) [t.2.2.2.2.1]).all (lw_B1 t)
def lw_n (n : Nat) : Bool := match lw_A with
  | none => false
  | some sts => Nat.ble sts.length n
