/-! v2: elements read and written -/
def rj_ckr (r : Int) : Int × Int := match decide (r = 0) with
  | true => (0, 2)
  | false => match decide (r = 1) with
    | true => (0, 24)
    | false => (0, 11)
/-- a place within what has been looked through: a CAR, a STEP, a PLACE -/
def rj_ckf (K : rj_K) (ix : rj_F) : List rj_X → Option (Int × Int)
  | [] => none
  | .inl (ba, li) :: r => match rj_dv 3 (rj_sub ix ba).2 && (rj_le K (rj_scale (-1) (rj_plus (rj_sub ix ba) (-((rj_sub ix ba).1 % 3)))) && rj_le K (rj_plus (rj_sub (rj_plus (rj_sub ix ba) (-((rj_sub ix ba).1 % 3))) li) 1)) with
    | true => some (rj_ckr ((rj_sub ix ba).1 % 3))
    | false => rj_ckf K ix r
  | .inr _ :: r => rj_ckf K ix r
theorem ckf_ok {σ : Nat → Int} {K : rj_K} (hK : rj_sat σ K) {ix : rj_F} (hi : rj_wf K.1.length ix) {f : Nat → Int} : ∀ {ex : List rj_X} {r : Int × Int}, (∀ x ∈ ex, rj_ex K.1.length σ f x) → rj_ckf K ix ex = some r → rj_in r (f (rj_ev σ ix).toNat)
  | [], _, _, h => by cases h
  | .inr e :: ex, r, hx, h => ckf_ok hK hi (fun x hm => hx x (List.mem_cons_of_mem _ hm)) h
  | .inl (ba, li) :: ex, r, hx, h => by
    unfold rj_ckf at h
    split at h
    · rename_i hd
      cases h
      obtain ⟨b1, b2, b3, b4⟩ := hx _ List.mem_cons_self
      rw [Bool.and_eq_true, Bool.and_eq_true] at hd
      obtain ⟨d1, d2, d3⟩ := hd
      have ws := wf_sub hi b1
      have l1 := le_ok hK (wf_scale (f := rj_plus (rj_sub ix ba) (-((rj_sub ix ba).1 % 3))) ws) d2
      have l2 := le_ok hK (g := rj_plus (rj_sub (rj_plus (rj_sub ix ba) (-((rj_sub ix ba).1 % 3))) li) 1) (wf_sub (f := rj_plus (rj_sub ix ba) (-((rj_sub ix ba).1 % 3))) ws b2) d3
      rw [ev_scale, ev_plus] at l1
      rw [ev_plus, ev_sub, ev_plus] at l2
      have hev := ev_sub σ ix ba
      obtain ⟨k, hk⟩ := dv_ok σ d1
      have he : rj_ev σ (rj_sub ix ba) = (rj_sub ix ba).1 + 3 * k := by
        unfold rj_ev
        rw [hk]
      generalize hd0 : (rj_sub ix ba).1 = d at he l1 l2 ⊢
      have hr3 : d % 3 = 0 ∨ d % 3 = 1 ∨ d % 3 = 2 := by omega
      have hj := b4 ((rj_ev σ ix - rj_ev σ ba - d % 3) / 3).toNat (by omega)
      generalize hj0 : ((rj_ev σ ix - rj_ev σ ba - d % 3) / 3).toNat = j at hj
      have e0 : (rj_ev σ ix).toNat = (rj_ev σ ba).toNat + 3 * j + (d % 3).toNat := by omega
      rw [e0]
      rcases hr3 with h3 | h3 | h3
      · rw [h3]; exact hj.1
      · rw [h3]; exact hj.2.1
      · rw [h3]; exact hj.2.2
    · exact ckf_ok hK hi (fun x hm => hx x (List.mem_cons_of_mem _ hm)) h
def rj_inb (K : rj_K) (n : Nat) (ix : rj_F) : Bool := rj_le K (rj_scale (-1) ix) && rj_le K (rj_plus ix (1 - (n : Int)))
theorem inb_ok {σ : Nat → Int} {K : rj_K} (hK : rj_sat σ K) {n : Nat} {ix : rj_F} (hi : rj_wf K.1.length ix) (h : rj_inb K n ix = true) : 0 ≤ rj_ev σ ix ∧ rj_ev σ ix < (n : Int) := by
  unfold rj_inb at h
  rw [Bool.and_eq_true] at h
  have h1 := le_ok hK (wf_scale hi) h.1
  have h2 := le_ok hK (g := rj_plus ix (1 - (n : Int))) hi h.2
  rw [ev_scale] at h1
  rw [ev_plus] at h2
  omega
/-- an act's three numbers, when none is open -/
def rj_tri (K : rj_K) (b : rj_F) : rj_K × rj_F × rj_F × rj_F := match rj_fr K 0 2 with
  | (K1, kv) => match rj_fr K1 0 5 with
    | (K2, rv) => match rj_fr K2 0 99 with
      | (K3, nv) => ((K3.1, (rj_plus nv (-2), [(K.1.length, false, 1)]) :: K3.2), kv, rv, nv)
/-- what is read, and what is known of the cell and of the names then -/
def rj_ald1 (K : rj_K) (q n : Nat) (me : List (rj_F × rj_F)) (ex : List rj_X) (ix : rj_F) : Option (rj_K × List (rj_F × rj_F) × rj_F) := match rj_find me ix with
  | some v => some (K, me, v)
  | none => match rj_ckf K ix ex with
    | some (lo, hi) => (match rj_fr K lo hi with
      | (K1, f) => some (K1, (ix, f) :: me, f))
    | none => match Nat.beq q 116 with
      | true => (match rj_dv 3 ix.2 && (ex.isEmpty && Nat.beq (n % 3) 0) with
        | false => none
        | true => match rj_tri K (rj_plus ix (-(ix.1 % 3))) with
          | (K1, kv, rv, nv) => some (K1, [(rj_plus ix (-(ix.1 % 3)), kv), (rj_plus ix (1 - ix.1 % 3), rv), (rj_plus ix (2 - ix.1 % 3), nv)], match decide (ix.1 % 3 = 0) with
            | true => kv
            | false => match decide (ix.1 % 3 = 1) with
              | true => rv
              | false => nv))
      | false => match rj_rr q ix with
        | (lo, hi) => match rj_fr K lo hi with
          | (K1, f) => some (K1, (ix, f) :: me, f)
theorem me_cons {N : Nat} {σ : Nat → Int} {q n : Nat} {me : List (rj_F × rj_F)} {ex : List rj_X} {f : Nat → Int} {ix v : rj_F} (h : rj_ar N σ q n me ex f) (hm : rj_me N σ n f (ix, v)) : rj_ar N σ q n ((ix, v) :: me) ex f := ⟨h.1, List.forall_mem_cons.mpr ⟨hm, h.2.1⟩, h.2.2.1, h.2.2.2⟩
theorem er116 (j r : Nat) (hr : r < 3) : rj_er 116 (3 * j + r) = ((gi_a 116).2).getD r (0, 0) := by
  unfold rj_er
  have h : (gi_a 116).1 = 3 := by decide +kernel
  rw [h]
  have : (3 * j + r) % 3 = r := by omega
  rw [this]
theorem tri_ok {K K1 : rj_K} {σ : Nat → Int} {b kv rv nv : rj_F} {x y w : Int} (hK : rj_sat σ K) (hx : rj_in (0, 2) x) (hy : rj_in (0, 5) y) (hw : rj_in (0, 99) w) (hi : x ≤ 1 → w ≤ 2) (h : rj_tri K b = (K1, kv, rv, nv)) : ∃ τ, rj_up K K1 σ τ ∧ rj_n K1.1.length τ kv x ∧ rj_n K1.1.length τ rv y ∧ rj_n K1.1.length τ nv w := by
  unfold rj_tri at h
  split at h
  rename_i Ka ka ha
  split at h
  rename_i Kb kb hb
  split at h
  rename_i Kc kc hc
  cases h
  obtain ⟨τ1, u1, n1⟩ := fr_up hK hx.1 hx.2 ha
  obtain ⟨τ2, u2, n2⟩ := fr_up u1.2.2 hy.1 hy.2 hb
  obtain ⟨τ3, u3, n3⟩ := fr_up u2.2.2 hw.1 hw.2 hc
  have hka : K.1.length < Ka.1.length ∧ τ1 K.1.length = x := by
    unfold rj_fr at ha
    have hd : decide ((0 : Int) = 2) = false := rfl
    rw [hd] at ha
    cases ha
    refine ⟨by show K.1.length < (K.1 ++ [_]).length; rw [List.length_append]; exact Nat.lt_succ_self _, ?_⟩
    have := n1.2
    rw [ev_nm] at this
    exact this
  have hlt : K.1.length < Kc.1.length := Nat.lt_of_lt_of_le hka.1 (Nat.le_trans u2.2.1 u3.2.1)
  have hv : τ3 K.1.length = x := by
    rw [u3.1 _ (Nat.lt_of_lt_of_le hka.1 u2.2.1), u2.1 _ hka.1]
    exact hka.2
  have u := up_trans (up_trans u1 u2) u3
  refine ⟨τ3, ⟨u.1, u.2.1, u.2.2.1, List.forall_mem_cons.mpr ⟨⟨n3.1, ?_, ?_⟩, u.2.2.2⟩⟩, rn_ag (Nat.le_trans u2.2.1 u3.2.1) (up_trans u2 u3).1 n1, rn_ag u3.2.1 u3.1 n2, n3⟩
  · intro g hg
    rw [List.mem_singleton.mp hg]
    exact hlt
  · intro hg
    have hg : τ3 K.1.length ≤ 1 := hg _ List.mem_cons_self
    rw [hv] at hg
    have := hi hg
    show rj_ev τ3 (rj_plus nv (-2)) ≤ 0
    rw [ev_plus, n3.2]
    omega
theorem ald1_ok {σ : Nat → Int} {K K1 : rj_K} {q n : Nat} {me me1 : List (rj_F × rj_F)} {ex : List rj_X} {f : Nat → Int} {ix v : rj_F} (hK : rj_sat σ K) (hA : rj_ar K.1.length σ q n me ex f) (hi : rj_wf K.1.length ix) (h0 : 0 ≤ rj_ev σ ix) (h1 : rj_ev σ ix < (n : Int)) (h : rj_ald1 K q n me ex ix = some (K1, me1, v)) : ∃ τ, rj_up K K1 σ τ ∧ rj_ar K1.1.length τ q n me1 ex f ∧ rj_n K1.1.length τ v (f (rj_ev σ ix).toNat) := by
  have one : ∀ {lo hh : Int} {K2 : rj_K} {g : rj_F}, rj_in (lo, hh) (f (rj_ev σ ix).toNat) → rj_fr K lo hh = (K2, g) → ∃ τ, rj_up K K2 σ τ ∧ rj_ar K2.1.length τ q n ((ix, g) :: me) ex f ∧ rj_n K2.1.length τ g (f (rj_ev σ ix).toNat) := by
    intro lo hh K2 g hr hf
    obtain ⟨τ, u, hn⟩ := fr_up hK hr.1 hr.2 hf
    refine ⟨τ, u, me_cons (ar_ag u.2.1 u.1 hA) ⟨wf_le u.2.1 hi, hn.1, ?_, ?_, ?_⟩, hn⟩
    · dsimp only; rw [ev_ag u.1 hi]; exact h0
    · dsimp only; rw [ev_ag u.1 hi]; exact h1
    · dsimp only; rw [ev_ag u.1 hi, hn.2]
  unfold rj_ald1 at h
  split at h
  · rename_i v' hf
    cases h
    obtain ⟨-, a2, -, -, a5⟩ := hA.2.1 _ (find_ok hf)
    exact ⟨σ, up_refl hK, hA, a2, a5.symm⟩
  · split at h
    · rename_i lo hh hc
      split at h
      rename_i K2 g hg
      cases h
      exact one (ckf_ok hK hi hA.2.2.1 hc) hg
    · split at h
      · rename_i hq
        have hq := Nat.eq_of_beq_eq_true hq
        subst hq
        split at h
        · cases h
        · rename_i hd
          rw [Bool.and_eq_true, Bool.and_eq_true] at hd
          obtain ⟨d1, d2, d3⟩ := hd
          have hex : ex = [] := List.isEmpty_iff.mp d2
          subst hex
          have d3 : n % 3 = 0 := Nat.eq_of_beq_eq_true d3
          split at h
          rename_i K2 kv rv nv ht
          obtain ⟨k, hk⟩ := dv_ok σ d1
          have he : rj_ev σ ix = ix.1 + 3 * k := by
            unfold rj_ev
            rw [hk]
          have hj : ∃ j : Nat, rj_ev σ ix - ix.1 % 3 = 3 * (j : Int) ∧ 3 * j + 2 < n := ⟨((rj_ev σ ix - ix.1 % 3) / 3).toNat, by omega, by omega⟩
          obtain ⟨j, j1, j2⟩ := hj
          have ra := hA.1 (3 * j + 0) (by omega)
          have rb := hA.1 (3 * j + 1) (by omega)
          have rc := hA.1 (3 * j + 2) (by omega)
          rw [er116 j 0 (by omega)] at ra
          rw [er116 j 1 (by omega)] at rb
          rw [er116 j 2 (by omega)] at rc
          have hp : f (3 * j) ≤ 1 → f (3 * j + 2) ≤ 2 := by
            rcases hA.2.2.2 rfl j j2 with ⟨e, he, -⟩ | hp
            · exact absurd he List.not_mem_nil
            · exact hp
          obtain ⟨τ, u, n1, n2, n3⟩ := tri_ok (x := f (3 * j)) (y := f (3 * j + 1)) (w := f (3 * j + 2)) hK ra rb rc hp ht
          have hA1 := ar_ag u.2.1 u.1 hA
          have mk : ∀ (d : Int) (r : Nat) (g : rj_F), d = (r : Int) - ix.1 % 3 → 3 * j + r < n → rj_n K2.1.length τ g (f (3 * j + r)) → rj_me K2.1.length τ n f (rj_plus ix d, g) := by
            intro d r g hd hr hg
            have hwf : rj_wf K.1.length (rj_plus ix d) := hi
            have e : rj_ev τ (rj_plus ix d) = ((3 * j + r : Nat) : Int) := by
              rw [ev_plus, ev_ag u.1 hi]
              omega
            refine ⟨wf_le u.2.1 hwf, hg.1, ?_, ?_, ?_⟩
            · dsimp only; rw [e]; omega
            · dsimp only; rw [e]; omega
            · dsimp only; rw [e, hg.2, Int.toNat_natCast]
          cases h
          refine ⟨τ, u, ⟨hA1.1, List.forall_mem_cons.mpr ⟨mk _ 0 kv (by omega) (by omega) n1, List.forall_mem_cons.mpr ⟨mk _ 1 rv rfl (by omega) n2, List.forall_mem_cons.mpr ⟨mk _ 2 nv rfl (by omega) n3, fun _ h => absurd h List.not_mem_nil⟩⟩⟩, hA1.2.2.1, hA1.2.2.2⟩, ?_⟩
          split
          · rename_i h3
            rw [decide_eq_true_eq] at h3
            have : (rj_ev σ ix).toNat = 3 * j := by omega
            rw [this]
            exact n1
          · split
            · rename_i h3
              rw [decide_eq_true_eq] at h3
              have : (rj_ev σ ix).toNat = 3 * j + 1 := by omega
              rw [this]
              exact n2
            · rename_i h3 _ h4
              rw [decide_eq_false_iff_not] at h3 h4
              have : (rj_ev σ ix).toNat = 3 * j + 2 := by omega
              rw [this]
              exact n3
      · split at h
        rename_i lo hh hr
        split at h
        rename_i K2 g hg
        cases h
        have hin := rr_ok h0 (hA.1 (rj_ev σ ix).toNat (by omega))
        rw [hr] at hin
        exact one hin hg
/-! stores -/
def rj_dif (K : rj_K) (a b : rj_F) : Bool := match rj_norm K.1 (rj_sub a b) with
  | d => decide (0 < (rj_iv K.1 d).1) || (decide ((rj_iv K.1 d).2 < 0) || ((rj_dv 3 d.2 && !(decide (d.1 % 3 = 0))) || (rj_dv 7 d.2 && !(decide (d.1 % 7 = 0)))))
theorem dif_dv {σ : Nat → Int} {m : Int} {d : rj_F} (h : (rj_dv m d.2 && !(decide (d.1 % m = 0))) = true) : rj_ev σ d ≠ 0 := by
  rw [Bool.and_eq_true, Bool.not_eq_true', decide_eq_false_iff_not] at h
  obtain ⟨k, hk⟩ := dv_ok σ h.1
  intro h0
  have he : d.1 + m * k = 0 := by
    rw [← hk]
    exact h0
  apply h.2
  have : d.1 = m * (-k) := by
    rw [Int.mul_neg]
    omega
  rw [this]
  exact Int.mul_emod_right m (-k)
theorem dif_ok {σ : Nat → Int} {K : rj_K} (hK : rj_sat σ K) {a b : rj_F} (ha : rj_wf K.1.length a) (hb : rj_wf K.1.length b) (h : rj_dif K a b = true) : rj_ev σ a ≠ rj_ev σ b := by
  unfold rj_dif at h
  obtain ⟨n1, n2⟩ := norm_ok hK.1 (wf_sub ha hb)
  rw [ev_sub] at n1
  generalize rj_norm K.1 (rj_sub a b) = d at h n1 n2
  dsimp only at h
  have hi := iv_ok hK.1 n2
  have h0 : rj_ev σ d ≠ 0 := by
    rw [Bool.or_eq_true, Bool.or_eq_true, Bool.or_eq_true, decide_eq_true_eq, decide_eq_true_eq] at h
    rcases h with h | h | h | h
    · omega
    · omega
    · exact dif_dv h
    · exact dif_dv h
  omega
def rj_isck (x : rj_X) : Bool := match x with
  | .inl _ => true
  | .inr _ => false
/-- are an act's three numbers as they must be -/
def rj_trio (K : rj_K) (me : List (rj_F × rj_F)) (b : rj_F) : Bool := match rj_find me b, rj_find me (rj_plus b 2) with
  | some k, some n => (rj_tst .le K k (rj_k 1)).all (fun K1 => rj_le K1 (rj_plus n (-2)))
  | _, _ => false
def rj_opn (ex : List rj_X) (b : rj_F) : Bool := ex.any (fun x => match x with
  | .inl _ => false
  | .inr e => rj_beq e b)
def rj_ast1 (K : rj_K) (q : Nat) (me : List (rj_F × rj_F)) (ex : List rj_X) (ix v : rj_F) : Option (List (rj_F × rj_F) × List rj_X) := match rj_rw q ix with
  | (lo, hi) => match rj_wi K v lo hi with
    | false => none
    | true => match (ix, v) :: me.filter (fun p => rj_dif K p.1 ix), ex.filter (fun x => !(rj_isck x)) with
      | me1, ex1 => match Nat.beq q 116 with
        | false => some (me1, ex1)
        | true => match rj_dv 3 ix.2 with
          | false => none
          | true => match rj_trio K me1 (rj_plus ix (-(ix.1 % 3))) with
            | true => some (me1, ex1.filter (fun x => match x with
              | .inl _ => false
              | .inr e => !(rj_beq e (rj_plus ix (-(ix.1 % 3))))))
            | false => match rj_opn ex1 (rj_plus ix (-(ix.1 % 3))) with
              | true => some (me1, ex1)
              | false => some (me1, .inr (rj_plus ix (-(ix.1 % 3))) :: ex1)
theorem ast1_ok {σ : Nat → Int} {K : rj_K} {q n : Nat} {me me1 : List (rj_F × rj_F)} {ex ex1 : List rj_X} {f g : Nat → Int} {ix v : rj_F} (hK : rj_sat σ K) (hA : rj_ar K.1.length σ q n me ex f) (hi : rj_wf K.1.length ix) (hv : rj_wf K.1.length v) (h0 : 0 ≤ rj_ev σ ix) (h1 : rj_ev σ ix < (n : Int)) (hg : ∀ j, g j = if j = (rj_ev σ ix).toNat then rj_ev σ v else f j) (h : rj_ast1 K q me ex ix v = some (me1, ex1)) : rj_ar K.1.length σ q n me1 ex1 g ∧ rj_in (rj_rw q ix) (rj_ev σ v) := by
  unfold rj_ast1 at h
  split at h
  rename_i lo hi' hr
  split at h
  · cases h
  · rename_i hw
    have hrange := wi_ok hK hv hw
    have hin : rj_in (rj_er q (rj_ev σ ix).toNat) (rj_ev σ v) := rw_ok h0 (by rw [hr]; exact hrange)
    have c1 : ∀ j, j < n → rj_in (rj_er q j) (g j) := by
      intro j hj
      rw [hg]
      split
      · rename_i he
        rw [he]
        exact hin
      · exact hA.1 j hj
    have c2 : ∀ p ∈ ((ix, v) :: me.filter (fun p => rj_dif K p.1 ix)), rj_me K.1.length σ n g p := by
      refine List.forall_mem_cons.mpr ⟨⟨hi, hv, h0, h1, ?_⟩, fun p hp => ?_⟩
      · dsimp only
        rw [hg, if_pos rfl]
      · obtain ⟨p1, p2⟩ := List.mem_filter.mp hp
        obtain ⟨a1, a2, a3, a4, a5⟩ := hA.2.1 p p1
        refine ⟨a1, a2, a3, a4, ?_⟩
        have := dif_ok hK a1 hi p2
        rw [hg, if_neg (by omega)]
        exact a5
    have c3 : ∀ x ∈ ex.filter (fun x => !(rj_isck x)), rj_ex K.1.length σ g x := by
      intro x hx
      obtain ⟨x1, x2⟩ := List.mem_filter.mp hx
      match x, x1, x2 with
      | .inl _, _, x2 => cases x2
      | .inr e, x1, _ => exact hA.2.2.1 _ x1
    refine ⟨?_, by rw [hr]; exact hrange⟩
    generalize hme : (ix, v) :: me.filter (fun p => rj_dif K p.1 ix) = M at h c2
    generalize hex : ex.filter (fun x => !(rj_isck x)) = X at h c3
    dsimp only at h
    split at h
    · rename_i hq
      cases h
      refine ⟨c1, c2, c3, fun h116 => ?_⟩
      subst h116
      cases hq
    · rename_i hq
      have hq := Nat.eq_of_beq_eq_true hq
      subst hq
      split at h
      · cases h
      · rename_i hdv
        obtain ⟨k, hk⟩ := dv_ok σ hdv
        have he : rj_ev σ ix = ix.1 + 3 * k := by
          unfold rj_ev
          rw [hk]
        have hbv := ev_plus σ ix (-(ix.1 % 3))
        have hbw : rj_wf K.1.length (rj_plus ix (-(ix.1 % 3))) := hi
        have oth : ∀ j : Nat, 3 * j + 2 < n → 3 * (j : Int) ≠ rj_ev σ (rj_plus ix (-(ix.1 % 3))) → (∃ e, Sum.inr e ∈ X ∧ rj_ev σ e = 3 * (j : Int)) ∨ (g (3 * j) ≤ 1 → g (3 * j + 2) ≤ 2) := by
          intro j hj hne
          rcases hA.2.2.2 rfl j hj with ⟨e, e1, e2⟩ | hp
          · refine Or.inl ⟨e, ?_, e2⟩
            rw [← hex]
            exact List.mem_filter.mpr ⟨e1, rfl⟩
          · refine Or.inr ?_
            rw [hg, hg, if_neg (by omega), if_neg (by omega)]
            exact hp
        split at h
        · rename_i ht
          cases h
          refine ⟨c1, c2, fun x hx => c3 x (List.mem_filter.mp hx).1, fun _ j hj => ?_⟩
          by_cases hne : 3 * (j : Int) = rj_ev σ (rj_plus ix (-(ix.1 % 3)))
          · refine Or.inr (fun hle => ?_)
            unfold rj_trio at ht
            split at ht
            · rename_i kf nf hk1 hn1
              obtain ⟨a1, a2, a3, a4, a5⟩ := c2 _ (find_ok hk1)
              obtain ⟨b1, b2, b3, b4, b5⟩ := c2 _ (find_ok hn1)
              dsimp only at a1 a2 a3 a4 a5 b1 b2 b3 b4 b5
              have ej : (rj_ev σ (rj_plus ix (-(ix.1 % 3)))).toNat = 3 * j := by omega
              rw [ej] at a5
              rw [ev_plus] at b5
              have ej2 : (rj_ev σ (rj_plus ix (-(ix.1 % 3))) + 2).toNat = 3 * j + 2 := by omega
              rw [ej2] at b5
              obtain ⟨K1, m1, s1, l1⟩ := tst_ok hK .le (x := kf) (y := rj_k 1) a2 wf_k (by
                show rj_ev σ kf ≤ rj_ev σ (rj_k 1)
                rw [ev_k]
                omega)
              have := le_ok s1 (g := rj_plus nf (-2)) (by rw [l1]; exact b2) (List.all_eq_true.mp ht K1 m1)
              rw [ev_plus] at this
              omega
            · cases ht
          · rcases oth j hj hne with ⟨e, e1, e2⟩ | hp
            · refine Or.inl ⟨e, List.mem_filter.mpr ⟨e1, ?_⟩, e2⟩
              dsimp only
              rw [Bool.not_eq_true']
              cases hb : rj_beq e (rj_plus ix (-(ix.1 % 3))) with
              | false => rfl
              | true =>
                rw [beq_ok hb] at e2
                omega
            · exact Or.inr hp
        · split at h
          · rename_i ho
            cases h
            refine ⟨c1, c2, c3, fun _ j hj => ?_⟩
            by_cases hne : 3 * (j : Int) = rj_ev σ (rj_plus ix (-(ix.1 % 3)))
            · obtain ⟨x, x1, x2⟩ := List.any_eq_true.mp ho
              match x, x1, x2 with
              | .inl _, _, x2 => cases x2
              | .inr e, x1, x2 => exact Or.inl ⟨e, x1, by rw [beq_ok x2]; exact hne.symm⟩
            · exact oth j hj hne
          · cases h
            refine ⟨c1, c2, List.forall_mem_cons.mpr ⟨hbw, c3⟩, fun _ j hj => ?_⟩
            by_cases hne : 3 * (j : Int) = rj_ev σ (rj_plus ix (-(ix.1 % 3)))
            · exact Or.inl ⟨_, List.mem_cons_self, hne.symm⟩
            · rcases oth j hj hne with ⟨e, e1, e2⟩ | hp
              · exact Or.inl ⟨e, List.mem_cons_of_mem _ e1, e2⟩
              · exact Or.inr hp
