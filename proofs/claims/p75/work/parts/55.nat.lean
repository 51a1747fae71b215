/-! v2: the methods of the library -/
def rj_nfr (lo hi : Int) (sk : List rj_V) (st : rj_S) : Option (List rj_S) := match Nat.ble (rj_w sk) 8, rj_fr st.2.2.2.2.1 lo hi with
  | true, (K1, f) => some [(st.1 + 3, st.2.1, .inl f :: sk, st.2.2.2.1, K1, st.2.2.2.2.2)]
  | false, _ => none
def rj_nmx (c : ClassFile.Cond) (x y : rj_F) (sk : List rj_V) (st : rj_S) : Option (List rj_S) := match Nat.ble (rj_w sk) 8 with
  | true => some ((rj_tst c st.2.2.2.2.1 x y).map (fun K1 => (st.1 + 3, st.2.1, .inl x :: sk, st.2.2.2.1, K1, st.2.2.2.2.2)) ++ (rj_tst (ri_neg c) st.2.2.2.2.1 x y).map (fun K1 => (st.1 + 3, st.2.1, .inl y :: sk, st.2.2.2.1, K1, st.2.2.2.2.2)))
  | false => none
def rj_nlen (i : Nat) (sk : List rj_V) (st : rj_S) : Option (List rj_S) := match Nat.ble (rj_w sk) 8, st_len[i]? with
  | true, some n => some [(st.1 + 3, st.2.1, .inl (rj_k n) :: sk, st.2.2.2.1, st.2.2.2.2.1, st.2.2.2.2.2)]
  | _, _ => none
def rj_ncha (x : rj_F) (i : Nat) (sk : List rj_V) (st : rj_S) : Option (List rj_S) := match rj_norm st.2.2.2.2.1.1 x with
  | (j, []) => (match Nat.ble (rj_w sk) 8 && decide (0 ≤ j), st_byt[i]? with
    | true, some bs => (match bs[j.toNat]? with
      | some b => some [(st.1 + 3, st.2.1, .inl (rj_k b.toInt) :: sk, st.2.2.2.1, st.2.2.2.2.1, st.2.2.2.2.2)]
      | none => none)
    | _, _ => none)
  | _ => none
/-- 0: bitCount, 1: max, 2: min, 3: compare, 4: abs, 5: length, 6: charAt -/
def rj_nk (o idx : Nat) : Option Nat := ri_key (match o with
  | 0 => [(239, 0)]
  | 1 => [(95, 1)]
  | 2 => [(261, 2), (272, 5), (284, 6)]
  | 8 => [(325, 1), (335, 0), (885, 3), (933, 4)]
  | _ => []) idx
def rj_nat : rj_Nt := fun o idx st => match rj_nk o idx, st.2.2.1 with
  | some 0, .inl _ :: sk => rj_nfr 0 63 sk st
  | some 1, .inl y :: .inl x :: sk => rj_nmx .ge x y sk st
  | some 2, .inl y :: .inl x :: sk => rj_nmx .le x y sk st
  | some 3, .inr (.inl _) :: .inr (.inl _) :: sk => rj_nfr (-1) 1 sk st
  | some 4, .inr (.inl _) :: sk => (match Nat.ble (rj_w sk) 8, rj_anyL st.2.2.2.2.1 with
    | true, (K1, f) => some [(st.1 + 3, st.2.1, .inr (.inl f) :: sk, st.2.2.2.1, K1, st.2.2.2.2.2)]
    | false, _ => none)
  | some 5, .inr (.inr (.inr (.inl i))) :: sk => rj_nlen i sk st
  | some 6, .inl x :: .inr (.inr (.inr (.inl i))) :: sk => rj_ncha x i sk st
  | _, _ => none
