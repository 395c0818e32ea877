/-! ===== what the reference answers of near, short, cut ===== -/
theorem jShr {a d : Nat} {D : Int64} (hD : (D.toBitVec.smod 64).toNat = d) (h : a < 4611686018427387904) : zJ (a : Int) >>> D = zJ ((a / 2 ^ d : Nat) : Int) := by
  have hd : a / 2 ^ d ≤ a := Nat.div_le_self _ _
  apply Int64.toInt_inj.mp
  have e : (zJ (a : Int) >>> D).toInt = (zJ (a : Int)).toInt >>> d := by
    rw [← hD]
    exact BitVec.toInt_sshiftRight ..
  rw [e, Int.shiftRight_eq_div_pow, zJ_toInt (rJ_sm (sm_nat h)), zJ_toInt (rJ_sm (sm_nat (Nat.lt_of_le_of_lt hd h)))]
  rfl
theorem jOr {r i : Nat} (hi : i < 64) (h : r < 2 ^ i) : zJ (r : Int) ||| zJ ((2 ^ i : Nat) : Int) = zJ ((r + 2 ^ i : Nat) : Int) := by
  have hp : 2 ^ i ≤ 2 ^ 63 := Nat.pow_le_pow_right (by decide) (by omega)
  apply Int64.toBitVec_inj.mp
  apply BitVec.eq_of_toNat_eq
  show ((BitVec.ofInt 64 (r : Int)) ||| (BitVec.ofInt 64 ((2 ^ i : Nat) : Int))).toNat = (BitVec.ofInt 64 ((r + 2 ^ i : Nat) : Int)).toNat
  rw [BitVec.toNat_or, BitVec.ofInt_natCast, BitVec.ofInt_natCast, BitVec.ofInt_natCast, BitVec.toNat_ofNat, BitVec.toNat_ofNat, BitVec.toNat_ofNat, Nat.mod_eq_of_lt (by omega), Nat.mod_eq_of_lt (by omega), Nat.mod_eq_of_lt (by omega)]
  have h' := Nat.two_pow_add_eq_or_of_lt h 1
  rw [Nat.mul_one] at h'
  rw [Nat.or_comm, ← h', Nat.add_comm]
theorem shl52 : ∀ k : Fin 128, zJ (960 + (k.val : Int)) <<< ((52 : Int32).toInt64 &&& 63) = zJ ((960 + (k.val : Int)) * 4503599627370496) := by decide +kernel
theorem shl23 : ∀ k : Fin 128, zJ (64 + (k.val : Int)) <<< ((23 : Int32).toInt64 &&& 63) = zJ ((64 + (k.val : Int)) * 8388608) := by decide +kernel
theorem shlD {P : Int} (h1 : -40 ≤ P) (h2 : P ≤ 40) : zJ (P + 1023) <<< ((52 : Int32).toInt64 &&& 63) = zJ ((P + 1023) * 4503599627370496) := by
  have h := shl52 ⟨(P + 63).toNat, by omega⟩
  rw [show 960 + (((⟨(P + 63).toNat, by omega⟩ : Fin 128).val : Nat) : Int) = P + 1023 by show 960 + (((P + 63).toNat : Nat) : Int) = _; omega] at h
  exact h
theorem shlF {P : Int} (h1 : -40 ≤ P) (h2 : P ≤ 40) : zJ (P + 127) <<< ((23 : Int32).toInt64 &&& 63) = zJ ((P + 127) * 8388608) := by
  have h := shl23 ⟨(P + 63).toNat, by omega⟩
  rw [show 64 + (((⟨(P + 63).toNat, by omega⟩ : Fin 128).val : Nat) : Int) = P + 127 by show 64 + (((P + 63).toNat : Nat) : Int) = _; omega] at h
  exact h
/-- the bits of a double, of a float -/
def nV (s : Bool) (P : Int) (C : Nat) : Int := (P + 1023) * 4503599627370496 + ((C : Int) - 4503599627370496) + (if s = true then 9223372036854775808 else 0)
def sV (s : Bool) (P : Int) (C : Nat) : Int := (P + 127) * 8388608 + ((C : Int) - 8388608) + (if s = true then 2147483648 else 0)
def cV (s : Bool) (V : Nat) : Int := max (-2147483648) (min 2147483647 (if s = true then -(V : Int) else (V : Int)))
theorem nearNow_ok {F : Nat} {P : Int} {C : Nat} {s : Bool} {a b : Int64} {v1 v2 : Int32} {v3 : Int64} (h : f_X12_layNear F a b v1 v2 v3 = some (bI s, zI P, zJ (C : Int))) (h1 : 2 ^ 52 ≤ C) (h2 : C < 2 ^ 53) (h3 : -40 ≤ P) (h4 : P ≤ 40) :
    f_X12_nearNow F a b v1 v2 v3 = some (zJ (nV s P C), bI s, zI P, zJ (C : Int)) := by
  unfold f_X12_nearNow
  refine kb3_of h ?_
  rw [if_neg (show ¬ zJ (C : Int) = (0 : Int64) from fun z => by have := (zJ_zeroN (by omega)).mp z; omega)]
  refine kl_of (w := zJ ((P + 1023) * 4503599627370496 + ((C : Int) - 4503599627370496))) ?_ ?_
  · rw [zI_J ⟨by omega, by omega⟩, show (1023 : Int64) = zJ 1023 from rfl, zJ_add, shlD h3 h4, zJ_add, show (4503599627370496 : Int64) = zJ 4503599627370496 from rfl, zJ_sub]
    congr 1
    omega
  · unfold nV
    cases s with
    | true => rw [if_pos (by decide), show (-9223372036854775808 : Int64) = zJ 9223372036854775808 by decide +kernel, zJ_add, if_pos rfl]
    | false => rw [if_neg (by decide), if_neg (by decide), Int.add_zero]
theorem layShort_ok {F : Nat} {P : Int} {C : Nat} {s : Bool} {a b : Int64} {v1 v2 : Int32} {v3 : Int64} (h : f_X12_layNear F a b v1 v2 v3 = some (bI s, zI P, zJ (C : Int))) (h1 : 2 ^ 52 ≤ C) (h2 : C < 2 ^ 53) :
    f_X12_layShort F a b v1 v2 v3 = some (bI s, zI (P + up24 (FP.Core.nearest C (2 ^ 29))), zJ ((rd24 (FP.Core.nearest C (2 ^ 29)) : Nat) : Int)) := by
  unfold f_X12_layShort
  refine kb3_of h ?_
  rw [if_neg (show ¬ zJ (C : Int) ≤ (0 : Int64) by rw [show (0 : Int64) = zJ ((0 : Nat) : Int) from rfl, jLe (by omega) (by omega)]; omega)]
  refine kb2_of (round_ok (out := 29) (by omega) (by omega) (nr_rg (p := 23) (by decide) (by omega) (by omega)).2) rfl
theorem shortNow_ok {F : Nat} {P : Int} {C : Nat} {s : Bool} {a b : Int64} {v1 v2 : Int32} {v3 : Int64} (h : f_X12_layShort F a b v1 v2 v3 = some (bI s, zI P, zJ (C : Int))) (h1 : 2 ^ 23 ≤ C) (h2 : C < 2 ^ 24) (h3 : -40 ≤ P) (h4 : P ≤ 40) :
    f_X12_shortNow F a b v1 v2 v3 = some (zJ (sV s P C), bI s, zI P, zJ (C : Int)) := by
  unfold f_X12_shortNow
  refine kb3_of h ?_
  rw [if_neg (show ¬ zJ (C : Int) = (0 : Int64) from fun z => by have := (zJ_zeroN (by omega)).mp z; omega)]
  congr 2
  rw [show ((bI s).toInt64 <<< ((31 : Int32).toInt64 &&& 63)) = zJ (if s = true then 2147483648 else 0) by cases s <;> decide +kernel, zI_J ⟨by omega, by omega⟩, show (127 : Int64) = zJ 127 from rfl, zJ_add, shlF h3 h4, zJ_add, zJ_add, show (8388608 : Int64) = zJ 8388608 from rfl, zJ_sub]
  unfold sV
  congr 1
  omega
theorem sm64 : ∀ k : Fin 12, ((nI k.val).toInt64 &&& 63).toBitVec.smod 64 = BitVec.ofNat 64 k.val := by decide +kernel
theorem c29 {n : Nat} (hn : n < 2 ^ 24 * 1000) (hn2 : 2 ^ 23 ≤ n) : ∀ (d k fu : Nat), k + d = 11 → d < fu → 2 ^ 23 * 2 ^ k ≤ n → ∃ out, L_X12_cutNow_29 (zJ (n : Int)) fu (nI k) = some (nI out) ∧ out ≤ 11 ∧ 2 ^ 23 * 2 ^ out ≤ n ∧ n < 2 ^ 24 * 2 ^ out := by
  intro d
  induction d with
  | zero =>
    intro k fu hk hfu h
    obtain ⟨fu, rfl⟩ : ∃ g, fu = g + 1 := ⟨fu - 1, by omega⟩
    have : k = 11 := by omega
    subst this
    refine ⟨11, ?_, by omega, h, by omega⟩
    rw [L_X12_cutNow_29, jShr (d := 11) (by rw [sm64 ⟨11, by omega⟩]; rfl) (by omega), if_pos (show zJ ((n / 2 ^ 11 : Nat) : Int) < (16777216 : Int64) from (jL (u := 16777216) (by omega) (by omega)).mpr (by omega))]
  | succ d ih =>
    intro k fu hk hfu h
    obtain ⟨fu, rfl⟩ : ∃ g, fu = g + 1 := ⟨fu - 1, by omega⟩
    have hle : n / 2 ^ k ≤ n := Nat.div_le_self _ _
    rw [L_X12_cutNow_29, jShr (d := k) (by rw [sm64 ⟨k, by omega⟩, BitVec.toNat_ofNat]; show k % 2 ^ 64 = k; omega) (by omega)]
    by_cases c : n / 2 ^ k < 16777216
    · refine ⟨k, ?_, by omega, h, ?_⟩
      · rw [if_pos (show zJ ((n / 2 ^ k : Nat) : Int) < (16777216 : Int64) from (jL (u := 16777216) (by omega) (by omega)).mpr c)]
      · exact (Nat.div_lt_iff_lt_mul (Nat.two_pow_pos k)).mp c
    · obtain ⟨out, e, e2, e3, e4⟩ := ih (k + 1) fu (by omega) (by omega) (by
        have := (Nat.le_div_iff_mul_le (Nat.two_pow_pos k)).mp (Nat.le_of_not_lt c)
        rw [Nat.pow_succ]
        omega)
      refine ⟨out, ?_, e2, e3, e4⟩
      rw [if_neg (show ¬ zJ ((n / 2 ^ k : Nat) : Int) < (16777216 : Int64) from fun z => c ((jL (u := 16777216) (by omega) (by omega)).mp z))]
      exact kl_of (nI_1 k) e
theorem c81 {n : Nat} (hn : n < 1000) : ∀ (d k fu v : Nat), k + d = n → d < fu → v < 2 ^ 41 → ∃ v', L_X12_cutNow_81 (zI (n : Int)) fu (zJ (v : Int)) (nI k) = some (zJ ((v' : Nat) : Int)) ∧ v' < 2 ^ 41 ∧ (v' = v * 2 ^ d ∨ (2 ^ 40 ≤ v' ∧ 2 ^ 40 ≤ v * 2 ^ d)) := by
  intro d
  induction d with
  | zero =>
    intro k fu v hk hfu hv
    obtain ⟨fu, rfl⟩ : ∃ g, fu = g + 1 := ⟨fu - 1, by omega⟩
    refine ⟨v, ?_, hv, .inl (by omega)⟩
    rw [L_X12_cutNow_81, ← nI_z, if_pos (nI_le (by omega) (by omega))]
  | succ d ih =>
    intro k fu v hk hfu hv
    obtain ⟨fu, rfl⟩ : ∃ g, fu = g + 1 := ⟨fu - 1, by omega⟩
    have e2 : v * 2 * 2 ^ d = v * 2 ^ (d + 1) := by rw [Nat.pow_succ]; ac_rfl
    rw [L_X12_cutNow_81, ← nI_z, if_neg (nI_ge (by omega) (by omega))]
    by_cases c : 2 ^ 40 ≤ v
    · refine ⟨v, ?_, hv, .inr ⟨c, ?_⟩⟩
      · rw [if_pos (show (1099511627776 : Int64) ≤ zJ (v : Int) from (jLe (t := 1099511627776) (by omega) (by omega)).mpr (by omega))]
      · exact Nat.le_trans c (Nat.le_mul_of_pos_right _ (Nat.two_pow_pos _))
    · obtain ⟨v', e, e3, e4⟩ := ih (k + 1) fu (v * 2) (by omega) (by omega) (by omega)
      rw [e2] at e4
      refine ⟨v', ?_, e3, e4⟩
      rw [if_neg (show ¬ (1099511627776 : Int64) ≤ zJ (v : Int) from fun z => c (by have := (jLe (t := 1099511627776) (by omega) (by omega)).mp z; omega))]
      refine kl_of (show zJ (v : Int) * (2 : Int64) = zJ ((v * 2 : Nat) : Int) from jM v 2) ?_
      rw [nI_z n]
      exact kl_of (nI_1 k) e
theorem c110 : ∀ (d fu v : Nat), d < fu → d < 1000 → v < 2 ^ 41 → L_X12_cutNow_110 fu (zJ (v : Int)) (zI (-(d : Int))) = some (zJ ((v / 2 ^ d : Nat) : Int)) := by
  intro d
  induction d with
  | zero =>
    intro fu v hfu hd hv
    obtain ⟨fu, rfl⟩ : ∃ g, fu = g + 1 := ⟨fu - 1, by omega⟩
    rw [L_X12_cutNow_110, if_pos (by decide)]
    simp
  | succ d ih =>
    intro fu v hfu hd hv
    obtain ⟨fu, rfl⟩ : ∃ g, fu = g + 1 := ⟨fu - 1, by omega⟩
    rw [L_X12_cutNow_110, if_neg (show ¬ (0 : Int32) ≤ zI (-((d + 1 : Nat) : Int)) by rw [show (0 : Int32) = zI 0 from rfl, zI_le ⟨by omega, by omega⟩ ⟨by omega, by omega⟩]; omega)]
    refine kl_of (w := zJ ((v / 2 : Nat) : Int)) (by rw [show (2 : Int64) = zJ ((2 : Nat) : Int) from rfl, zJ_div ⟨by omega, by omega⟩ ⟨by omega, by omega⟩ (by omega), tdiv_nat]) ?_
    refine kl_of (w := zI (-(d : Int))) (by rw [show (1 : Int32) = zI 1 from rfl, zI_add]; congr 1; omega) ?_
    rw [ih fu (v / 2) (by omega) (by omega) (by omega), Nat.div_div_eq_div_mul, Nat.pow_succ, Nat.mul_comm 2]
theorem cutNow_ok {F : Nat} (hF : 1000 ≤ F) {P : Int} {C : Nat} {s : Bool} {a b : Int64} {v1 v2 : Int32} {v3 : Int64} (h : f_X12_layShort F a b v1 v2 v3 = some (bI s, zI P, zJ (C : Int))) (h1 : 2 ^ 23 ≤ C) (h2 : C < 2 ^ 24) (h3 : -40 ≤ P) (h4 : P ≤ 40) :
    ∃ (out : Nat) (z1 z2 : Int32) (z3 : Int64), out ≤ 11 ∧ 2 ^ 23 * 2 ^ out ≤ C * 1000 ∧ C * 1000 < 2 ^ 24 * 2 ^ out ∧
      f_X12_cutNow F a b v1 v2 v3 = some (zJ (cV s (rd24 (FP.Core.nearest (C * 1000) (2 ^ out)) * 2 ^ (P - 23 + out + up24 (FP.Core.nearest (C * 1000) (2 ^ out))).toNat / 2 ^ (-(P - 23 + out + up24 (FP.Core.nearest (C * 1000) (2 ^ out)))).toNat)), z1, z2, z3) := by
  obtain ⟨out, e1, e2, e3, e4⟩ := c29 (n := C * 1000) (by omega) (by omega) 11 0 F (by omega) (by omega) (by omega)
  have hnr := nr_rg (p := 23) (Nat.two_pow_pos out) e3 e4
  have hu : up24 (FP.Core.nearest (C * 1000) (2 ^ out)) = 0 ∨ up24 (FP.Core.nearest (C * 1000) (2 ^ out)) = 1 := by unfold up24; split <;> simp
  have hrd : rd24 (FP.Core.nearest (C * 1000) (2 ^ out)) < 2 ^ 24 := by unfold rd24; split <;> omega
  have er := round_ok (P := P + out) (C := C * 1000) (out := out) (by omega) (by omega) hnr.2
  refine ⟨out, bI s, zI (P + out + up24 (FP.Core.nearest (C * 1000) (2 ^ out))), zJ ((rd24 (FP.Core.nearest (C * 1000) (2 ^ out)) : Nat) : Int), e2, e3, e4, ?_⟩
  generalize rd24 (FP.Core.nearest (C * 1000) (2 ^ out)) = D at hrd er ⊢
  generalize hU : up24 (FP.Core.nearest (C * 1000) (2 ^ out)) = U at hu er ⊢
  have hq : ∃ q, q = P - 23 + out + U := ⟨_, rfl⟩
  obtain ⟨q, hq⟩ := hq
  rw [← hq]
  -- what the two loops make
  obtain ⟨V', l1, l2, l3⟩ : ∃ V' : Nat, (∃ y : Nat, L_X12_cutNow_81 (zI q) F (zJ (D : Int)) (0 : Int32) = some (zJ (y : Int)) ∧ L_X12_cutNow_110 F (zJ (y : Int)) (zI q) = some (zJ (V' : Int))) ∧ V' < 2 ^ 41 ∧ (V' = D * 2 ^ q.toNat / 2 ^ (-q).toNat ∨ (2 ^ 40 ≤ V' ∧ 2 ^ 40 ≤ D * 2 ^ q.toNat / 2 ^ (-q).toNat)) := by
    by_cases c : 0 ≤ q
    · obtain ⟨v', f1, f2, f3⟩ := c81 (n := q.toNat) (by omega) q.toNat 0 F D (by omega) (by omega) (by omega)
      rw [show ((q.toNat : Nat) : Int) = q by omega] at f1
      have hz : (-q).toNat = 0 := by omega
      rw [hz, Nat.pow_zero, Nat.div_one]
      refine ⟨v', ⟨v', f1, ?_⟩, f2, f3⟩
      obtain ⟨G, rfl⟩ : ∃ G, F = G + 1 := ⟨F - 1, by omega⟩
      rw [L_X12_cutNow_110, if_pos (show (0 : Int32) ≤ zI q by rw [show (0 : Int32) = zI 0 from rfl, zI_le ⟨by omega, by omega⟩ ⟨by omega, by omega⟩]; omega)]
    · have f1 := c110 (-q).toNat F D (by omega) (by omega) (by omega)
      rw [show -(((-q).toNat : Nat) : Int) = q by omega] at f1
      have hz : q.toNat = 0 := by omega
      have hle := Nat.div_le_self D (2 ^ (-q).toNat)
      rw [hz, Nat.pow_zero, Nat.mul_one]
      refine ⟨D / 2 ^ (-q).toNat, ⟨D, ?_, f1⟩, by omega, .inl rfl⟩
      obtain ⟨G, rfl⟩ : ∃ G, F = G + 1 := ⟨F - 1, by omega⟩
      rw [L_X12_cutNow_81, if_pos (show zI q ≤ (0 : Int32) by rw [show (0 : Int32) = zI 0 from rfl, zI_le ⟨by omega, by omega⟩ ⟨by omega, by omega⟩]; omega)]
  obtain ⟨y, l4, l5⟩ := l1
  generalize D * 2 ^ q.toNat / 2 ^ (-q).toNat = V at l3 ⊢
  unfold f_X12_cutNow
  refine kb3_of h ?_
  rw [if_neg (show ¬ zJ (C : Int) = (0 : Int64) from fun z => by have := (zJ_zeroN (by omega)).mp z; omega)]
  refine kl_of (show zJ (C : Int) * (1000 : Int64) = zJ ((C * 1000 : Nat) : Int) from jM C 1000) ?_
  refine kb1_of (show L_X12_cutNow_29 (zJ ((C * 1000 : Nat) : Int)) F (0 : Int32) = _ from e1) ?_
  refine kl_of (show zI P + nI out = zI (P + out) by rw [nI_z, zI_add]) ?_
  refine kb2_of er ?_
  refine kl_of (show zI (P + out + U) - (23 : Int32) = zI q by rw [show (23 : Int32) = zI 23 from rfl, zI_sub, hq]; congr 1; omega) ?_
  refine kb1_of l4 ?_
  refine kb1_of l5 ?_
  unfold cV
  cases s with
  | true =>
    rw [if_pos (by decide), if_pos rfl]
    by_cases c : V' ≤ 2147483648
    · rw [if_pos (show zJ (V' : Int) ≤ (2147483648 : Int64) from (jLe (u := 2147483648) (by omega) (by omega)).mpr c), zJ_neg]
      congr 3
      omega
    · rw [if_neg (show ¬ zJ (V' : Int) ≤ (2147483648 : Int64) from fun z => c ((jLe (u := 2147483648) (by omega) (by omega)).mp z))]
      rw [show (-2147483648 : Int64) = zJ (-2147483648) by decide +kernel]
      congr 3
      omega
  | false =>
    rw [if_neg (show ¬ bI false = (1 : Int32) by decide), if_neg (show ¬ false = true by decide)]
    by_cases c : V' ≤ 2147483647
    · rw [if_pos (show zJ (V' : Int) ≤ (2147483647 : Int64) from (jLe (u := 2147483647) (by omega) (by omega)).mpr c)]
      congr 3
      omega
    · rw [if_neg (show ¬ zJ (V' : Int) ≤ (2147483647 : Int64) from fun z => c ((jLe (u := 2147483647) (by omega) (by omega)).mp z))]
      rw [show (2147483647 : Int64) = zJ 2147483647 by decide +kernel]
      congr 3
      omega
