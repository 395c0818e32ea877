/-! ===== the reference's near, short and cut ===== -/
def lnB (F : Nat) (t1 : Int32) (t3 : Int64) (v_below : Int64) : Option (Int32 × Int32 × Int64) :=
  (if t3 = (0 : Int64) then
  some (t1, (0 : Int32), (0 : Int64))
  else
  kb2 (L_X12_layNear_62 t3 F v_below (0 : Int32)) fun y9 w10 =>
  kb2 (L_X12_layNear_91 y9 F t3 w10) fun y14 w15 =>
  kb2 (L_X12_layNear_119 y9 F y14 (0 : Int32) (0 : Int64)) fun y29 w30 =>
  (if y9 < y29 then
  kl (w30 + (1 : Int64)) fun t32 =>
  kb2 (f_X12_shorten w15 t32 (53 : Int32)) fun w33 w34 =>
  some (t1, w33, w34)
  else
  (if y29 = y9 then
  (if (w30 - w30 / (2 : Int64) * (2 : Int64)) = (1 : Int64) then
  kl (w30 + (1 : Int64)) fun t46 =>
  kb2 (f_X12_shorten w15 t46 (53 : Int32)) fun w47 w48 =>
  some (t1, w47, w48)
  else
  kl (w30 + (0 : Int64)) fun t42 =>
  kb2 (f_X12_shorten w15 t42 (53 : Int32)) fun w43 w44 =>
  some (t1, w43, w44))
  else
  kl (w30 + (0 : Int64)) fun t37 =>
  kb2 (f_X12_shorten w15 t37 (53 : Int32)) fun w38 w39 =>
  some (t1, w38, w39))))
theorem lay_eq (F : Nat) (a b : Int64) (s p : Int32) (q : Int64) : f_X12_layNear F a b s p q = if (0 : Int64) ≤ a then lnB F 0 a b else lnB F 1 (-a) b := by
  unfold f_X12_layNear lnB
  by_cases c : (0 : Int64) ≤ a
  · simp only [kj1, if_pos c]
  · simp only [kj1, if_neg c]
theorem lnB_ok {F : Nat} (hF : 100 ≤ F) (t1 : Int32) {A B : Nat} (hA : A < 2 ^ 21) (hA0 : 0 < A) (hB : B < 2 ^ 32) (hB0 : 0 < B) :
    ∃ (C : Nat) (P : Int), lnB F t1 (zJ (A : Int)) (zJ (B : Int)) = some (t1, zI P, zJ (C : Int)) ∧ 2 ^ 52 ≤ C ∧ C < 2 ^ 53 ∧ -33 ≤ P ∧ P ≤ 21 ∧ ∀ s, FP.Core.roundRatio FP.Core.b64 s A B 0 = .fin s C (P - 52) := by
  obtain ⟨k1, a1, a2, a3, a4⟩ := ln62 (show A < 2 ^ 32 by omega) 20 B F 0 (by omega) hB (by omega)
  have hO : B * 2 ^ k1 < 2 ^ 32 := by
    rcases a4 with a4 | a4
    · subst a4; simpa using hB
    · omega
  have hO0 : 0 < B * 2 ^ k1 := Nat.mul_pos hB0 (Nat.two_pow_pos _)
  obtain ⟨k2, b1, b2, b3, b4⟩ := ln91 (O := B * 2 ^ k1) (by omega) 32 A F (0 + k1) (by omega) (by omega) (by omega)
  have hone : A * 2 ^ k2 < 2 * (B * 2 ^ k1) := by
    rcases b4 with b4 | b4
    · subst b4; simpa using a3
    · exact b4
  obtain ⟨r, t, c1, c2, c3, c4⟩ := ln119 (O := B * 2 ^ k1) (by omega) hO0 53 0 F (A * 2 ^ k2) 0 (by omega) (by omega) hone (by decide)
  have hk1 : k1 ≤ 20 := a1
  have epw : 2 ^ (52 + k2 - k1) * 2 ^ k1 = 2 ^ 52 * 2 ^ k2 := by rw [← Nat.pow_add, ← Nat.pow_add]; congr 1; omega
  have eA : A * 2 ^ (52 + k2 - k1) * 2 ^ k1 = 2 ^ 52 * (A * 2 ^ k2) := by rw [Nat.mul_assoc, epw]; ac_rfl
  generalize hOe : B * 2 ^ k1 = O at a2 a3 a4 hO hO0 b2 b3 b4 hone c1 c2 c3
  generalize hone' : A * 2 ^ k2 = one at b2 b3 b4 hone c1 c2 eA
  have hd : O * t + r / 2 = 2 ^ 52 * one := by
    have e5 : 2 * O * t = 2 * (O * t) := by rw [Nat.mul_assoc]
    rw [e5] at c2
    generalize O * t = z at c2 ⊢
    omega
  have hre : r = 2 * (r / 2) := by
    have e5 : 2 * O * t = 2 * (O * t) := by rw [Nat.mul_assoc]
    rw [e5] at c2
    generalize O * t = z at c2
    omega
  have hn := nr_of hO0 hd (by omega)
  obtain ⟨g1, g2⟩ := nr_rg (p := 52) hO0 (show 2 ^ 52 * O ≤ 2 ^ 52 * one from Nat.mul_le_mul_left _ b3) (show 2 ^ 52 * one < 2 ^ (52 + 1) * O by omega)
  refine ⟨rdm 53 (FP.Core.nearest (2 ^ 52 * one) O), (0 + (k1 : Int) - k2) + upm 53 (FP.Core.nearest (2 ^ 52 * one) O), ?_, ?_, ?_, ?_, ?_, fun s => ?_⟩
  · unfold lnB
    rw [if_neg (show ¬ zJ (A : Int) = (0 : Int64) from fun z => by have := (zJ_zeroN (by omega)).mp z; omega)]
    refine kb2_of a2 ?_
    refine kb2_of b2 ?_
    refine kb2_of (show L_X12_layNear_119 (zJ (O : Int)) F (zJ (one : Int)) (0 : Int32) (0 : Int64) = _ from c1) ?_
    have plus1 : zJ (t : Int) + (1 : Int64) = zJ ((t + 1 : Nat) : Int) := jA t 1
    have plus0 : zJ (t : Int) + (0 : Int64) = zJ (t : Int) := jA t 0
    by_cases d1 : O < r
    · rw [if_pos ((jL (by omega) (by omega)).mpr d1)]
      have hm : FP.Core.nearest (2 ^ 52 * one) O = t + 1 := by rw [hn, if_pos (by omega)]
      rw [hm]
      refine kl_of plus1 ?_
      exact kb2_of (short53 (by omega) _) rfl
    · rw [if_neg (fun z => d1 ((jL (by omega) (by omega)).mp z))]
      by_cases d2 : r = O
      · rw [if_pos ((jE (by omega) (by omega)).mpr d2)]
        by_cases d3 : t % 2 = 1
        · rw [if_pos ((jOdd (by omega)).mpr d3)]
          have hm : FP.Core.nearest (2 ^ 52 * one) O = t + 1 := by rw [hn, if_neg (by omega), if_pos (by omega), if_pos d3]
          rw [hm]
          refine kl_of plus1 ?_
          exact kb2_of (short53 (by omega) _) rfl
        · rw [if_neg (fun z => d3 ((jOdd (by omega)).mp z))]
          have hm : FP.Core.nearest (2 ^ 52 * one) O = t := by rw [hn, if_neg (by omega), if_pos (by omega), if_neg d3]
          rw [hm]
          refine kl_of plus0 ?_
          exact kb2_of (short53 (by omega) _) rfl
      · rw [if_neg (fun z => d2 ((jE (by omega) (by omega)).mp z))]
        have hm : FP.Core.nearest (2 ^ 52 * one) O = t := by rw [hn, if_neg (by omega), if_neg (by omega)]
        rw [hm]
        refine kl_of plus0 ?_
        exact kb2_of (short53 (by omega) _) rfl
  · unfold rdm; split <;> omega
  · unfold rdm; split <;> omega
  · unfold upm; split <;> omega
  · unfold upm; split <;> omega
  · obtain ⟨qa, qb, qp, qt⟩ := q64
    have u1 : FP.Core.unitsNum A 0 ((0 + (k1 : Int) - k2) - 52) = A * 2 ^ (52 + k2 - k1) := by
      unfold FP.Core.unitsNum; congr 2; omega
    have u2 : FP.Core.unitsDen B 0 ((0 + (k1 : Int) - k2) - 52) = B := by
      unfold FP.Core.unitsDen; rw [show ((0 + (k1 : Int) - k2) - 52 - 0).toNat = 0 by omega]; omega
    have pk := Nat.two_pow_pos k1
    have hr := rr_norm FP.Core.good_b64 s (A := A) (B := B) (e := 0) (q := (0 + (k1 : Int) - k2) - 52) hA0 hB0 (by rw [qa]; omega) (by rw [qb]; omega)
      (by
        rw [u1, u2, qp]
        refine Nat.le_of_mul_le_mul_right ?_ pk
        rw [eA, Nat.mul_assoc, hOe]
        exact Nat.mul_le_mul_left _ b3)
      (by
        rw [u1, u2, qp]
        refine Nat.lt_of_mul_lt_mul_right (a := 2 ^ k1) ?_
        rw [eA, Nat.mul_assoc, hOe]
        omega)
    rw [u1, u2, qp, qt] at hr
    have hnn : FP.Core.nearest (A * 2 ^ (52 + k2 - k1)) B = FP.Core.nearest (2 ^ 52 * one) O := by
      refine FP.Core.nearest_congr hB0 hO0 ?_
      rw [← eA, ← hOe]
      ac_rfl
    rw [hr, hnn]
    unfold rdm upm
    by_cases d : FP.Core.nearest (2 ^ 52 * one) O < 2 ^ 53
    · rw [if_pos d, if_pos d, if_pos d]; congr 1; omega
    · rw [if_neg d, if_neg d, if_neg d]; congr 1; omega
/-- the 53 bits of a fraction that is not 0 -/
theorem layNear_ok {F : Nat} (hF : 100 ≤ F) {a b : Int} (ha : a.natAbs < 2 ^ 21) (h0 : a ≠ 0) (hb : 1 ≤ b) (hb2 : b.natAbs < 2 ^ 32) (v1 v2 : Int32) (v3 : Int64) :
    ∃ (C : Nat) (P : Int), f_X12_layNear F (zJ a) (zJ b) v1 v2 v3 = some (bI (decide (a < 0)), zI P, zJ (C : Int)) ∧ 2 ^ 52 ≤ C ∧ C < 2 ^ 53 ∧ -33 ≤ P ∧ P ≤ 21 ∧ FP.Core.roundRatio FP.Core.b64 (decide (a < 0)) a.natAbs b.natAbs 0 = .fin (decide (a < 0)) C (P - 52) := by
  obtain ⟨C, P, e1, e2, e3, e4, e5, e6⟩ := lnB_ok hF (bI (decide (a < 0))) (A := a.natAbs) (B := b.natAbs) ha (by omega) hb2 (by omega)
  refine ⟨C, P, ?_, e2, e3, e4, e5, e6 _⟩
  rw [lay_eq, ← e1, show ((b.natAbs : Nat) : Int) = b by omega]
  by_cases c : a < 0
  · rw [if_neg (show ¬ (0 : Int64) ≤ zJ a by rw [show (0 : Int64) = zJ 0 from rfl, zJ_le ⟨by omega, by omega⟩ ⟨by omega, by omega⟩]; omega), zJ_neg, show ((a.natAbs : Nat) : Int) = -a by omega, decide_eq_true c]
    rfl
  · rw [if_pos (show (0 : Int64) ≤ zJ a by rw [show (0 : Int64) = zJ 0 from rfl, zJ_le ⟨by omega, by omega⟩ ⟨by omega, by omega⟩]; omega), show ((a.natAbs : Nat) : Int) = a by omega, decide_eq_false c]
    rfl
theorem layNear_0 {F : Nat} (b : Int64) (v1 v2 : Int32) (v3 : Int64) : f_X12_layNear F (zJ 0) b v1 v2 v3 = some (0, 0, 0) := by
  rw [lay_eq, if_pos (by decide)]
  unfold lnB
  rw [if_pos (show zJ 0 = (0 : Int64) from rfl)]
/-- so many bits are left out -/
theorem round_ok {P : Int} {C out : Nat} (hout : out ≤ 30) (hC : C < 2 ^ 60) (hm : FP.Core.nearest C (2 ^ out) ≤ 2 ^ 24) : f_X12_round (zI P) (zJ (C : Int)) (nI out) (24 : Int32) = some (zI (P + up24 (FP.Core.nearest C (2 ^ out))), zJ ((rd24 (FP.Core.nearest C (2 ^ out)) : Nat) : Int)) := by
  have p0 := Nat.two_pow_pos out
  have p1 : 2 ^ out ≤ 2 ^ 30 := Nat.pow_le_pow_right (by decide) hout
  have hml : C % 2 ^ out < 2 ^ out := Nat.mod_lt _ p0
  have hdl : C / 2 ^ out ≤ C := Nat.div_le_self _ _
  have hn := nr_of (A := C) (O := 2 ^ out) (t := C / 2 ^ out) (ρ := C % 2 ^ out) p0 (Nat.div_add_mod C (2 ^ out)) hml
  unfold f_X12_round
  rw [shl64_fin ⟨out, by omega⟩]
  show (kl (zJ ((2 ^ out : Nat) : Int)) fun t1 => _) = _
  refine kl_of rfl ?_
  have nz : ¬ zJ ((2 ^ out : Nat) : Int) = (0 : Int64) := fun z => by have := (zJ_zeroN (by omega)).mp z; omega
  have hdiv : zJ (C : Int) / zJ ((2 ^ out : Nat) : Int) = zJ ((C / 2 ^ out : Nat) : Int) := by
    rw [zJ_div ⟨by omega, by omega⟩ ⟨by omega, by omega⟩ (by omega), tdiv_nat]
  rw [if_pos nz]
  refine kl_of (zJ_remN (by omega) (by omega)) ?_
  rw [if_pos nz]
  refine kl_of hdiv ?_
  generalize C % 2 ^ out = r at hml hn ⊢
  generalize C / 2 ^ out = t at hdl hn ⊢
  generalize 2 ^ out = O at p0 p1 hml hn hm ⊢
  have plus1 : zJ (t : Int) + (1 : Int64) = zJ ((t + 1 : Nat) : Int) := jA t 1
  have plus0 : zJ (t : Int) + (0 : Int64) = zJ (t : Int) := jA t 0
  have h2r : (2 : Int64) * zJ (r : Int) = zJ ((2 * r : Nat) : Int) := jM 2 r
  rw [h2r]
  by_cases d1 : O < 2 * r
  · rw [if_pos ((jL (by omega) (by omega)).mpr d1)]
    have hm1 : FP.Core.nearest C O = t + 1 := by rw [hn, if_pos (by omega)]
    rw [hm1] at hm ⊢
    refine kl_of plus1 ?_
    exact kb2_of (short24 hm _) rfl
  · rw [if_neg (fun z => d1 ((jL (by omega) (by omega)).mp z))]
    by_cases d2 : 2 * r = O
    · rw [if_pos ((jE (by omega) (by omega)).mpr d2)]
      by_cases d3 : t % 2 = 1
      · rw [if_pos ((jOdd (by omega)).mpr d3)]
        have hm1 : FP.Core.nearest C O = t + 1 := by rw [hn, if_neg (by omega), if_pos (by omega), if_pos d3]
        rw [hm1] at hm ⊢
        refine kl_of plus1 ?_
        exact kb2_of (short24 hm _) rfl
      · rw [if_neg (fun z => d3 ((jOdd (by omega)).mp z))]
        have hm1 : FP.Core.nearest C O = t := by rw [hn, if_neg (by omega), if_pos (by omega), if_neg d3]
        rw [hm1] at hm ⊢
        refine kl_of plus0 ?_
        exact kb2_of (short24 hm _) rfl
    · rw [if_neg (fun z => d2 ((jE (by omega) (by omega)).mp z))]
      have hm1 : FP.Core.nearest C O = t := by rw [hn, if_neg (by omega), if_neg (by omega)]
      rw [hm1] at hm ⊢
      refine kl_of plus0 ?_
      exact kb2_of (short24 hm _) rfl
