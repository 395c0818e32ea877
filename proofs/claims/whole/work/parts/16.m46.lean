/-! ===== the reference's doubles, bit by bit ===== -/
theorem jA (t u : Nat) : zJ (t : Int) + zJ (u : Int) = zJ ((t + u : Nat) : Int) := by rw [zJ_add]; rfl
theorem jM (t u : Nat) : zJ (t : Int) * zJ (u : Int) = zJ ((t * u : Nat) : Int) := by rw [zJ_mul, Int.natCast_mul]
theorem jL {t u : Nat} (ht : t < 4611686018427387904) (hu : u < 4611686018427387904) : zJ (t : Int) < zJ (u : Int) ↔ t < u := by
  rw [zJ_lt ⟨by omega, by omega⟩ ⟨by omega, by omega⟩]; omega
theorem jE {t u : Nat} (ht : t < 4611686018427387904) (hu : u < 4611686018427387904) : zJ (t : Int) = zJ (u : Int) ↔ t = u := by
  rw [zJ_eq ⟨by omega, by omega⟩ ⟨by omega, by omega⟩]; omega
theorem jLe {t u : Nat} (ht : t < 4611686018427387904) (hu : u < 4611686018427387904) : zJ (t : Int) ≤ zJ (u : Int) ↔ t ≤ u := by
  rw [zJ_le ⟨by omega, by omega⟩ ⟨by omega, by omega⟩]; omega
theorem jOdd {t : Nat} (ht : t < 4611686018427387904) : (zJ (t : Int) - zJ (t : Int) / (2 : Int64) * (2 : Int64)) = (1 : Int64) ↔ t % 2 = 1 := by
  rw [show (2 : Int64) = zJ ((2 : Nat) : Int) from rfl, zJ_remN ht (by decide), show (1 : Int64) = zJ ((1 : Nat) : Int) from rfl, jE (by omega) (by decide)]
theorem ln62 {A : Nat} (hA : A < 2 ^ 32) : ∀ (d o fu : Nat) (P : Int), A < 2 * (o * 2 ^ d) → o < 2 ^ 32 → d < fu → ∃ k, k ≤ d ∧ L_X12_layNear_62 (zJ (A : Int)) fu (zJ (o : Int)) (zI P) = some (zJ ((o * 2 ^ k : Nat) : Int), zI (P + k)) ∧ A < 2 * (o * 2 ^ k) ∧ (k = 0 ∨ o * 2 ^ k ≤ A) := by
  intro d
  induction d with
  | zero =>
    intro o fu P h1 h2 hfu
    obtain ⟨fu, rfl⟩ : ∃ g, fu = g + 1 := ⟨fu - 1, by omega⟩
    refine ⟨0, by omega, ?_, h1, .inl rfl⟩
    rw [L_X12_layNear_62, show (2 : Int64) = zJ ((2 : Nat) : Int) from rfl, jM, if_pos ((jL (by omega) (by omega)).mpr (by omega))]
    simp
  | succ d ih =>
    intro o fu P h1 h2 hfu
    obtain ⟨fu, rfl⟩ : ∃ g, fu = g + 1 := ⟨fu - 1, by omega⟩
    rw [L_X12_layNear_62, show (2 : Int64) = zJ ((2 : Nat) : Int) from rfl, jM]
    by_cases c : A < 2 * o
    · refine ⟨0, by omega, ?_, by omega, .inl rfl⟩
      rw [if_pos ((jL (by omega) (by omega)).mpr c)]
      simp
    · have e2 : o * 2 * 2 ^ d = o * 2 ^ (d + 1) := by rw [Nat.pow_succ]; ac_rfl
      obtain ⟨k, k1, k2, k3, k4⟩ := ih (o * 2) fu (P + 1) (by rw [e2]; exact h1) (by omega) (by omega)
      have e3 : o * 2 * 2 ^ k = o * 2 ^ (k + 1) := by rw [Nat.pow_succ]; ac_rfl
      rw [e3] at k2 k3 k4
      refine ⟨k + 1, by omega, ?_, k3, .inr ?_⟩
      · rw [if_neg (fun z => c ((jL (by omega) (by omega)).mp z)), jM]
        refine kl_of rfl ?_
        refine kl_of (show zI P + (1 : Int32) = zI (P + 1) from zI_add P 1) ?_
        rw [k2, show P + ((k + 1 : Nat) : Int) = P + 1 + (k : Int) by omega]
      · rcases k4 with k4 | k4
        · subst k4; simp only [Nat.zero_add, Nat.pow_one]; omega
        · exact k4
theorem ln91 {O : Nat} (hO : O < 2 ^ 33) : ∀ (d a fu : Nat) (P : Int), O ≤ a * 2 ^ d → a < 2 ^ 34 → d < fu → ∃ k, k ≤ d ∧ L_X12_layNear_91 (zJ (O : Int)) fu (zJ (a : Int)) (zI P) = some (zJ ((a * 2 ^ k : Nat) : Int), zI (P - k)) ∧ O ≤ a * 2 ^ k ∧ (k = 0 ∨ a * 2 ^ k < 2 * O) := by
  intro d
  induction d with
  | zero =>
    intro o fu P h1 h2 hfu
    obtain ⟨fu, rfl⟩ : ∃ g, fu = g + 1 := ⟨fu - 1, by omega⟩
    refine ⟨0, by omega, ?_, h1, .inl rfl⟩
    rw [L_X12_layNear_91, if_pos ((jLe (by omega) (by omega)).mpr (by omega))]
    simp
  | succ d ih =>
    intro o fu P h1 h2 hfu
    obtain ⟨fu, rfl⟩ : ∃ g, fu = g + 1 := ⟨fu - 1, by omega⟩
    rw [L_X12_layNear_91]
    by_cases c : O ≤ o
    · refine ⟨0, by omega, ?_, by omega, .inl rfl⟩
      rw [if_pos ((jLe (by omega) (by omega)).mpr c)]
      simp
    · have e2 : o * 2 * 2 ^ d = o * 2 ^ (d + 1) := by rw [Nat.pow_succ]; ac_rfl
      obtain ⟨k, k1, k2, k3, k4⟩ := ih (o * 2) fu (P - 1) (by rw [e2]; exact h1) (by omega) (by omega)
      have e3 : o * 2 * 2 ^ k = o * 2 ^ (k + 1) := by rw [Nat.pow_succ]; ac_rfl
      rw [e3] at k2 k3 k4
      refine ⟨k + 1, by omega, ?_, k3, .inr ?_⟩
      · rw [if_neg (fun z => c ((jLe (by omega) (by omega)).mp z)), show (2 : Int64) = zJ ((2 : Nat) : Int) from rfl, jM]
        refine kl_of rfl ?_
        refine kl_of (show zI P - (1 : Int32) = zI (P - 1) from zI_sub P 1) ?_
        rw [k2, show P - ((k + 1 : Nat) : Int) = P - 1 - (k : Int) by omega]
      · rcases k4 with k4 | k4
        · subst k4; simp only [Nat.zero_add, Nat.pow_one]; omega
        · exact k4
theorem ln119 {O : Nat} (hO : O < 2 ^ 33) (h0 : 0 < O) : ∀ (d k fu r t : Nat), k + d = 53 → d < fu → r < 2 * O → t < 2 ^ k → ∃ r' t', L_X12_layNear_119 (zJ (O : Int)) fu (zJ (r : Int)) (nI k) (zJ (t : Int)) = some (zJ ((r' : Nat) : Int), zJ ((t' : Nat) : Int)) ∧ 2 * O * t' + r' = 2 ^ d * (2 * O * t + r) ∧ r' < 2 * O ∧ t' < 2 ^ 53 := by
  intro d
  induction d with
  | zero =>
    intro k fu r t hk hfu hr ht
    obtain ⟨fu, rfl⟩ : ∃ g, fu = g + 1 := ⟨fu - 1, by omega⟩
    refine ⟨r, t, ?_, by omega, hr, by rw [show k = 53 by omega] at ht; exact ht⟩
    rw [L_X12_layNear_119, if_pos (show (53 : Int32) ≤ nI k from nI_le (a := 53) (by omega) (by omega))]
  | succ d ih =>
    intro k fu r t hk hfu hr ht
    obtain ⟨fu, rfl⟩ : ∃ g, fu = g + 1 := ⟨fu - 1, by omega⟩
    have hk53 : 2 ^ k ≤ 2 ^ 53 := Nat.pow_le_pow_right (by decide) (by omega)
    have e2k : 2 ^ (k + 1) = 2 * 2 ^ k := by rw [Nat.pow_succ]; omega
    have e2d : 2 ^ (d + 1) = 2 * 2 ^ d := by rw [Nat.pow_succ]; omega
    rw [L_X12_layNear_119, if_neg (show ¬ (53 : Int32) ≤ nI k from nI_ge (b := 53) (by omega) (by omega))]
    simp only [kj1]
    by_cases c : r < O
    · obtain ⟨r', t', e, e1, e3, e4⟩ := ih (k + 1) fu (2 * r) (2 * t) (by omega) (by omega) (by omega) (by omega)
      refine ⟨r', t', ?_, ?_, e3, e4⟩
      · rw [if_pos ((jL (by omega) (by omega)).mpr c), if_pos trivial]
        refine kl_of (show ((2 : Int64) * zJ (t : Int)) + (0 : Int64) = zJ ((2 * t : Nat) : Int) by
          rw [show (2 : Int64) = zJ ((2 : Nat) : Int) from rfl, jM, show (0 : Int64) = zJ ((0 : Nat) : Int) from rfl, jA]; rfl) ?_
        rw [if_pos trivial]
        refine kl_of (show (2 : Int64) * zJ (r : Int) = zJ ((2 * r : Nat) : Int) by rw [show (2 : Int64) = zJ ((2 : Nat) : Int) from rfl, jM]) ?_
        exact kl_of (nI_1 k) e
      · rw [e1, e2d, show 2 * O * (2 * t) + 2 * r = 2 * (2 * O * t + r) by rw [Nat.mul_add, Nat.mul_left_comm]]
        ac_rfl
    · obtain ⟨r', t', e, e1, e3, e4⟩ := ih (k + 1) fu (2 * (r - O)) (2 * t + 1) (by omega) (by omega) (by omega) (by omega)
      refine ⟨r', t', ?_, ?_, e3, e4⟩
      · rw [if_neg (fun z => c ((jL (by omega) (by omega)).mp z)), if_neg (show ¬ (1 : Int32) = 0 by decide)]
        refine kl_of (show ((2 : Int64) * zJ (t : Int)) + (1 : Int64) = zJ ((2 * t + 1 : Nat) : Int) by
          rw [show (2 : Int64) = zJ ((2 : Nat) : Int) from rfl, jM, show (1 : Int64) = zJ ((1 : Nat) : Int) from rfl, jA]) ?_
        rw [if_neg (show ¬ (1 : Int32) = 0 by decide)]
        refine kl_of (show (2 : Int64) * (zJ (r : Int) - zJ (O : Int)) = zJ ((2 * (r - O) : Nat) : Int) by
          rw [zJ_sub, show (r : Int) - (O : Int) = ((r - O : Nat) : Int) by omega, show (2 : Int64) = zJ ((2 : Nat) : Int) from rfl, jM]) ?_
        exact kl_of (nI_1 k) e
      · have h5 : 2 * O * (2 * t + 1) + 2 * (r - O) = 2 * (2 * O * t + r) := by
          rw [Nat.mul_add, Nat.mul_add, Nat.mul_left_comm]
          generalize 2 * O * t = z
          omega
        rw [e1, e2d, h5]
        ac_rfl
/-- what came to be one bit too long -/
def rdm (k m : Nat) : Nat := if m < 2 ^ k then m else 2 ^ (k - 1)
def upm (k m : Nat) : Int := if m < 2 ^ k then 0 else 1
theorem short53 {m : Nat} (h : m ≤ 2 ^ 53) (P : Int) : f_X12_shorten (zI P) (zJ (m : Int)) (53 : Int32) = some (zI (P + upm 53 m), zJ ((rdm 53 m : Nat) : Int)) := by
  unfold f_X12_shorten upm rdm
  rw [show ((1 : Int64) <<< ((53 : Int32).toInt64 &&& 63)) = zJ ((2 ^ 53 : Nat) : Int) by decide +kernel]
  by_cases c : m = 2 ^ 53
  · rw [if_pos ((jE (by omega) (by decide)).mpr c), if_neg (by omega), if_neg (by omega), c]
    refine kl_of (show zJ ((2 ^ 53 : Nat) : Int) / (2 : Int64) = zJ ((2 ^ (53 - 1) : Nat) : Int) by decide +kernel) ?_
    exact kl_of (show zI P + (1 : Int32) = zI (P + 1) from zI_add P 1) rfl
  · rw [if_neg (fun z => c ((jE (by omega) (by decide)).mp z)), if_pos (by omega), if_pos (by omega), Int.add_zero]
theorem short24 {m : Nat} (h : m ≤ 2 ^ 24) (P : Int) : f_X12_shorten (zI P) (zJ (m : Int)) (24 : Int32) = some (zI (P + up24 m), zJ ((rd24 m : Nat) : Int)) := by
  unfold f_X12_shorten up24 rd24
  rw [show ((1 : Int64) <<< ((24 : Int32).toInt64 &&& 63)) = zJ ((2 ^ 24 : Nat) : Int) by decide +kernel]
  by_cases c : m = 2 ^ 24
  · rw [if_pos ((jE (by omega) (by decide)).mpr c), if_neg (by omega), if_neg (by omega), c]
    refine kl_of (show zJ ((2 ^ 24 : Nat) : Int) / (2 : Int64) = zJ ((2 ^ 23 : Nat) : Int) by decide +kernel) ?_
    exact kl_of (show zI P + (1 : Int32) = zI (P + 1) from zI_add P 1) rfl
  · rw [if_neg (fun z => c ((jE (by omega) (by decide)).mp z)), if_pos (by omega), if_pos (by omega), Int.add_zero]
/-- the nearest, by what is left over -/
theorem nr_of {A O t ρ : Nat} (h0 : 0 < O) (h : O * t + ρ = A) (hr : ρ < O) : FP.Core.nearest A O = if O < 2 * ρ then t + 1 else if 2 * ρ = O then (if t % 2 = 1 then t + 1 else t) else t := by
  have hd : A / O = t := by rw [← h, Nat.mul_add_div h0, Nat.div_eq_of_lt hr, Nat.add_zero]
  have hm : A % O = ρ := by rw [← h, Nat.mul_add_mod, Nat.mod_eq_of_lt hr]
  unfold FP.Core.nearest
  rw [hd, hm]
  by_cases c1 : 2 * ρ < O
  · rw [if_pos c1, if_neg (by omega), if_neg (by omega)]
  · rw [if_neg c1]
    by_cases c2 : O < 2 * ρ
    · rw [if_pos c2, if_pos c2]
    · rw [if_neg c2, if_neg c2, if_pos (by omega)]
      by_cases c3 : t % 2 = 1
      · rw [if_pos c3]; omega
      · rw [if_neg c3]; omega
