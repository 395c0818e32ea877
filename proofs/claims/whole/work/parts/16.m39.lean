/-! ===== the one fraction that is small enough ===== -/
theorem sgn_case {α β y x v v' T u c : Int} (hy : T < y) (hv : T < v) (hx : 0 ≤ x) (hv' : 0 ≤ v') (h0 : 0 ≤ T) (hu : u = α * y + β * x) (hc : c = β * v - α * v') (hu2 : -T ≤ u ∧ u ≤ T) (hc2 : -T ≤ c ∧ c ≤ T) (hc0 : c ≠ 0) : False := by
  rcases Int.lt_trichotomy α 0 with a | a | a
  · have e1 : α * y ≤ -1 * y := Int.mul_le_mul_of_nonneg_right (by omega) (by omega)
    rcases Int.lt_or_le 0 β with b | b
    · have e2 : 1 * v ≤ β * v := Int.mul_le_mul_of_nonneg_right (by omega) (by omega)
      have e3 : α * v' ≤ 0 * v' := Int.mul_le_mul_of_nonneg_right (by omega) hv'
      omega
    · have e2 : β * x ≤ 0 * x := Int.mul_le_mul_of_nonneg_right b hx
      omega
  · subst a
    rcases Int.lt_trichotomy β 0 with b | b | b
    · have e2 : β * v ≤ -1 * v := Int.mul_le_mul_of_nonneg_right (by omega) (by omega)
      omega
    · subst b; omega
    · have e2 : 1 * v ≤ β * v := Int.mul_le_mul_of_nonneg_right (by omega) (by omega)
      omega
  · have e1 : 1 * y ≤ α * y := Int.mul_le_mul_of_nonneg_right (by omega) (by omega)
    rcases Int.lt_or_le β 0 with b | b
    · have e2 : β * v ≤ -1 * v := Int.mul_le_mul_of_nonneg_right (by omega) (by omega)
      have e3 : 0 * v' ≤ α * v' := Int.mul_le_mul_of_nonneg_right (by omega) hv'
      omega
    · have e2 : 0 * x ≤ β * x := Int.mul_le_mul_of_nonneg_right b hx
      omega
theorem rr_one {M T : Nat} {A : Int} {y x v' v : Nat} {ε : Int} (h : Eu M A y x v' v ε) (hy : T < y) (hx : x ≤ T) (h2 : 2 * T * T < M) {u b : Int} (hub : (M : Int) ∣ A * b - u) (hu : -(T : Int) ≤ u ∧ u ≤ T) (hb : 1 ≤ b ∧ b ≤ T) (hg : Int.gcd u b = 1) : ε * (x : Int) = u ∧ (v : Int) = b := by
  obtain ⟨h1, ⟨h3, h4, h5, h6⟩, h7, h8, h9⟩ := h
  have hMz : (v : Int) * y + v' * x = M := by exact_mod_cast congrArg (Nat.cast (R := Int)) h7
  have hM0 : (M : Int) ≠ 0 := by omega
  obtain ⟨α, hα⟩ : (M : Int) ∣ u * v - ε * x * b := by
    rw [show u * v - ε * x * b = (A * v - ε * x) * b - (A * b - u) * v by grind]
    exact Int.dvd_sub (Int.dvd_mul_of_dvd_left h8) (Int.dvd_mul_of_dvd_left hub)
  obtain ⟨β, hβ⟩ : (M : Int) ∣ u * v' + ε * y * b := by
    rw [show u * v' + ε * y * b = (A * v' + ε * y) * b - (A * b - u) * v' by grind]
    exact Int.dvd_sub (Int.dvd_mul_of_dvd_left h9) (Int.dvd_mul_of_dvd_left hub)
  have eu : u = α * y + β * x := by
    apply Int.eq_of_mul_eq_mul_left hM0
    rw [show (M : Int) * (α * y + β * x) = (M * α) * y + (M * β) * x by grind, ← hα, ← hβ, ← hMz]
    grind
  have eb : ε * b = β * v - α * v' := by
    apply Int.eq_of_mul_eq_mul_left hM0
    rw [show (M : Int) * (β * v - α * v') = (M * β) * v - (M * α) * v' by grind, ← hα, ← hβ, ← hMz]
    grind
  have ec : ε * b = b ∨ ε * b = -b := by
    rcases h1 with e | e
    · left; rw [e, Int.one_mul]
    · right; rw [e, Int.neg_mul, Int.one_mul]
  by_cases cv : v ≤ T
  · have a0 : α = 0 := by
      have b1 : (u * v).natAbs ≤ T * T := by
        have := ab_mul (x := u) (y := (v : Int)) (a := T) (b := T) (by omega) (by omega)
        exact this
      have b2 : (ε * x * b).natAbs ≤ T * T := by
        have e : (ε * (x : Int)).natAbs ≤ T := by rcases h1 with e | e <;> rw [e] <;> omega
        exact ab_mul e (by omega)
      rw [Nat.mul_assoc] at h2
      generalize T * T = Q at b1 b2 h2
      have b3 : ((M : Int) * α).natAbs < M := by rw [← hα]; omega
      rw [Int.natAbs_mul, Int.natAbs_natCast] at b3
      refine Classical.byContradiction fun c => ?_
      have : M * 1 ≤ M * α.natAbs := Nat.mul_le_mul_left _ (by omega)
      omega
    subst a0
    rw [Int.zero_mul, Int.zero_add] at eu
    rw [Int.zero_mul, Int.sub_zero] at eb
    have d1 : β ∣ u := ⟨x, eu⟩
    have d2 : β ∣ b := by
      have : β ∣ ε * b := ⟨v, eb⟩
      rcases ec with e | e
      · rw [e] at this; exact this
      · rw [e, Int.dvd_neg] at this; exact this
    have d3 : β.natAbs ∣ 1 := by
      rw [← hg]
      exact Nat.dvd_gcd (Int.natAbs_dvd_natAbs.mpr d1) (Int.natAbs_dvd_natAbs.mpr d2)
    have d4 : β.natAbs = 1 := Nat.dvd_one.mp d3
    have hβ1 : β = 1 ∨ β = -1 := by omega
    rcases h1 with e | e
    · rw [e, Int.one_mul] at eb
      rcases hβ1 with f | f
      · rw [f, Int.one_mul] at eu eb; rw [e, Int.one_mul]; exact ⟨eu.symm, eb.symm⟩
      · rw [f] at eb; omega
    · rw [e] at eb
      rcases hβ1 with f | f
      · rw [f] at eb; omega
      · rw [f] at eu eb; rw [e]; omega
  · exact absurd rfl (fun _ : (0 : Nat) = 0 => sgn_case (T := (T : Int)) (y := (y : Int)) (x := (x : Int)) (v := (v : Int)) (v' := (v' : Int)) (by omega) (by omega) (by omega) (by omega) (by omega) eu eb hu (by rcases ec with e | e <;> rw [e] <;> omega) (by rcases ec with e | e <;> rw [e] <;> omega))
theorem rr_ok {p M A : Nat} (h : A < M) (hM : M ≤ 2000000000000000000) {u b : Int} (hub : (M : Int) ∣ (A : Int) * b - u) (hu : -(Tb M : Int) ≤ u ∧ u ≤ Tb M) (hb : 1 ≤ b ∧ b ≤ Tb M) (hg : Int.gcd u b = 1) (hpb : ¬ (p : Int) ∣ b) : gF p M A = true ∧ gA M A = u ∧ ((gB M A : Nat) : Int) = b := by
  obtain ⟨y, v', hE, hy, hx⟩ := euR_spec h hM
  obtain ⟨e1, e2⟩ := rr_one hE hy hx (Tb_spec (by omega) hM).1 hub hu hb hg
  refine ⟨?_, e1, e2⟩
  unfold gF
  rw [decide_eq_true_iff]
  refine ⟨by omega, fun z => hpb ?_⟩
  rw [← e2]
  exact Int.natCast_dvd_natCast.mpr z
/-! ===== what the digits make ===== -/
def mdS (p : Nat) (b w a : Int) (k : Nat) : Int := sumN (fun t => dgt p b w a t * (p : Int) ^ t) k
theorem powZ (p k : Nat) : ((p ^ k : Nat) : Int) = (p : Int) ^ k := Int.natCast_pow p k
theorem mdS_rg {p : Nat} (hp : 2 ≤ p) (b w a : Int) (k : Nat) : 0 ≤ mdS p b w a k ∧ mdS p b w a k < (p : Int) ^ k := by
  unfold mdS
  induction k with
  | zero => exact ⟨Int.le_refl _, by show (0 : Int) < (p : Int) ^ 0; rw [Int.pow_zero]; decide⟩
  | succ k ih =>
    have hr : rp p (dgt p b w a k) := rp_mod (by omega) _
    have hpk : 0 < (p : Int) ^ k := by rw [← powZ]; exact Int.natCast_pos.mpr (Nat.pow_pos (by omega))
    rw [sumN, Int.pow_succ]
    have h1 := Int.mul_nonneg hr.1 (Int.le_of_lt hpk)
    have h2 : dgt p b w a k * (p : Int) ^ k ≤ ((p : Int) - 1) * (p : Int) ^ k := Int.mul_le_mul_of_nonneg_right (by have := hr.2; omega) (Int.le_of_lt hpk)
    have h3 : ((p : Int) - 1) * (p : Int) ^ k = (p : Int) ^ k * p - (p : Int) ^ k := by rw [Int.sub_mul, Int.one_mul, Int.mul_comm]
    omega
theorem mdS_dvd {p : Nat} {b w a : Int} (h : (p : Int) ∣ b * w - 1) (k : Nat) : mdS p b w a k * b + (p : Int) ^ k * lft p b w a k = a := by
  unfold mdS
  induction k with
  | zero => simp [sumN, lft]
  | succ k ih =>
    have e := lfS_eq (x := lft p b w a k) h
    rw [sumN, Int.pow_succ, lft, Int.mul_assoc _ (p : Int) _, e, Int.add_mul]
    rw [show dgt p b w a k = (lft p b w a k * w) % (p : Int) from rfl]
    generalize (lft p b w a k * w) % (p : Int) = d
    rw [Int.mul_sub]
    have : d * (p : Int) ^ k * b = (p : Int) ^ k * (d * b) := by grind
    omega
def mdN (p : Nat) (b w a : Int) (k : Nat) : Nat := (mdS p b w a k).toNat
theorem mdN_e {p : Nat} (hp : 2 ≤ p) (b w a : Int) (k : Nat) : mdS p b w a k = ((mdN p b w a k : Nat) : Int) ∧ mdN p b w a k < p ^ k := by
  obtain ⟨h1, h2⟩ := mdS_rg hp b w a k
  rw [← powZ] at h2
  unfold mdN
  exact ⟨by omega, by omega⟩
/-- enough digits: the guess is the fraction -/
theorem rr_md {p k : Nat} (hp : Pm p) {b w a : Int} (h : (p : Int) ∣ b * w - 1) (hM : p ^ k ≤ 2000000000000000000) (ha : -(Tb (p ^ k) : Int) ≤ a ∧ a ≤ Tb (p ^ k)) (hb : 1 ≤ b ∧ b ≤ Tb (p ^ k)) (hg : Int.gcd a b = 1) : gF p (p ^ k) (mdN p b w a k) = true ∧ gA (p ^ k) (mdN p b w a k) = a ∧ ((gB (p ^ k) (mdN p b w a k) : Nat) : Int) = b := by
  obtain ⟨e1, e2⟩ := mdN_e hp.1.1 b w a k
  refine rr_ok e2 hM ?_ ha hb hg (fun z => Pm_1 hp ?_)
  · have := mdS_dvd (a := a) h k
    rw [← e1, powZ]
    exact ⟨-lft p b w a k, by rw [Int.mul_neg]; omega⟩
  · rw [show (1 : Int) = b * w - (b * w - 1) by omega]
    exact Int.dvd_sub (Int.dvd_mul_of_dvd_left z) h
