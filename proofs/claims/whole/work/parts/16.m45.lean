/-! ===== doubles and floats: rounding told by whole numbers ===== -/
theorem kq64_of {x : UInt64} (h : FP.Core.val64 x ≠ .nan) : kq64 x := by
  have h1 := (FP.Core.ne_nan x).mp h
  show x &&& 0x7fffffffffffffff ≤ 0x7ff0000000000000
  rw [UInt64.le_iff_toNat_le, UInt64.toNat_and, show (0x7fffffffffffffff : UInt64).toNat = 2 ^ 63 - 1 from rfl, Nat.and_two_pow_sub_one_eq_mod]
  exact h1
theorem kq32_of {x : UInt32} (h : FP.Core.val32 x ≠ .nan) : kq32 x := by
  have h1 := (FP.Core.ne_nan32 x).mp h
  show x &&& 0x7fffffff ≤ 0x7f800000
  rw [UInt32.le_iff_toNat_le, UInt32.toNat_and, show (0x7fffffff : UInt32).toNat = 2 ^ 31 - 1 from rfl, Nat.and_two_pow_sub_one_eq_mod]
  exact h1
/-- what a magnitude between two powers rounds to -/
theorem rr_norm {f : FP.Core.Fmt} (hf : FP.Core.Good f) (s : Bool) {A B : Nat} {e q : Int} (hA : 0 < A) (hB : 0 < B) (h1 : f.qmin ≤ q) (h2 : q + 1 ≤ f.qmax) (h3 : 2 ^ (f.p - 1) * FP.Core.unitsDen B e q ≤ FP.Core.unitsNum A e q) (h4 : FP.Core.unitsNum A e q < 2 ^ f.p * FP.Core.unitsDen B e q) :
    FP.Core.roundRatio f s A B e = if FP.Core.nearest (FP.Core.unitsNum A e q) (FP.Core.unitsDen B e q) < 2 ^ f.p then .fin s (FP.Core.nearest (FP.Core.unitsNum A e q) (FP.Core.unitsDen B e q)) q else .fin s f.tails (q + 1) := by
  have hq : FP.Core.quantum f A B e = q := by
    refine FP.Core.quantum_eq hA hB h1 ?_ (.inr ?_)
    · exact (FP.Core.units_below A B e q f.p).mp h4
    · rw [show (f.p : Int) - 1 = ((f.p - 1 : Nat) : Int) by have := hf.2; omega]
      intro hb
      exact absurd ((FP.Core.units_below A B e q (f.p - 1)).mpr hb) (by omega)
  unfold FP.Core.roundRatio
  rw [if_neg (by omega), hq]
  unfold FP.Core.roundAt FP.Core.settle FP.Core.bound
  rw [if_pos (show q ≤ f.qmax by omega), if_pos h2]
/-- the nearest of a number by a power -/
theorem nr_rg {A B p : Nat} (hB : 0 < B) (h1 : 2 ^ p * B ≤ A) (h2 : A < 2 ^ (p + 1) * B) : 2 ^ p ≤ FP.Core.nearest A B ∧ FP.Core.nearest A B ≤ 2 ^ (p + 1) :=
  ⟨FP.Core.nearest_ge hB h1, FP.Core.nearest_le hB (Nat.le_of_lt h2)⟩
theorem q64 : FP.Core.b64.qmin = -1074 ∧ FP.Core.b64.qmax = 971 ∧ FP.Core.b64.p = 53 ∧ FP.Core.b64.tails = 2 ^ 52 := by decide
theorem q32 : FP.Core.b32.qmin = -149 ∧ FP.Core.b32.qmax = 104 ∧ FP.Core.b32.p = 24 ∧ FP.Core.b32.tails = 2 ^ 23 := by decide
/-- a double that is neither tiny nor huge -/
def N64 (x : UInt64) (s : Bool) (c : Nat) (q : Int) : Prop := FP.Core.val64 x = .fin s c q ∧ 2 ^ 52 ≤ c ∧ c < 2 ^ 53 ∧ -200 ≤ q ∧ q ≤ 200
def N32 (x : UInt32) (s : Bool) (c : Nat) (q : Int) : Prop := FP.Core.val32 x = .fin s c q ∧ 2 ^ 23 ≤ c ∧ c < 2 ^ 24 ∧ -120 ≤ q ∧ q ≤ 90
theorem fit64 {s : Bool} {c : Nat} {q : Int} (h1 : 2 ^ 52 ≤ c) (h2 : c < 2 ^ 53) (h3 : -200 ≤ q) (h4 : q ≤ 201) : FP.Core.fits FP.Core.b64 (.fin s c q) := by
  obtain ⟨a, b, d, e⟩ := q64
  refine ⟨?_, ?_, ?_, .inr ?_⟩
  · rw [d]; exact h2
  · rw [a]; omega
  · rw [b]; omega
  · rw [e]; exact h1
theorem fit32 {s : Bool} {c : Nat} {q : Int} (h1 : 2 ^ 23 ≤ c) (h2 : c < 2 ^ 24) (h3 : -120 ≤ q) (h4 : q ≤ 90) : FP.Core.fits FP.Core.b32 (.fin s c q) := by
  obtain ⟨a, b, d, e⟩ := q32
  refine ⟨?_, ?_, ?_, .inr ?_⟩
  · rw [d]; exact h2
  · rw [a]; omega
  · rw [b]; omega
  · rw [e]; exact h1
theorem N64_q {x : UInt64} {s : Bool} {c : Nat} {q : Int} (h : N64 x s c q) : kq64 x := kq64_of (by rw [h.1]; intro e; cases e)
theorem N32_q {x : UInt32} {s : Bool} {c : Nat} {q : Int} (h : N32 x s c q) : kq32 x := kq32_of (by rw [h.1]; intro e; cases e)
/-- doubled -/
theorem val_two : FP.Core.val64 4611686018427387904 = .fin false (2 ^ 52) (-51) := by decide +kernel
theorem dbl {x : UInt64} {c : Nat} {q : Int} (h : N64 x false c q) (hq : q < 200) : N64 (FP.dmul x 4611686018427387904) false c (q + 1) := by
  obtain ⟨h1, h2, h3, h4, h5⟩ := h
  refine ⟨?_, h2, h3, by omega, by omega⟩
  show FP.Core.val64 (FP.Core.dmul x 4611686018427387904) = _
  rw [FP.Core.val64_dmul, h1, val_two]
  show FP.Core.roundRatio FP.Core.b64 (false != false) (c * 2 ^ 52) 1 (q + (-51)) = _
  refine FP.Core.roundRatio_exact FP.Core.good_b64 (by decide) (fit64 h2 h3 (by omega) (by omega)) ?_
  rw [show (q + (-51) - (q + 1)).toNat = 0 by omega, show (q + 1 - (q + (-51))).toNat = 52 by omega]
  omega
/-- the sign of a number -/
theorem dsgn {x : UInt64} {s : Bool} {c : Nat} {q : Int} (h : N64 x s c q) : FP.dcmp x FP.dconst0 = some (if s = true then .lt else .gt) := by
  obtain ⟨h1, h2, h3, h4, h5⟩ := h
  show FP.Core.order (FP.Core.val64 x) (FP.Core.val64 FP.Core.dconst0) = _
  rw [h1, FP.Core.val64_dconst0]
  have hp : 0 < FP.Core.inUnits c q (min q FP.Core.b64.qmin) := Nat.mul_pos (by omega) (Nat.two_pow_pos _)
  have h0 : FP.Core.inUnits 0 FP.Core.b64.qmin (min q FP.Core.b64.qmin) = 0 := by unfold FP.Core.inUnits; rw [Nat.zero_mul]
  show some (compare (FP.Core.signed s (FP.Core.inUnits c q (min q FP.Core.b64.qmin))) (FP.Core.signed false (FP.Core.inUnits 0 FP.Core.b64.qmin (min q FP.Core.b64.qmin)))) = _
  rw [h0]
  generalize FP.Core.inUnits c q (min q FP.Core.b64.qmin) = m at hp
  congr 1
  rw [FP.Core.compare_ite]
  cases s with
  | true => rw [if_pos rfl, if_pos (show FP.Core.signed true m < FP.Core.signed false 0 by show -(m : Int) < ((0 : Nat) : Int); omega)]
  | false => rw [if_neg (show ¬ false = true by decide), if_neg (show ¬ FP.Core.signed false m < FP.Core.signed false 0 by show ¬ (m : Int) < ((0 : Nat) : Int); omega), if_neg (show ¬ FP.Core.signed false m = FP.Core.signed false 0 by show ¬ (m : Int) = ((0 : Nat) : Int); omega)]
theorem fsgn {x : UInt32} {s : Bool} {c : Nat} {q : Int} (h : N32 x s c q) : FP.fcmp x FP.fconst0 = some (if s = true then .lt else .gt) := by
  obtain ⟨h1, h2, h3, h4, h5⟩ := h
  show FP.Core.order (FP.Core.val32 x) (FP.Core.val32 FP.Core.fconst0) = _
  rw [h1, FP.Core.val32_fconst0]
  have hp : 0 < FP.Core.inUnits c q (min q FP.Core.b32.qmin) := Nat.mul_pos (by omega) (Nat.two_pow_pos _)
  have h0 : FP.Core.inUnits 0 FP.Core.b32.qmin (min q FP.Core.b32.qmin) = 0 := by unfold FP.Core.inUnits; rw [Nat.zero_mul]
  show some (compare (FP.Core.signed s (FP.Core.inUnits c q (min q FP.Core.b32.qmin))) (FP.Core.signed false (FP.Core.inUnits 0 FP.Core.b32.qmin (min q FP.Core.b32.qmin)))) = _
  rw [h0]
  generalize FP.Core.inUnits c q (min q FP.Core.b32.qmin) = m at hp
  congr 1
  rw [FP.Core.compare_ite]
  cases s with
  | true => rw [if_pos rfl, if_pos (show FP.Core.signed true m < FP.Core.signed false 0 by show -(m : Int) < ((0 : Nat) : Int); omega)]
  | false => rw [if_neg (show ¬ false = true by decide), if_neg (show ¬ FP.Core.signed false m < FP.Core.signed false 0 by show ¬ (m : Int) < ((0 : Nat) : Int); omega), if_neg (show ¬ FP.Core.signed false m = FP.Core.signed false 0 by show ¬ (m : Int) = ((0 : Nat) : Int); omega)]
/-- 0 less a number below 0 -/
theorem dneg0 {x : UInt64} {c : Nat} {q : Int} (h : N64 x true c q) : N64 (FP.dsub FP.dconst0 x) false c q := by
  obtain ⟨h1, h2, h3, h4, h5⟩ := h
  refine ⟨?_, h2, h3, h4, h5⟩
  show FP.Core.val64 (FP.Core.dsub FP.Core.dconst0 x) = _
  rw [FP.Core.val64_dsub, h1, FP.Core.val64_dconst0]
  show FP.Core.round FP.Core.b64 (FP.Core.exactSum (.fin false 0 FP.Core.b64.qmin) (.fin false c q)) = _
  rw [FP.Core.exactSum_comm]
  exact FP.Core.round_sum_zero FP.Core.good_b64 (fit64 h2 h3 h4 (by omega)) false (fun s q' e => by
    injection e with e1 e2 e3
    omega)
theorem fneg0 {x : UInt32} {c : Nat} {q : Int} (h : N32 x true c q) : N32 (FP.fsub FP.fconst0 x) false c q := by
  obtain ⟨h1, h2, h3, h4, h5⟩ := h
  refine ⟨?_, h2, h3, h4, h5⟩
  show FP.Core.val32 (FP.Core.fsub FP.Core.fconst0 x) = _
  rw [FP.Core.val32_fsub, h1, FP.Core.val32_fconst0]
  show FP.Core.round FP.Core.b32 (FP.Core.exactSum (.fin false 0 FP.Core.b32.qmin) (.fin false c q)) = _
  rw [FP.Core.exactSum_comm]
  exact FP.Core.round_sum_zero FP.Core.good_b32 (fit32 h2 h3 h4 (by omega)) false (fun s q' e => by
    injection e with e1 e2 e3
    omega)
/-- a float as a double -/
theorem f2d_n {x : UInt32} {s : Bool} {c : Nat} {q : Int} (h : N32 x s c q) : N64 (FP.f2d x) s (c * 2 ^ 29) (q - 29) := by
  obtain ⟨h1, h2, h3, h4, h5⟩ := h
  refine ⟨?_, by omega, by omega, by omega, by omega⟩
  rw [show FP.f2d x = FP.Core.f2d x from if_neg (by rw [FP.Core.fIsNaN_iff, h1]; intro e; cases e)]
  rw [FP.Core.val64_f2d, h1]
  show FP.Core.roundRatio FP.Core.b64 s c 1 q = _
  refine FP.Core.roundRatio_exact FP.Core.good_b64 (by decide) (fit64 (by omega) (by omega) (by omega) (by omega)) ?_
  rw [show (q - (q - 29)).toNat = 29 by omega, show (q - 29 - q).toNat = 0 by omega]
  omega
/-- rounding to a float what has out bits too many -/
def rd24 (m : Nat) : Nat := if m < 2 ^ 24 then m else 2 ^ 23
def up24 (m : Nat) : Int := if m < 2 ^ 24 then 0 else 1
theorem rr32 (s : Bool) {C out : Nat} {e : Int} (h1 : 2 ^ 23 * 2 ^ out ≤ C) (h2 : C < 2 ^ 24 * 2 ^ out) (h3 : -120 ≤ e + out) (h4 : e + out < 90) : FP.Core.roundRatio FP.Core.b32 s C 1 e = .fin s (rd24 (FP.Core.nearest C (2 ^ out))) (e + out + up24 (FP.Core.nearest C (2 ^ out))) ∧ 2 ^ 23 ≤ rd24 (FP.Core.nearest C (2 ^ out)) ∧ rd24 (FP.Core.nearest C (2 ^ out)) < 2 ^ 24 := by
  obtain ⟨a, b, d, t⟩ := q32
  have p0 := Nat.two_pow_pos out
  have hC : 0 < C := Nat.lt_of_lt_of_le (Nat.mul_pos (by decide) p0) h1
  have u1 : FP.Core.unitsNum C e (e + out) = C := by unfold FP.Core.unitsNum; rw [show (e - (e + (out : Int))).toNat = 0 by omega]; omega
  have u2 : FP.Core.unitsDen 1 e (e + out) = 2 ^ out := by unfold FP.Core.unitsDen; rw [show (e + (out : Int) - e).toNat = out by omega]; omega
  have hr := rr_norm FP.Core.good_b32 s (A := C) (B := 1) (e := e) (q := e + out) hC (by decide) (by rw [a]; omega) (by rw [b]; omega) (by rw [u1, u2, d]; exact h1) (by rw [u1, u2, d]; exact h2)
  rw [u1, u2, d, t] at hr
  obtain ⟨g1, g2⟩ := nr_rg p0 h1 h2
  rw [hr]
  unfold rd24 up24
  by_cases c : FP.Core.nearest C (2 ^ out) < 2 ^ 24
  · rw [if_pos c, if_pos c, if_pos c]
    exact ⟨by rw [Int.add_zero], g1, c⟩
  · rw [if_neg c, if_neg c, if_neg c]
    exact ⟨rfl, by decide, by decide⟩
/-- a double to a float -/
theorem d2f_n {x : UInt64} {s : Bool} {c : Nat} {q : Int} (h : N64 x s c q) (h6 : -140 ≤ q) (h7 : q < 50) : N32 (FP.d2f x) s (rd24 (FP.Core.nearest c (2 ^ 29))) (q + 29 + up24 (FP.Core.nearest c (2 ^ 29))) := by
  obtain ⟨h1, h2, h3, h4, h5⟩ := h
  obtain ⟨r1, r2, r3⟩ := rr32 s (C := c) (out := 29) (e := q) (by omega) (by omega) (by omega) (by omega)
  have hu : up24 (FP.Core.nearest c (2 ^ 29)) = 0 ∨ up24 (FP.Core.nearest c (2 ^ 29)) = 1 := by unfold up24; split <;> simp
  refine ⟨?_, r2, r3, by omega, by omega⟩
  rw [show FP.d2f x = FP.Core.d2f x from if_neg (by rw [FP.Core.dIsNaN_iff, h1]; intro e; cases e)]
  rw [FP.Core.val32_d2f, h1]
  exact r1
/-- a thousand times a float -/
theorem val_1000 : FP.Core.val32 1148846080 = .fin false 16384000 (-14) := by decide +kernel
theorem f1000 {x : UInt32} {s : Bool} {c out : Nat} {q : Int} (h : N32 x s c q) (h1 : 2 ^ 23 * 2 ^ out ≤ c * 1000) (h2 : c * 1000 < 2 ^ 24 * 2 ^ out) (h6 : -100 ≤ q) (h7 : q + out < 89) : N32 (FP.fmul x 1148846080) s (rd24 (FP.Core.nearest (c * 1000) (2 ^ out))) (q + out + up24 (FP.Core.nearest (c * 1000) (2 ^ out))) := by
  obtain ⟨g1, g2, g3, g4, g5⟩ := h
  obtain ⟨r1, r2, r3⟩ := rr32 s (C := c * 1000) (out := out) (e := q) h1 h2 (by omega) (by omega)
  have hu : up24 (FP.Core.nearest (c * 1000) (2 ^ out)) = 0 ∨ up24 (FP.Core.nearest (c * 1000) (2 ^ out)) = 1 := by unfold up24; split <;> simp
  refine ⟨?_, r2, r3, by omega, by omega⟩
  show FP.Core.val32 (FP.Core.fmul x 1148846080) = _
  rw [FP.Core.val32_fmul, g1, val_1000]
  show FP.Core.roundRatio FP.Core.b32 (s != false) (c * 16384000) 1 (q + (-14)) = _
  rw [show (s != false) = s by cases s <;> rfl, ← r1]
  refine FP.Core.roundRatio_congr (by decide) (by decide) ?_
  rw [show (q + (-14) - q).toNat = 0 by omega, show (q - (q + (-14))).toNat = 14 by omega]
  omega
