/-! ===== equal fractions; identities of determinants ===== -/
theorem fr_eq {a b c d : Int} (hb : b ≠ 0) (hd : d ≠ 0) (h : a * d = c * b) : frA a b = frA c d ∧ frB a b = frB c d := by
  have g0 : Int.gcd a b ≠ 0 := fun z => hb (Int.gcd_eq_zero_iff.mp z).2
  have k0 : Int.gcd c d ≠ 0 := fun z => hd (Int.gcd_eq_zero_iff.mp z).2
  obtain ⟨a', ha⟩ : ((Int.gcd a b : Nat) : Int) ∣ a := Int.gcd_dvd_left ..
  obtain ⟨b', hb'⟩ : ((Int.gcd a b : Nat) : Int) ∣ b := Int.gcd_dvd_right ..
  obtain ⟨c', hc⟩ : ((Int.gcd c d : Nat) : Int) ∣ c := Int.gcd_dvd_left ..
  obtain ⟨d', hd'⟩ : ((Int.gcd c d : Nat) : Int) ∣ d := Int.gcd_dvd_right ..
  have ea : a / ((Int.gcd a b : Nat) : Int) = a' := Int.ediv_eq_of_eq_mul_right (by omega) ha
  have eb : b / ((Int.gcd a b : Nat) : Int) = b' := Int.ediv_eq_of_eq_mul_right (by omega) hb'
  have ec : c / ((Int.gcd c d : Nat) : Int) = c' := Int.ediv_eq_of_eq_mul_right (by omega) hc
  have ed : d / ((Int.gcd c d : Nat) : Int) = d' := Int.ediv_eq_of_eq_mul_right (by omega) hd'
  have q1 : Int.gcd a' b' = 1 := by
    have := Int.gcd_ediv_gcd_ediv_gcd (i := a) (j := b) (by omega)
    rwa [ea, eb] at this
  have q2 : Int.gcd c' d' = 1 := by
    have := Int.gcd_ediv_gcd_ediv_gcd (i := c) (j := d) (by omega)
    rwa [ec, ed] at this
  generalize hG : ((Int.gcd a b : Nat) : Int) = G at *
  generalize hK : ((Int.gcd c d : Nat) : Int) = K at *
  have gG : 0 < G := by omega
  have gK : 0 < K := by omega
  have b0 : b' ≠ 0 := fun z => hb (by rw [hb', z, Int.mul_zero])
  have d0 : d' ≠ 0 := fun z => hd (by rw [hd', z, Int.mul_zero])
  have e1 : a' * d' = c' * b' := by
    have e2 : (G * K) * (a' * d') = (G * K) * (c' * b') := by
      have : G * a' * (K * d') = K * c' * (G * b') := by rw [← ha, ← hb', ← hc, ← hd']; exact h
      grind
    exact Int.eq_of_mul_eq_mul_left (Int.mul_ne_zero (by omega) (by omega)) e2
  have n1 : b'.natAbs ∣ d'.natAbs := by
    have z : b'.natAbs ∣ a'.natAbs * d'.natAbs := by rw [← Int.natAbs_mul, e1, Int.natAbs_mul]; exact Nat.dvd_mul_left ..
    exact Nat.Coprime.dvd_of_dvd_mul_left (Nat.Coprime.symm q1) z
  have n2 : d'.natAbs ∣ b'.natAbs := by
    have z : d'.natAbs ∣ c'.natAbs * b'.natAbs := by rw [← Int.natAbs_mul, ← e1, Int.natAbs_mul]; exact Nat.dvd_mul_left ..
    exact Nat.Coprime.dvd_of_dvd_mul_left (Nat.Coprime.symm q2) z
  have n3 : b'.natAbs = d'.natAbs := Nat.dvd_antisymm n1 n2
  have fB : ∀ (x y g : Int), 0 < g → x = g * y → ((x.natAbs : Nat) : Int) / g = (y.natAbs : Nat) := by
    intro x y g hg hx
    apply Int.ediv_eq_of_eq_mul_right (by omega)
    rw [hx, Int.natAbs_mul]
    have : (g.natAbs : Int) = g := by omega
    rw [Int.natCast_mul, this]
  have sg : ∀ (x y g : Int), 0 < g → x = g * y → (x < 0 ↔ y < 0) := by
    intro x y g hg hx
    constructor
    · intro q
      rcases Int.lt_or_le y 0 with w | w
      · exact w
      · have := Int.mul_nonneg (Int.le_of_lt hg) w; omega
    · intro q
      have := Int.mul_neg_of_pos_of_neg hg q
      omega
  refine ⟨?_, ?_⟩
  · unfold frA
    rw [hG, hK]
    have s1 := sg b b' G gG hb'
    have s2 := sg d d' K gK hd'
    have na : (-a) / G = -a' := by rw [Int.neg_ediv_of_dvd ⟨a', ha⟩, ea]
    have nc : (-c) / K = -c' := by rw [Int.neg_ediv_of_dvd ⟨c', hc⟩, ec]
    rcases Int.natAbs_eq_natAbs_iff.mp n3 with e | e
    · have e2 : a' = c' := by rw [e] at e1; exact Int.eq_of_mul_eq_mul_right d0 e1
      by_cases c1 : b < 0
      · rw [if_pos c1, if_pos (by omega), na, nc, e2]
      · rw [if_neg c1, if_neg (by omega), ea, ec, e2]
    · have e2 : a' = -c' := by
        have : a' * d' = (-c') * d' := by rw [e1, e]; grind
        exact Int.eq_of_mul_eq_mul_right d0 this
      by_cases c1 : b < 0
      · rw [if_pos c1, if_neg (by omega), na, ec, e2]; omega
      · rw [if_neg c1, if_pos (by omega), ea, nc, e2]
  · unfold frB
    rw [hG, hK, fB b b' G gG hb', fB d d' K gK hd', n3]
theorem sy0 (A : Nat → Nat → Int) (r s c d : Nat) : A r c * A s d - A s c * A r d = 1 * D2 A r s c d := by simp only [D2]; grind
theorem sy1 (A : Nat → Nat → Int) (r s t c d e : Nat) : D2 A r s c d * D2 A r t c e - D2 A r t c d * D2 A r s c e = A r c * D3 A r s t c d e := by simp only [D2, D3]; grind
theorem sy2 (A : Nat → Nat → Int) (r s t u c d e f : Nat) : D3 A r s t c d e * D3 A r s u c d f - D3 A r s u c d e * D3 A r s t c d f = D2 A r s c d * D4 A r s t u c d e f := by simp only [D2, D3, D4]; grind
theorem pl1 (A : Nat → Nat → Int) (r s l j c : Nat) : D2 A r s l j * A r c - A r j * D2 A r s l c = A r l * D2 A r s c j := by simp only [D2]; grind
theorem pl20 (A : Nat → Nat → Int) (r s t l m j c : Nat) : D3 A r s t l m j * D2 A r s c m - D2 A r s j m * D3 A r s t l m c = D2 A r s l m * D3 A r s t c m j := by simp only [D2, D3]; grind
theorem pl21 (A : Nat → Nat → Int) (r s t l m j c : Nat) : D3 A r s t l m j * D2 A r s l c - D2 A r s l j * D3 A r s t l m c = D2 A r s l m * D3 A r s t l c j := by simp only [D2, D3]; grind
theorem pl30 (A : Nat → Nat → Int) (r s t u l m o j c : Nat) : D4 A r s t u l m o j * D3 A r s t c m o - D3 A r s t j m o * D4 A r s t u l m o c = D3 A r s t l m o * D4 A r s t u c m o j := by simp only [D2, D3, D4]; grind
theorem pl31 (A : Nat → Nat → Int) (r s t u l m o j c : Nat) : D4 A r s t u l m o j * D3 A r s t l c o - D3 A r s t l j o * D4 A r s t u l m o c = D3 A r s t l m o * D4 A r s t u l c o j := by simp only [D2, D3, D4]; grind
theorem pl32 (A : Nat → Nat → Int) (r s t u l m o j c : Nat) : D4 A r s t u l m o j * D3 A r s t l m c - D3 A r s t l m j * D4 A r s t u l m o c = D3 A r s t l m o * D4 A r s t u l m c j := by simp only [D2, D3, D4]; grind
