/-! ===== divisors and fractions ===== -/
def sm (x : Int) : Prop := x.natAbs < 4611686018427387904
theorem rJ_sm {x : Int} (h : sm x) : rJ x := by unfold sm at h; exact ⟨by omega, by omega⟩
theorem sm_nat {n : Nat} (h : n < 4611686018427387904) : sm (n : Int) := by unfold sm; omega
theorem tmod_nat (x y : Nat) : ((x : Int).tmod (y : Int)) = ((x % y : Nat) : Int) := by
  rw [Int.tmod_eq_emod_of_nonneg (by omega)]
  rfl
theorem zJ_remN {x y : Nat} (hx : x < 4611686018427387904) (hy : y < 4611686018427387904) : zJ x - zJ x / zJ y * zJ y = zJ ((x % y : Nat) : Int) := by
  rw [zJ_rem (rJ_sm (sm_nat hx)) (rJ_sm (sm_nat hy)) (by omega), tmod_nat]
theorem zJ_zeroN {x : Nat} (hx : x < 4611686018427387904) : zJ x = (0 : Int64) ↔ x = 0 := by
  rw [show (0 : Int64) = zJ 0 from rfl, zJ_eq (rJ_sm (sm_nat hx)) ⟨by omega, by omega⟩]
  omega
theorem gcd_step (x y : Nat) : Nat.gcd y (x % y) = Nat.gcd x y := by
  rw [Nat.gcd_comm y, ← Nat.gcd_rec, Nat.gcd_comm]
theorem div_loop : ∀ (fu x y : Nat), y < fu → x < 4611686018427387904 → y < 4611686018427387904 → L_X12_divisor_28 fu (zJ x) (zJ y) = some (zJ (Nat.gcd x y : Nat)) := by
  intro fu
  induction fu with
  | zero => intro x y h; omega
  | succ fu ih =>
    intro x y h hx hy
    rw [L_X12_divisor_28]
    by_cases c : y = 0
    · subst c
      rw [if_pos ((zJ_zeroN (by omega)).mpr rfl), Nat.gcd_zero_right]
    · rw [if_neg (fun z => c ((zJ_zeroN hy).mp z)), if_pos (fun z => c ((zJ_zeroN hy).mp z))]
      simp only [kl]
      have hlt : x % y < y := Nat.mod_lt _ (by omega)
      rw [zJ_remN hx hy, ih y (x % y) (by omega) hy (by omega), gcd_step]
theorem abs_le {a : Int} (h : sm a) : (if (0 : Int64) ≤ zJ a then zJ a else -zJ a) = zJ (a.natAbs : Nat) := by
  have e : ((0 : Int64) ≤ zJ a) ↔ 0 ≤ a := by rw [show (0 : Int64) = zJ 0 from rfl, zJ_le ⟨by omega, by omega⟩ (rJ_sm h)]
  by_cases c : 0 ≤ a
  · rw [if_pos (e.mpr c)]; congr 1; omega
  · rw [if_neg (fun z => c (e.mp z)), zJ_neg]; congr 1; omega
theorem abs_lt {a : Int} (h : sm a) : (if (0 : Int64) < zJ a then zJ a else -zJ a) = zJ (a.natAbs : Nat) := by
  have e : ((0 : Int64) < zJ a) ↔ 0 < a := by rw [show (0 : Int64) = zJ 0 from rfl, zJ_lt ⟨by omega, by omega⟩ (rJ_sm h)]
  by_cases c : 0 < a
  · rw [if_pos (e.mpr c)]; congr 1; omega
  · rw [if_neg (fun z => c (e.mp z)), zJ_neg]; congr 1; omega
theorem divisor_ok {F : Nat} {a b : Int} (ha : sm a) (hb : sm b) (hF : b.natAbs < F) : f_X12_divisor F (zJ a) (zJ b) = some (zJ (Int.gcd a b : Nat)) := by
  unfold f_X12_divisor
  simp only [kj1, kl]
  have key : ∀ t : Nat, t < 4611686018427387904 → (if (0 : Int64) ≤ zJ b then kb1 (L_X12_divisor_28 F (zJ t) (zJ b)) fun y7 => some y7 else kb1 (L_X12_divisor_28 F (zJ t) (-zJ b)) fun y9 => some y9) = some (zJ (Nat.gcd t b.natAbs : Nat)) := by
    intro t ht
    have h1 := abs_le hb
    have h2 := div_loop F t b.natAbs hF ht hb
    by_cases c : (0 : Int64) ≤ zJ b
    · rw [if_pos c] at h1; rw [if_pos c, h1, h2]; rfl
    · rw [if_neg c] at h1; rw [if_neg c, h1, h2]; rfl
  have h1 := abs_le ha
  by_cases c : (0 : Int64) ≤ zJ a
  · rw [if_pos c] at h1; rw [if_pos c]
    have := key a.natAbs ha
    rw [← h1] at this
    exact this
  · rw [if_neg c] at h1; rw [if_neg c]
    have := key a.natAbs ha
    rw [← h1] at this
    exact this
/-- a by b, b not 0, in lowest terms: above and below -/
def frA (a b : Int) : Int := (if b < 0 then -a else a) / (Int.gcd a b : Int)
def frB (a b : Int) : Int := (b.natAbs : Int) / (Int.gcd a b : Int)
theorem tdiv_of_dvd {a g : Int} (h : g ∣ a) : a.tdiv g = a / g := by
  rw [Int.tdiv_eq_ediv_of_dvd h]
theorem layFraction_ok {F : Nat} {a b : Int} (ha : sm a) (hb : sm b) (hb0 : b ≠ 0) (hF : b.natAbs < F) (u v : Int64) : f_X12_layFraction F u v (zJ a) (zJ b) = some (zJ (frA a b), zJ (frB a b)) := by
  unfold f_X12_layFraction
  rw [divisor_ok ha hb hF]
  simp only [kb1, Option.bind_some]
  have hg0 : Int.gcd a b ≠ 0 := fun z => hb0 (Int.gcd_eq_zero_iff.mp z).2
  have hgl : Int.gcd a b ≤ b.natAbs := Nat.le_of_dvd (by omega) (Int.natCast_dvd_natCast.mp (by rw [Int.dvd_natAbs]; exact Int.gcd_dvd_right ..))
  have hgs : sm ((Int.gcd a b : Nat) : Int) := sm_nat (by unfold sm at hb; omega)
  have hga : ((Int.gcd a b : Nat) : Int) ∣ a := Int.gcd_dvd_left ..
  have hgb : ((Int.gcd a b : Nat) : Int) ∣ b := Int.gcd_dvd_right ..
  have e : ((0 : Int64) ≤ zJ b) ↔ 0 ≤ b := by rw [show (0 : Int64) = zJ 0 from rfl, zJ_le ⟨by omega, by omega⟩ (rJ_sm hb)]
  unfold sm at ha hb
  by_cases c : 0 ≤ b
  · rw [if_pos (e.mpr c), if_pos (fun z => hg0 ((zJ_zeroN (by omega)).mp z))]
    simp only [kl]
    rw [if_pos (fun z => hg0 ((zJ_zeroN (by omega)).mp z)), zJ_div (rJ_sm ha) (rJ_sm hgs) (by omega), zJ_div (rJ_sm hb) (rJ_sm hgs) (by omega), tdiv_of_dvd hga, tdiv_of_dvd hgb]
    unfold frA frB
    rw [if_neg (by omega), show ((b.natAbs : Nat) : Int) = b by omega]
  · rw [if_neg (fun z => c (e.mp z))]
    simp only [kl]
    have hne : ¬ -zJ ((Int.gcd a b : Nat) : Int) = 0 := by
      rw [zJ_neg, show (0 : Int64) = zJ 0 from rfl, zJ_eq (rJ_sm (by unfold sm at hgs ⊢; omega)) ⟨by omega, by omega⟩]
      omega
    rw [if_pos hne, if_pos hne, zJ_neg, zJ_div (rJ_sm ha) (rJ_sm (by unfold sm at hgs ⊢; omega)) (by omega), zJ_div (rJ_sm hb) (rJ_sm (by unfold sm at hgs ⊢; omega)) (by omega)]
    unfold frA frB
    rw [if_pos (by omega), Int.tdiv_neg, Int.tdiv_neg, tdiv_of_dvd hga, tdiv_of_dvd hgb, Int.neg_ediv_of_dvd hga, show ((b.natAbs : Nat) : Int) = -b by omega, Int.neg_ediv_of_dvd hgb]
theorem gcd_loop : ∀ (k x y fu st : Nat), x < 4611686018427387904 → y < 2 ^ k → k ≤ 62 → st + 2 * k + 1 ≤ 200 → 2 * k + 1 < fu → L_X11_gcd_15 fu (zJ x) (zJ y) (nI st) = some (zJ (Nat.gcd x y : Nat)) := by
  have p62 : ∀ k, k ≤ 62 → (2 : Nat) ^ k ≤ 4611686018427387904 := fun k hk => Nat.le_trans (Nat.pow_le_pow_right (by decide) hk) (by decide)
  intro k
  induction k with
  | zero =>
    intro x y fu st hx hy hk hst hfu
    obtain ⟨fu, rfl⟩ : ∃ g, fu = g + 1 := ⟨fu - 1, by omega⟩
    have : y = 0 := by simpa using hy
    subst this
    rw [L_X11_gcd_15, if_neg (show ¬ (200 : Int32) ≤ nI st from nI_ge (b := 200) (by omega) (by omega)), if_pos ((zJ_zeroN (by omega)).mpr rfl), Nat.gcd_zero_right]
  | succ k ih =>
    intro x y fu st hx hy hk hst hfu
    obtain ⟨fu, rfl⟩ : ∃ g, fu = g + 1 := ⟨fu - 1, by omega⟩
    have hyb : y < 4611686018427387904 := Nat.lt_of_lt_of_le hy (p62 _ hk)
    rw [L_X11_gcd_15, if_neg (show ¬ (200 : Int32) ≤ nI st from nI_ge (b := 200) (by omega) (by omega))]
    by_cases c : y = 0
    · subst c
      rw [if_pos ((zJ_zeroN (by omega)).mpr rfl), Nat.gcd_zero_right]
    · rw [if_neg (fun z => c ((zJ_zeroN hyb).mp z)), if_pos (fun z => c ((zJ_zeroN hyb).mp z))]
      simp only [kl]
      have hlt : x % y < y := Nat.mod_lt _ (by omega)
      rw [zJ_remN hx hyb, nI_1]
      obtain ⟨fu, rfl⟩ : ∃ g, fu = g + 1 := ⟨fu - 1, by omega⟩
      rw [L_X11_gcd_15, if_neg (show ¬ (200 : Int32) ≤ nI (st + 1) from nI_ge (b := 200) (by omega) (by omega))]
      by_cases c2 : x % y = 0
      · rw [if_pos ((zJ_zeroN (by omega)).mpr c2)]
        have : Nat.gcd x y = y := by rw [← gcd_step, c2, Nat.gcd_zero_right]
        rw [this]
      · rw [if_neg (fun z => c2 ((zJ_zeroN (by omega)).mp z)), if_pos (fun z => c2 ((zJ_zeroN (by omega)).mp z))]
        simp only [kl]
        rw [zJ_remN hyb (by omega), nI_1]
        have h2 : 2 * (y % (x % y)) < y := by
          have h3 : y % (x % y) < x % y := Nat.mod_lt _ (by omega)
          have h4 := Nat.div_add_mod y (x % y)
          have h5 : 1 ≤ y / (x % y) := Nat.div_pos (by omega) (by omega)
          have h6 : x % y ≤ (x % y) * (y / (x % y)) := Nat.le_mul_of_pos_right _ h5
          omega
        rw [ih (x % y) (y % (x % y)) fu (st + 1 + 1) (by omega) (by rw [Nat.pow_succ] at hy; omega) (by omega) (by omega) (by omega), gcd_step, gcd_step]
theorem gcd_ok {F : Nat} {a b : Int} (ha : sm a) (hb : sm b) (hF : 200 ≤ F) : f_X11_gcd F (zJ a) (zJ b) = some (zJ (Int.gcd a b : Nat)) := by
  unfold f_X11_gcd
  simp only [kl]
  have e1 := abs_lt ha
  have e2 := abs_lt hb
  rw [show (0 : Int64) = (0 : Int64) from rfl] at e1
  rw [e1, e2, show (0 : Int32) = nI 0 from rfl, gcd_loop 62 a.natAbs b.natAbs F 0 ha hb (by omega) (by omega) (by omega)]
  rfl
theorem quotient_ok {a b : Int} (ha : sm a) (hb : sm b) : f_X11_quotient (zJ a) (zJ b) = some (zJ (a.tdiv b)) := by
  unfold f_X11_quotient
  by_cases c : b = 0
  · subst c
    rw [if_pos (by rfl), Int.tdiv_zero]
    rfl
  · have hne : ¬ zJ b = 0 := by
      rw [show (0 : Int64) = zJ 0 from rfl, zJ_eq (rJ_sm hb) ⟨by omega, by omega⟩]
      exact c
    rw [if_neg hne, if_pos hne, zJ_div (rJ_sm ha) (rJ_sm hb) (by unfold sm at ha; omega)]
theorem leftOver_ok {a : Int} (ha : sm a) {p : Nat} (hp : 0 < p) (hp2 : p < 2147483648) : f_X11_leftOver (zJ a) (nI p) = some (zI (a % p)) := by
  unfold f_X11_leftOver
  have hps : sm (p : Int) := sm_nat (by omega)
  have hne : ¬ zJ (p : Int) = 0 := by
    rw [show (0 : Int64) = zJ 0 from rfl, zJ_eq (rJ_sm hps) ⟨by omega, by omega⟩]
    omega
  rw [if_neg (nI_ne0 hp hp2), nI_z, zI_J ⟨by omega, by omega⟩, if_pos hne]
  simp only [kl]
  rw [zJ_rem (rJ_sm ha) (rJ_sm hps) (by unfold sm at ha; omega)]
  have h1 : (a.tmod p).natAbs < p := by
    rw [Int.natAbs_tmod]
    exact Nat.mod_lt _ (by omega)
  have hts : sm (a.tmod p) := by unfold sm; omega
  have e : ((0 : Int64) ≤ zJ (a.tmod p)) ↔ 0 ≤ a.tmod p := by rw [show (0 : Int64) = zJ 0 from rfl, zJ_le ⟨by omega, by omega⟩ (rJ_sm hts)]
  have h2 := Int.tmod_add_mul_tdiv a p
  by_cases c : 0 ≤ a.tmod p
  · rw [if_pos (e.mpr c), zJ_I]
    congr 2
    have h3 : a = a.tmod p + p * a.tdiv p := h2.symm
    rw [h3, Int.add_mul_emod_self_left, ← h3]
    exact (Int.emod_eq_of_lt c (by omega)).symm
  · rw [if_neg (fun z => c (e.mp z)), zJ_add, zJ_I]
    congr 2
    have h3 : a = (a.tmod p + p) + p * (a.tdiv p - 1) := by rw [Int.mul_sub]; omega
    have h4 : a % p = (a.tmod p + p) % p := by
      conv => lhs; rw [h3]
      rw [Int.add_mul_emod_self_left]
    rw [h4]
    exact (Int.emod_eq_of_lt (by omega) (by omega)).symm
