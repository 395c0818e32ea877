/-! ===== powers of the prime, the bound of a guess ===== -/
def tb (M : Nat) : Nat → Nat → Nat
  | 0, t => t
  | b + 1, t => if M ≤ 2 * (t + 2 ^ b) * (t + 2 ^ b) then tb M b t else tb M b (t + 2 ^ b)
theorem tb_spec (M : Nat) : ∀ (b t : Nat), 2 * t * t < M → M ≤ 2 * (t + 2 ^ b) * (t + 2 ^ b) → 2 * tb M b t * tb M b t < M ∧ M ≤ 2 * (tb M b t + 1) * (tb M b t + 1) := by
  intro b
  induction b with
  | zero => intro t h1 h2; exact ⟨h1, h2⟩
  | succ b ih =>
    intro t h1 h2
    rw [tb]
    by_cases c : M ≤ 2 * (t + 2 ^ b) * (t + 2 ^ b)
    · rw [if_pos c]; exact ih t h1 c
    · rw [if_neg c]
      refine ih (t + 2 ^ b) (by omega) ?_
      rw [Nat.pow_succ, show t + 2 ^ b * 2 = t + 2 ^ b + 2 ^ b by omega] at h2
      exact h2
theorem shl64_fin : ∀ b : Fin 31, ((1 : Int64) <<< ((nI b.val).toInt64 &&& 63)) = zJ ((2 ^ b.val : Nat) : Int) := by decide +kernel
theorem pow31 {b : Nat} (h : b ≤ 31) : 2 ^ b ≤ 2147483648 := Nat.le_trans (Nat.pow_le_pow_right (by decide) h) (by decide)
theorem dec_I (b : Nat) : zI (b : Int) + (-1 : Int32) = zI ((b : Int) - 1) := by
  rw [show (-1 : Int32) = zI (-1) from (zI_neg 1), zI_add]
  rfl
theorem bd_step {M t b : Nat} (hM : M ≤ 2000000000000000000) (hb : t + 2 ^ (b + 1) ≤ 2147483648) : (zJ (M : Int) ≤ ((2 : Int64) * (zJ (t : Int) + zJ ((2 ^ b : Nat) : Int))) * (zJ (t : Int) + zJ ((2 ^ b : Nat) : Int))) ↔ M ≤ 2 * (t + 2 ^ b) * (t + 2 ^ b) := by
  have h0 : t + 2 ^ b ≤ 2147483647 := by
    rw [Nat.pow_succ] at hb
    have : 0 < 2 ^ b := Nat.pow_pos (by decide)
    omega
  have h1 : 2 * (t + 2 ^ b) * (t + 2 ^ b) ≤ 2 * 2147483647 * 2147483647 := Nat.mul_le_mul (by omega) h0
  rw [zJ_add, show (2 : Int64) = zJ 2 from rfl, zJ_mul, zJ_mul, ← Int.natCast_add, show (2 : Int) = ((2 : Nat) : Int) from rfl, ← Int.natCast_mul, ← Int.natCast_mul, zJ_le (rJ_sm (sm_nat (by omega))) ⟨by omega, by omega⟩]
  omega
theorem bd_loop {M : Nat} (hM : M ≤ 2000000000000000000) : ∀ (b t fu : Nat), b < fu → b ≤ 31 → t + 2 ^ b ≤ 2147483648 → L_X4_boundOf_6 (zJ (M : Int)) fu (zJ (t : Int)) (zI ((b : Int) - 1)) = some (zJ ((tb M b t : Nat) : Int)) := by
  intro b
  induction b with
  | zero =>
    intro t fu hfu hb ht
    obtain ⟨fu, rfl⟩ : ∃ g, fu = g + 1 := ⟨fu - 1, by omega⟩
    rw [L_X4_boundOf_6, if_pos (show zI (((0 : Nat) : Int) - 1) < 0 by decide)]
    rfl
  | succ b ih =>
    intro t fu hfu hb ht
    obtain ⟨fu, rfl⟩ : ∃ g, fu = g + 1 := ⟨fu - 1, by omega⟩
    have hp : 0 < 2 ^ b := Nat.pow_pos (by decide)
    have ht2 := ht
    rw [Nat.pow_succ] at ht2
    rw [L_X4_boundOf_6, show (((b + 1 : Nat) : Int) - 1) = (b : Int) by omega, if_neg (by rw [← nI_z]; exact nI_pos (by omega)), dec_I]
    have e : (1 : Int64) <<< ((zI (b : Int)).toInt64 &&& 63) = zJ ((2 ^ b : Nat) : Int) := by rw [← nI_z]; exact shl64_fin ⟨b, by omega⟩
    rw [e]
    simp only [kl]
    have hc := bd_step (M := M) hM ht
    rw [tb]
    by_cases c : M ≤ 2 * (t + 2 ^ b) * (t + 2 ^ b)
    · rw [if_pos (hc.mpr c), if_pos c]
      exact ih t fu (by omega) (by omega) (by omega)
    · rw [if_neg (fun z => c (hc.mp z)), if_neg c, zJ_add, ← Int.natCast_add]
      exact ih (t + 2 ^ b) fu (by omega) (by omega) (by omega)
theorem hr_loop {M : Nat} (hM : M ≤ 2000000000000000000) : ∀ (b t fu : Nat), b < fu → b ≤ 31 → t + 2 ^ b ≤ 2147483648 → L_X12_halfRoot_6 (zJ (M : Int)) fu (zJ (t : Int)) (zI ((b : Int) - 1)) = some (zJ ((tb M b t : Nat) : Int)) := by
  intro b
  induction b with
  | zero =>
    intro t fu hfu hb ht
    obtain ⟨fu, rfl⟩ : ∃ g, fu = g + 1 := ⟨fu - 1, by omega⟩
    rw [L_X12_halfRoot_6, if_pos (show zI (((0 : Nat) : Int) - 1) < 0 by decide)]
    rfl
  | succ b ih =>
    intro t fu hfu hb ht
    obtain ⟨fu, rfl⟩ : ∃ g, fu = g + 1 := ⟨fu - 1, by omega⟩
    have hp : 0 < 2 ^ b := Nat.pow_pos (by decide)
    have ht2 := ht
    rw [Nat.pow_succ] at ht2
    rw [L_X12_halfRoot_6, show (((b + 1 : Nat) : Int) - 1) = (b : Int) by omega, if_neg (by rw [← nI_z]; exact nI_pos (by omega)), dec_I]
    have e : (1 : Int64) <<< ((zI (b : Int)).toInt64 &&& 63) = zJ ((2 ^ b : Nat) : Int) := by rw [← nI_z]; exact shl64_fin ⟨b, by omega⟩
    rw [e]
    simp only [kl]
    have hc := bd_step (M := M) hM ht
    rw [tb]
    by_cases c : M ≤ 2 * (t + 2 ^ b) * (t + 2 ^ b)
    · rw [if_pos (hc.mpr c), if_pos c]
      exact ih t fu (by omega) (by omega) (by omega)
    · rw [if_neg (fun z => c (hc.mp z)), if_neg c, zJ_add, ← Int.natCast_add]
      exact ih (t + 2 ^ b) fu (by omega) (by omega) (by omega)
/-- T of M -/
def Tb (M : Nat) : Nat := tb M 30 0
theorem Tb_spec {M : Nat} (h0 : 0 < M) (hM : M ≤ 2000000000000000000) : 2 * Tb M * Tb M < M ∧ M ≤ 2 * (Tb M + 1) * (Tb M + 1) := tb_spec M 30 0 (by omega) (Nat.le_trans hM (by decide))
theorem boundOf_ok {F : Nat} (hF : 100 ≤ F) {M : Nat} (hM : M ≤ 2000000000000000000) : f_X4_boundOf F (zJ (M : Int)) = some (zJ ((Tb M : Nat) : Int)) := by
  unfold f_X4_boundOf
  exact kb1_of (show L_X4_boundOf_6 (zJ (M : Int)) F (0 : Int64) (29 : Int32) = _ from bd_loop hM 30 0 F (by omega) (by omega) (by decide)) rfl
theorem tb_s (M b t : Nat) (h : M ≤ 2 * (t + 2 ^ b) * (t + 2 ^ b)) : tb M (b + 1) t = tb M b t := by rw [tb, if_pos h]
theorem p30 : 2 * (0 + 2 ^ 30) * (0 + 2 ^ 30) = 2305843009213693952 := by decide
theorem tb31 {M : Nat} (h : M ≤ 2305843009213693952) : tb M (30 + 1) 0 = tb M 30 0 := tb_s M 30 0 (by rw [p30]; exact h)
theorem halfRoot_ok {F : Nat} (hF : 100 ≤ F) {M : Nat} (hM : M ≤ 2000000000000000000) : f_X12_halfRoot F (zJ (M : Int)) = some (zJ ((Tb M : Nat) : Int)) := by
  have e : tb M (30 + 1) 0 = Tb M := by
    rw [Tb, tb31 (by omega)]
  unfold f_X12_halfRoot
  have := hr_loop hM (30 + 1) 0 F (by omega) (by omega) (by decide)
  rw [e] at this
  exact kb1_of (show L_X12_halfRoot_6 (zJ (M : Int)) F (0 : Int64) (30 : Int32) = _ from this) rfl
theorem pw_big {p : Nat} (hp : 2 ≤ p) : 2000000000000000000 < p ^ 61 := Nat.lt_of_lt_of_le (show 2000000000000000000 < 2 ^ 61 by decide) (Nat.pow_le_pow_left hp 61)
theorem pw_mono {p : Nat} (hp : 2 ≤ p) {i j : Nat} (h : i ≤ j) : p ^ i ≤ p ^ j := Nat.pow_le_pow_right (by omega) h
theorem pw_le {p k : Nat} (hp : 2 ≤ p) (h : p ^ k ≤ 2000000000000000000) : k ≤ 60 := by
  refine Classical.byContradiction fun c => ?_
  have := pw_mono hp (show 61 ≤ k by omega)
  have := pw_big hp
  omega
theorem Gdiv {p : Nat} (hp : 2 ≤ p) (hp2 : p < 98) : (2000000000000000000 : Int64) / zJ (p : Int) = zJ ((2000000000000000000 / p : Nat) : Int) := by
  rw [show (2000000000000000000 : Int64) = zJ ((2000000000000000000 : Nat) : Int) from rfl, zJ_div (rJ_sm (sm_nat (by omega))) (rJ_sm (sm_nat (by omega))) (by omega), tdiv_nat]
theorem pw_next {p i : Nat} (hp : 2 ≤ p) (h : p ^ i ≤ 2000000000000000000) : zJ ((p ^ i : Nat) : Int) ≤ zJ ((2000000000000000000 / p : Nat) : Int) ↔ p ^ (i + 1) ≤ 2000000000000000000 := by
  have : 2000000000000000000 / p ≤ 2000000000000000000 := Nat.div_le_self _ _
  rw [zJ_le (rJ_sm (sm_nat (by omega))) (rJ_sm (sm_nat (by omega))), Nat.pow_succ, ← Nat.le_div_iff_mul_le (by omega)]
  omega
theorem pc_loop {p : Nat} (hp : 2 ≤ p) (hp2 : p < 98) {k : Nat} (hk : k < 2 ^ 31) : ∀ (d i fu : Nat), i + d = 62 → d < fu → i ≤ k → p ^ i ≤ 2000000000000000000 → L_X11_powerForGuess_14 (nI p) (nI k) fu (zJ ((p ^ i : Nat) : Int)) (nI i) = some (if p ^ k ≤ 2000000000000000000 then .inr (zJ ((p ^ k : Nat) : Int)) else .inl ()) := by
  intro d
  induction d with
  | zero => intro i fu hi hfu hik h; have := pw_le hp h; omega
  | succ d ih =>
    intro i fu hi hfu hik h
    obtain ⟨fu, rfl⟩ : ∃ g, fu = g + 1 := ⟨fu - 1, by omega⟩
    rw [L_X11_powerForGuess_14]
    by_cases c : k ≤ i
    · rw [if_pos (nI_le c (by omega)), show i = k by omega, if_pos (by rw [← show i = k by omega]; exact h)]
    · rw [if_neg (nI_ge (by omega) (by omega)), nIJ hp2]
      have hq : f_X11_quotient (2000000000000000000 : Int64) (zJ (p : Int)) = some (zJ ((2000000000000000000 / p : Nat) : Int)) := by
        rw [show (2000000000000000000 : Int64) = zJ ((2000000000000000000 : Nat) : Int) from rfl, quotient_ok (sm_nat (by omega)) (sm_nat (by omega)), tdiv_nat]
      refine kb1_of hq ?_
      have hn := pw_next hp h
      by_cases c2 : p ^ (i + 1) ≤ 2000000000000000000
      · rw [if_pos (hn.mpr c2), zJ_mul, ← Int.natCast_mul, ← Nat.pow_succ, nI_1]
        exact ih (i + 1) fu (by omega) (by omega) (by omega) c2
      · rw [if_neg (fun z => c2 (hn.mp z)), if_neg (fun z => c2 (Nat.le_trans (pw_mono hp (show i + 1 ≤ k by omega)) z))]
theorem powerC_ok {F : Nat} (hF : 100 ≤ F) {p : Nat} (hp : 2 ≤ p) (hp2 : p < 98) {k : Nat} (hk0 : 1 ≤ k) (hk : k < 2 ^ 31) : f_X11_powerForGuess F (nI p) (nI k) = some (if p ^ k ≤ 2000000000000000000 then zJ ((p ^ k : Nat) : Int) else -1) := by
  unfold f_X11_powerForGuess
  rw [if_pos (show (1 : Int32) ≤ nI k from nI_le (a := 1) hk0 hk), show L_X11_powerForGuess_14 (nI p) (nI k) F (1 : Int64) (0 : Int32) = _ from pc_loop hp hp2 hk 62 0 F (by omega) (by omega) (by omega) (by rw [Nat.pow_zero]; omega)]
  by_cases c : p ^ k ≤ 2000000000000000000
  · rw [if_pos c, if_pos c]; rfl
  · rw [if_neg c, if_neg c]; rfl
theorem pm_loop0 {p k : Nat} : ∀ (fu i : Nat), 1 < fu → k < 2 ^ 31 → i < 2 ^ 31 → L_X12_power_5 (zJ (p : Int)) (nI k) fu (0 : Int64) (nI i) = some 0 := by
  intro fu i hfu hk hi
  obtain ⟨fu, rfl⟩ : ∃ g, fu = g + 1 := ⟨fu - 1, by omega⟩
  rw [L_X12_power_5]
  by_cases c : k ≤ i
  · rw [if_pos (nI_le c hi)]
  · rw [if_neg (nI_ge (by omega) hk), if_pos (by decide)]
theorem pm_loop {p : Nat} (hp : 2 ≤ p) (hp2 : p < 98) {k : Nat} (hk : k < 2 ^ 31) : ∀ (d i fu : Nat), i + d = 62 → d + 1 < fu → i ≤ k → p ^ i ≤ 2000000000000000000 → L_X12_power_5 (zJ (p : Int)) (nI k) fu (zJ ((p ^ i : Nat) : Int)) (nI i) = some (if p ^ k ≤ 2000000000000000000 then zJ ((p ^ k : Nat) : Int) else 0) := by
  intro d
  induction d with
  | zero => intro i fu hi hfu hik h; have := pw_le hp h; omega
  | succ d ih =>
    intro i fu hi hfu hik h
    obtain ⟨fu, rfl⟩ : ∃ g, fu = g + 1 := ⟨fu - 1, by omega⟩
    rw [L_X12_power_5]
    by_cases c : k ≤ i
    · rw [if_pos (nI_le c (by omega)), show i = k by omega, if_pos (by rw [← show i = k by omega]; exact h)]
    · have hpos : 0 < p ^ i := Nat.pow_pos (by omega)
      rw [if_neg (nI_ge (by omega) (by omega)), if_neg (fun z => by
        rw [show (0 : Int64) = zJ 0 from rfl, zJ_le (rJ_sm (sm_nat (by omega))) ⟨by omega, by omega⟩] at z
        omega), if_pos (nz_p (by omega) hp2), Gdiv hp hp2]
      have hn := pw_next hp h
      by_cases c2 : p ^ (i + 1) ≤ 2000000000000000000
      · rw [if_pos (hn.mpr c2), zJ_mul, ← Int.natCast_mul, ← Nat.pow_succ, nI_1]
        exact ih (i + 1) fu (by omega) (by omega) (by omega) c2
      · rw [if_neg (fun z => c2 (hn.mp z)), if_neg (fun z => c2 (Nat.le_trans (pw_mono hp (show i + 1 ≤ k by omega)) z)), nI_1]
        exact pm_loop0 fu (i + 1) (by omega) hk (by omega)
theorem powerM_ok {F : Nat} (hF : 100 ≤ F) {p : Nat} (hp : 2 ≤ p) (hp2 : p < 98) {k : Nat} (hk : k < 2 ^ 31) : f_X12_power F (zJ (p : Int)) (nI k) = some (if p ^ k ≤ 2000000000000000000 then zJ ((p ^ k : Nat) : Int) else 0) := by
  unfold f_X12_power
  exact kb1_of (show L_X12_power_5 (zJ (p : Int)) (nI k) F (1 : Int64) (0 : Int32) = _ from pm_loop hp hp2 hk 62 0 F (by omega) (by omega) (by omega) (by rw [Nat.pow_zero]; omega)) rfl
