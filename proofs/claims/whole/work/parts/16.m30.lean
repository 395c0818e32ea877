/-! ===== the reference by the prime: left over, inverse, bad, ways ===== -/
theorem tmod_ab {a : Int} {p : Nat} (hp : 0 < p) : (a.tmod p).natAbs < p := by
  rw [Int.natAbs_tmod]
  exact Nat.mod_lt _ (by omega)
theorem loM_ok {a : Int} (ha : sm a) {p : Nat} (hp : 0 < p) (hp2 : p < 98) : f_X12_leftOver (zJ a) (zJ p) = some (zJ (a % p)) := by
  have hps : sm (p : Int) := sm_nat (by omega)
  have hne : ¬ zJ (p : Int) = 0 := fun z => by have := (zJ_zeroN (by omega)).mp z; omega
  have h1 := tmod_ab (a := a) hp
  have h2 := Int.tmod_add_mul_tdiv a p
  unfold f_X12_leftOver
  rw [if_pos hne, if_pos hne, zJ_rem (rJ_sm ha) (rJ_sm hps) (by unfold sm at ha; omega), zJ_add, zJ_rem (a := a.tmod p + p) (rJ_sm (by unfold sm; omega)) (rJ_sm hps) (by omega)]
  congr 2
  rw [Int.tmod_eq_emod_of_nonneg (by omega), Int.add_emod_right]
  conv => rhs; rw [← h2]
  rw [Int.add_mul_emod_self_left]
theorem remp_ok {a : Int} (ha : sm a) (h0 : 0 ≤ a) {p : Nat} (hp : 0 < p) (hp2 : p < 98) : zJ a - zJ a / zJ (p : Int) * zJ (p : Int) = zJ (a % p) := by
  rw [zJ_rem (rJ_sm ha) (rJ_sm (sm_nat (by omega))) (by omega), Int.tmod_eq_emod_of_nonneg h0]
theorem nz_p {p : Nat} (hp : 0 < p) (hp2 : p < 98) : ¬ zJ (p : Int) = 0 := fun z => by have := (zJ_zeroN (by omega)).mp z; omega
theorem iv_loop {p : Nat} (hp : Pm p) {x : Int} (hx : sm x) : ∀ (d k fu : Nat) (w : Int), k + d = p → d < fu → 0 < k → ((rp p w ∧ (p : Int) ∣ x * w - 1) ∨ ∃ u : Nat, k ≤ u ∧ u < p ∧ (p : Int) ∣ x * u - 1) → ∃ w', L_X12_inverse_6 (zJ x) (zJ p) fu (zJ w) (zJ k) = some (zJ w') ∧ rp p w' ∧ (p : Int) ∣ x * w' - 1 := by
  have hp1 := hp.1
  intro d
  induction d with
  | zero =>
    intro k fu w hk hfu h0 hw
    obtain ⟨fu, rfl⟩ : ∃ g, fu = g + 1 := ⟨fu - 1, by omega⟩
    refine ⟨w, ?_, ?_⟩
    · rw [L_X12_inverse_6, if_pos ((zJ_le (rJ_sm (sm_nat (by omega))) (rJ_sm (sm_nat (by omega)))).mpr (by omega))]
    · rcases hw with h | ⟨u, a, b, _⟩
      · exact h
      · omega
  | succ d ih =>
    intro k fu w hk hfu h0 hw
    obtain ⟨fu, rfl⟩ : ∃ g, fu = g + 1 := ⟨fu - 1, by omega⟩
    rw [L_X12_inverse_6, if_neg (fun z => by have := (zJ_le (rJ_sm (sm_nat (by omega))) (rJ_sm (sm_nat (by omega)))).mp z; omega), loM_ok hx (by omega) hp1.2]
    simp only [kb1, Option.bind_some]
    have hr := rp_mod (show 0 < p by omega) x
    have hb := ab_rp hp1.2 hr (show rp p (k : Int) from ⟨by omega, by omega⟩)
    rw [if_pos (nz_p (by omega) hp1.2), zJ_mul, remp_ok (by unfold sm; omega) hb.1 (by omega) hp1.2]
    have hr2 := rp_mod (show 0 < p by omega) (x % p * k)
    have e : zJ ((x % p * k) % p) = (1 : Int64) ↔ (p : Int) ∣ x * k - 1 := by
      rw [zJ_one (by have h1 := hr2.1; have h2 := hr2.2; unfold sm; omega), Int.mul_emod, Int.emod_emod_of_dvd _ (Int.dvd_refl _), ← Int.mul_emod]
      constructor
      · intro z
        have := Int.emod_add_mul_ediv (x * k) p
        exact ⟨x * k / p, by omega⟩
      · rintro ⟨z, hz⟩
        rw [show x * k = 1 + p * z by omega, Int.add_mul_emod_self_left, Int.emod_eq_of_lt (by omega) (by omega)]
    have e1 : zJ (k : Int) + 1 = zJ ((k + 1 : Nat) : Int) := by rw [show (1 : Int64) = zJ 1 from rfl, zJ_add]; rfl
    by_cases c : (p : Int) ∣ x * k - 1
    · rw [if_pos (e.mpr c)]
      simp only [kl, e1]
      exact ih (k + 1) fu k (by omega) (by omega) (by omega) (Or.inl ⟨⟨by omega, by omega⟩, c⟩)
    · rw [if_neg (fun z => c (e.mp z))]
      simp only [kl, e1]
      refine ih (k + 1) fu w (by omega) (by omega) (by omega) ?_
      rcases hw with h | ⟨u, a, b, q⟩
      · exact Or.inl h
      · refine Or.inr ⟨u, ?_, b, q⟩
        by_cases z : u = k
        · subst z; exact absurd q c
        · omega
theorem inverse_ok {F p : Nat} (hF : 100 ≤ F) (hp : Pm p) {x : Int} (hx : sm x) (h : ¬ (p : Int) ∣ x) : ∃ w, f_X12_inverse F (zJ x) (zJ p) = some (zJ w) ∧ rp p w ∧ (p : Int) ∣ x * w - 1 := by
  obtain ⟨u, u0, u1, u2⟩ := Pm_inv hp h
  obtain ⟨w, e1, e2⟩ := iv_loop hp hx (p - 1) 1 F 1 (by omega) (by have := hp.1; omega) (by omega) (Or.inr ⟨u, by omega, u1, u2⟩)
  refine ⟨w, ?_, e2⟩
  unfold f_X12_inverse
  rw [show L_X12_inverse_6 (zJ x) (zJ p) F (1 : Int64) (1 : Int64) = _ from e1]
  rfl
/-- the determinant -/
abbrev Dt (A : Nat → Nat → Int) (n : Nat) : Int := Mn A (2 ^ n - 1) (2 ^ n - 1)
theorem Dt_ab {A : Nat → Nat → Int} (h : Bd A) {n : Nat} (hn : n ≤ 4) : (Dt A n).natAbs ≤ 2305430424 := by
  have := pow_n hn
  exact Mn_ab h (by have : 0 < 2 ^ n := Nat.pow_pos (by decide); omega) (by omega)
/-- the reference's row with its prime -/
def Wp (w : Nat → Int32) (n pn : Nat) (A : Nat → Nat → Int) : Prop := Wn w n A ∧ w 1 = nI pn ∧ pn < 25
theorem pm_ok {F : Nat} (hF : 100 ≤ F) {w : Nat → Int32} {n pn : Nat} {A : Nat → Nat → Int} (h : Wp w n pn A) : f_X12_p F w = some (nI (prN pn)) := by
  rw [p_ok hF h.2.1 h.2.2, (kPr_fin ⟨pn, h.2.2⟩).1]
theorem nIJ {p : Nat} (h : p < 98) : (nI p).toInt64 = zJ p := by rw [nI_z, zI_J ⟨by omega, by omega⟩]
theorem zJ_dvd {a : Int} (ha : sm a) {p : Nat} (hp : 0 < p) (hp2 : p < 98) : (zJ a - zJ a / zJ (p : Int) * zJ (p : Int) = (0 : Int64)) ↔ (p : Int) ∣ a := by
  have h1 := tmod_ab (a := a) hp
  rw [zJ_rem (rJ_sm ha) (rJ_sm (sm_nat (by omega))) (by unfold sm at ha; omega), show (0 : Int64) = zJ 0 from rfl, zJ_eq (rJ_sm (by unfold sm; omega)) ⟨by omega, by omega⟩, Int.dvd_iff_tmod_eq_zero]
theorem isBad_ok {F : Nat} (hF : 100 ≤ F) {w : Nat → Int32} {n pn : Nat} {A : Nat → Nat → Int} (h : Wp w n pn A) (rs cs : Nat → Int32) : ∃ rs' cs', f_X12_isBad F w rs cs = some (if (prN pn : Int) ∣ Dt A n then 1 else 0, rs', cs') := by
  have hp := (Pm_pr h.2.2).1
  obtain ⟨rs1, cs1, e1⟩ := determinant_ok hF h.1 rs cs
  refine ⟨rs1, cs1, ?_⟩
  have hab := Dt_ab h.1.2.2.2.2 h.1.2.2.1
  unfold f_X12_isBad
  rw [e1]
  simp only [kb3, kb1, Option.bind_some]
  rw [pm_ok hF h]
  simp only [Option.bind_some]
  rw [nIJ hp.2, if_pos (nz_p (by omega) hp.2)]
  have e := zJ_dvd (sm_ab hab) (show 0 < prN pn by omega) hp.2
  by_cases c : (prN pn : Int) ∣ Dt A n
  · rw [if_pos c]
    rw [if_pos (e.mpr c)]
  · rw [if_neg c]
    rw [if_neg (fun z => c (e.mp z))]
/-! ===== how many primes are bad ===== -/
def cnL (D : Int) : List Nat → Nat
  | [] => 0
  | q :: l => (if (q : Int) ∣ D then 1 else 0) + cnL D l
theorem cnL_le (D : Int) (l : List Nat) : cnL D l ≤ l.length := by
  induction l with
  | nil => exact Nat.le_refl _
  | cons q l ih => rw [cnL, List.length_cons]; by_cases c : (q : Int) ∣ D <;> simp [c] <;> omega
def prF : Nat → Nat → List Nat
  | 0, _ => []
  | d + 1, k => if isPr k then k :: prF d (k + 1) else prF d (k + 1)
def prG : Nat → Nat → List Nat
  | 0, _ => []
  | d + 1, i => prN i :: prG d (i + 1)
theorem prF_G : prF 96 2 = prG 25 0 := by decide +kernel
theorem prF_len : ∀ d k, (prF d k).length ≤ d := by
  intro d
  induction d with
  | zero => intro k; exact Nat.le_refl _
  | succ d ih =>
    intro k
    rw [prF]
    have := ih (k + 1)
    by_cases c : isPr k = true
    · rw [if_pos c, List.length_cons]; omega
    · rw [if_neg c]; omega
theorem bm_loop {F : Nat} (hF : 100 ≤ F) {D : Int} (hD : sm D) : ∀ (d k fu m : Nat), k + d = 98 → 2 ≤ k → d < fu → m + d ≤ 100 → L_X12_badMany_10 F (zJ D) fu (nI m) (nI k) = some (nI (m + cnL D (prF d k))) := by
  intro d
  induction d with
  | zero =>
    intro k fu m hk hk2 hfu hm
    obtain ⟨fu, rfl⟩ : ∃ g, fu = g + 1 := ⟨fu - 1, by omega⟩
    rw [L_X12_badMany_10, if_pos (show (98 : Int32) ≤ nI k from nI_le (a := 98) (by omega) (by omega))]
    rfl
  | succ d ih =>
    intro k fu m hk hk2 hfu hm
    obtain ⟨fu, rfl⟩ : ∃ g, fu = g + 1 := ⟨fu - 1, by omega⟩
    rw [L_X12_badMany_10, if_neg (show ¬ (98 : Int32) ≤ nI k from nI_ge (b := 98) (by omega) (by omega)), isPrime_ok hF (by omega)]
    simp only [kb1, Option.bind_some]
    have z0 : nI m + (0 : Int32) = nI m := by rw [show (0 : Int32) = nI 0 from rfl, nI_add]; rfl
    by_cases c : isPr k = true
    · rw [if_pos c, if_neg (by decide), nIJ (by omega), if_pos (nz_p (by omega) (by omega))]
      have e := zJ_dvd hD (show 0 < k by omega) (by omega)
      rw [prF, if_pos c, cnL]
      by_cases q : (k : Int) ∣ D
      · rw [if_pos (e.mpr q), if_pos q]
        simp only [kl, nI_1]
        rw [ih (k + 1) fu (m + 1) (by omega) (by omega) (by omega) (by omega)]
        congr 2; omega
      · rw [if_neg (fun z => q (e.mp z)), if_neg q]
        simp only [kl, nI_1, z0]
        rw [ih (k + 1) fu m (by omega) (by omega) (by omega) (by omega)]
        congr 2; omega
    · rw [if_neg c, if_pos rfl]
      simp only [kl, nI_1, z0]
      rw [ih (k + 1) fu m (by omega) (by omega) (by omega) (by omega), prF, if_neg c]
theorem badMany_ok {F : Nat} (hF : 100 ≤ F) {w : Nat → Int32} {n : Nat} {A : Nat → Nat → Int} (h : Wn w n A) (rs cs : Nat → Int32) : ∃ rs' cs', f_X12_badMany F w rs cs = some (nI (cnL (Dt A n) (prG 25 0)), rs', cs') := by
  obtain ⟨rs1, cs1, e1⟩ := determinant_ok hF h rs cs
  refine ⟨rs1, cs1, ?_⟩
  have hab := Dt_ab h.2.2.2.2 h.2.2.1
  unfold f_X12_badMany
  rw [e1]
  simp only [kb3, kb1, Option.bind_some]
  rw [show L_X12_badMany_10 F (zJ (Mn A (2 ^ n - 1) (2 ^ n - 1))) F (0 : Int32) (2 : Int32) = _ from bm_loop hF (sm_ab hab) 96 2 F 0 (by omega) (by omega) (by omega) (by omega), prF_G, Nat.zero_add]
  rfl
theorem bp_loop {D : Int} (hD : sm D) : ∀ (d i fu m : Nat), i + d = 25 → d < fu → L_X11_badPrimes_13 (zJ D) (25 : Int32) fu (nI m) (nI i) = some (nI (m + cnL D (prG d i))) := by
  intro d
  induction d with
  | zero =>
    intro i fu m hi hfu
    obtain ⟨fu, rfl⟩ : ∃ g, fu = g + 1 := ⟨fu - 1, by omega⟩
    rw [L_X11_badPrimes_13, if_pos (show (25 : Int32) ≤ nI i from nI_le (a := 25) (by omega) (by omega))]
    rfl
  | succ d ih =>
    intro i fu m hi hfu
    obtain ⟨fu, rfl⟩ : ∃ g, fu = g + 1 := ⟨fu - 1, by omega⟩
    have hp := (Pm_pr (show i < 25 by omega)).1
    obtain ⟨z, q1, q2, -⟩ := lo_ok hD (show 0 < prN i by omega) hp.2
    rw [L_X11_badPrimes_13, if_neg (show ¬ (25 : Int32) ≤ nI i from nI_ge (b := 25) (by omega) (by omega)), if_pos (kin_nI (by decide) (by omega)), nI_clamp (n := i) (by omega), (kPr_fin ⟨i, by omega⟩).1]
    simp only [kl]
    rw [q1]
    simp only [kb1, Option.bind_some]
    have hr := rp_mod (show 0 < prN i by omega) D
    have e : z = 0 ↔ (prN i : Int) ∣ D := by
      rw [q2, show (0 : Int32) = zI 0 from rfl, zI_eq ⟨by have := hr.1; omega, by have := hr.2; omega⟩ ⟨by omega, by omega⟩]
      exact Int.dvd_iff_emod_eq_zero.symm
    rw [prG, cnL]
    by_cases q : (prN i : Int) ∣ D
    · rw [if_pos (e.mpr q), if_pos q, nI_1, nI_1, ih (i + 1) fu (m + 1) (by omega) (by omega)]
      congr 2; omega
    · rw [if_neg (fun z => q (e.mp z)), if_neg q, nI_1, ih (i + 1) fu m (by omega) (by omega)]
      congr 2; omega
theorem badPrimes_ok {F : Nat} (hF : 100 ≤ F) {D : Int} (hD : sm D) : f_X11_badPrimes F (zJ D) = some (nI (cnL D (prG 25 0))) := by
  unfold f_X11_badPrimes
  rw [show L_X11_badPrimes_13 (zJ D) (25 : Int32) F (0 : Int32) (0 : Int32) = _ from bp_loop hD 25 0 F 0 (by omega) (by omega), Nat.zero_add]
  rfl
