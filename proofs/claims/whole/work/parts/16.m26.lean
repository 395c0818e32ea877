/-! ===== the residues: rows exchanged, a row raised ===== -/
theorem exR_loop {i k : Nat} (hi : i < 4) (hk : k < 4) (hik : i ≠ k) {X0 : Nat → Nat → Int} :
    ∀ (d c fu : Nat) (v : Nat → Nat → Int64), c + d = 9 → d < fu → Mt 9 v (fun a b => if b < c then swX X0 i k a b else X0 a b) →
      ∃ v', L_X9_exchangeRows_R_2 (nI i) (nI k) (9 : Int32) fu (nI c) v = some v' ∧ Mt 9 v' (swX X0 i k) := by
  intro d
  induction d with
  | zero =>
    intro c fu v hc hfu hM
    obtain ⟨fu, rfl⟩ : ∃ g, fu = g + 1 := ⟨fu - 1, by omega⟩
    refine ⟨v, ?_, Mt_congr hM (fun a b ha hb => by rw [if_pos (by omega)])⟩
    rw [L_X9_exchangeRows_R_2, if_pos (show (9 : Int32) ≤ nI c from nI_le (a := 9) (by omega) (by omega))]
  | succ d ih =>
    intro c fu v hc hfu hM
    obtain ⟨fu, rfl⟩ : ∃ g, fu = g + 1 := ⟨fu - 1, by omega⟩
    have ki : kin (nI i) 4 := kin_nI (by decide) hi
    have kk : kin (nI k) 4 := kin_nI (by decide) hk
    have kc : kin (nI c) 9 := kin_nI (by decide) (by omega)
    have m1 : v i c = zJ (X0 i c) := by have := hM i c hi (by omega); simpa using this
    have m2 : v k c = zJ (X0 k c) := by have := hM k c hk (by omega); simpa using this
    have hM1 := Mt_set hM i c (X0 k c)
    have hM2 := Mt_set hM1 k c (X0 i c)
    obtain ⟨v', e1, e2⟩ := ih (c + 1) fu _ (by omega) (by omega) (Mt_congr hM2 (Y := fun a b => if b < c + 1 then swX X0 i k a b else X0 a b) (fun a b ha hb => by
      unfold swX
      by_cases b1 : b = c
      · subst b1
        by_cases a1 : a = k
        · subst a1; simp [Ne.symm hik]
        · by_cases a2 : a = i
          · subst a2; simp [hik]
          · simp [a1, a2]
      · by_cases b2 : b < c
        · simp [b1, b2, show b < c + 1 by omega]
        · simp [b1, b2, show ¬ b < c + 1 by omega]))
    refine ⟨v', ?_, e2⟩
    rw [L_X9_exchangeRows_R_2, if_neg (show ¬ (9 : Int32) ≤ nI c from nI_ge (b := 9) (by omega) (by omega)), if_pos ki, if_pos kc]
    simp only [kl]
    rw [if_pos ki, if_pos kk, if_pos kc, if_pos kc, if_pos kk, if_pos kc, nI_clamp (n := i) (by omega), nI_clamp (n := k) (by omega), nI_clamp (n := c) (by omega), nI_1, m1, m2]
    exact e1
theorem exchangeRowsR_ok {F : Nat} (hF : 100 ≤ F) {i k : Nat} (hi : i < 4) (hk : k < 4) (hik : i ≠ k) {v : Nat → Nat → Int64} {X : Nat → Nat → Int} (hM : Mt 9 v X) : ∃ v', f_X9_exchangeRows_R F (9 : Int32) v (nI i) (nI k) = some v' ∧ Mt 9 v' (swX X i k) := by
  obtain ⟨v', e1, e2⟩ := exR_loop hi hk hik (X0 := X) 9 0 F v (by omega) (by omega) (Mt_congr hM (fun a b ha hb => by rw [if_neg (by omega)]))
  refine ⟨v', ?_, e2⟩
  unfold f_X9_exchangeRows_R
  rw [show (0 : Int32) = nI 0 from rfl, e1]
  rfl
theorem raiseR_loop {n j : Nat} (hn : n ≤ 4) (hj : j < 9) {v : Nat → Nat → Int64} {X : Nat → Nat → Int} (hM : Mt 9 v X) (hsm : ∀ i c, i < 4 → c < 9 → sm (X i c)) :
    ∀ (d k fu : Nat), k + d = n → d < fu → ∃ y, L_X9_raise_R_5 (nI j) (nI n) v fu (nI k) = some (nI y) ∧ k ≤ y ∧ y ≤ n ∧ (∀ i, k ≤ i → i < y → X i j = 0) ∧ (y < n → X y j ≠ 0) := by
  intro d
  induction d with
  | zero =>
    intro k fu hk hfu
    obtain ⟨fu, rfl⟩ : ∃ g, fu = g + 1 := ⟨fu - 1, by omega⟩
    refine ⟨k, ?_, by omega, by omega, fun i a b => by omega, fun a => by omega⟩
    rw [L_X9_raise_R_5, if_pos (nI_le (by omega) (by omega))]
  | succ d ih =>
    intro k fu hk hfu
    obtain ⟨fu, rfl⟩ : ∃ g, fu = g + 1 := ⟨fu - 1, by omega⟩
    rw [L_X9_raise_R_5, if_neg (nI_ge (by omega) (by omega)), if_pos (kin_nI (by decide) (by omega)), if_pos (kin_nI (by decide) hj), nI_clamp (n := k) (by omega), nI_clamp (n := j) (by omega), hM k j (by omega) hj]
    have e : zJ (X k j) = (0 : Int64) ↔ X k j = 0 := by
      rw [show (0 : Int64) = zJ 0 from rfl, zJ_eq (rJ_sm (hsm k j (by omega) hj)) ⟨by omega, by omega⟩]
    by_cases c : X k j = 0
    · rw [if_pos (e.mpr c)]
      simp only [kl, nI_1]
      obtain ⟨y, h1, h2, h3, h4, h5⟩ := ih (k + 1) fu (by omega) (by omega)
      refine ⟨y, h1, by omega, h3, fun i a b => ?_, h5⟩
      by_cases z : i = k
      · subst z; exact c
      · exact h4 i (by omega) b
    · rw [if_neg (fun z => c (e.mp z))]
      exact ⟨k, rfl, by omega, by omega, fun i a b => by omega, fun _ => c⟩
/-- raise: none is found, or the first one that is not 0 is brought to the rank's place -/
theorem raiseR_ok {F : Nat} (hF : 100 ≤ F) {n j k ex : Nat} (hn : n ≤ 4) (hk : k ≤ n) (hj : j < 9) (hex : ex < 1000) {v : Nat → Nat → Int64} {X : Nat → Nat → Int} (hM : Mt 9 v X) (hsm : ∀ i c, i < 4 → c < 9 → sm (X i c)) :
    (f_X9_raise_R F (nI n) (nI k) (nI ex) (9 : Int32) v (nI j) = some (0, nI ex, v) ∧ ∀ i, k ≤ i → i < n → X i j = 0) ∨
    (k < n ∧ f_X9_raise_R F (nI n) (nI k) (nI ex) (9 : Int32) v (nI j) = some (1, nI ex, v) ∧ X k j ≠ 0) ∨
    (∃ y v', k < y ∧ y < n ∧ f_X9_raise_R F (nI n) (nI k) (nI ex) (9 : Int32) v (nI j) = some (1, nI (ex + 1), v') ∧ Mt 9 v' (swX X y k) ∧ X y j ≠ 0) := by
  obtain ⟨y, h1, h2, h3, h4, h5⟩ := raiseR_loop hn hj hM hsm (n - k) k F (by omega) (by omega)
  unfold f_X9_raise_R
  rw [h1]
  simp only [kb1, Option.bind_some]
  by_cases c : y < n
  · rw [if_pos (nI_lt c (by omega))]
    by_cases c2 : y ≤ k
    · have : y = k := by omega
      subst this
      rw [if_pos (nI_le (Nat.le_refl _) (by omega))]
      exact Or.inr (Or.inl ⟨c, rfl, h5 c⟩)
    · rw [if_neg (nI_ge (by omega) (by omega))]
      obtain ⟨v', e1, e2⟩ := exchangeRowsR_ok hF (i := y) (k := k) (by omega) (by omega) (by omega) hM
      rw [e1]
      simp only [Option.bind_some, kl, nI_1]
      exact Or.inr (Or.inr ⟨y, v', by omega, c, rfl, e2, h5 c⟩)
  · rw [if_neg (nI_nlt (by omega) (by omega))]
    exact Or.inl ⟨rfl, fun i a b => h4 i a (by omega)⟩
/-! ===== the primes ===== -/
def prN (k : Nat) : Nat := [2, 3, 5, 7, 11, 13, 17, 19, 23, 29, 31, 37, 41, 43, 47, 53, 59, 61, 67, 71, 73, 79, 83, 89, 97].getD k 0
theorem kPr_fin : ∀ k : Fin 25, kPr k.val = nI (prN k.val) ∧ 2 ≤ prN k.val ∧ prN k.val < 98 := by decide +kernel
theorem inv_fin : ∀ k : Fin 25, ∀ v : Fin 97, 0 < v.val → v.val < prN k.val → v.val * (v.val ^ (prN k.val - 2) % prN k.val) % prN k.val = 1 := by decide +kernel
/-- a prime as they are here -/
def Pm (p : Nat) : Prop := (2 ≤ p ∧ p < 98) ∧ ∀ v, 0 < v → v < p → ∃ w, 0 < w ∧ w < p ∧ v * w % p = 1
theorem Pm_pr {k : Nat} (h : k < 25) : Pm (prN k) := by
  have h1 := kPr_fin ⟨k, h⟩
  simp only at h1
  refine ⟨h1.2, fun v h0 hv => ?_⟩
  have e := inv_fin ⟨k, h⟩ ⟨v, by omega⟩ h0 hv
  simp only at e
  refine ⟨v ^ (prN k - 2) % prN k, ?_, Nat.mod_lt _ (by omega), e⟩
  refine Nat.pos_of_ne_zero (fun z => ?_)
  rw [z, Nat.mul_zero, Nat.zero_mod] at e
  omega
theorem Pm_inv {p : Nat} (h : Pm p) {x : Int} (hx : ¬ (p : Int) ∣ x) : ∃ w : Nat, 0 < w ∧ w < p ∧ (p : Int) ∣ x * w - 1 := by
  have hp : (0 : Int) < p := by have := h.1.1; omega
  have h1 : 0 ≤ x % p := Int.emod_nonneg _ (by omega)
  have h2 : x % p < p := Int.emod_lt_of_pos _ hp
  have h3 : x % p ≠ 0 := fun z => hx (Int.dvd_of_emod_eq_zero z)
  obtain ⟨w, w0, w1, w2⟩ := h.2 (x % p).toNat (by omega) (by omega)
  refine ⟨w, w0, w1, ?_⟩
  have e : ((x % p).toNat : Int) * w % p = 1 := by exact_mod_cast congrArg (Nat.cast (R := Int)) w2
  rw [show ((x % p).toNat : Int) = x % p by omega, Int.mul_emod, Int.emod_emod_of_dvd _ (Int.dvd_refl _), ← Int.mul_emod] at e
  have := Int.emod_add_mul_ediv (x * w) p
  exact ⟨x * w / p, by omega⟩
theorem Pm_q {p : Nat} (h : Pm p) : Pq p := by
  refine ⟨fun x y hxy => ?_, fun z => ?_⟩
  · by_cases c : (p : Int) ∣ x
    · exact Or.inl c
    · obtain ⟨w, -, -, e⟩ := Pm_inv h c
      right
      have e2 : y = (x * y) * w - y * (x * w - 1) := by rw [Int.mul_sub]; grind
      rw [e2]
      exact Int.dvd_sub (Int.dvd_mul_of_dvd_left hxy) (Int.dvd_mul_of_dvd_right e)
  · have := Int.le_of_dvd (by decide) z
    have := h.1.1
    omega
theorem one_loop {p : Nat} (h : Pm p) {x : Nat} (hx0 : 0 < x) (hx : x < p) : ∀ (d k fu : Nat), k + d = p → d < fu → 0 < k → (∃ w, k ≤ w ∧ w < p ∧ x * w % p = 1) → ∃ w, L_X8_oneOver_2 (zJ x) (nI p) fu (nI k) = some (.inl (nI w)) ∧ 0 < w ∧ w < p ∧ x * w % p = 1 := by
  have hp := h.1
  intro d
  induction d with
  | zero => intro k fu hk hfu h0 ⟨w, a, b, _⟩; omega
  | succ d ih =>
    intro k fu hk hfu h0 hw
    obtain ⟨fu, rfl⟩ : ∃ g, fu = g + 1 := ⟨fu - 1, by omega⟩
    have hb : x * k ≤ 97 * 97 := Nat.mul_le_mul (by omega) (by omega)
    rw [L_X8_oneOver_2, if_neg (nI_ge (by omega) (by omega)), nI_z k, zI_J ⟨by omega, by omega⟩, zJ_mul, ← Int.natCast_mul, leftOver_ok (sm_nat (by omega)) (by omega) (by omega)]
    simp only [kb1, Option.bind_some]
    have hm : x * k % p < p := Nat.mod_lt _ (by omega)
    have e : zI (((x * k : Nat) : Int) % (p : Int)) = (1 : Int32) ↔ x * k % p = 1 := by
      rw [show (1 : Int32) = zI 1 from rfl, ← Int.natCast_emod, zI_eq ⟨by omega, by omega⟩ ⟨by omega, by omega⟩]
      omega
    by_cases c : x * k % p = 1
    · rw [if_pos (e.mpr c)]
      exact ⟨k, by rw [nI_z], h0, by omega, c⟩
    · rw [if_neg (fun z => c (e.mp z)), ← nI_z]
      simp only [kl, nI_1]
      obtain ⟨w, a, b, q⟩ := hw
      refine ih (k + 1) fu (by omega) (by omega) (by omega) ⟨w, ?_, b, q⟩
      by_cases z : w = k
      · subst z; exact absurd q c
      · omega
theorem oneOver_ok {F p : Nat} (hF : 100 ≤ F) (h : Pm p) {x : Nat} (hx0 : 0 < x) (hx : x < p) : ∃ w, f_X8_oneOver F (nI p) (zJ x) = some (nI w) ∧ 0 < w ∧ w < p ∧ x * w % p = 1 := by
  obtain ⟨w, a, b, c⟩ := h.2 x hx0 hx
  obtain ⟨w', e1, e2⟩ := one_loop h hx0 hx (p - 1) 1 F (by omega) (by have := h.1; omega) (by omega) ⟨w, by omega, b, c⟩
  refine ⟨w', ?_, e2⟩
  unfold f_X8_oneOver
  rw [show L_X8_oneOver_2 (zJ x) (nI p) F (1 : Int32) = _ from e1]
  rfl
