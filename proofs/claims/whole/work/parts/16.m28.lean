/-! ===== the residues: what stands in the rows, by the prime ===== -/
def Perm (σ : Nat → Nat) (n : Nat) : Prop := (∀ i, i < n → σ i < n) ∧ ∀ a b, a < n → b < n → σ a = σ b → a = b
theorem Perm_swap {σ : Nat → Nat} {n k y : Nat} (h : Perm σ n) (hy : k < y) (hyn : y < n) : Perm (fun i => if i = y then σ k else if i = k then σ y else σ i) n := by
  obtain ⟨h5, h5'⟩ := h
  refine ⟨fun i hi => ?_, fun a b ha hb e => ?_⟩
  · by_cases e1 : i = y
    · simp only [e1, if_true]; exact h5 k (by omega)
    · by_cases e2 : i = k
      · simp only [e1, if_false, if_pos e2]; exact h5 y (by omega)
      · simp only [e1, e2, if_false]; exact h5 i hi
  · by_cases e1 : a = y
    · by_cases e2 : b = y
      · omega
      · by_cases e3 : b = k
        · simp only [e1, e3, if_true, if_neg (show ¬ k = y by omega)] at e
          have := h5' k y (by omega) (by omega) e; omega
        · simp only [e1, if_true, e2, e3, if_false] at e
          have := h5' k b (by omega) (by omega) e; omega
    · by_cases e1' : a = k
      · by_cases e2 : b = y
        · simp only [e1', e2, if_true, if_neg (show ¬ k = y by omega)] at e
          have := h5' y k (by omega) (by omega) e; omega
        · by_cases e3 : b = k
          · omega
          · simp only [e1', if_neg (show ¬ k = y by omega), if_true, e2, e3, if_false] at e
            have := h5' y b (by omega) (by omega) e; omega
      · by_cases e2 : b = y
        · simp only [e1, e1', if_false, e2, if_true] at e
          have := h5' a k (by omega) (by omega) e; omega
        · by_cases e3 : b = k
          · simp only [e1, e1', if_false, e3, if_neg (show ¬ k = y by omega), if_true] at e
            have := h5' a y (by omega) (by omega) e; omega
          · simp only [e1, e1', e2, e3, if_false] at e
            exact h5' a b ha hb e
def InR (p : Nat) (A : Nat → Nat → Int) (n j k : Nat) (σ l : Nat → Nat) (X : Nat → Nat → Int) : Prop :=
  (k ≤ j ∧ k ≤ n ∧ j ≤ n ∧ n ≤ 4) ∧ Perm σ n ∧ ((∀ i, i < k → l i < j) ∧ ∀ a b, a < b → b < k → l a < l b) ∧ ¬ (p : Int) ∣ Dm A σ l k ∧
  (∀ i c, i < k → c < 9 → (p : Int) ∣ Dm A σ l k * X i c - Dm A σ (up l i c) k) ∧ (∀ i c, k ≤ i → i < n → c < 9 → (p : Int) ∣ Dm A σ l k * X i c - Dm A (up σ k (σ i)) (up l k c) (k + 1)) ∧ (∀ i c, k ≤ i → i < n → c < j → X i c = 0) ∧ (∀ i c, i < 4 → c < 9 → rp p (X i c))
theorem InR_skip {p : Nat} {A : Nat → Nat → Int} {n j k : Nat} {σ l : Nat → Nat} {X : Nat → Nat → Int} (h : InR p A n j k σ l X) (hj : j < n) (hz : ∀ i, k ≤ i → i < n → X i j = 0) : InR p A n (j + 1) k σ l X := by
  obtain ⟨⟨h1, h2, h3, h4⟩, h5, ⟨h6, h7⟩, h8, h9, h10, h11, h12⟩ := h
  refine ⟨⟨by omega, h2, by omega, h4⟩, h5, ⟨fun i hi => by have := h6 i hi; omega, h7⟩, h8, h9, h10, fun i c a b d => ?_, h12⟩
  by_cases e : c = j
  · subst e; exact hz i a b
  · exact h11 i c a b (by omega)
theorem InR_swap {p : Nat} {A : Nat → Nat → Int} {n j k y : Nat} {σ l : Nat → Nat} {X : Nat → Nat → Int} (h : InR p A n j k σ l X) (hy : k < y) (hyn : y < n) : InR p A n j k (fun i => if i = y then σ k else if i = k then σ y else σ i) l (swX X y k) := by
  obtain ⟨⟨h1, h2, h3, h4⟩, h5, ⟨h6, h7⟩, h8, h9, h10, h11, h12⟩ := h
  have hlow : ∀ i, i < k → (if i = y then σ k else if i = k then σ y else σ i) = σ i := fun i hi => by rw [if_neg (by omega), if_neg (by omega)]
  have hS : Dm A (fun i => if i = y then σ k else if i = k then σ y else σ i) l k = Dm A σ l k := Dm_congr (by omega) hlow (fun _ _ => rfl)
  refine ⟨⟨h1, h2, h3, h4⟩, Perm_swap h5 hy hyn, ⟨h6, h7⟩, by rw [hS]; exact h8, fun i c hi hc => ?_, fun i c a b d => ?_, fun i c a b d => ?_, fun i c hi hc => ?_⟩
  · rw [hS]
    unfold swX
    rw [if_neg (by omega), if_neg (by omega), Dm_congr (A := A) (m := k) (by omega) hlow (fun _ _ => rfl)]
    exact h9 i c hi hc
  · rw [hS]
    unfold swX
    have key : ∀ t, Dm A (up σ k t) (up l k c) (k + 1) = Dm A (up (fun i => if i = y then σ k else if i = k then σ y else σ i) k t) (up l k c) (k + 1) := fun t => Dm_congr (by omega) (fun i hi => by
      by_cases e : i = k
      · subst e; rw [up_eq, up_eq]
      · rw [up_ne _ e, up_ne _ e]; exact (hlow i (by omega)).symm) (fun _ _ => rfl)
    by_cases e1 : i = y
    · subst e1
      rw [← key]
      simpa using h10 k c (Nat.le_refl _) (by omega) d
    · by_cases e2 : i = k
      · subst e2
        rw [← key]
        simpa [e1] using h10 y c (by omega) hyn d
      · rw [← key]
        simpa [e1, e2] using h10 i c a b d
  · unfold swX
    by_cases e1 : i = y
    · rw [if_pos e1]; exact h11 k c (Nat.le_refl _) (by omega) d
    · by_cases e2 : i = k
      · rw [if_neg e1, if_pos e2]; exact h11 y c (by omega) hyn d
      · rw [if_neg e1, if_neg e2]; exact h11 i c a b d
  · unfold swX
    by_cases e1 : i = y
    · rw [if_pos e1]; exact h12 k c (by omega) hc
    · by_cases e2 : i = k
      · rw [if_neg e1, if_pos e2]; exact h12 y c (by omega) hc
      · rw [if_neg e1, if_neg e2]; exact h12 i c hi hc
theorem stq {q S T xi xij xk Dic Dij Dkc E x : Int} (hq : Pq q) (hS : ¬ q ∣ S) (h1 : q ∣ S * xi - Dic) (h2 : q ∣ S * xij - Dij) (h3 : q ∣ T * xk - Dkc) (hid : T * Dic - Dij * Dkc = S * E) (hx : q ∣ x - (xi - xij * xk)) : q ∣ T * x - E := by
  have e : S * (T * x - E) = S * T * (x - (xi - xij * xk)) + T * (S * xi - Dic) - (S * xij - Dij) * (T * xk) - Dij * (T * xk - Dkc) + (T * Dic - Dij * Dkc - S * E) := by grind
  rw [hid, Int.sub_self, Int.add_zero] at e
  have d : q ∣ S * (T * x - E) := by
    rw [e]
    exact Int.dvd_sub (Int.dvd_sub (Int.dvd_add (Int.dvd_mul_of_dvd_right hx) (Int.dvd_mul_of_dvd_right h1)) (Int.dvd_mul_of_dvd_left h2)) (Int.dvd_mul_of_dvd_right h3)
  exact (hq.1 _ _ d).resolve_left hS
theorem dv_emod (p : Nat) (a : Int) : (p : Int) ∣ a % p - a := by
  have := Int.emod_add_mul_ediv a p
  exact ⟨-(a / p), by rw [Int.mul_neg]; omega⟩
theorem rp_dvd {p : Nat} {x : Int} (h : rp p x) (hd : (p : Int) ∣ x) : x = 0 := by
  have := Int.emod_eq_zero_of_dvd hd
  rw [Int.emod_eq_of_lt h.1 h.2] at this
  exact this
theorem InR_step {p : Nat} (hp : Pm p) {A : Nat → Nat → Int} {n j k w : Nat} {σ l : Nat → Nat} {X : Nat → Nat → Int} (h : InR p A n j k σ l X) (hj : j < n) (hkn : k < n) (hx : X k j ≠ 0) (hw : (p : Int) ∣ X k j * w - 1) (hr : ∀ a c, a < 4 → c < 9 → rp p (ccX X p n k j w a c)) : InR p A n (j + 1) (k + 1) σ (up l k j) (ccX X p n k j w) := by
  obtain ⟨⟨h1, h2, h3, h4⟩, h5, ⟨h6, h7⟩, h8, h9, h10, h11, h12⟩ := h
  have hq := Pm_q hp
  have hk : ∀ c, c < 9 → (p : Int) ∣ Dm A σ l k * X k c - Dm A σ (up l k c) (k + 1) := fun c hc => by
    have := h10 k c (Nat.le_refl _) hkn hc
    rwa [Dm_congr (A := A) (m := k + 1) (by omega) (fun i _ => up_self σ k i) (fun _ _ => rfl)] at this
  have nx : ¬ (p : Int) ∣ X k j := fun z => hx (rp_dvd (h12 k j (by omega) (by omega)) z)
  have nS : ¬ (p : Int) ∣ Dm A σ (up l k j) (k + 1) := fun z => by
    rcases hq.1 _ _ ((dv_iff (hk j (by omega))).mpr z) with y | y
    · exact h8 y
    · exact nx y
  have rowk : ∀ c, ccX X p n k j w k c = (X k c * w) % p := fun c => by simp [ccX, rdX]
  have rowi : ∀ i c, i < n → i ≠ k → ccX X p n k j w i c = (X i c - X i j * ((X k c * w) % p)) % p := fun i c hi e => by simp [ccX, rdX, hi, e]
  have k1 : ∀ c, c < 9 → (p : Int) ∣ Dm A σ (up l k j) (k + 1) * ((X k c * w) % p) - Dm A σ (up l k c) (k + 1) := fun c hc => by
    have a1 := dv_emod p (X k c * w)
    have a2 := hk j (by omega)
    have a3 := hk c hc
    have e : Dm A σ (up l k j) (k + 1) * ((X k c * w) % p) - Dm A σ (up l k c) (k + 1) = Dm A σ (up l k j) (k + 1) * ((X k c * w) % p - X k c * w) - (Dm A σ l k * X k j - Dm A σ (up l k j) (k + 1)) * (X k c * w) + Dm A σ l k * X k c * (X k j * w - 1) + (Dm A σ l k * X k c - Dm A σ (up l k c) (k + 1)) := by
      generalize Dm A σ (up l k j) (k + 1) = a
      generalize Dm A σ (up l k c) (k + 1) = b
      generalize Dm A σ l k = d
      generalize (X k c * w) % p = m
      grind
    rw [e]
    exact Int.dvd_add (Int.dvd_add (Int.dvd_sub (Int.dvd_mul_of_dvd_right a1) (Int.dvd_mul_of_dvd_left a2)) (Int.dvd_mul_of_dvd_right hw)) a3
  have one : (X k j * w) % p = 1 := by
    have hr := rp_mod (show 0 < p by have := hp.1.1; omega) (X k j * w)
    have d : (p : Int) ∣ (X k j * w) % p - 1 := dv_trans (dv_emod p _) hw
    have h2p := hp.1.1
    obtain ⟨z, hz⟩ := d
    have : z = 0 := by
      rcases Int.lt_trichotomy z 0 with c | c | c
      · have : (p : Int) * z ≤ p * (-1) := Int.mul_le_mul_of_nonneg_left (by omega) (by omega)
        have := hr.1; omega
      · exact c
      · have : (p : Int) * 1 ≤ p * z := Int.mul_le_mul_of_nonneg_left (by omega) (by omega)
        have := hr.2; omega
    rw [this, Int.mul_zero] at hz
    omega
  refine ⟨⟨by omega, by omega, by omega, h4⟩, h5, ⟨fun i hi => ?_, fun a b hab hb => ?_⟩, nS, fun i c hi hc => ?_, fun i c a b d => ?_, fun i c a b d => ?_, hr⟩
  · by_cases e : i = k
    · subst e; rw [up_eq]; omega
    · rw [up_ne _ e]; have := h6 i (by omega); omega
  · by_cases e : b = k
    · subst e; rw [up_eq, up_ne _ (by omega)]; exact h6 a hab
    · rw [up_ne _ e, up_ne _ (by omega)]; exact h7 a b hab (by omega)
  · by_cases e : i = k
    · subst e
      rw [rowk, Dm_congr (A := A) (m := i + 1) (R := σ) (C := up (up l i j) i c) (R' := σ) (C' := up l i c) (by omega) (fun _ _ => rfl) (fun z _ => by
        by_cases q : z = i
        · subst q; rw [up_eq, up_eq]
        · rw [up_ne _ q, up_ne _ q, up_ne _ q])]
      exact k1 c hc
    · rw [rowi i c (by omega) e]
      exact stq hq h8 (h9 i c (by omega) hc) (h9 i j (by omega) (by omega)) (k1 c hc) (bar_lo (by omega) (by omega)) (dv_emod p _)
  · rw [rowi i c b (by omega)]
    exact stq hq h8 (h10 i c (by omega) b d) (h10 i j (by omega) b (by omega)) (k1 c d) (bar_hi (by omega)) (dv_emod p _)
  · rw [rowi i c b (by omega)]
    by_cases e : c = j
    · subst e
      rw [one, Int.mul_one, Int.sub_self, Int.zero_emod]
    · rw [h11 i c (by omega) b (by omega), h11 k c (Nat.le_refl _) hkn (by omega), Int.zero_mul, Int.zero_emod, Int.mul_zero, Int.sub_self, Int.zero_emod]
