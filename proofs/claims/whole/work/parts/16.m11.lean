/-! ===== clearing without fractions: what stands in the rows are minors ===== -/
def up (f : Nat → Nat) (k c : Nat) : Nat → Nat := fun i => if i = k then c else f i
theorem Dm_congr {A : Nat → Nat → Int} {R R' C C' : Nat → Nat} {m : Nat} (hm : m ≤ 4) (hR : ∀ i, i < m → R i = R' i) (hC : ∀ i, i < m → C i = C' i) : Dm A R C m = Dm A R' C' m := by
  match m, hm with
  | 0, _ => rfl
  | 1, _ => simp only [Dm, hR 0 (by omega), hC 0 (by omega)]
  | 2, _ => simp only [Dm, hR 0 (by omega), hC 0 (by omega), hR 1 (by omega), hC 1 (by omega)]
  | 3, _ => simp only [Dm, hR 0 (by omega), hC 0 (by omega), hR 1 (by omega), hC 1 (by omega), hR 2 (by omega), hC 2 (by omega)]
  | 4, _ => simp only [Dm, hR 0 (by omega), hC 0 (by omega), hR 1 (by omega), hC 1 (by omega), hR 2 (by omega), hC 2 (by omega), hR 3 (by omega), hC 3 (by omega)]
theorem bar_lo {A : Nat → Nat → Int} {σ l : Nat → Nat} {k i j c : Nat} (hk : k ≤ 3) (hi : i < k) : Dm A σ (up l k j) (k + 1) * Dm A σ (up l i c) k - Dm A σ (up l i j) k * Dm A σ (up l k c) (k + 1) = Dm A σ l k * Dm A σ (up (up l k j) i c) (k + 1) := by
  match k, i, hk, hi with
  | 1, 0, _, _ => simpa [Dm, up] using pl1 A (σ 0) (σ 1) (l 0) j c
  | 2, 0, _, _ => simpa [Dm, up] using pl20 A (σ 0) (σ 1) (σ 2) (l 0) (l 1) j c
  | 2, 1, _, _ => simpa [Dm, up] using pl21 A (σ 0) (σ 1) (σ 2) (l 0) (l 1) j c
  | 3, 0, _, _ => simpa [Dm, up] using pl30 A (σ 0) (σ 1) (σ 2) (σ 3) (l 0) (l 1) (l 2) j c
  | 3, 1, _, _ => simpa [Dm, up] using pl31 A (σ 0) (σ 1) (σ 2) (σ 3) (l 0) (l 1) (l 2) j c
  | 3, 2, _, _ => simpa [Dm, up] using pl32 A (σ 0) (σ 1) (σ 2) (σ 3) (l 0) (l 1) (l 2) j c
theorem bar_hi {A : Nat → Nat → Int} {σ l : Nat → Nat} {k t j c : Nat} (hk : k ≤ 2) : Dm A σ (up l k j) (k + 1) * Dm A (up σ k t) (up l k c) (k + 1) - Dm A (up σ k t) (up l k j) (k + 1) * Dm A σ (up l k c) (k + 1) = Dm A σ l k * Dm A (up σ (k + 1) t) (up (up l k j) (k + 1) c) (k + 2) := by
  match k, hk with
  | 0, _ => simpa [Dm, up] using sy0 A (σ 0) t j c
  | 1, _ => simpa [Dm, up] using sy1 A (σ 0) (σ 1) t (l 0) j c
  | 2, _ => simpa [Dm, up] using sy2 A (σ 0) (σ 1) (σ 2) t (l 0) (l 1) j c
/-- behind k leading columns among the first j: rows σ, leading columns l, numbers X, scale s -/
def Inv (A : Nat → Nat → Int) (n j k : Nat) (σ l : Nat → Nat) (X : Nat → Nat → Int) (s : Int) : Prop :=
  (k ≤ j ∧ k ≤ n ∧ j ≤ n ∧ n ≤ 4) ∧ ((∀ i, i < n → σ i < n) ∧ ∀ a b, a < n → b < n → σ a = σ b → a = b) ∧ ((∀ i, i < k → l i < j) ∧ ∀ a b, a < b → b < k → l a < l b) ∧ (s = Dm A σ l k ∧ s ≠ 0) ∧
  (∀ i c, i < k → c < 5 → X i c = Dm A σ (up l i c) k) ∧ (∀ i c, k ≤ i → i < n → c < 5 → X i c = Dm A (up σ k (σ i)) (up l k c) (k + 1)) ∧ (∀ i c, k ≤ i → i < n → c < j → X i c = 0) ∧ (∀ i c, n ≤ i → i < 4 → c < 5 → X i c = A i c) ∧ (∀ t c, t < k → c < l t → X t c = 0) ∧ (∀ u, u ≤ k → Dm A σ l u ≠ 0)
theorem up_self (f : Nat → Nat) (k : Nat) : ∀ i, up f k (f k) i = f i := by
  intro i; unfold up; by_cases e : i = k
  · rw [if_pos e, e]
  · rw [if_neg e]
theorem up_eq (f : Nat → Nat) (k c : Nat) : up f k c k = c := by simp [up]
theorem up_ne (f : Nat → Nat) {k c i : Nat} (h : i ≠ k) : up f k c i = f i := by simp [up, h]
theorem Inv_skip {A : Nat → Nat → Int} {n j k : Nat} {σ l : Nat → Nat} {X : Nat → Nat → Int} {s : Int} (h : Inv A n j k σ l X s) (hj : j < n) (hz : ∀ i, k ≤ i → i < n → X i j = 0) : Inv A n (j + 1) k σ l X s := by
  obtain ⟨⟨h1, h2, h3, h4⟩, h5, ⟨h6, h7⟩, h8, h9, h10, h11, h12, h13, h14⟩ := h
  refine ⟨⟨by omega, h2, by omega, h4⟩, h5, ⟨fun i hi => by have := h6 i hi; omega, h7⟩, h8, h9, h10, fun i c a b d => ?_, h12, h13, h14⟩
  by_cases e : c = j
  · subst e; exact hz i a b
  · exact h11 i c a b (by omega)
theorem Inv_swap {A : Nat → Nat → Int} {n j k y : Nat} {σ l : Nat → Nat} {X : Nat → Nat → Int} {s : Int} (h : Inv A n j k σ l X s) (hy : k < y) (hyn : y < n) : Inv A n j k (fun i => if i = y then σ k else if i = k then σ y else σ i) l (swX X y k) s := by
  obtain ⟨⟨h1, h2, h3, h4⟩, ⟨h5, h5'⟩, ⟨h6, h7⟩, ⟨h8, h8'⟩, h9, h10, h11, h12, h13, h14⟩ := h
  have hlow : ∀ i, i < k → (if i = y then σ k else if i = k then σ y else σ i) = σ i := fun i hi => by rw [if_neg (by omega), if_neg (by omega)]
  refine ⟨⟨h1, h2, h3, h4⟩, ⟨fun i hi => ?_, fun a b ha hb e => ?_⟩, ⟨h6, h7⟩, ⟨?_, h8'⟩, fun i c hi hc => ?_, fun i c a b d => ?_, fun i c a b d => ?_, fun i c a b d => ?_, fun t c ht hc => ?_, fun u hu => ?_⟩
  · by_cases e1 : i = y
    · simp only [e1, if_true]; exact h5 k (by omega)
    · by_cases e2 : i = k
      · simp only [e1, if_false, if_pos e2]; exact h5 y (by omega)
      · simp only [e1, e2, if_false]; exact h5 i hi
  · by_cases e1 : a = y
    · by_cases e2 : b = y
      · omega
      · by_cases e3 : b = k
        · simp only [e1, e3, if_true, if_neg (show ¬ k = y by omega)] at e
          have := h5' k y (by omega) (by omega) e; omega
        · simp only [e1, if_true, e2, e3, if_false] at e
          have := h5' k b (by omega) (by omega) e; omega
    · by_cases e1' : a = k
      · by_cases e2 : b = y
        · simp only [e1', e2, if_true, if_neg (show ¬ k = y by omega)] at e
          have := h5' y k (by omega) (by omega) e; omega
        · by_cases e3 : b = k
          · omega
          · simp only [e1', if_neg (show ¬ k = y by omega), if_true, e2, e3, if_false] at e
            have := h5' y b (by omega) (by omega) e; omega
      · by_cases e2 : b = y
        · simp only [e1, e1', if_false, e2, if_true] at e
          have := h5' a k (by omega) (by omega) e; omega
        · by_cases e3 : b = k
          · simp only [e1, e1', if_false, e3, if_neg (show ¬ k = y by omega), if_true] at e
            have := h5' a y (by omega) (by omega) e; omega
          · simp only [e1, e1', e2, e3, if_false] at e
            exact h5' a b ha hb e
  · rw [h8]; exact (Dm_congr (by omega) hlow (fun _ _ => rfl)).symm
  · unfold swX
    rw [if_neg (by omega), if_neg (by omega), h9 i c hi hc]
    exact (Dm_congr (by omega) hlow (fun _ _ => rfl)).symm
  · unfold swX
    have key : ∀ t, Dm A (up σ k t) (up l k c) (k + 1) = Dm A (up (fun i => if i = y then σ k else if i = k then σ y else σ i) k t) (up l k c) (k + 1) := fun t => Dm_congr (by omega) (fun i hi => by
      by_cases e : i = k
      · subst e; rw [up_eq, up_eq]
      · rw [up_ne _ e, up_ne _ e]; exact (hlow i (by omega)).symm) (fun _ _ => rfl)
    by_cases e1 : i = y
    · subst e1; rw [if_pos rfl, h10 k c (Nat.le_refl _) (by omega) d, key]; simp
    · by_cases e2 : i = k
      · subst e2; rw [if_neg e1, if_pos rfl, h10 y c (by omega) hyn d, key]; simp [e1]
      · rw [if_neg e1, if_neg e2, h10 i c a b d, key]; simp [e1, e2]
  · unfold swX
    by_cases e1 : i = y
    · rw [if_pos e1]; exact h11 k c (Nat.le_refl _) (by omega) d
    · by_cases e2 : i = k
      · rw [if_neg e1, if_pos e2]; exact h11 y c (by omega) hyn d
      · rw [if_neg e1, if_neg e2]; exact h11 i c a b d
  · unfold swX
    rw [if_neg (by omega), if_neg (by omega)]
    exact h12 i c a b d
  · unfold swX
    rw [if_neg (by omega), if_neg (by omega)]
    exact h13 t c ht hc
  · rw [Dm_congr (by omega) (fun i hi => hlow i (by omega)) (fun _ _ => rfl)]; exact h14 u hu
theorem Inv_step {A : Nat → Nat → Int} {n j k : Nat} {σ l : Nat → Nat} {X : Nat → Nat → Int} {s : Int} (h : Inv A n j k σ l X s) (hj : j < n) (hkn : k < n) (hx : X k j ≠ 0) : Inv A n (j + 1) (k + 1) σ (up l k j) (fun a b => if a < n ∧ a ≠ k then (X k j * X a b - X a j * X k b).tdiv s else X a b) (X k j) := by
  obtain ⟨⟨h1, h2, h3, h4⟩, h5, ⟨h6, h7⟩, ⟨h8, h8'⟩, h9, h10, h11, h12, h13, h14⟩ := h
  have hk : ∀ c, c < 5 → X k c = Dm A σ (up l k c) (k + 1) := fun c hc => by
    rw [h10 k c (Nat.le_refl _) hkn hc]
    exact Dm_congr (by omega) (fun i _ => up_self σ k i) (fun _ _ => rfl)
  refine ⟨⟨by omega, by omega, by omega, h4⟩, h5, ⟨fun i hi => ?_, fun a b hab hb => ?_⟩, ⟨hk j (by omega), hx⟩, fun i c hi hc => ?_, fun i c a b d => ?_, fun i c a b d => ?_, fun i c a b d => ?_, fun i c hi hc => ?_, fun u hu => ?_⟩
  · by_cases e : i = k
    · subst e; rw [up_eq]; omega
    · rw [up_ne _ e]; have := h6 i (by omega); omega
  · by_cases e : b = k
    · subst e; rw [up_eq, up_ne _ (by omega)]; exact h6 a hab
    · rw [up_ne _ e, up_ne _ (by omega)]; exact h7 a b hab (by omega)
  · by_cases e : i = k
    · subst e
      simp only [ne_eq, not_true, and_false, if_false]
      rw [hk c hc]
      refine Dm_congr (by omega) (fun _ _ => rfl) (fun z _ => ?_)
      by_cases q : z = i
      · subst q; rw [up_eq, up_eq]
      · rw [up_ne _ q, up_ne _ q, up_ne _ q]
    · show (if i < n ∧ i ≠ k then (X k j * X i c - X i j * X k c).tdiv s else X i c) = _
      rw [if_pos ⟨by omega, e⟩, hk j (by omega), hk c hc, h9 i c (by omega) hc, h9 i j (by omega) (by omega), bar_lo (by omega) (by omega), ← h8, Int.mul_tdiv_cancel_left _ h8']
  · show (if i < n ∧ i ≠ k then (X k j * X i c - X i j * X k c).tdiv s else X i c) = _
    rw [if_pos ⟨b, by omega⟩, hk j (by omega), hk c d, h10 i c (by omega) b d, h10 i j (by omega) b (by omega), bar_hi (by omega), ← h8, Int.mul_tdiv_cancel_left _ h8']
  · show (if i < n ∧ i ≠ k then (X k j * X i c - X i j * X k c).tdiv s else X i c) = _
    rw [if_pos ⟨b, by omega⟩]
    by_cases e : c = j
    · subst e
      rw [show X k c * X i c - X i c * X k c = 0 by rw [Int.mul_comm]; omega, Int.zero_tdiv]
    · rw [h11 i c (by omega) b (by omega), h11 k c (Nat.le_refl _) hkn (by omega), Int.mul_zero, Int.mul_zero, Int.sub_self, Int.zero_tdiv]
  · show (if i < n ∧ i ≠ k then (X k j * X i c - X i j * X k c).tdiv s else X i c) = _
    rw [if_neg (by omega)]
    exact h12 i c a b d
  · show (if i < n ∧ i ≠ k then (X k j * X i c - X i j * X k c).tdiv s else X i c) = _
    by_cases e : i = k
    · subst e
      rw [if_neg (by omega)]
      rw [up_eq] at hc
      exact h11 i c (Nat.le_refl _) hkn hc
    · rw [up_ne _ e] at hc
      have := h6 i (by omega)
      rw [if_pos ⟨by omega, e⟩, h13 i c (by omega) hc, h11 k c (Nat.le_refl _) hkn (by omega), Int.mul_zero, Int.mul_zero, Int.sub_self, Int.zero_tdiv]
  · by_cases e : u = k + 1
    · subst e; rw [← hk j (by omega)]; exact hx
    · rw [Dm_congr (by omega) (fun _ _ => rfl) (fun i hi => up_ne l (show i ≠ k by omega))]; exact h14 u (by omega)
