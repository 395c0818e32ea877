/-! ===== a column replaced by a sum of multiples ===== -/
theorem colS (A : Nat → Nat → Int) (R C : Nat → Nat) (s : Int) (c : Nat) {k r : Nat} (hk : k ≤ 4) (hr : r < k) (hC : ∀ t, t < k → C t ≠ 100) : Dm (fun i j => if j = 100 then s * A i c else A i j) R (up C r 100) k = s * Dm A R (up C r c) k := by
  have hc : (k = 1 ∧ r = 0) ∨ (k = 2 ∧ r = 0) ∨ (k = 2 ∧ r = 1) ∨ (k = 3 ∧ r = 0) ∨ (k = 3 ∧ r = 1) ∨ (k = 3 ∧ r = 2) ∨ (k = 4 ∧ r = 0) ∨ (k = 4 ∧ r = 1) ∨ (k = 4 ∧ r = 2) ∨ (k = 4 ∧ r = 3) := by omega
  rcases hc with ⟨rfl, rfl⟩ | ⟨rfl, rfl⟩ | ⟨rfl, rfl⟩ | ⟨rfl, rfl⟩ | ⟨rfl, rfl⟩ | ⟨rfl, rfl⟩ | ⟨rfl, rfl⟩ | ⟨rfl, rfl⟩ | ⟨rfl, rfl⟩ | ⟨rfl, rfl⟩
  · simp [Dm, up]
  · have h1 := hC 1 (by omega); simp [Dm, up, D2, h1]; grind
  · have h1 := hC 0 (by omega); simp [Dm, up, D2, h1]; grind
  · have h1 := hC 1 (by omega); have h2 := hC 2 (by omega); simp [Dm, up, D2, D3, h1, h2]; grind
  · have h1 := hC 0 (by omega); have h2 := hC 2 (by omega); simp [Dm, up, D2, D3, h1, h2]; grind
  · have h1 := hC 0 (by omega); have h2 := hC 1 (by omega); simp [Dm, up, D2, D3, h1, h2]; grind
  · have h1 := hC 1 (by omega); have h2 := hC 2 (by omega); have h3 := hC 3 (by omega); simp [Dm, up, D2, D3, D4, h1, h2, h3]; grind
  · have h1 := hC 0 (by omega); have h2 := hC 2 (by omega); have h3 := hC 3 (by omega); simp [Dm, up, D2, D3, D4, h1, h2, h3]; grind
  · have h1 := hC 0 (by omega); have h2 := hC 1 (by omega); have h3 := hC 3 (by omega); simp [Dm, up, D2, D3, D4, h1, h2, h3]; grind
  · have h1 := hC 0 (by omega); have h2 := hC 1 (by omega); have h3 := hC 2 (by omega); simp [Dm, up, D2, D3, D4, h1, h2, h3]; grind
set_option maxHeartbeats 8000000 in
theorem colY (A : Nat → Nat → Int) (R C : Nat → Nat) (y : Nat → Int) {k r : Nat} (hk : k ≤ 4) (hr : r < k) (hC : ∀ t, t < k → C t ≠ 100) : Dm (fun i j => if j = 100 then sumN (fun t => y t * A i (C t)) k else A i j) R (up C r 100) k = y r * Dm A R C k := by
  have hc : (k = 1 ∧ r = 0) ∨ (k = 2 ∧ r = 0) ∨ (k = 2 ∧ r = 1) ∨ (k = 3 ∧ r = 0) ∨ (k = 3 ∧ r = 1) ∨ (k = 3 ∧ r = 2) ∨ (k = 4 ∧ r = 0) ∨ (k = 4 ∧ r = 1) ∨ (k = 4 ∧ r = 2) ∨ (k = 4 ∧ r = 3) := by omega
  rcases hc with ⟨rfl, rfl⟩ | ⟨rfl, rfl⟩ | ⟨rfl, rfl⟩ | ⟨rfl, rfl⟩ | ⟨rfl, rfl⟩ | ⟨rfl, rfl⟩ | ⟨rfl, rfl⟩ | ⟨rfl, rfl⟩ | ⟨rfl, rfl⟩ | ⟨rfl, rfl⟩
  · simp [Dm, up, sumN]
  · have h1 := hC 1 (by omega); simp [Dm, up, sumN, D2, h1]; grind
  · have h1 := hC 0 (by omega); simp [Dm, up, sumN, D2, h1]; grind
  · have h1 := hC 1 (by omega); have h2 := hC 2 (by omega); simp [Dm, up, sumN, D2, D3, h1, h2]; grind
  · have h1 := hC 0 (by omega); have h2 := hC 2 (by omega); simp [Dm, up, sumN, D2, D3, h1, h2]; grind
  · have h1 := hC 0 (by omega); have h2 := hC 1 (by omega); simp [Dm, up, sumN, D2, D3, h1, h2]; grind
  · have h1 := hC 1 (by omega); have h2 := hC 2 (by omega); have h3 := hC 3 (by omega); simp [Dm, up, sumN, D2, D3, D4, h1, h2, h3]; grind
  · have h1 := hC 0 (by omega); have h2 := hC 2 (by omega); have h3 := hC 3 (by omega); simp [Dm, up, sumN, D2, D3, D4, h1, h2, h3]; grind
  · have h1 := hC 0 (by omega); have h2 := hC 1 (by omega); have h3 := hC 3 (by omega); simp [Dm, up, sumN, D2, D3, D4, h1, h2, h3]; grind
  · have h1 := hC 0 (by omega); have h2 := hC 1 (by omega); have h3 := hC 2 (by omega); simp [Dm, up, sumN, D2, D3, D4, h1, h2, h3]; grind
theorem colR {q : Int} {A : Nat → Nat → Int} {R C : Nat → Nat} {y : Nat → Int} {s : Int} {c k r : Nat} (hk : k ≤ 4) (hr : r < k) (hC : ∀ t, t < k → C t ≠ 100) (h : ∀ i, i < k → q ∣ s * A (R i) c - sumN (fun t => y t * A (R i) (C t)) k) : q ∣ s * Dm A R (up C r c) k - y r * Dm A R C k := by
  rw [← colS A R C s c hk hr hC, ← colY A R C y hk hr hC]
  refine Dm_mod hk (fun i j hi hj => ?_)
  by_cases e : up C r 100 j = 100
  · simp only [e, if_true]; exact h i hi
  · simp only [e, if_false]; exact dv_refl _ _
