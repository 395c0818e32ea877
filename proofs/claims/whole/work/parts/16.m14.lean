/-! ===== rows and columns by one another ===== -/
theorem lap1 (A : Nat → Nat → Int) (r q l c : Nat) : D2 A r q l c = A r l * A q c - A r c * A q l := by simp only [D2]
theorem lap2 (A : Nat → Nat → Int) (r s q l m c : Nat) : D3 A r s q l m c = D2 A r s l m * A q c - D2 A r s c m * A q l - D2 A r s l c * A q m := by simp only [D2, D3]; grind
theorem lap3 (A : Nat → Nat → Int) (r s t q l m o c : Nat) : D4 A r s t q l m o c = D3 A r s t l m o * A q c - D3 A r s t c m o * A q l - D3 A r s t l c o * A q m - D3 A r s t l m c * A q o := by simp only [D2, D3, D4]; grind
theorem cra (A : Nat → Nat → Int) (r s t u l m o q c : Nat) : D4 A r s t u l m o q * A r c = D4 A r s t u c m o q * A r l + D4 A r s t u l c o q * A r m + D4 A r s t u l m c q * A r o + D4 A r s t u l m o c * A r q := by simp only [D2, D3, D4]; grind
theorem crb (A : Nat → Nat → Int) (r s t u l m o q c : Nat) : D4 A r s t u l m o q * A s c = D4 A r s t u c m o q * A s l + D4 A r s t u l c o q * A s m + D4 A r s t u l m c q * A s o + D4 A r s t u l m o c * A s q := by simp only [D2, D3, D4]; grind
theorem crc (A : Nat → Nat → Int) (r s t u l m o q c : Nat) : D4 A r s t u l m o q * A t c = D4 A r s t u c m o q * A t l + D4 A r s t u l c o q * A t m + D4 A r s t u l m c q * A t o + D4 A r s t u l m o c * A t q := by simp only [D2, D3, D4]; grind
theorem crd (A : Nat → Nat → Int) (r s t u l m o q c : Nat) : D4 A r s t u l m o q * A u c = D4 A r s t u c m o q * A u l + D4 A r s t u l c o q * A u m + D4 A r s t u l m c q * A u o + D4 A r s t u l m o c * A u q := by simp only [D2, D3, D4]; grind
/-- columns that come of one, two, three columns -/
theorem van1 (s : Int) (A : Nat → Nat → Int) (a y : Nat → Int) (r q c d : Nat) (h : ∀ i j, (i = r ∨ i = q) → (j = c ∨ j = d) → s * A i j = y j * a i) : s * s * D2 A r q c d = 0 := by
  have h1 := h r c (Or.inl rfl) (Or.inl rfl)
  have h2 := h r d (Or.inl rfl) (Or.inr rfl)
  have h3 := h q c (Or.inr rfl) (Or.inl rfl)
  have h4 := h q d (Or.inr rfl) (Or.inr rfl)
  have e : s * s * D2 A r q c d = (s * A r c) * (s * A q d) - (s * A r d) * (s * A q c) := by simp only [D2]; grind
  rw [e, h1, h2, h3, h4]; grind
theorem pr2 (a b y z : Nat → Int) (r s t c d e : Nat) : D3 (fun i j => y j * a i + z j * b i) r s t c d e = 0 := by simp only [D2, D3]; grind
