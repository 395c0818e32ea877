/-! ===== sets of columns and rows; ranks by a witness and by what vanishes ===== -/
def St (f : Nat → Nat) : Nat → Nat
  | 0 => 0
  | k + 1 => St f k + 2 ^ f k
theorem St_congr {f g : Nat → Nat} {k : Nat} (h : ∀ i, i < k → f i = g i) : St f k = St g k := by
  induction k with
  | zero => rfl
  | succ k ih => rw [St, St, ih (fun i hi => h i (by omega)), h k (by omega)]
theorem St_fin : ∀ a b c d : Fin 5, a.val < b.val → b.val < c.val → c.val < d.val →
    (onesN (2 ^ a.val) = 1 ∧ pkN (2 ^ a.val) 0 = a.val) ∧
    (onesN (2 ^ a.val + 2 ^ b.val) = 2 ∧ pkN (2 ^ a.val + 2 ^ b.val) 0 = a.val ∧ pkN (2 ^ a.val + 2 ^ b.val) 1 = b.val) ∧
    (onesN (2 ^ a.val + 2 ^ b.val + 2 ^ c.val) = 3 ∧ pkN (2 ^ a.val + 2 ^ b.val + 2 ^ c.val) 0 = a.val ∧ pkN (2 ^ a.val + 2 ^ b.val + 2 ^ c.val) 1 = b.val ∧ pkN (2 ^ a.val + 2 ^ b.val + 2 ^ c.val) 2 = c.val) ∧
    (onesN (2 ^ a.val + 2 ^ b.val + 2 ^ c.val + 2 ^ d.val) = 4 ∧ pkN (2 ^ a.val + 2 ^ b.val + 2 ^ c.val + 2 ^ d.val) 0 = a.val ∧ pkN (2 ^ a.val + 2 ^ b.val + 2 ^ c.val + 2 ^ d.val) 1 = b.val ∧ pkN (2 ^ a.val + 2 ^ b.val + 2 ^ c.val + 2 ^ d.val) 2 = c.val ∧ pkN (2 ^ a.val + 2 ^ b.val + 2 ^ c.val + 2 ^ d.val) 3 = d.val) := by decide +kernel
theorem St1_fin : ∀ a : Fin 5, onesN (2 ^ a.val) = 1 ∧ pkN (2 ^ a.val) 0 = a.val := by decide +kernel
theorem St2_fin : ∀ a b : Fin 5, a.val < b.val → onesN (2 ^ a.val + 2 ^ b.val) = 2 ∧ pkN (2 ^ a.val + 2 ^ b.val) 0 = a.val ∧ pkN (2 ^ a.val + 2 ^ b.val) 1 = b.val := by decide +kernel
theorem St3_fin : ∀ a b c : Fin 5, a.val < b.val → b.val < c.val → onesN (2 ^ a.val + 2 ^ b.val + 2 ^ c.val) = 3 ∧ pkN (2 ^ a.val + 2 ^ b.val + 2 ^ c.val) 0 = a.val ∧ pkN (2 ^ a.val + 2 ^ b.val + 2 ^ c.val) 1 = b.val ∧ pkN (2 ^ a.val + 2 ^ b.val + 2 ^ c.val) 2 = c.val := by decide +kernel
/-- values that rise -/
def Inc (f : Nat → Nat) (u b : Nat) : Prop := (∀ i, i < u → f i < b) ∧ ∀ i j, i < j → j < u → f i < f j
theorem Inc_St {f : Nat → Nat} {u : Nat} (hu : u ≤ 4) (h : Inc f u 5) : onesN (St f u) = u ∧ ∀ i, i < u → pkN (St f u) i = f i := by
  match u, hu with
  | 0, _ => exact ⟨by show onesN 0 = 0; decide, fun i hi => by omega⟩
  | 1, _ =>
    obtain ⟨h1, h2⟩ := St1_fin ⟨f 0, h.1 0 (by omega)⟩
    simp only at h1 h2
    refine ⟨by simpa [St] using h1, fun i hi => ?_⟩
    rw [show i = 0 by omega]; simpa [St] using h2
  | 2, _ =>
    obtain ⟨h1, h2, h3⟩ := St2_fin ⟨f 0, h.1 0 (by omega)⟩ ⟨f 1, h.1 1 (by omega)⟩ (h.2 0 1 (by omega) (by omega))
    simp only at h1 h2 h3
    refine ⟨by simpa [St] using h1, fun i hi => ?_⟩
    match i, hi with
    | 0, _ => simpa [St] using h2
    | 1, _ => simpa [St] using h3
  | 3, _ =>
    obtain ⟨h1, h2, h3, h4⟩ := St3_fin ⟨f 0, h.1 0 (by omega)⟩ ⟨f 1, h.1 1 (by omega)⟩ ⟨f 2, h.1 2 (by omega)⟩ (h.2 0 1 (by omega) (by omega)) (h.2 1 2 (by omega) (by omega))
    simp only at h1 h2 h3 h4
    refine ⟨by simpa [St] using h1, fun i hi => ?_⟩
    match i, hi with
    | 0, _ => simpa [St] using h2
    | 1, _ => simpa [St] using h3
    | 2, _ => simpa [St] using h4
  | 4, _ =>
    obtain ⟨-, -, -, h1, h2, h3, h4, h5⟩ := St_fin ⟨f 0, h.1 0 (by omega)⟩ ⟨f 1, h.1 1 (by omega)⟩ ⟨f 2, h.1 2 (by omega)⟩ ⟨f 3, h.1 3 (by omega)⟩ (h.2 0 1 (by omega) (by omega)) (h.2 1 2 (by omega) (by omega)) (h.2 2 3 (by omega) (by omega))
    simp only at h1 h2 h3 h4 h5
    refine ⟨by simpa [St] using h1, fun i hi => ?_⟩
    match i, hi with
    | 0, _ => simpa [St] using h2
    | 1, _ => simpa [St] using h3
    | 2, _ => simpa [St] using h4
    | 3, _ => simpa [St] using h5
theorem St_lt {f : Nat → Nat} {u b : Nat} (h : Inc f u b) : St f u < 2 ^ b := by
  induction u generalizing b with
  | zero => exact Nat.pow_pos (by decide)
  | succ u ih =>
    have h1 := h.1 u (by omega)
    have := ih (b := f u) ⟨fun i hi => h.2 i u hi (by omega), fun i j a c => h.2 i j a (by omega)⟩
    have h2 : 2 ^ (f u + 1) ≤ 2 ^ b := Nat.pow_le_pow_right (by decide) h1
    rw [Nat.pow_succ] at h2
    rw [St]; omega
theorem St_pos {f : Nat → Nat} {u : Nat} (h : 0 < u) : 0 < St f u := by
  obtain ⟨v, rfl⟩ : ∃ v, u = v + 1 := ⟨u - 1, by omega⟩
  rw [St]; have := Nat.pow_pos (a := 2) (n := f v) (by decide); omega
theorem sub_fin2 : ∀ t T : Fin 32, (∀ z : Fin 5, z.val < onesN t.val → T.val.testBit (pkN t.val z.val) = true) ↔ t.val &&& T.val = t.val := by decide +kernel
theorem pk_n : ∀ (n : Fin 5) (s : Fin 16) (z : Fin 5), s.val < 2 ^ n.val → z.val < onesN s.val → pkN s.val z.val < n.val := by decide +kernel
theorem pk_inc : ∀ (s : Fin 32) (x y : Fin 5), x.val < y.val → y.val < onesN s.val → pkN s.val x.val < pkN s.val y.val := by decide +kernel
