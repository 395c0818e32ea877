/-! ===== whole numbers as ints and longs ===== -/
def zJ (z : Int) : Int64 := Int64.ofInt z
def zI (z : Int) : Int32 := Int32.ofInt z
def rJ (z : Int) : Prop := -9223372036854775808 ≤ z ∧ z < 9223372036854775808
def rI (z : Int) : Prop := -2147483648 ≤ z ∧ z < 2147483648
theorem zJ_add (a b : Int) : zJ a + zJ b = zJ (a + b) := (Int64.ofInt_add a b).symm
theorem zJ_sub (a b : Int) : zJ a - zJ b = zJ (a - b) := (Int64.ofInt_sub a b).symm
theorem zJ_mul (a b : Int) : zJ a * zJ b = zJ (a * b) := (Int64.ofInt_mul a b).symm
theorem zJ_neg (a : Int) : -zJ a = zJ (-a) := (Int64.ofInt_neg a).symm
theorem zI_add (a b : Int) : zI a + zI b = zI (a + b) := (Int32.ofInt_add a b).symm
theorem zI_sub (a b : Int) : zI a - zI b = zI (a - b) := (Int32.ofInt_sub a b).symm
theorem zI_mul (a b : Int) : zI a * zI b = zI (a * b) := (Int32.ofInt_mul a b).symm
theorem zI_neg (a : Int) : -zI a = zI (-a) := (Int32.ofInt_neg a).symm
theorem zJ_toInt {a : Int} (h : rJ a) : (zJ a).toInt = a := Int64.toInt_ofInt_of_le (by have := h.1; omega) (by have := h.2; omega)
theorem zI_toInt {a : Int} (h : rI a) : (zI a).toInt = a := Int32.toInt_ofInt_of_le (by have := h.1; omega) (by have := h.2; omega)
theorem zJ_of (x : Int64) : ∃ a, rJ a ∧ x = zJ a := ⟨x.toInt, ⟨by have := Int64.le_toInt x; omega, by have := Int64.toInt_lt x; omega⟩, (Int64.ofInt_toInt x).symm⟩
theorem zI_of (x : Int32) : ∃ a, rI a ∧ x = zI a := ⟨x.toInt, ⟨by have := Int32.le_toInt x; omega, by have := Int32.toInt_lt x; omega⟩, (Int32.ofInt_toInt x).symm⟩
theorem zJ_eq {a b : Int} (ha : rJ a) (hb : rJ b) : zJ a = zJ b ↔ a = b := by rw [← Int64.toInt_inj, zJ_toInt ha, zJ_toInt hb]
theorem zJ_lt {a b : Int} (ha : rJ a) (hb : rJ b) : zJ a < zJ b ↔ a < b := by rw [Int64.lt_iff_toInt_lt, zJ_toInt ha, zJ_toInt hb]
theorem zJ_le {a b : Int} (ha : rJ a) (hb : rJ b) : zJ a ≤ zJ b ↔ a ≤ b := by rw [Int64.le_iff_toInt_le, zJ_toInt ha, zJ_toInt hb]
theorem zI_eq {a b : Int} (ha : rI a) (hb : rI b) : zI a = zI b ↔ a = b := by rw [← Int32.toInt_inj, zI_toInt ha, zI_toInt hb]
theorem zI_lt {a b : Int} (ha : rI a) (hb : rI b) : zI a < zI b ↔ a < b := by rw [Int32.lt_iff_toInt_lt, zI_toInt ha, zI_toInt hb]
theorem zI_le {a b : Int} (ha : rI a) (hb : rI b) : zI a ≤ zI b ↔ a ≤ b := by rw [Int32.le_iff_toInt_le, zI_toInt ha, zI_toInt hb]
theorem zJ_div {a b : Int} (ha : rJ a) (hb : rJ b) (h : a ≠ -9223372036854775808) : zJ a / zJ b = zJ (a.tdiv b) := by
  have h1 := zJ_toInt ha
  have h2 := zJ_toInt hb
  have hm : zJ a ≠ Int64.minValue := fun e => h (by rw [e] at h1; rw [← h1]; decide)
  apply Int64.toInt_inj.mp
  have h3 := Int64.toInt_div_of_ne_left (zJ a) (zJ b) hm
  rw [h3, h1, h2]
  refine (zJ_toInt ?_).symm
  have h4 := Int64.le_toInt (zJ a / zJ b)
  have h5 := Int64.toInt_lt (zJ a / zJ b)
  rw [h3, h1, h2] at h4 h5
  exact ⟨by omega, by omega⟩
theorem zI_div {a b : Int} (ha : rI a) (hb : rI b) (h : a ≠ -2147483648) : zI a / zI b = zI (a.tdiv b) := by
  have h1 := zI_toInt ha
  have h2 := zI_toInt hb
  have hm : zI a ≠ Int32.minValue := fun e => h (by rw [e] at h1; rw [← h1]; decide)
  apply Int32.toInt_inj.mp
  have h3 := Int32.toInt_div_of_ne_left (zI a) (zI b) hm
  rw [h3, h1, h2]
  refine (zI_toInt ?_).symm
  have h4 := Int32.le_toInt (zI a / zI b)
  have h5 := Int32.toInt_lt (zI a / zI b)
  rw [h3, h1, h2] at h4 h5
  exact ⟨by omega, by omega⟩
theorem zJ_rem {a b : Int} (ha : rJ a) (hb : rJ b) (h : a ≠ -9223372036854775808) : zJ a - zJ a / zJ b * zJ b = zJ (a.tmod b) := by
  rw [zJ_div ha hb h, zJ_mul, zJ_sub]
  congr 1
  have := Int.tmod_add_mul_tdiv a b
  rw [Int.mul_comm] at this
  omega
theorem zI_rem {a b : Int} (ha : rI a) (hb : rI b) (h : a ≠ -2147483648) : zI a - zI a / zI b * zI b = zI (a.tmod b) := by
  rw [zI_div ha hb h, zI_mul, zI_sub]
  congr 1
  have := Int.tmod_add_mul_tdiv a b
  rw [Int.mul_comm] at this
  omega
theorem zI_J {a : Int} (h : rI a) : (zI a).toInt64 = zJ a := by
  apply Int64.toInt_inj.mp
  rw [Int32.toInt_toInt64, zI_toInt h, zJ_toInt ⟨by have := h.1; omega, by have := h.2; omega⟩]
theorem zJ_I (a : Int) : (zJ a).toInt32 = zI a := Int64.toInt32_ofInt
theorem nI_z (n : Nat) : nI n = zI n := by
  unfold nI zI
  rfl
theorem lN_z (n : Nat) : lN n = zJ n := by
  unfold lN zJ
  rfl
/-- places -/
theorem kin_nI {k n : Nat} (hn : n < 2 ^ 31) (h : k < n) : kin (nI k) n := by
  have : (nI k).toInt = (k : Int) := nI_toInt (by omega)
  exact ⟨by rw [this]; omega, by rw [this]; omega⟩
theorem kin_iff {k n : Nat} (hk : k < 2 ^ 31) : kin (nI k) n ↔ k < n := by
  have : (nI k).toInt = (k : Int) := nI_toInt hk
  unfold kin
  rw [this]
  omega
theorem kin_of {i : Int32} {n : Nat} (hn : n < 2 ^ 31) (h : kin i n) : ∃ k : Nat, k < n ∧ i = nI k := vp_in_of (kin_e h) hn
theorem kl_eq {α β : Type} (v : α) (k : α → Option β) : kl v k = k v := rfl
