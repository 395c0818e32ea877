/-! ===== a determinant is no more than the lengths of its rows ===== -/
theorem sqp (x : Int) : 0 ≤ x * x := by
  rcases Int.le_total 0 x with h | h
  · exact Int.mul_nonneg h h
  · have := Int.mul_nonneg (show 0 ≤ -x by omega) (show 0 ≤ -x by omega)
    rwa [Int.neg_mul_neg] at this
theorem sumN_nn {f : Nat → Int} {k : Nat} (h : ∀ t, t < k → 0 ≤ f t) : 0 ≤ sumN f k := by
  induction k with
  | zero => exact Int.le_refl _
  | succ k ih => rw [sumN]; exact Int.add_nonneg (ih (fun t ht => h t (by omega))) (h k (by omega))
theorem cs_id (x y : Nat → Int) (a b : Int) (k : Nat) : sumN (fun t => (x t * b - a * y t) * (x t * b - a * y t)) k = sumN (fun t => x t * x t) k * (b * b) - 2 * (a * b) * sumN (fun t => x t * y t) k + a * a * sumN (fun t => y t * y t) k := by
  induction k with
  | zero => simp [sumN]
  | succ k ih =>
    rw [sumN, ih, sumN, sumN, sumN]
    generalize sumN (fun t => x t * x t) k = X
    generalize sumN (fun t => x t * y t) k = S
    generalize sumN (fun t => y t * y t) k = Y
    grind
theorem cauchy (x y : Nat → Int) (k : Nat) : sumN (fun t => x t * y t) k * sumN (fun t => x t * y t) k ≤ sumN (fun t => x t * x t) k * sumN (fun t => y t * y t) k := by
  induction k with
  | zero => simp [sumN]
  | succ k ih =>
    have h := cs_id x y (x k) (y k) k
    have h2 : 0 ≤ sumN (fun t => (x t * y k - x k * y t) * (x t * y k - x k * y t)) k := sumN_nn (fun t _ => sqp _)
    rw [h] at h2
    rw [sumN, sumN, sumN]
    generalize sumN (fun t => x t * x t) k = X at *
    generalize sumN (fun t => x t * y t) k = S at *
    generalize sumN (fun t => y t * y t) k = Y at *
    generalize x k = a at *
    generalize y k = b at *
    have e : (X + a * a) * (Y + b * b) - (S + a * b) * (S + a * b) = (X * Y - S * S) + (X * (b * b) - 2 * (a * b) * S + a * a * Y) := by grind
    omega
theorem had2 (a b c d : Int) : (a * d - b * c) * (a * d - b * c) ≤ (a * a + b * b) * (c * c + d * d) := by
  have e : (a * a + b * b) * (c * c + d * d) - (a * d - b * c) * (a * d - b * c) = (a * c + b * d) * (a * c + b * d) := by grind
  have := sqp (a * c + b * d)
  omega
theorem mul_le2 {a b c d : Int} (h1 : a ≤ b) (h2 : c ≤ d) (h3 : 0 ≤ c) (h4 : 0 ≤ b) : a * c ≤ b * d := Int.mul_le_mul h1 h2 h3 h4
theorem had3 (a b c d e f g h i : Int) : (a * (e * i - f * h) - b * (d * i - f * g) + c * (d * h - e * g)) * (a * (e * i - f * h) - b * (d * i - f * g) + c * (d * h - e * g)) ≤ (a * a + b * b + c * c) * ((d * d + e * e + f * f) * (g * g + h * h + i * i)) := by
  have k1 := cauchy (fun t => if t = 0 then a else if t = 1 then b else c) (fun t => if t = 0 then e * i - f * h else if t = 1 then -(d * i - f * g) else d * h - e * g) 3
  simp [sumN] at k1
  have k2 : (e * i - f * h) * (e * i - f * h) + (d * i - f * g) * (d * i - f * g) + (d * h - e * g) * (d * h - e * g) ≤ (d * d + e * e + f * f) * (g * g + h * h + i * i) := by
    have q : (d * d + e * e + f * f) * (g * g + h * h + i * i) - ((e * i - f * h) * (e * i - f * h) + (d * i - f * g) * (d * i - f * g) + (d * h - e * g) * (d * h - e * g)) = (d * g + e * h + f * i) * (d * g + e * h + f * i) := by grind
    have := sqp (d * g + e * h + f * i)
    omega
  have k3 : (a * a + b * b + c * c) * ((e * i - f * h) * (e * i - f * h) + (d * i - f * g) * (d * i - f * g) + (d * h - e * g) * (d * h - e * g)) ≤ (a * a + b * b + c * c) * ((d * d + e * e + f * f) * (g * g + h * h + i * i)) := Int.mul_le_mul_of_nonneg_left k2 (Int.add_nonneg (Int.add_nonneg (sqp a) (sqp b)) (sqp c))
  refine Int.le_trans ?_ k3
  generalize e * i - f * h = u at *
  generalize d * i - f * g = v at *
  generalize d * h - e * g = w at *
  rw [Int.mul_neg, Int.neg_mul_neg] at k1
  have q1 : (a * u - b * v + c * w) * (a * u - b * v + c * w) = (a * u + -(b * v) + c * w) * (a * u + -(b * v) + c * w) := by grind
  rw [q1]
  exact k1
/-- two rows of four numbers: the squares of their minors -/
theorem lag4 (a b c d e f g h : Int) : (a * f - b * e) * (a * f - b * e) + (a * g - c * e) * (a * g - c * e) + (a * h - d * e) * (a * h - d * e) + (b * g - c * f) * (b * g - c * f) + (b * h - d * f) * (b * h - d * f) + (c * h - d * g) * (c * h - d * g) ≤ (a * a + b * b + c * c + d * d) * (e * e + f * f + g * g + h * h) := by
  have q : (a * a + b * b + c * c + d * d) * (e * e + f * f + g * g + h * h) - ((a * f - b * e) * (a * f - b * e) + (a * g - c * e) * (a * g - c * e) + (a * h - d * e) * (a * h - d * e) + (b * g - c * f) * (b * g - c * f) + (b * h - d * f) * (b * h - d * f) + (c * h - d * g) * (c * h - d * g)) = (a * e + b * f + c * g + d * h) * (a * e + b * f + c * g + d * h) := by grind
  have := sqp (a * e + b * f + c * g + d * h)
  omega
theorem cs6 (a b c d e f u v w x y z : Int) : (a * u + b * v + c * w + d * x + e * y + f * z) * (a * u + b * v + c * w + d * x + e * y + f * z) ≤ (a * a + b * b + c * c + d * d + e * e + f * f) * (u * u + v * v + w * w + x * x + y * y + z * z) := by
  have k := cauchy (fun t => if t = 0 then a else if t = 1 then b else if t = 2 then c else if t = 3 then d else if t = 4 then e else f) (fun t => if t = 0 then u else if t = 1 then v else if t = 2 then w else if t = 3 then x else if t = 4 then y else z) 6
  simpa [sumN] using k
/-- the squares of the numbers of a row in n columns -/
def rq (A : Nat → Nat → Int) (C : Nat → Nat) (n i : Nat) : Int := sumN (fun t => A i (C t) * A i (C t)) n
theorem rq_nn (A : Nat → Nat → Int) (C : Nat → Nat) (n i : Nat) : 0 ≤ rq A C n i := sumN_nn (fun _ _ => sqp _)
def prodN (f : Nat → Int) : Nat → Int
  | 0 => 1
  | k + 1 => prodN f k * f k
theorem had4 (A : Nat → Nat → Int) (C : Nat → Nat) : Dm A (fun i => i) C 4 * Dm A (fun i => i) C 4 ≤ prodN (rq A C 4) 4 := by
  have k1 := cs6 (D2 A 0 1 (C 0) (C 1)) (D2 A 0 1 (C 0) (C 2)) (D2 A 0 1 (C 0) (C 3)) (D2 A 0 1 (C 1) (C 2)) (D2 A 0 1 (C 1) (C 3)) (D2 A 0 1 (C 2) (C 3)) (D2 A 2 3 (C 2) (C 3)) (-D2 A 2 3 (C 1) (C 3)) (D2 A 2 3 (C 1) (C 2)) (D2 A 2 3 (C 0) (C 3)) (-D2 A 2 3 (C 0) (C 2)) (D2 A 2 3 (C 0) (C 1))
  have e : Dm A (fun i => i) C 4 = D2 A 0 1 (C 0) (C 1) * D2 A 2 3 (C 2) (C 3) + D2 A 0 1 (C 0) (C 2) * -D2 A 2 3 (C 1) (C 3) + D2 A 0 1 (C 0) (C 3) * D2 A 2 3 (C 1) (C 2) + D2 A 0 1 (C 1) (C 2) * D2 A 2 3 (C 0) (C 3) + D2 A 0 1 (C 1) (C 3) * -D2 A 2 3 (C 0) (C 2) + D2 A 0 1 (C 2) (C 3) * D2 A 2 3 (C 0) (C 1) := by
    simp only [Dm, D4, D3, D2]; grind
  rw [← e] at k1
  have k2 := lag4 (A 0 (C 0)) (A 0 (C 1)) (A 0 (C 2)) (A 0 (C 3)) (A 1 (C 0)) (A 1 (C 1)) (A 1 (C 2)) (A 1 (C 3))
  have k3 := lag4 (A 2 (C 0)) (A 2 (C 1)) (A 2 (C 2)) (A 2 (C 3)) (A 3 (C 0)) (A 3 (C 1)) (A 3 (C 2)) (A 3 (C 3))
  have r : ∀ i, rq A C 4 i = A i (C 0) * A i (C 0) + A i (C 1) * A i (C 1) + A i (C 2) * A i (C 2) + A i (C 3) * A i (C 3) := fun i => by simp [rq, sumN]
  have f1 : prodN (rq A C 4) 4 = (rq A C 4 0 * rq A C 4 1) * (rq A C 4 2 * rq A C 4 3) := by
    simp only [prodN]
    generalize rq A C 4 0 = a
    generalize rq A C 4 1 = b
    generalize rq A C 4 2 = c
    generalize rq A C 4 3 = d
    grind
  rw [f1]
  refine Int.le_trans k1 (mul_le2 ?_ ?_ ?_ (Int.mul_nonneg (rq_nn A C 4 0) (rq_nn A C 4 1)))
  · rw [r 0, r 1]; exact k2
  · rw [r 2, r 3]
    refine Int.le_trans (Int.le_of_eq ?_) k3
    rw [Int.neg_mul_neg, Int.neg_mul_neg]
    simp only [D2]
    omega
  · exact Int.add_nonneg (Int.add_nonneg (Int.add_nonneg (Int.add_nonneg (Int.add_nonneg (sqp _) (sqp _)) (sqp _)) (sqp _)) (sqp _)) (sqp _)
theorem had (A : Nat → Nat → Int) (C : Nat → Nat) {n : Nat} (hn : n ≤ 4) : Dm A (fun i => i) C n * Dm A (fun i => i) C n ≤ prodN (rq A C n) n := by
  match n, hn with
  | 0, _ => simp [Dm, prodN]
  | 1, _ => simp [Dm, prodN, rq, sumN]
  | 2, _ =>
    have := had2 (A 0 (C 0)) (A 0 (C 1)) (A 1 (C 0)) (A 1 (C 1))
    simpa [Dm, prodN, rq, sumN, D2] using this
  | 3, _ =>
    have := had3 (A 0 (C 0)) (A 0 (C 1)) (A 0 (C 2)) (A 1 (C 0)) (A 1 (C 1)) (A 1 (C 2)) (A 2 (C 0)) (A 2 (C 1)) (A 2 (C 2))
    have r : ∀ i, rq A C 3 i = A i (C 0) * A i (C 0) + A i (C 1) * A i (C 1) + A i (C 2) * A i (C 2) := fun i => by simp [rq, sumN]
    simp only [prodN, r, Dm, D3, D2, Int.one_mul]
    rw [Int.mul_assoc]
    exact this
  | 4, _ => exact had4 A C
/-- the squares of the numbers of a row and of its side -/
def rQ (A : Nat → Nat → Int) (i : Nat) : Int := A i 0 * A i 0 + A i 1 * A i 1 + A i 2 * A i 2 + A i 3 * A i 3 + A i 4 * A i 4
theorem rq_id (A : Nat → Nat → Int) {n : Nat} (hn : n ≤ 4) (i : Nat) : rq A (fun c => c) n i ≤ rQ A i := by
  have h0 := sqp (A i 0)
  have h1 := sqp (A i 1)
  have h2 := sqp (A i 2)
  have h3 := sqp (A i 3)
  have h4 := sqp (A i 4)
  unfold rQ
  match n, hn with
  | 0, _ => simp only [rq, sumN]; omega
  | 1, _ => simp only [rq, sumN]; omega
  | 2, _ => simp only [rq, sumN]; omega
  | 3, _ => simp only [rq, sumN]; omega
  | 4, _ => simp only [rq, sumN]; omega
theorem rq_up (A : Nat → Nat → Int) {n j : Nat} (hn : n ≤ 4) (hj : j < n) (i : Nat) : rq A (up (fun c => c) j 4) n i ≤ rQ A i := by
  have h0 := sqp (A i 0)
  have h1 := sqp (A i 1)
  have h2 := sqp (A i 2)
  have h3 := sqp (A i 3)
  have h4 := sqp (A i 4)
  unfold rQ
  have hc : (n = 1 ∧ j = 0) ∨ (n = 2 ∧ j = 0) ∨ (n = 2 ∧ j = 1) ∨ (n = 3 ∧ j = 0) ∨ (n = 3 ∧ j = 1) ∨ (n = 3 ∧ j = 2) ∨ (n = 4 ∧ j = 0) ∨ (n = 4 ∧ j = 1) ∨ (n = 4 ∧ j = 2) ∨ (n = 4 ∧ j = 3) := by omega
  rcases hc with ⟨rfl, rfl⟩ | ⟨rfl, rfl⟩ | ⟨rfl, rfl⟩ | ⟨rfl, rfl⟩ | ⟨rfl, rfl⟩ | ⟨rfl, rfl⟩ | ⟨rfl, rfl⟩ | ⟨rfl, rfl⟩ | ⟨rfl, rfl⟩ | ⟨rfl, rfl⟩ <;> simp [rq, sumN, up] <;> omega
theorem prodN_le {f g : Nat → Int} {k : Nat} (h0 : ∀ t, t < k → 0 ≤ f t) (h : ∀ t, t < k → f t ≤ g t) : 0 ≤ prodN f k ∧ prodN f k ≤ prodN g k := by
  induction k with
  | zero => exact ⟨by show (0 : Int) ≤ 1; decide, Int.le_refl _⟩
  | succ k ih =>
    obtain ⟨i1, i2⟩ := ih (fun t ht => h0 t (by omega)) (fun t ht => h t (by omega))
    rw [prodN, prodN]
    have a1 := h0 k (by omega)
    exact ⟨Int.mul_nonneg i1 a1, Int.mul_le_mul i2 (h k (by omega)) a1 (Int.le_trans i1 i2)⟩
theorem had_D (A : Nat → Nat → Int) {n : Nat} (hn : n ≤ 4) : Dt A n * Dt A n ≤ prodN (rQ A) n := by
  rw [← Dm_id A hn]
  exact Int.le_trans (had A _ hn) (prodN_le (fun t _ => rq_nn A _ n t) (fun t _ => rq_id A hn t)).2
theorem had_X (A : Nat → Nat → Int) {n j : Nat} (hn : n ≤ 4) (hj : j < n) : Dm A (fun i => i) (up (fun c => c) j 4) n * Dm A (fun i => i) (up (fun c => c) j 4) n ≤ prodN (rQ A) n := Int.le_trans (had A _ hn) (prodN_le (fun t _ => rq_nn A _ n t) (fun t _ => rq_up A hn hj t)).2
theorem X_D {A : Nat → Nat → Int} {n ex : Nat} {σ l : Nat → Nat} {X : Nat → Nat → Int} {s : Int} (h : Ck A n n ex σ l X s) {j : Nat} (hj : j < n) : X j 4 = Dm A (fun i => i) (up (fun c => c) j 4) n ∨ X j 4 = -Dm A (fun i => i) (up (fun c => c) j 4) n := by
  have hn := (Ck_n h).1
  have s1 := (Ck_s h).1
  have q := colR (q := 0) (A := A) (R := fun i => i) (C := fun i => i) (y := fun t => X t 4) (s := s) (c := 4) (k := n) (r := j) hn hj (fun t ht => by omega) (fun ρ hρ => by
    rw [Int.zero_dvd, Lin h.2.2.1 (c := 4) (by omega) (fun i a b => by omega) hρ, sumN_congr (g := fun t => X t 4 * A ρ t) (fun t ht => by rw [Inc_id (Inv_inc h.2.2.1) t ht]), Int.sub_self])
  rw [Int.zero_dvd, Dm_id A hn] at q
  generalize Dm A (fun i => i) (up (fun i => i) j 4) n = E at q ⊢
  rcases sc_D h with e | e
  · left
    rw [← e] at q
    apply Int.eq_of_mul_eq_mul_right s1
    rw [Int.mul_comm E s]; omega
  · right
    apply Int.eq_of_mul_eq_mul_right s1
    have e2 : Dt A n = -s := by omega
    rw [e2, Int.mul_neg] at q
    rw [Int.neg_mul, Int.mul_comm E s]; omega
theorem sl_sq {A : Nat → Nat → Int} {n ex : Nat} {σ l : Nat → Nat} {X : Nat → Nat → Int} {s : Int} (h : Ck A n n ex σ l X s) {j : Nat} (hj : j < n) : slA l n X s j * slA l n X s j ≤ prodN (rQ A) n ∧ slB l n X s j * slB l n X s j ≤ prodN (rQ A) n := by
  have hn := (Ck_n h).1
  have s1 := (Ck_s h).1
  obtain ⟨e1, e2⟩ := sl_n h hj
  have sqle : ∀ x y : Int, x.natAbs ≤ y.natAbs → x * x ≤ y * y := fun x y hxy => by
    rw [← Int.natAbs_mul_self, ← Int.natAbs_mul_self (a := y)]
    exact Int.ofNat_le.mpr (Nat.mul_le_mul hxy hxy)
  constructor
  · rw [e1]
    refine Int.le_trans (sqle _ _ (frA_le (a := X j 4) s1)) ?_
    have := had_X A hn hj
    rcases X_D h hj with q | q
    · rw [q]; exact this
    · rw [q, Int.neg_mul_neg]; exact this
  · rw [e2]
    obtain ⟨f1, f2, f3⟩ := frB_pos (a := X j 4) s1
    refine Int.le_trans (sqle _ s (by omega)) ?_
    have := had_D A hn
    rcases sc_D h with q | q
    · rw [← q] at this; exact this
    · rw [show Dt A n = -s by omega, Int.neg_mul_neg] at this; exact this
