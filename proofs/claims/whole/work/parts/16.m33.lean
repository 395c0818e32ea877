/-! ===== digits, told by whole numbers ===== -/
theorem sumN_add (f g : Nat → Int) (k : Nat) : sumN (fun t => f t + g t) k = sumN f k + sumN g k := by
  induction k with
  | zero => rfl
  | succ k ih => rw [sumN, sumN, sumN, ih]; omega
theorem sumN_sub (f g : Nat → Int) (k : Nat) : sumN (fun t => f t - g t) k = sumN f k - sumN g k := by
  induction k with
  | zero => rfl
  | succ k ih => rw [sumN, sumN, sumN, ih]; omega
theorem sumN_0 (k : Nat) : sumN (fun _ => 0) k = 0 := by
  induction k with
  | zero => rfl
  | succ k ih => rw [sumN, ih]; rfl
theorem sumN_comm (f : Nat → Nat → Int) (m n : Nat) : sumN (fun i => sumN (fun j => f i j) n) m = sumN (fun j => sumN (fun i => f i j) m) n := by
  induction m with
  | zero => exact (sumN_0 n).symm
  | succ m ih =>
    rw [sumN, ih, ← sumN_add]
    rfl
theorem sumN_delta (f : Nat → Int) {i n : Nat} (hi : i < n) : sumN (fun t => if t = i then f t else 0) n = f i := by
  induction n with
  | zero => omega
  | succ n ih =>
    rw [sumN]
    by_cases e : n = i
    · subst e
      rw [if_pos rfl, sumN_zero (Nat.zero_le n) (fun t _ b => by rw [if_neg (by omega)]), sumN]; omega
    · rw [if_neg e, ih (by omega)]; omega
/-- what is left of x behind its digit -/
def lfS (p : Nat) (b w x : Int) : Int := (x - ((x * w) % p) * b) / p
def lft (p : Nat) (b w a : Int) : Nat → Int
  | 0 => a
  | k + 1 => lfS p b w (lft p b w a k)
def dgt (p : Nat) (b w a : Int) (k : Nat) : Int := (lft p b w a k * w) % p
theorem lfS_dvd {p : Nat} {b w x : Int} (h : (p : Int) ∣ b * w - 1) : (p : Int) ∣ x - ((x * w) % p) * b := by
  have a1 : (p : Int) ∣ ((x * w) % p) * b - x * w * b := by rw [← Int.sub_mul]; exact Int.dvd_mul_of_dvd_left (dv_emod p _)
  have a2 : (p : Int) ∣ x * w * b - x := by
    rw [show x * w * b - x = x * (b * w - 1) by rw [Int.mul_sub, Int.mul_one, Int.mul_assoc, Int.mul_comm w b]]
    exact Int.dvd_mul_of_dvd_right h
  exact dv_symm (dv_trans a1 a2)
theorem lfS_eq {p : Nat} {b w x : Int} (h : (p : Int) ∣ b * w - 1) : (p : Int) * lfS p b w x = x - ((x * w) % p) * b := by
  unfold lfS
  exact Int.mul_ediv_cancel' (lfS_dvd h)
theorem lfS_ab {p : Nat} (hp : 2 ≤ p) {b w x : Int} (h : (p : Int) ∣ b * w - 1) {Q : Nat} (hb : b.natAbs ≤ Q) (hx : x.natAbs ≤ Q) : (lfS p b w x).natAbs ≤ Q := by
  have e := lfS_eq (x := x) h
  have hr := rp_mod (show 0 < p by omega) (x * w)
  generalize lfS p b w x = y at e
  generalize (x * w) % (p : Int) = d at e hr
  have h1 : (d * b).natAbs ≤ (p - 1) * Q := by
    rw [Int.natAbs_mul]
    exact Nat.mul_le_mul (by have h1 := hr.1; have h2 := hr.2; omega) hb
  have h2 : (x - d * b).natAbs ≤ p * Q := by
    have h3 : (p - 1) * Q + Q = p * Q := by
      conv => rhs; rw [show p = (p - 1) + 1 by omega]
      rw [Nat.add_mul, Nat.one_mul]
    omega
  rw [← e, Int.natAbs_mul] at h2
  exact Nat.le_of_mul_le_mul_left h2 (by omega)
theorem lft_ab {p : Nat} (hp : 2 ≤ p) {b w a : Int} (h : (p : Int) ∣ b * w - 1) {Q : Nat} (hb : b.natAbs ≤ Q) (ha : a.natAbs ≤ Q) : ∀ k, (lft p b w a k).natAbs ≤ Q := by
  intro k
  induction k with
  | zero => exact ha
  | succ k ih => exact lfS_ab hp h hb ih
/-- one solution, its parts by b, and what leads them back by the prime -/
def Sy (p : Nat) (A : Nat → Nat → Int) (n : Nat) (s : Int) (a b c w : Nat → Int) : Prop :=
  (∀ j, j < n → c j * b j = s ∧ (p : Int) ∣ b j * w j - 1 ∧ 1 ≤ b j ∧ (b j).natAbs ≤ 2305430424 ∧ (a j).natAbs ≤ 2305430424) ∧ (∀ i, i < n → s * A i 4 = sumN (fun j => A i j * (a j * c j)) n) ∧ ¬ (p : Int) ∣ s
/-- the rests stand by what is left of the solution -/
def Rs (A : Nat → Nat → Int) (n : Nat) (s : Int) (c x r : Nat → Int) : Prop := ∀ i, i < n → s * r i = sumN (fun j => A i j * (x j * c j)) n
def dC (p n : Nat) (X : Nat → Nat → Int) (r : Nat → Int) (j : Nat) : Int := sumN (fun i => X j (5 + i) * r i) n % p
def rN (p : Nat) (A : Nat → Nat → Int) (n : Nat) (d r : Nat → Int) (i : Nat) : Int := (r i - sumN (fun j => A i j * d j) n) / p
theorem dC_dvd {p : Nat} (hp : Pm p) {A : Nat → Nat → Int} (hE : Ext A) {n : Nat} {σ l : Nat → Nat} {X : Nat → Nat → Int} (h : InR p A n n n σ l X) (r : Nat → Int) {ρ : Nat} (hρ : ρ < n) : (p : Int) ∣ sumN (fun j => A ρ j * dC p n X r j) n - r ρ := by
  have hn := h.1.2.2.2
  have a1 : (p : Int) ∣ sumN (fun j => A ρ j * dC p n X r j) n - sumN (fun j => A ρ j * sumN (fun i => X j (5 + i) * r i) n) n := sumN_dv (fun j hj => by
    rw [← Int.mul_sub]; exact Int.dvd_mul_of_dvd_right (dv_emod p _))
  have e1 : sumN (fun j => A ρ j * sumN (fun i => X j (5 + i) * r i) n) n = sumN (fun i => r i * sumN (fun j => X j (5 + i) * A ρ j) n) n := by
    rw [sumN_congr (g := fun j => sumN (fun i => r i * (X j (5 + i) * A ρ j)) n) (fun j hj => by
      rw [← sumN_mul]; exact sumN_congr (fun i hi => by grind)), sumN_comm]
    exact sumN_congr (fun i hi => sumN_mul _ _ _)
  have a2 : (p : Int) ∣ sumN (fun i => r i * A ρ (5 + i)) n - sumN (fun i => r i * sumN (fun j => X j (5 + i) * A ρ j) n) n := sumN_dv (fun i hi => by
    rw [← Int.mul_sub]; exact Int.dvd_mul_of_dvd_right (LinRn hp h (by omega) hρ))
  have e2 : sumN (fun i => r i * A ρ (5 + i)) n = r ρ := by
    rw [sumN_congr (g := fun i => if i = ρ then r i else 0) (fun i hi => by
      rw [hE ρ (5 + i) (by omega) (by omega) (by omega)]
      by_cases e : i = ρ
      · rw [if_pos (by omega), if_pos e, Int.mul_one]
      · rw [if_neg (by omega), if_neg e, Int.mul_zero])]
    exact sumN_delta r hρ
  rw [e2] at a2
  rw [e1] at a1
  exact dv_trans a1 (dv_symm a2)
theorem uniq {p : Nat} (hp : Pm p) {A : Nat → Nat → Int} {n : Nat} (hn : n ≤ 4) (hD : ¬ (p : Int) ∣ Dt A n) {y : Nat → Int} (h : ∀ ρ, ρ < n → (p : Int) ∣ sumN (fun j => A ρ j * y j) n) {j : Nat} (hj : j < n) : (p : Int) ∣ y j := by
  have q := colR (q := (p : Int)) (A := A) (R := fun i => i) (C := fun i => i) (y := y) (s := 0) (c := 0) (k := n) (r := j) hn hj (fun t ht => by omega) (fun ρ hρ => by
    rw [Int.zero_mul, Int.zero_sub, Int.dvd_neg, sumN_congr (g := fun j => A ρ j * y j) (fun t _ => Int.mul_comm _ _)]
    exact h ρ hρ)
  rw [Int.zero_mul, Int.zero_sub, Int.dvd_neg, Dm_id A hn] at q
  exact ((Pm_q hp).1 _ _ q).resolve_right hD
/-- the class's digits are those of what is left of the solution -/
theorem dig_eq {p : Nat} (hp : Pm p) {A : Nat → Nat → Int} (hE : Ext A) {n : Nat} {σ l : Nat → Nat} {X : Nat → Nat → Int} (h : InR p A n n n σ l X) (hD : ¬ (p : Int) ∣ Dt A n) {s : Int} {a b c w : Nat → Int} (hS : Sy p A n s a b c w) {x r : Nat → Int} (hR : Rs A n s c x r) {j : Nat} (hj : j < n) : dC p n X r j = (x j * w j) % p := by
  have hp0 : 0 < p := by have := hp.1; omega
  refine rp_eq (rp_mod hp0 _) (rp_mod hp0 _) ?_
  refine uniq hp h.1.2.2.2 hD (y := fun j => dC p n X r j - (x j * w j) % p) (fun ρ hρ => ?_) hj
  have e : sumN (fun j => A ρ j * (dC p n X r j - (x j * w j) % p)) n = sumN (fun j => A ρ j * dC p n X r j) n - sumN (fun j => A ρ j * ((x j * w j) % p)) n := by
    rw [← sumN_sub]; exact sumN_congr (fun j _ => Int.mul_sub _ _ _)
  rw [e]
  refine dv_trans (dC_dvd hp hE h r hρ) (dv_symm ?_)
  have a1 : (p : Int) ∣ s * sumN (fun j => A ρ j * ((x j * w j) % p)) n - sumN (fun j => A ρ j * (x j * c j)) n := by
    rw [← sumN_mul]
    refine sumN_dv (fun j hj => ?_)
    obtain ⟨c1, c2, -⟩ := hS.1 j hj
    have := lfS_dvd (x := x j) c2
    rw [show s * (A ρ j * ((x j * w j) % p)) - A ρ j * (x j * c j) = -(A ρ j * c j * (x j - ((x j * w j) % p) * b j)) by rw [← c1]; grind]
    exact Int.dvd_neg.mpr (Int.dvd_mul_of_dvd_right this)
  rw [← hR ρ hρ, ← Int.mul_sub] at a1
  exact ((Pm_q hp).1 _ _ a1).resolve_left hS.2.2
theorem Rs_step {p : Nat} (hp : Pm p) {A : Nat → Nat → Int} (hE : Ext A) {n : Nat} {σ l : Nat → Nat} {X : Nat → Nat → Int} (h : InR p A n n n σ l X) (hD : ¬ (p : Int) ∣ Dt A n) {s : Int} {a b c w : Nat → Int} (hS : Sy p A n s a b c w) {x r : Nat → Int} (hR : Rs A n s c x r) :
    (∀ i, i < n → (p : Int) ∣ r i - sumN (fun j => A i j * dC p n X r j) n) ∧ Rs A n s c (fun j => lfS p (b j) (w j) (x j)) (rN p A n (dC p n X r) r) := by
  have hp0 : 0 < p := by have := hp.1; omega
  have d : ∀ i, i < n → (p : Int) ∣ r i - sumN (fun j => A i j * dC p n X r j) n := fun i hi => dv_symm (dC_dvd hp hE h r hi)
  refine ⟨d, fun i hi => ?_⟩
  have e1 : (p : Int) * rN p A n (dC p n X r) r i = r i - sumN (fun j => A i j * dC p n X r j) n := Int.mul_ediv_cancel' (d i hi)
  apply Int.eq_of_mul_eq_mul_left (a := (p : Int)) (by omega)
  rw [show (p : Int) * (s * rN p A n (dC p n X r) r i) = s * ((p : Int) * rN p A n (dC p n X r) r i) by grind, e1, Int.mul_sub, hR i hi, ← sumN_mul, ← sumN_mul, ← sumN_sub]
  refine sumN_congr (fun j hj => ?_)
  obtain ⟨c1, c2, -⟩ := hS.1 j hj
  have e2 := lfS_eq (x := x j) c2
  rw [dig_eq hp hE h hD hS hR hj, ← c1]
  rw [show (p : Int) * (A i j * (lfS p (b j) (w j) (x j) * c j)) = A i j * c j * ((p : Int) * lfS p (b j) (w j) (x j)) by grind, e2]
  grind
/-- rests and digits behind so many steps -/
def rsK (p : Nat) (A : Nat → Nat → Int) (n : Nat) (X : Nat → Nat → Int) : Nat → Nat → Int
  | 0 => fun i => A i 4
  | k + 1 => rN p A n (dC p n X (rsK p A n X k)) (rsK p A n X k)
theorem rsK_R {p : Nat} (hp : Pm p) {A : Nat → Nat → Int} (hE : Ext A) {n : Nat} {σ l : Nat → Nat} {X : Nat → Nat → Int} (h : InR p A n n n σ l X) (hD : ¬ (p : Int) ∣ Dt A n) {s : Int} {a b c w : Nat → Int} (hS : Sy p A n s a b c w) : ∀ k, Rs A n s c (fun j => lft p (b j) (w j) (a j) k) (rsK p A n X k) := by
  intro k
  induction k with
  | zero => exact hS.2.1
  | succ k ih => exact (Rs_step hp hE h hD hS ih).2
theorem dgK {p : Nat} (hp : Pm p) {A : Nat → Nat → Int} (hE : Ext A) {n : Nat} {σ l : Nat → Nat} {X : Nat → Nat → Int} (h : InR p A n n n σ l X) (hD : ¬ (p : Int) ∣ Dt A n) {s : Int} {a b c w : Nat → Int} (hS : Sy p A n s a b c w) (k : Nat) {j : Nat} (hj : j < n) : dC p n X (rsK p A n X k) j = dgt p (b j) (w j) (a j) k := dig_eq hp hE h hD hS (rsK_R hp hE h hD hS k) hj
theorem sumN_ab {f : Nat → Int} {k : Nat} {B : Nat} (h : ∀ t, t < k → (f t).natAbs ≤ B) : (sumN f k).natAbs ≤ k * B := by
  induction k with
  | zero => simp [sumN]
  | succ k ih =>
    have h1 := ih (fun t ht => h t (by omega))
    have h2 := h k (by omega)
    rw [sumN, Nat.add_mul, Nat.one_mul]
    omega
theorem rN_ab {p : Nat} (hp : Pm p) {A : Nat → Nat → Int} (hB : Bd A) {n : Nat} (hn : n ≤ 4) {d r : Nat → Int} (hd : ∀ j, j < n → rp p (d j)) {i : Nat} (hi : i < n) (hdv : (p : Int) ∣ r i - sumN (fun j => A i j * d j) n) (hr : (r i).natAbs ≤ 50000) : (rN p A n d r i).natAbs ≤ 50000 ∧ (sumN (fun j => A i j * d j) n).natAbs ≤ 40000 := by
  have hp1 := hp.1
  have h1 : (sumN (fun j => A i j * d j) n).natAbs ≤ n * 9603 := sumN_ab (fun j hj => by
    have h2 := hB i j (by omega) (by omega)
    have h3 := (hd j hj).1
    have h4 := (hd j hj).2
    have := ab_mul (a := 99) (b := 97) (x := A i j) (y := d j) (by omega) (by omega)
    omega)
  have h2 : n * 9603 ≤ 4 * 9603 := Nat.mul_le_mul_right _ hn
  refine ⟨?_, by omega⟩
  have e1 : (p : Int) * rN p A n d r i = r i - sumN (fun j => A i j * d j) n := Int.mul_ediv_cancel' hdv
  have e2 : ((p : Int) * rN p A n d r i).natAbs ≤ 100000 := by rw [e1]; omega
  rw [Int.natAbs_mul] at e2
  have e3 : 2 * (rN p A n d r i).natAbs ≤ (p : Int).natAbs * (rN p A n d r i).natAbs := Nat.mul_le_mul_right _ (by omega)
  omega
theorem rsK_ab {p : Nat} (hp : Pm p) {A : Nat → Nat → Int} (hB : Bd A) (hE : Ext A) {n : Nat} {σ l : Nat → Nat} {X : Nat → Nat → Int} (h : InR p A n n n σ l X) : ∀ k i, i < n → (rsK p A n X k i).natAbs ≤ 50000 := by
  intro k
  induction k with
  | zero => intro i hi; have := h.1.2.2.2; have := hB i 4 (by omega) (by omega); show (A i 4).natAbs ≤ _; omega
  | succ k ih =>
    intro i hi
    exact (rN_ab hp hB h.1.2.2.2 (d := dC p n X (rsK p A n X k)) (fun j _ => rp_mod (by have := hp.1; omega) _) hi (dv_symm (dC_dvd hp hE h _ hi)) (ih i hi)).1
