/-! ===== Euclid's remainders and their factors ===== -/
def Eu (M : Nat) (a : Int) (y x v' v : Nat) (ε : Int) : Prop := (ε = 1 ∨ ε = -1) ∧ (x < y ∧ y ≤ M ∧ 1 ≤ v ∧ v' ≤ v) ∧ v * y + v' * x = M ∧ (M : Int) ∣ a * v - ε * x ∧ (M : Int) ∣ a * v' + ε * y
theorem Eu_q {M : Nat} {a : Int} {y x v' v : Nat} {ε : Int} (h : Eu M a y x v' v ε) (hx : 0 < x) : 1 ≤ y / x := Nat.div_pos (by have := h.2.1.1; omega) hx
theorem Eu_step {M : Nat} {a : Int} {y x v' v : Nat} {ε : Int} (h : Eu M a y x v' v ε) (hx : 0 < x) : Eu M a x (y % x) v (y / x * v + v') (-ε) := by
  have hq := Eu_q h hx
  obtain ⟨h1, ⟨h2, h3, h4, h5⟩, h6, h7, h8⟩ := h
  have hqv : v ≤ y / x * v := Nat.le_mul_of_pos_left v hq
  have e := Nat.div_add_mod y x
  have ei : (y : Int) = x * (y / x : Nat) + (y % x : Nat) := by rw [← Int.natCast_mul, ← Int.natCast_add, e]
  refine ⟨by omega, ⟨Nat.mod_lt _ hx, by omega, by omega, by omega⟩, ?_, ?_, ?_⟩
  · have : (y / x * v + v') * x + v * (y % x) = v * (x * (y / x) + y % x) + v' * x := by
      generalize y / x = q
      generalize y % x = r
      grind
    rw [this, e]; exact h6
  · rw [Int.natCast_add, Int.natCast_mul, show a * (((y / x : Nat) : Int) * (v : Int) + (v' : Int)) - -ε * ((y % x : Nat) : Int) = ((y / x : Nat) : Int) * (a * v - ε * x) + (a * v' + ε * y) by
      rw [ei]
      generalize ((y / x : Nat) : Int) = q
      generalize ((y % x : Nat) : Int) = r
      grind]
    exact Int.dvd_add (Int.dvd_mul_of_dvd_right h7) h8
  · rw [show a * (v : Int) + -ε * (x : Int) = a * v - ε * x by rw [Int.neg_mul]; omega]
    exact h7
theorem Eu_v {M : Nat} {a : Int} {y x v' v : Nat} {ε : Int} (h : Eu M a y x v' v ε) : v ≤ M ∧ v' ≤ M ∧ x < M := by
  obtain ⟨h1, ⟨h2, h3, h4, h5⟩, h6, h7, h8⟩ := h
  have : v ≤ v * y := Nat.le_mul_of_pos_right v (by omega)
  exact ⟨by omega, by omega, by omega⟩
def euF (T : Nat) : Nat → Nat → Nat → Nat → Nat → Int → Nat × Nat × Int
  | 0, _, x, _, v, ε => (x, v, ε)
  | f + 1, y, x, v', v, ε => if x ≤ T then (x, v, ε) else euF T f x (y % x) v (y / x * v + v') (-ε)
theorem eu_end {T x : Nat} (h : x ≤ T) (f y v' v : Nat) (ε : Int) : euF T f y x v' v ε = (x, v, ε) := by
  cases f with
  | zero => rfl
  | succ f => rw [euF, if_pos h]
theorem eu_next {T x : Nat} (h : ¬ x ≤ T) (f y v' v : Nat) (ε : Int) : euF T (f + 1) y x v' v ε = euF T f x (y % x) v (y / x * v + v') (-ε) := by rw [euF, if_neg h]
theorem eu_inv {M : Nat} {a : Int} {T : Nat} : ∀ (f y x v' v : Nat) (ε : Int), Eu M a y x v' v ε → T < y → ∃ y2 v2', Eu M a y2 (euF T f y x v' v ε).1 v2' (euF T f y x v' v ε).2.1 (euF T f y x v' v ε).2.2 ∧ T < y2 ∧ v ≤ (euF T f y x v' v ε).2.1 := by
  intro f
  induction f with
  | zero => intro y x v' v ε h hT; exact ⟨y, v', h, hT, Nat.le_refl _⟩
  | succ f ih =>
    intro y x v' v ε h hT
    by_cases c : x ≤ T
    · rw [eu_end c]; exact ⟨y, v', h, hT, Nat.le_refl _⟩
    · rw [eu_next c]
      have hs := Eu_step h (by omega)
      obtain ⟨y2, v2', e1, e2, e3⟩ := ih x (y % x) v (y / x * v + v') (-ε) hs (by omega)
      exact ⟨y2, v2', e1, e2, Nat.le_trans hs.2.1.2.2.2 e3⟩
theorem eu_fin {T : Nat} : ∀ (k f y x v' v : Nat) (ε : Int), x < 2 ^ k → 2 * k + 1 ≤ f → x < y → (euF T f y x v' v ε).1 ≤ T := by
  intro k
  induction k with
  | zero =>
    intro f y x v' v ε hx hf hy
    have : x = 0 := by simpa using hx
    rw [eu_end (by omega)]; show x ≤ T; omega
  | succ k ih =>
    intro f y x v' v ε hx hf hy
    by_cases c : x ≤ T
    · rw [eu_end c]; exact c
    · obtain ⟨f, rfl⟩ : ∃ g, f = g + 1 := ⟨f - 1, by omega⟩
      rw [eu_next c]
      by_cases c2 : y % x ≤ T
      · rw [eu_end c2]; exact c2
      · obtain ⟨f, rfl⟩ : ∃ g, f = g + 1 := ⟨f - 1, by omega⟩
        rw [eu_next c2]
        have hlt : y % x < x := Nat.mod_lt _ (by omega)
        have h2 : 2 * (x % (y % x)) < x := by
          have h3 : x % (y % x) < y % x := Nat.mod_lt _ (by omega)
          have h4 := Nat.div_add_mod x (y % x)
          have h5 : 1 ≤ x / (y % x) := Nat.div_pos (by omega) (by omega)
          have h6 : y % x ≤ (y % x) * (x / (y % x)) := Nat.le_mul_of_pos_right _ h5
          omega
        exact ih f (y % x) (x % (y % x)) _ _ _ (by rw [Nat.pow_succ] at hx; omega) (by omega) (Nat.mod_lt _ (by omega))
/-! ===== the class's guess ===== -/
theorem mod_z (y x : Nat) : (y : Int) - ((y / x : Nat) : Int) * (x : Int) = ((y % x : Nat) : Int) := by
  have := Nat.div_add_mod y x
  have e : (y : Int) = x * (y / x : Nat) + (y % x : Nat) := by rw [← Int.natCast_mul, ← Int.natCast_add, this]
  have e2 : (x : Int) * ((y / x : Nat) : Int) = ((y / x : Nat) : Int) * (x : Int) := Int.mul_comm _ _
  omega
theorem seek_eq {M : Nat} (hM : M ≤ 2000000000000000000) {a : Int} {T : Nat} (hT : T < M) (x5 : Int32) : ∀ (f y x v' v : Nat) (ε : Int) (fu st : Nat), st + f = 200 → f < fu → Eu M a y x v' v ε → L_X4_seek_21 x5 (zJ (T : Int)) fu (zJ (y : Int)) (zJ (x : Int)) (zJ (-ε * v')) (zJ (ε * v)) (nI st) = some (zJ ((euF T f y x v' v ε).1 : Int), zJ ((euF T f y x v' v ε).2.2 * ((euF T f y x v' v ε).2.1 : Int))) := by
  intro f
  induction f with
  | zero =>
    intro y x v' v ε fu st hst hfu h
    obtain ⟨fu, rfl⟩ : ∃ g, fu = g + 1 := ⟨fu - 1, by omega⟩
    rw [L_X4_seek_21, if_pos (show (200 : Int32) ≤ nI st from nI_le (a := 200) (by omega) (by omega))]
    rfl
  | succ f ih =>
    intro y x v' v ε fu st hst hfu h
    obtain ⟨fu, rfl⟩ : ∃ g, fu = g + 1 := ⟨fu - 1, by omega⟩
    obtain ⟨v1, v2, v3⟩ := Eu_v h
    have hy := h.2.1.2.1
    rw [L_X4_seek_21, if_neg (show ¬ (200 : Int32) ≤ nI st from nI_ge (b := 200) (by omega) (by omega))]
    have e : zJ (x : Int) ≤ zJ (T : Int) ↔ x ≤ T := by
      rw [zJ_le (rJ_sm (sm_nat (by omega))) (rJ_sm (sm_nat (by omega)))]; omega
    by_cases c : x ≤ T
    · rw [if_pos (e.mpr c), eu_end c]
    · rw [if_neg (fun z => c (e.mp z)), eu_next c]
      refine kb1_of (quotient_ok (sm_nat (by omega)) (sm_nat (by omega))) ?_
      rw [tdiv_nat, zJ_mul, zJ_mul, zJ_sub, zJ_sub, nI_1, mod_z]
      have := ih x (y % x) v (y / x * v + v') (-ε) fu (st + 1) (by omega) (by omega) (Eu_step h (by omega))
      rw [show -(-ε) * (v : Int) = ε * v by rw [Int.neg_neg], show -ε * ((y / x * v + v' : Nat) : Int) = -ε * (v' : Int) - ((y / x : Nat) : Int) * (ε * (v : Int)) by
        rw [Int.natCast_add, Int.natCast_mul]
        generalize ((y / x : Nat) : Int) = q
        grind] at this
      exact this
/-- what a guess comes to: from M and a -/
def euR (M A : Nat) : Nat × Nat × Int := euF (Tb M) 200 M A 0 1 1
theorem Eu_0 {M A : Nat} (h : A < M) : Eu M (A : Int) M A 0 1 1 := by
  refine ⟨Or.inl rfl, ⟨h, Nat.le_refl _, Nat.le_refl _, by omega⟩, by omega, ?_, ?_⟩
  · simp
  · simp
theorem Tb_lt {M : Nat} (h0 : 0 < M) (hM : M ≤ 2000000000000000000) : Tb M < M := by
  have := (Tb_spec h0 hM).1
  by_cases c : Tb M = 0
  · omega
  · have : Tb M ≤ 2 * Tb M * Tb M := Nat.le_mul_of_pos_left (Tb M) (by omega)
    omega
theorem euR_spec {M A : Nat} (h : A < M) (hM : M ≤ 2000000000000000000) : ∃ y v', Eu M (A : Int) y (euR M A).1 v' (euR M A).2.1 (euR M A).2.2 ∧ Tb M < y ∧ (euR M A).1 ≤ Tb M := by
  obtain ⟨y, v', e1, e2, e3⟩ := eu_inv (T := Tb M) 200 M A 0 1 1 (Eu_0 h) (Tb_lt (by omega) hM)
  exact ⟨y, v', e1, e2, eu_fin 61 200 M A 0 1 1 (Nat.lt_of_lt_of_le h (Nat.le_trans hM (by decide))) (by omega) h⟩
/-- is there a guess -/
def gF (p M A : Nat) : Bool := decide ((euR M A).2.1 ≤ Tb M ∧ ¬ (p ∣ (euR M A).2.1))
def gA (M A : Nat) : Int := (euR M A).2.2 * ((euR M A).1 : Int)
def gB (M A : Nat) : Nat := (euR M A).2.1
theorem seek_ok {F : Nat} (hF : 300 ≤ F) {p M A : Nat} (hp : Pm p) (h : A < M) (hM : M ≤ 2000000000000000000) (f0 : Int32) (a0 b0 : Int64) : f_X4_seek F f0 a0 b0 (zJ (A : Int)) (zJ (M : Int)) (nI p) = some (if gF p M A = true then 1 else 0, zJ (gA M A), zJ ((gB M A : Nat) : Int)) := by
  have hp1 := hp.1
  have hTl := Tb_lt (show 0 < M by omega) hM
  obtain ⟨y, v', hE, hy, hx⟩ := euR_spec h hM
  obtain ⟨v1, v2, v3⟩ := Eu_v hE
  have e0 : L_X4_seek_21 (nI p) (zJ ((Tb M : Nat) : Int)) F (zJ (M : Int)) (zJ (A : Int)) (0 : Int64) (1 : Int64) (0 : Int32) = some (zJ ((euR M A).1 : Int), zJ ((euR M A).2.2 * ((euR M A).2.1 : Int))) := by
    have := seek_eq hM hTl (nI p) 200 M A 0 1 1 F 0 (by omega) (by omega) (Eu_0 h)
    exact this
  have hv := hE.2.1.2.2.1
  have hε := hE.1
  unfold f_X4_seek
  refine kb1_of (boundOf_ok (by omega) hM) ?_
  refine kb2_of e0 ?_
  have key : ∀ t12 : Int64, t12 = zJ (gA M A) → (kl (if 0 < zJ ((euR M A).2.2 * ((euR M A).2.1 : Int)) then zJ ((euR M A).2.2 * ((euR M A).2.1 : Int)) else -zJ ((euR M A).2.2 * ((euR M A).2.1 : Int))) fun t14 => (if zJ ((Tb M : Nat) : Int) < t14 then some ((0 : Int32), t12, t14) else kb1 (f_X11_leftOver t14 (nI p)) fun r16 => (if r16 = 0 then some ((0 : Int32), t12, t14) else some ((1 : Int32), t12, t14)))) = some (if gF p M A = true then 1 else 0, zJ (gA M A), zJ ((gB M A : Nat) : Int)) := by
    intro t12 ht
    have hab : ((euR M A).2.2 * ((euR M A).2.1 : Int)).natAbs = (euR M A).2.1 := by
      rcases hε with e | e <;> rw [e] <;> omega
    refine kl_of (abs_lt (show sm ((euR M A).2.2 * ((euR M A).2.1 : Int)) by unfold sm; rw [hab]; omega)) ?_
    rw [hab, ht]
    have e1 : zJ ((Tb M : Nat) : Int) < zJ (((euR M A).2.1 : Nat) : Int) ↔ Tb M < (euR M A).2.1 := by
      rw [zJ_lt (rJ_sm (sm_nat (by omega))) (rJ_sm (sm_nat (by omega)))]; omega
    unfold gF gB
    by_cases c : Tb M < (euR M A).2.1
    · rw [if_pos (e1.mpr c), if_neg (by rw [decide_eq_true_iff]; omega)]
    · rw [if_neg (fun z => c (e1.mp z))]
      obtain ⟨z, q1, q2, -⟩ := lo_ok (a := (((euR M A).2.1 : Nat) : Int)) (sm_nat (by omega)) (show 0 < p by omega) hp1.2
      refine kb1_of q1 ?_
      have hr := rp_mod (show 0 < p by omega) (((euR M A).2.1 : Nat) : Int)
      have e2 : z = 0 ↔ p ∣ (euR M A).2.1 := by
        rw [q2, show (0 : Int32) = zI 0 from rfl, zI_eq ⟨by have := hr.1; omega, by have := hr.2; omega⟩ ⟨by omega, by omega⟩, ← Int.natCast_emod, Nat.dvd_iff_mod_eq_zero]
        omega
      by_cases c2 : p ∣ (euR M A).2.1
      · rw [if_pos (e2.mpr c2), if_neg (by rw [decide_eq_true_iff]; exact fun z => z.2 c2)]
      · rw [if_neg (fun z => c2 (e2.mp z)), if_pos (by rw [decide_eq_true_iff]; exact ⟨by omega, c2⟩)]
  show (if (0 : Int64) ≤ zJ ((euR M A).2.2 * ((euR M A).2.1 : Int)) then _ else _) = _
  have e3 : (0 : Int64) ≤ zJ ((euR M A).2.2 * ((euR M A).2.1 : Int)) ↔ (euR M A).2.2 = 1 := by
    rw [show (0 : Int64) = zJ 0 from rfl, zJ_le ⟨by omega, by omega⟩ (rJ_sm (by unfold sm; rcases hε with e | e <;> rw [e] <;> omega))]
    rcases hε with e | e <;> rw [e] <;> omega
  rcases hε with e | e
  · rw [if_pos (e3.mpr e)]
    exact key _ (by unfold gA; rw [e, Int.one_mul])
  · rw [if_neg (fun z => by have := e3.mp z; omega)]
    exact key _ (by unfold gA; rw [e, zJ_neg, Int.neg_mul, Int.one_mul])
