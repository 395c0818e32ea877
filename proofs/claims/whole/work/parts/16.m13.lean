/-! ===== the class's clearing of its equations ===== -/
/-- the class's numbers: the table and the side -/
def Nc (nums : Nat → Int32) (A : Nat → Nat → Int) : Prop := (∀ i j, i < 4 → j < 5 → nums (5 * i + j) = zI (A i j)) ∧ Bd A
theorem number_ok {nums : Nat → Int32} {A : Nat → Nat → Int} (h : Nc nums A) {i j : Nat} (hi : i < 4) (hj : j < 5) : f_X3_number nums (nI i) (nI j) = some (zI (A i j)) := by
  unfold f_X3_number
  have e : nI i * (5 : Int32) + nI j = nI (5 * i + j) := by
    rw [show (5 : Int32) = nI 5 from rfl, pk_mul, nI_add, Nat.mul_comm i 5]
  rw [e, if_pos (kin_nI (by decide) (by omega)), nI_clamp (by omega), h.1 i j hi hj]
theorem cl_row {nums : Nat → Int32} {A : Nat → Nat → Int} (h : Nc nums A) {i : Nat} (hi : i < 4) :
    ∀ (d c fu : Nat) (v : Nat → Nat → Int64) (X : Nat → Nat → Int), c + d = 5 → d < fu → Mt 5 v X →
      ∃ v', L_X1_clear_22 (nI i) nums fu (nI c) v = some v' ∧ Mt 5 v' (fun a b => if a = i ∧ c ≤ b then A a b else X a b) := by
  intro d
  induction d with
  | zero =>
    intro c fu v X hc hfu hM
    obtain ⟨fu, rfl⟩ : ∃ g, fu = g + 1 := ⟨fu - 1, by omega⟩
    refine ⟨v, ?_, Mt_congr hM (fun a b ha hb => by rw [if_neg (by omega)])⟩
    rw [L_X1_clear_22, if_pos (show (5 : Int32) ≤ nI c from nI_le (a := 5) (by omega) (by omega))]
  | succ d ih =>
    intro c fu v X hc hfu hM
    obtain ⟨fu, rfl⟩ : ∃ g, fu = g + 1 := ⟨fu - 1, by omega⟩
    obtain ⟨v', e1, e2⟩ := ih (c + 1) fu _ _ (by omega) (by omega) (Mt_set hM i c (A i c))
    have hb := h.2 i c hi (by omega)
    refine ⟨v', ?_, Mt_congr e2 (fun a b ha hb2 => ?_)⟩
    · rw [L_X1_clear_22, if_neg (show ¬ (5 : Int32) ≤ nI c from nI_ge (b := 5) (by omega) (by omega)), if_pos (kin_nI (by decide) hi), number_ok h hi (by omega)]
      simp only [kb1, Option.bind_some]
      rw [if_pos (kin_nI (by decide) (by omega)), nI_clamp (n := i) (by omega), nI_clamp (n := c) (by omega), zI_J ⟨by omega, by omega⟩, nI_1]
      exact e1
    · by_cases a1 : a = i
      · by_cases b1 : c + 1 ≤ b
        · rw [if_pos ⟨a1, b1⟩, if_pos ⟨a1, by omega⟩]
        · by_cases b2 : b = c
          · subst a1 b2; rw [if_neg (by omega), if_pos (by simp), if_pos (by simp)]
          · rw [if_neg (by omega), if_neg (by omega), if_neg (by omega)]
      · rw [if_neg (by omega), if_neg (by omega), if_neg (by omega)]
theorem cl_rows {F : Nat} (hF : 100 ≤ F) {nums : Nat → Int32} {A : Nat → Nat → Int} (h : Nc nums A) :
    ∀ (d i fu : Nat) (v : Nat → Nat → Int64), i + d = 4 → d < fu → (∀ a b, a < i → b < 5 → v a b = zJ (A a b)) →
      ∃ v', L_X1_clear_15 F nums fu (nI i) v = some v' ∧ Mt 5 v' A := by
  intro d
  induction d with
  | zero =>
    intro i fu v hi hfu hM
    obtain ⟨fu, rfl⟩ : ∃ g, fu = g + 1 := ⟨fu - 1, by omega⟩
    refine ⟨v, ?_, fun a b ha hb => hM a b (by omega) hb⟩
    rw [L_X1_clear_15, if_pos (show (4 : Int32) ≤ nI i from nI_le (a := 4) (by omega) (by omega))]
  | succ d ih =>
    intro i fu v hi hfu hM
    obtain ⟨fu, rfl⟩ : ∃ g, fu = g + 1 := ⟨fu - 1, by omega⟩
    obtain ⟨X, hX⟩ : ∃ X, Mt 5 v X := ⟨fun a b => (v a b).toInt, fun a b _ _ => by
      obtain ⟨z, hz, e⟩ := zJ_of (v a b)
      show v a b = zJ (v a b).toInt
      rw [e, zJ_toInt hz]⟩
    obtain ⟨v1, e1, e2⟩ := cl_row h (by omega : i < 4) 5 0 F v X (by omega) (by omega) hX
    rw [L_X1_clear_15, if_neg (show ¬ (4 : Int32) ≤ nI i from nI_ge (b := 4) (by omega) (by omega)), show (0 : Int32) = nI 0 from rfl, e1]
    simp only [kb1, Option.bind_some, kl, nI_1]
    refine ih (i + 1) fu v1 (by omega) (by omega) (fun a b ha hb => ?_)
    have q := e2 a b (by omega) hb
    by_cases c : a = i
    · simpa [c] using q
    · have q2 : v1 a b = zJ (X a b) := by simpa [c] using q
      rw [q2, ← hX a b (by omega) hb]
      exact hM a b (by omega) hb
/-- what the class's clearing leaves: k leading columns l, rows σ, numbers X, scale s -/
def Cl (A : Nat → Nat → Int) (n k ex : Nat) (σ l : Nat → Nat) (X : Nat → Nat → Int) (s : Int) (v : Nat → Nat → Int64) (ld : Nat → Int32) : Prop :=
  Inv A n n k σ l X s ∧ Mt 5 v X ∧ (∀ i, i < k → ld i = nI (l i)) ∧ ex ≤ n ∧ Sg A n σ ex
theorem clear_ok {F : Nat} (hF : 100 ≤ F) {nums : Nat → Int32} {A : Nat → Nat → Int} (h : Nc nums A) {n : Nat} (hn : n ≤ 4) (vn vr vex : Int32) (vs : Int64) (v : Nat → Nat → Int64) (ld : Nat → Int32) :
    ∃ k ex σ l X s v' ld', f_X1_clear F vn vr vex (5 : Int32) vs v ld (nI n) nums = some (nI n, nI k, nI ex, zJ s, v', ld') ∧ Cl A n k ex σ l X s v' ld' := by
  obtain ⟨v1, e1, e2⟩ := cl_rows hF h 4 0 F v (by omega) (by omega) (fun a b ha => by omega)
  obtain ⟨k, ex, σ, l, X, s, v', ld', f1, f2, f3, f4, f5, f6⟩ := cols_loop hF h.2 hn n 0 F 0 0 (fun i => i) (fun i => i) A 1 v1 ld (by omega) (by omega)
    ⟨⟨by omega, by omega, by omega, hn⟩, ⟨fun i hi => hi, fun a b _ _ e => e⟩, ⟨fun i hi => by omega, fun a b _ hb => by omega⟩, ⟨rfl, by decide⟩, fun i c hi => by omega, fun i c _ _ _ => by simp [Dm, up], fun i c _ _ hc => by omega, fun _ _ _ _ _ => rfl, fun t c ht => by omega, fun u hu => by rw [show u = 0 by omega]; simp [Dm]⟩ e2 (fun i hi => by omega) (by omega) (fun C => by simp [sgn])
  refine ⟨k, ex, σ, l, X, s, v', ld', ?_, f2, f3, f4, f5, f6⟩
  unfold f_X1_clear f_X9_clearColumns_C
  rw [show (0 : Int32) = nI 0 from rfl, show (1 : Int64) = zJ 1 from rfl, e1]
  simp only [kb1, Option.bind_some]
  rw [f1]
  rfl
