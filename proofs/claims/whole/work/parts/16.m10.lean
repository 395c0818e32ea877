/-! ===== the class: rows exchanged, a row raised ===== -/
def swX (X : Nat → Nat → Int) (i k : Nat) : Nat → Nat → Int := fun a b => if a = i then X k b else if a = k then X i b else X a b
theorem ex_loop {i k : Nat} (hi : i < 4) (hk : k < 4) (hik : i ≠ k) {X0 : Nat → Nat → Int} :
    ∀ (d c fu : Nat) (v : Nat → Nat → Int64), c + d = 5 → d < fu → Mt 5 v (fun a b => if b < c then swX X0 i k a b else X0 a b) →
      ∃ v', L_X9_exchangeRows_C_2 (nI i) (nI k) (5 : Int32) fu (nI c) v = some v' ∧ Mt 5 v' (swX X0 i k) := by
  intro d
  induction d with
  | zero =>
    intro c fu v hc hfu hM
    obtain ⟨fu, rfl⟩ : ∃ g, fu = g + 1 := ⟨fu - 1, by omega⟩
    refine ⟨v, ?_, Mt_congr hM (fun a b ha hb => by rw [if_pos (by omega)])⟩
    rw [L_X9_exchangeRows_C_2, if_pos (show (5 : Int32) ≤ nI c from nI_le (a := 5) (by omega) (by omega))]
  | succ d ih =>
    intro c fu v hc hfu hM
    obtain ⟨fu, rfl⟩ : ∃ g, fu = g + 1 := ⟨fu - 1, by omega⟩
    have ki : kin (nI i) 4 := kin_nI (by decide) hi
    have kk : kin (nI k) 4 := kin_nI (by decide) hk
    have kc : kin (nI c) 5 := kin_nI (by decide) (by omega)
    have m1 : v i c = zJ (X0 i c) := by have := hM i c hi (by omega); simpa using this
    have m2 : v k c = zJ (X0 k c) := by have := hM k c hk (by omega); simpa using this
    have hM1 := Mt_set hM i c (X0 k c)
    have hM2 := Mt_set hM1 k c (X0 i c)
    obtain ⟨v', e1, e2⟩ := ih (c + 1) fu _ (by omega) (by omega) (Mt_congr hM2 (Y := fun a b => if b < c + 1 then swX X0 i k a b else X0 a b) (fun a b ha hb => by
      unfold swX
      by_cases b1 : b = c
      · subst b1
        by_cases a1 : a = k
        · subst a1; simp [Ne.symm hik]
        · by_cases a2 : a = i
          · subst a2; simp [hik]
          · simp [a1, a2]
      · by_cases b2 : b < c
        · simp [b1, b2, show b < c + 1 by omega]
        · simp [b1, b2, show ¬ b < c + 1 by omega]))
    refine ⟨v', ?_, e2⟩
    rw [L_X9_exchangeRows_C_2, if_neg (show ¬ (5 : Int32) ≤ nI c from nI_ge (b := 5) (by omega) (by omega)), if_pos ki, if_pos kc]
    simp only [kl]
    rw [if_pos ki, if_pos kk, if_pos kc, if_pos kc, if_pos kk, if_pos kc, nI_clamp (n := i) (by omega), nI_clamp (n := k) (by omega), nI_clamp (n := c) (by omega), nI_1, m1, m2]
    exact e1
theorem exchangeRows_ok {F : Nat} (hF : 100 ≤ F) {i k : Nat} (hi : i < 4) (hk : k < 4) (hik : i ≠ k) {v : Nat → Nat → Int64} {X : Nat → Nat → Int} (hM : Mt 5 v X) : ∃ v', f_X9_exchangeRows_C F (5 : Int32) v (nI i) (nI k) = some v' ∧ Mt 5 v' (swX X i k) := by
  obtain ⟨v', e1, e2⟩ := ex_loop hi hk hik (X0 := X) 5 0 F v (by omega) (by omega) (Mt_congr hM (fun a b ha hb => by rw [if_neg (by omega)]))
  refine ⟨v', ?_, e2⟩
  unfold f_X9_exchangeRows_C
  rw [show (0 : Int32) = nI 0 from rfl, e1]
  rfl
theorem raise_loop {n j : Nat} (hn : n ≤ 4) (hj : j < 5) {v : Nat → Nat → Int64} {X : Nat → Nat → Int} (hM : Mt 5 v X) (hsm : ∀ i c, i < 4 → c < 5 → sm (X i c)) :
    ∀ (d k fu : Nat), k + d = n → d < fu → ∃ y, L_X9_raise_C_5 (nI j) (nI n) v fu (nI k) = some (nI y) ∧ k ≤ y ∧ y ≤ n ∧ (∀ i, k ≤ i → i < y → X i j = 0) ∧ (y < n → X y j ≠ 0) := by
  intro d
  induction d with
  | zero =>
    intro k fu hk hfu
    obtain ⟨fu, rfl⟩ : ∃ g, fu = g + 1 := ⟨fu - 1, by omega⟩
    refine ⟨k, ?_, by omega, by omega, fun i a b => by omega, fun a => by omega⟩
    rw [L_X9_raise_C_5, if_pos (nI_le (by omega) (by omega))]
  | succ d ih =>
    intro k fu hk hfu
    obtain ⟨fu, rfl⟩ : ∃ g, fu = g + 1 := ⟨fu - 1, by omega⟩
    rw [L_X9_raise_C_5, if_neg (nI_ge (by omega) (by omega)), if_pos (kin_nI (by decide) (by omega)), if_pos (kin_nI (by decide) hj), nI_clamp (n := k) (by omega), nI_clamp (n := j) (by omega), hM k j (by omega) hj]
    have e : zJ (X k j) = (0 : Int64) ↔ X k j = 0 := by
      rw [show (0 : Int64) = zJ 0 from rfl, zJ_eq (rJ_sm (hsm k j (by omega) hj)) ⟨by omega, by omega⟩]
    by_cases c : X k j = 0
    · rw [if_pos (e.mpr c)]
      simp only [kl, nI_1]
      obtain ⟨y, h1, h2, h3, h4, h5⟩ := ih (k + 1) fu (by omega) (by omega)
      refine ⟨y, h1, by omega, h3, fun i a b => ?_, h5⟩
      by_cases z : i = k
      · subst z; exact c
      · exact h4 i (by omega) b
    · rw [if_neg (fun z => c (e.mp z))]
      exact ⟨k, rfl, by omega, by omega, fun i a b => by omega, fun _ => c⟩
/-- raise: none is found, or the first one that is not 0 is brought to the rank's place -/
theorem raise_ok {F : Nat} (hF : 100 ≤ F) {n j k ex : Nat} (hn : n ≤ 4) (hk : k ≤ n) (hj : j < 5) (hex : ex < 1000) {v : Nat → Nat → Int64} {X : Nat → Nat → Int} (hM : Mt 5 v X) (hsm : ∀ i c, i < 4 → c < 5 → sm (X i c)) :
    (f_X9_raise_C F (nI n) (nI k) (nI ex) (5 : Int32) v (nI j) = some (0, nI ex, v) ∧ ∀ i, k ≤ i → i < n → X i j = 0) ∨
    (k < n ∧ f_X9_raise_C F (nI n) (nI k) (nI ex) (5 : Int32) v (nI j) = some (1, nI ex, v) ∧ X k j ≠ 0) ∨
    (∃ y v', k < y ∧ y < n ∧ f_X9_raise_C F (nI n) (nI k) (nI ex) (5 : Int32) v (nI j) = some (1, nI (ex + 1), v') ∧ Mt 5 v' (swX X y k) ∧ X y j ≠ 0) := by
  obtain ⟨y, h1, h2, h3, h4, h5⟩ := raise_loop hn hj hM hsm (n - k) k F (by omega) (by omega)
  unfold f_X9_raise_C
  rw [h1]
  simp only [kb1, Option.bind_some]
  by_cases c : y < n
  · rw [if_pos (nI_lt c (by omega))]
    by_cases c2 : y ≤ k
    · have : y = k := by omega
      subst this
      rw [if_pos (nI_le (Nat.le_refl _) (by omega))]
      exact Or.inr (Or.inl ⟨c, rfl, h5 c⟩)
    · rw [if_neg (nI_ge (by omega) (by omega))]
      obtain ⟨v', e1, e2⟩ := exchangeRows_ok hF (i := y) (k := k) (by omega) (by omega) (by omega) hM
      rw [e1]
      simp only [Option.bind_some, kl, nI_1]
      exact Or.inr (Or.inr ⟨y, v', by omega, c, rfl, e2, h5 c⟩)
  · rw [if_neg (nI_nlt (by omega) (by omega))]
    exact Or.inl ⟨rfl, fun i a b => h4 i a (by omega)⟩
