/-! ===== the reference's small functions ===== -/
theorem mono_isPrime : ∀ (fu k : Nat) (x0 x1 x2 r : Int32), L_X12_isPrime_4 x0 fu x1 x2 = some r → L_X12_isPrime_4 x0 (fu + k) x1 x2 = some r := by
  intro fu
  induction fu with
  | zero => intro k x0 x1 x2 r h; cases h
  | succ fu ih =>
    intro k x0 x1 x2 r h
    rw [show fu + 1 + k = (fu + k) + 1 by omega]
    rw [L_X12_isPrime_4] at h ⊢
    simp only [kl] at h ⊢
    by_cases c1 : x0 ≤ x2
    · rw [if_pos c1] at h ⊢; exact h
    · rw [if_neg c1] at h ⊢
      by_cases c2 : x1 = 0
      · rw [if_pos c2] at h ⊢; exact ih _ _ _ _ _ h
      · rw [if_neg c2] at h ⊢
        by_cases c3 : ¬ x2 = 0
        · rw [if_pos c3] at h ⊢
          by_cases c4 : (x0 - x0 / x2 * x2) = 0
          · rw [if_pos c4] at h ⊢; exact ih _ _ _ _ _ h
          · rw [if_neg c4] at h ⊢; exact ih _ _ _ _ _ h
        · rw [if_neg c3] at h; cases h
theorem mono_pick : ∀ (fu k : Nat) (x0 x2 x3 : Int32) (r : Int32 ⊕ Unit), L_X12_pick_4 x0 fu x2 x3 = some r → L_X12_pick_4 x0 (fu + k) x2 x3 = some r := by
  intro fu
  induction fu with
  | zero => intro k x0 x2 x3 r h; cases h
  | succ fu ih =>
    intro k x0 x2 x3 r h
    rw [show fu + 1 + k = (fu + k) + 1 by omega]
    rw [L_X12_pick_4] at h ⊢
    simp only [kl] at h ⊢
    by_cases c1 : (5 : Int32) ≤ x3
    · rw [if_pos c1] at h ⊢; exact h
    · rw [if_neg c1] at h ⊢
      obtain ⟨r2, h2, h⟩ := kb1_e h
      rw [h2]
      show (if r2 = 0 then _ else _) = _
      by_cases c2 : r2 = 0
      · rw [if_pos c2] at h ⊢; exact ih _ _ _ _ _ h
      · rw [if_neg c2] at h ⊢
        by_cases c3 : x2 = 0
        · rw [if_pos c3] at h ⊢; exact h
        · rw [if_neg c3] at h ⊢; exact ih _ _ _ _ _ h
def isPr (v : Nat) : Bool := (List.range v).all (fun d => d < 2 || v % d != 0)
set_option maxRecDepth 100000 in
theorem isPrime_fin : ∀ v : Fin 98, L_X12_isPrime_4 (nI v.val) 100 1 2 = some (if isPr v.val then 1 else 0) := by decide +kernel
theorem isPrime_ok {F v : Nat} (hF : 100 ≤ F) (hv : v < 98) : f_X12_isPrime F (nI v) = some (if isPr v then 1 else 0) := by
  have h := mono_isPrime 100 (F - 100) (nI v) 1 2 _ (isPrime_fin ⟨v, hv⟩)
  rw [show 100 + (F - 100) = F by omega] at h
  unfold f_X12_isPrime
  rw [h]
  by_cases hp : isPr v = true <;> simp [kb1, hp]
/-- the bits of a set of at most five -/
def bitsN (s : Nat) : List Nat := (List.range 5).filter (fun k => s.testBit k)
def onesN (s : Nat) : Nat := (bitsN s).length
def pkN (s k : Nat) : Nat := (bitsN s).getD k 0
theorem ones_fin : ∀ s : Fin 32, f_X12_ones (nI s.val) = some (nI (onesN s.val)) := by decide +kernel
theorem has_fin : ∀ (s : Fin 32) (k : Fin 5), f_X12_has (nI s.val) (nI k.val) = some (if s.val.testBit k.val then 1 else 0) := by decide +kernel
set_option maxRecDepth 100000 in
theorem pick_fin : ∀ (s : Fin 32) (k : Fin 5), L_X12_pick_4 (nI s.val) 6 (nI k.val) 0 = some (if k.val < onesN s.val then .inl (nI (pkN s.val k.val)) else .inr ()) := by decide +kernel
theorem ones_ok {s : Nat} (h : s < 32) : f_X12_ones (nI s) = some (nI (onesN s)) := ones_fin ⟨s, h⟩
theorem has_ok {s k : Nat} (h : s < 32) (hk : k < 5) : f_X12_has (nI s) (nI k) = some (if s.testBit k then 1 else 0) := has_fin ⟨s, h⟩ ⟨k, hk⟩
theorem pkN_out : ∀ (s : Fin 32) (k : Fin 5), ¬ k.val < onesN s.val → pkN s.val k.val = 0 := by decide +kernel
theorem pick_ok {F s k : Nat} (hF : 6 ≤ F) (h : s < 32) (hk : k < 5) : f_X12_pick F (nI s) (nI k) = some (nI (pkN s k)) := by
  have h1 := mono_pick 6 (F - 6) (nI s) (nI k) 0 _ (pick_fin ⟨s, h⟩ ⟨k, hk⟩)
  rw [show 6 + (F - 6) = F by omega] at h1
  unfold f_X12_pick
  rw [h1]
  by_cases hp : k < onesN s
  · simp [ks, kf1, hp]
  · have := pkN_out ⟨s, h⟩ ⟨k, hk⟩ hp
    simp at this
    simp [ks, hp, this]
    rfl
