/-! ===== the reference's minors ===== -/
theorem minor_loop {F s t m : Nat} (hF : 100 ≤ F) (hs : s < 32) (ht : t < 32) (hm : m ≤ 4) : ∀ (d k fu : Nat) (rs cs : Nat → Int32), k + d = m → d < fu → ∃ rs' cs', L_X12_minor_8 F (nI s) (nI t) (nI m) fu (nI k) rs cs = some (rs', cs') ∧ (∀ j, rs' j = if k ≤ j ∧ j < m then nI (pkN s j) else rs j) ∧ (∀ j, cs' j = if k ≤ j ∧ j < m then nI (pkN t j) else cs j) := by
  intro d
  induction d with
  | zero =>
    intro k fu rs cs hk hfu
    obtain ⟨fu, rfl⟩ : ∃ g, fu = g + 1 := ⟨fu - 1, by omega⟩
    refine ⟨rs, cs, ?_, fun j => by rw [if_neg (by omega)], fun j => by rw [if_neg (by omega)]⟩
    rw [L_X12_minor_8, if_pos (nI_le (by omega) (by omega))]
  | succ d ih =>
    intro k fu rs cs hk hfu
    obtain ⟨fu, rfl⟩ : ∃ g, fu = g + 1 := ⟨fu - 1, by omega⟩
    obtain ⟨rs', cs', h1, h2, h3⟩ := ih (k + 1) fu (upd rs k (nI (pkN s k))) (upd cs k (nI (pkN t k))) (by omega) (by omega)
    refine ⟨rs', cs', ?_, fun j => ?_, fun j => ?_⟩
    · rw [L_X12_minor_8, if_neg (nI_ge (by omega) (by omega)), pick_ok (by omega) hs (by omega), pick_ok (by omega) ht (by omega)]
      simp only [kb1, Option.bind_some, kl, if_pos (kin_nI (k := k) (n := 4) (by decide) (by omega)), nI_clamp (n := k) (by omega), nI_1]
      exact h1
    · rw [h2 j]
      by_cases e : j = k
      · subst e; rw [if_neg (by omega), if_pos (by omega)]; simp [upd]
      · by_cases c : k ≤ j ∧ j < m
        · rw [if_pos (by omega), if_pos c]
        · rw [if_neg (by omega), if_neg c]; simp [upd, e]
    · rw [h3 j]
      by_cases e : j = k
      · subst e; rw [if_neg (by omega), if_pos (by omega)]; simp [upd]
      · by_cases c : k ≤ j ∧ j < m
        · rw [if_pos (by omega), if_pos c]
        · rw [if_neg (by omega), if_neg c]; simp [upd, e]
theorem pkN_lt5 : ∀ (t : Fin 32) (k : Fin 5), pkN t.val k.val < 5 := by decide +kernel
theorem pkN_lt4 : ∀ (s : Fin 16) (k : Fin 5), pkN s.val k.val < 4 := by decide +kernel
theorem onesN_le : ∀ (s : Fin 16), onesN s.val ≤ 4 := by decide +kernel
/-- the minor of a set of rows and a set of columns -/
def Mn (A : Nat → Nat → Int) (s t : Nat) : Int := Dm A (pkN s) (pkN t) (onesN s)
theorem minor_ok {F : Nat} (hF : 100 ≤ F) {w : Nat → Int32} {A : Nat → Nat → Int} (h : Wc w A) (rs cs : Nat → Int32) {s t : Nat} (hs : s < 16) (ht : t < 32) : ∃ rs' cs', f_X12_minor F w rs cs (nI s) (nI t) = some (zJ (Mn A s t), rs', cs') := by
  have hm := onesN_le ⟨s, hs⟩
  simp only at hm
  obtain ⟨rs', cs', h1, h2, h3⟩ := minor_loop hF (by omega : s < 32) ht hm (onesN s) 0 F rs cs (by omega) (by omega)
  refine ⟨rs', cs', ?_⟩
  unfold f_X12_minor
  rw [ones_ok (by omega)]
  simp only [kb1, Option.bind_some]
  rw [show (0 : Int32) = nI 0 from rfl, h1]
  simp only [kb2, Option.bind_some]
  rw [det_ok h hm (R := pkN s) (C := pkN t) (fun k hk => ⟨by rw [h2 k, if_pos (by omega)], pkN_lt4 ⟨s, hs⟩ ⟨k, by omega⟩⟩) (fun k hk => ⟨by rw [h3 k, if_pos (by omega)], pkN_lt5 ⟨t, ht⟩ ⟨k, by omega⟩⟩)]
  rfl
/-- the reference's N, prime, table and side -/
def Wn (w : Nat → Int32) (n : Nat) (A : Nat → Nat → Int) : Prop := w 0 = nI n ∧ 1 ≤ n ∧ n ≤ 4 ∧ Wc w A
theorem n_ok {w : Nat → Int32} {n : Nat} {A : Nat → Nat → Int} (h : Wn w n A) : f_X12_n w = some (nI n) := by
  unfold f_X12_n
  rw [show (0 : Int32).toNatClampNeg = 0 from rfl, h.1]
theorem allc_fin : ∀ n : Fin 5, ((1 : Int32) <<< (nI n.val &&& 31)) = nI (2 ^ n.val) ∧ ((1 : Int32) <<< (nI n.val &&& 31)) - (1 : Int32) = nI (2 ^ n.val - 1) := by decide +kernel
theorem allColumns_ok {w : Nat → Int32} {n : Nat} {A : Nat → Nat → Int} (h : Wn w n A) : f_X12_allColumns w = some (nI (2 ^ n - 1)) := by
  unfold f_X12_allColumns
  rw [n_ok h]
  simp only [kb1, Option.bind_some]
  rw [(allc_fin ⟨n, by have := h.2.2.1; omega⟩).2]
theorem pow_n {n : Nat} (h : n ≤ 4) : 2 ^ n ≤ 16 := by
  match n, h with
  | 0, _ => decide
  | 1, _ => decide
  | 2, _ => decide
  | 3, _ => decide
  | 4, _ => decide
theorem determinant_ok {F : Nat} (hF : 100 ≤ F) {w : Nat → Int32} {n : Nat} {A : Nat → Nat → Int} (h : Wn w n A) (rs cs : Nat → Int32) : ∃ rs' cs', f_X12_determinant F w rs cs = some (zJ (Mn A (2 ^ n - 1) (2 ^ n - 1)), rs', cs') := by
  have hp := pow_n h.2.2.1
  have hp0 : 0 < 2 ^ n := Nat.pow_pos (by decide)
  obtain ⟨rs', cs', h1⟩ := minor_ok hF h.2.2.2 rs cs (s := 2 ^ n - 1) (t := 2 ^ n - 1) (by omega) (by omega)
  refine ⟨rs', cs', ?_⟩
  unfold f_X12_determinant
  rw [allColumns_ok h]
  simp only [kb1, Option.bind_some]
  rw [h1]
  rfl
