/-! ===== the reference's ranks ===== -/
theorem shl_fin : ∀ n : Fin 5, ((1 : Int32) <<< (nI n.val &&& 31)) = nI (2 ^ n.val) := by decide +kernel
theorem rank_outer {F : Nat} (hF : 100 ≤ F) {w : Nat → Int32} {n : Nat} {A : Nat → Nat → Int} (h : Wn w n A) {T q : Nat} (hT : T < 32) (hq : q = 0 ∨ 2 ≤ q ∧ q < 128) :
    ∀ (d s m fu : Nat) (rs cs : Nat → Int32), s + d = 2 ^ n → 0 < s → d < fu → m ≤ 4 →
      (m = 0 ∨ ∃ s t, 0 < s ∧ s < 2 ^ n ∧ t < 32 ∧ subN t T ∧ onesN t = m ∧ onesN s = m ∧ ¬ (q : Int) ∣ Mn A s t) →
      (∀ s' t, 0 < s' → s' < s → 0 < t → t < 32 → subN t T → onesN t = onesN s' → m < onesN s' → (q : Int) ∣ Mn A s' t) →
      ∃ r rs' cs', L_X12_rankOf_5 F (nI T) (nI q) w fu (nI m) (nI s) rs cs = some (nI r, rs', cs') ∧ r ≤ 4 ∧ Rk A n T q r := by
  have hp := pow_n h.2.2.1
  intro d
  induction d with
  | zero =>
    intro s m fu rs cs hs hs0 hfu hm h1 h2
    obtain ⟨fu, rfl⟩ : ∃ g, fu = g + 1 := ⟨fu - 1, by omega⟩
    refine ⟨m, rs, cs, ?_, hm, h1, fun s' t a b => h2 s' t a (by omega)⟩
    rw [L_X12_rankOf_5, n_ok h]
    simp only [kb1, Option.bind_some]
    rw [shl_fin ⟨n, by have := h.2.2.1; omega⟩, if_pos (nI_le (by show 2 ^ n ≤ s; omega) (by omega))]
  | succ d ih =>
    intro s m fu rs cs hs hs0 hfu hm h1 h2
    obtain ⟨fu, rfl⟩ : ∃ g, fu = g + 1 := ⟨fu - 1, by omega⟩
    rw [L_X12_rankOf_5, n_ok h]
    simp only [kb1, Option.bind_some]
    rw [shl_fin ⟨n, by have := h.2.2.1; omega⟩, if_neg (nI_ge (by show s < 2 ^ n; omega) (by show 2 ^ n < 2 ^ 31; omega))]
    obtain ⟨m', rs1, cs1, e1, e2, e3⟩ := rank_inner hF h.2.2.2 hT hq hs0 (by omega : s < 16) hm 31 1 F rs cs (by omega) (by omega) (by omega) (fun t a b => by omega)
    rw [show (1 : Int32) = nI 1 from rfl, e1]
    simp only [kb3, Option.bind_some, kl]
    rw [show nI s + nI 1 = nI (s + 1) from nI_1 s]
    refine ih (s + 1) m' fu rs1 cs1 (by omega) (by omega) (by omega) e2 ?_ ?_
    · rcases e3 with ⟨rfl, -⟩ | ⟨c1, rfl, t, c2, c3, c4, c5⟩
      · exact h1
      · exact Or.inr ⟨s, t, hs0, by omega, c2, c3, c4, rfl, c5⟩
    · intro s' t a b c d1 e f g
      rcases e3 with ⟨rfl, k1⟩ | ⟨c1, rfl, -⟩
      · by_cases z : s' = s
        · subst z; exact k1 g t c d1 e f
        · exact h2 s' t a (by omega) c d1 e f g
      · by_cases z : s' = s
        · subst z; omega
        · exact h2 s' t a (by omega) c d1 e f (by omega)
theorem rankOf_ok {F : Nat} (hF : 100 ≤ F) {w : Nat → Int32} {n : Nat} {A : Nat → Nat → Int} (h : Wn w n A) {T q : Nat} (hT : T < 32) (hq : q = 0 ∨ 2 ≤ q ∧ q < 128) (rs cs : Nat → Int32) :
    ∃ r rs' cs', f_X12_rankOf F w rs cs (nI T) (nI q) = some (nI r, rs', cs') ∧ r ≤ 4 ∧ Rk A n T q r := by
  have hp := pow_n h.2.2.1
  have hp0 : 0 < 2 ^ n := Nat.pow_pos (by decide)
  obtain ⟨r, rs', cs', e1, e2, e3⟩ := rank_outer hF h hT hq (2 ^ n - 1) 1 0 F rs cs (by omega) (by omega) (by omega) (by omega) (Or.inl rfl) (fun s' t a b => by omega)
  refine ⟨r, rs', cs', ?_, e2, e3⟩
  unfold f_X12_rankOf
  rw [show (0 : Int32) = nI 0 from rfl, show (1 : Int32) = nI 1 from rfl, e1]
  rfl
theorem ones_full : ∀ n : Fin 5, onesN (2 ^ n.val - 1) = n.val := by decide +kernel
theorem ones_lt : ∀ (n : Fin 5) (s : Fin 16), s.val < 2 ^ n.val → onesN s.val ≤ n.val := by decide +kernel
theorem sub_self (t : Nat) : subN t t := Nat.and_self t
/-- a determinant that q does not divide: the rank is N -/
theorem Rk_full {A : Nat → Nat → Int} {n q : Nat} (h1 : 1 ≤ n) (h4 : n ≤ 4) (hd : ¬ (q : Int) ∣ Mn A (2 ^ n - 1) (2 ^ n - 1)) : Rk A n (2 ^ n - 1) q n := by
  have hp := pow_n h4
  have hp0 : 2 ≤ 2 ^ n := by
    have : 2 ^ 1 ≤ 2 ^ n := Nat.pow_le_pow_right (by decide) h1
    omega
  have ho := ones_full ⟨n, by omega⟩
  simp only at ho
  refine ⟨Or.inr ⟨2 ^ n - 1, 2 ^ n - 1, by omega, by omega, by omega, sub_self _, ho, ho, hd⟩, fun s t a b c d e f g => ?_⟩
  have := ones_lt ⟨n, by omega⟩ ⟨s, by omega⟩ b
  simp only at this
  omega
theorem zJ_zero {x : Int} (h : x.natAbs ≤ 2305430424) : zJ x = (0 : Int64) ↔ x = 0 := by
  rw [show (0 : Int64) = zJ 0 from rfl, zJ_eq (rJ_ab h) ⟨by omega, by omega⟩]
theorem rank_ok {F : Nat} (hF : 100 ≤ F) {w : Nat → Int32} {n : Nat} {A : Nat → Nat → Int} (h : Wn w n A) (rs cs : Nat → Int32) :
    ∃ r rs' cs', f_X12_rank F w rs cs = some (nI r, rs', cs') ∧ r ≤ 4 ∧ Rk A n (2 ^ n - 1) 0 r := by
  have hp := pow_n h.2.2.1
  have hp0 : 0 < 2 ^ n := Nat.pow_pos (by decide)
  obtain ⟨rs1, cs1, e1⟩ := determinant_ok hF h rs cs
  have hab := Mn_ab h.2.2.2.2 (s := 2 ^ n - 1) (t := 2 ^ n - 1) (by omega) (by omega)
  unfold f_X12_rank
  rw [e1]
  simp only [kb3, Option.bind_some]
  by_cases c : Mn A (2 ^ n - 1) (2 ^ n - 1) = 0
  · rw [if_pos ((zJ_zero hab).mpr c), allColumns_ok h]
    simp only [kb1, Option.bind_some]
    obtain ⟨r, rs', cs', e2, e3, e4⟩ := rankOf_ok hF h (T := 2 ^ n - 1) (q := 0) (by omega) (Or.inl rfl) rs1 cs1
    rw [show (0 : Int32) = nI 0 from rfl, e2]
    exact ⟨r, rs', cs', rfl, e3, e4⟩
  · rw [if_neg (fun z => c ((zJ_zero hab).mp z)), n_ok h]
    exact ⟨n, rs1, cs1, rfl, h.2.2.1, Rk_full h.2.1 h.2.2.1 (fun z => c (Int.zero_dvd.mp z))⟩
theorem or16_fin : ∀ n : Fin 5, nI (2 ^ n.val - 1) ||| (16 : Int32) = nI (2 ^ n.val + 15) := by decide +kernel
theorem wideRank_ok {F : Nat} (hF : 100 ≤ F) {w : Nat → Int32} {n : Nat} {A : Nat → Nat → Int} (h : Wn w n A) {q : Nat} (hq : q = 0 ∨ 2 ≤ q ∧ q < 128) (rs cs : Nat → Int32) :
    ∃ r rs' cs', f_X12_wideRank F w rs cs (nI q) = some (nI r, rs', cs') ∧ r ≤ 4 ∧ Rk A n (2 ^ n + 15) q r := by
  have hp := pow_n h.2.2.1
  have hp0 : 0 < 2 ^ n := Nat.pow_pos (by decide)
  obtain ⟨r, rs', cs', e2, e3, e4⟩ := rankOf_ok hF h (T := 2 ^ n + 15) (q := q) (by omega) hq rs cs
  refine ⟨r, rs', cs', ?_, e3, e4⟩
  unfold f_X12_wideRank
  rw [allColumns_ok h]
  simp only [kb1, Option.bind_some]
  rw [or16_fin ⟨n, by have := h.2.2.1; omega⟩]
  simp only
  rw [e2]
  rfl
