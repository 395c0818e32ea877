/-! ===== bounds of minors; the reference's rankOf ===== -/
theorem ab_mul {x y : Int} {a b : Nat} (hx : x.natAbs ≤ a) (hy : y.natAbs ≤ b) : (x * y).natAbs ≤ a * b := by
  rw [Int.natAbs_mul]; exact Nat.mul_le_mul hx hy
theorem ab_of {x : Int} (h : -99 ≤ x ∧ x ≤ 99) : x.natAbs ≤ 99 := by omega
/-- a table within its bounds -/
def Bd (A : Nat → Nat → Int) : Prop := ∀ i j, i < 4 → j < 5 → -99 ≤ A i j ∧ A i j ≤ 99
theorem D2_ab {A : Nat → Nat → Int} (h : Bd A) {r s c d : Nat} (hr : r < 4) (hs : s < 4) (hc : c < 5) (hd : d < 5) : (D2 A r s c d).natAbs ≤ 19602 := by
  have h1 := ab_mul (ab_of (h r c hr hc)) (ab_of (h s d hs hd))
  have h2 := ab_mul (ab_of (h r d hr hd)) (ab_of (h s c hs hc))
  unfold D2; omega
theorem D3_ab {A : Nat → Nat → Int} (h : Bd A) {r s t c d e : Nat} (hr : r < 4) (hs : s < 4) (ht : t < 4) (hc : c < 5) (hd : d < 5) (he : e < 5) : (D3 A r s t c d e).natAbs ≤ 5821794 := by
  have h1 := ab_mul (ab_of (h r c hr hc)) (D2_ab h hs ht hd he)
  have h2 := ab_mul (ab_of (h r d hr hd)) (D2_ab h hs ht hc he)
  have h3 := ab_mul (ab_of (h r e hr he)) (D2_ab h hs ht hc hd)
  unfold D3; omega
theorem D4_ab {A : Nat → Nat → Int} (h : Bd A) {r s t u c d e f : Nat} (hr : r < 4) (hs : s < 4) (ht : t < 4) (hu : u < 4) (hc : c < 5) (hd : d < 5) (he : e < 5) (hf : f < 5) : (D4 A r s t u c d e f).natAbs ≤ 2305430424 := by
  have h1 := ab_mul (ab_of (h r c hr hc)) (D3_ab h hs ht hu hd he hf)
  have h2 := ab_mul (ab_of (h r d hr hd)) (D3_ab h hs ht hu hc he hf)
  have h3 := ab_mul (ab_of (h r e hr he)) (D3_ab h hs ht hu hc hd hf)
  have h4 := ab_mul (ab_of (h r f hr hf)) (D3_ab h hs ht hu hc hd he)
  unfold D4; omega
theorem Dm_ab {A : Nat → Nat → Int} (h : Bd A) {R C : Nat → Nat} {m : Nat} (hm : m ≤ 4) (hR : ∀ k, k < m → R k < 4) (hC : ∀ k, k < m → C k < 5) : (Dm A R C m).natAbs ≤ 2305430424 := by
  match m, hm with
  | 0, _ => simp [Dm]
  | 1, _ => have := h _ _ (hR 0 (by omega)) (hC 0 (by omega)); simp only [Dm]; omega
  | 2, _ => have := D2_ab h (hR 0 (by omega)) (hR 1 (by omega)) (hC 0 (by omega)) (hC 1 (by omega)); simp only [Dm]; omega
  | 3, _ => have := D3_ab h (hR 0 (by omega)) (hR 1 (by omega)) (hR 2 (by omega)) (hC 0 (by omega)) (hC 1 (by omega)) (hC 2 (by omega)); simp only [Dm]; omega
  | 4, _ => have := D4_ab h (hR 0 (by omega)) (hR 1 (by omega)) (hR 2 (by omega)) (hR 3 (by omega)) (hC 0 (by omega)) (hC 1 (by omega)) (hC 2 (by omega)) (hC 3 (by omega)); simp only [Dm]; omega
theorem Mn_ab {A : Nat → Nat → Int} (h : Bd A) {s t : Nat} (hs : s < 16) (ht : t < 32) : (Mn A s t).natAbs ≤ 2305430424 := by
  have hm := onesN_le ⟨s, hs⟩
  simp only at hm
  exact Dm_ab h hm (fun k hk => pkN_lt4 ⟨s, hs⟩ ⟨k, by omega⟩) (fun k hk => pkN_lt5 ⟨t, ht⟩ ⟨k, by omega⟩)
theorem rJ_ab {x : Int} (h : x.natAbs ≤ 2305430424) : rJ x := ⟨by omega, by omega⟩
/-- t is among T -/
def subN (t T : Nat) : Prop := t &&& T = t
theorem sub_fin : ∀ t T : Fin 32, (nI t.val &&& (nI T.val ^^^ (-1 : Int32))) = 0 ↔ t.val &&& T.val = t.val := by decide +kernel
theorem onesN_le5 : ∀ s : Fin 32, onesN s.val ≤ 5 := by decide +kernel
/-- r is the rank of the columns T by q (0: exactly): the greatest size of a minor that q does not divide -/
def Rk (A : Nat → Nat → Int) (n T q r : Nat) : Prop :=
  (r = 0 ∨ ∃ s t, 0 < s ∧ s < 2 ^ n ∧ t < 32 ∧ subN t T ∧ onesN t = r ∧ onesN s = r ∧ ¬ (q : Int) ∣ Mn A s t) ∧
  ∀ s t, 0 < s → s < 2 ^ n → 0 < t → t < 32 → subN t T → onesN t = onesN s → r < onesN s → (q : Int) ∣ Mn A s t
theorem Rk_unique {A : Nat → Nat → Int} {n T q r r' : Nat} (h : Rk A n T q r) (h' : Rk A n T q r') : r = r' := by
  have pos : ∀ t : Fin 32, 0 < onesN t.val → 0 < t.val := by decide +kernel
  rcases Nat.lt_trichotomy r r' with c | c | c
  · rcases h'.1 with e | ⟨s, t, h1, h2, h3, h4, h5, h6, h7⟩
    · omega
    · exact absurd (h.2 s t h1 h2 (pos ⟨t, h3⟩ (by show 0 < onesN t; omega)) h3 h4 (by omega) (by omega)) h7
  · exact c
  · rcases h.1 with e | ⟨s, t, h1, h2, h3, h4, h5, h6, h7⟩
    · omega
    · exact absurd (h'.2 s t h1 h2 (pos ⟨t, h3⟩ (by show 0 < onesN t; omega)) h3 h4 (by omega) (by omega)) h7
theorem rank_inner {F : Nat} (hF : 100 ≤ F) {w : Nat → Int32} {A : Nat → Nat → Int} (h : Wc w A) {T q s m : Nat} (hT : T < 32) (hq : q = 0 ∨ 2 ≤ q ∧ q < 128) (hs0 : 0 < s) (hs : s < 16) (hm : m ≤ 4) :
    ∀ (d k fu : Nat) (rs cs : Nat → Int32), k + d = 32 → 0 < k → d < fu → (∀ t, 0 < t → t < k → subN t T → onesN t = onesN s → (q : Int) ∣ Mn A s t) →
      ∃ m' rs' cs', L_X12_rankOf_19 F (nI T) (nI q) (nI s) w fu (nI m) (nI k) rs cs = some (nI m', rs', cs') ∧ m' ≤ 4 ∧
        ((m' = m ∧ (m < onesN s → ∀ t, 0 < t → t < 32 → subN t T → onesN t = onesN s → (q : Int) ∣ Mn A s t)) ∨ (m < onesN s ∧ m' = onesN s ∧ ∃ t, t < 32 ∧ subN t T ∧ onesN t = onesN s ∧ ¬ (q : Int) ∣ Mn A s t)) := by
  have ho := onesN_le ⟨s, hs⟩
  simp only at ho
  intro d
  induction d with
  | zero =>
    intro k fu rs cs hk hk0 hfu hv
    obtain ⟨fu, rfl⟩ : ∃ g, fu = g + 1 := ⟨fu - 1, by omega⟩
    refine ⟨m, rs, cs, ?_, hm, Or.inl ⟨rfl, fun _ t h0 h1 => hv t h0 (by omega)⟩⟩
    rw [L_X12_rankOf_19, if_pos (show (32 : Int32) ≤ nI k from nI_le (a := 32) (by omega) (by omega))]
  | succ d ih =>
    intro k fu rs cs hk hk0 hfu hv
    obtain ⟨fu, rfl⟩ : ∃ g, fu = g + 1 := ⟨fu - 1, by omega⟩
    rw [L_X12_rankOf_19, if_neg (show ¬ (32 : Int32) ≤ nI k from nI_ge (b := 32) (by omega) (by omega)), ones_ok (s := s) (by omega)]
    simp only [kb1, Option.bind_some]
    by_cases c1 : onesN s ≤ m
    · rw [if_pos (nI_le c1 (by omega))]
      exact ⟨m, rs, cs, rfl, hm, Or.inl ⟨rfl, fun q => by omega⟩⟩
    · rw [if_neg (nI_ge (by omega) (by omega))]
      by_cases c2 : subN k T
      · rw [if_pos ((sub_fin ⟨k, by omega⟩ ⟨T, hT⟩).mpr c2), ones_ok (s := k) (by omega)]
        simp only [Option.bind_some]
        have ho2 := onesN_le5 ⟨k, by omega⟩
        simp only at ho2
        by_cases c3 : onesN k = onesN s
        · rw [if_pos ((nI_eq (by omega) (by omega)).mpr c3)]
          obtain ⟨rs1, cs1, h1⟩ := minor_ok hF h rs cs hs (t := k) (by omega)
          rw [h1]
          simp only [kb3, Option.bind_some]
          have hab := Mn_ab h.2 hs (t := k) (by omega)
          have key : ∀ (X : Option (Int32 × (Nat → Int32) × (Nat → Int32))) (Y : Option (Int32 × (Nat → Int32) × (Nat → Int32))), (if nI q = 0 then (if zJ (Mn A s k) = (0 : Int64) then X else Y) else if ¬ (nI q).toInt64 = 0 then (if (zJ (Mn A s k) - zJ (Mn A s k) / (nI q).toInt64 * (nI q).toInt64) = (0 : Int64) then X else Y) else none) = if (q : Int) ∣ Mn A s k then X else Y := by
            intro X Y
            rcases hq with rfl | ⟨q2, q3⟩
            · rw [if_pos (by rfl)]
              have e1 : zJ (Mn A s k) = (0 : Int64) ↔ ((0 : Nat) : Int) ∣ Mn A s k := by
                rw [show (0 : Int64) = zJ 0 from rfl, zJ_eq (rJ_ab hab) ⟨by omega, by omega⟩]
                exact Int.zero_dvd.symm
              by_cases e : ((0 : Nat) : Int) ∣ Mn A s k
              · rw [if_pos (e1.mpr e), if_pos e]
              · rw [if_neg (fun z => e (e1.mp z)), if_neg e]
            · rw [if_neg (nI_ne0 (by omega) (by omega)), nI_z, zI_J ⟨by omega, by omega⟩, if_pos (by rw [show (0 : Int64) = zJ 0 from rfl, zJ_eq ⟨by omega, by omega⟩ ⟨by omega, by omega⟩]; omega), zJ_rem (rJ_ab hab) ⟨by omega, by omega⟩ (by omega)]
              have hlt : (Mn A s k).tmod q = 0 ↔ (q : Int) ∣ Mn A s k := (Int.dvd_iff_tmod_eq_zero).symm
              have hab2 : ((Mn A s k).tmod q).natAbs ≤ 2305430424 := by
                rw [Int.natAbs_tmod]
                exact Nat.le_trans (Nat.mod_le _ _) hab
              have e1 : zJ ((Mn A s k).tmod q) = (0 : Int64) ↔ (q : Int) ∣ Mn A s k := by
                rw [show (0 : Int64) = zJ 0 from rfl, zJ_eq (rJ_ab hab2) ⟨by omega, by omega⟩]
                exact hlt
              by_cases e : (q : Int) ∣ Mn A s k
              · rw [if_pos (e1.mpr e), if_pos e]
              · rw [if_neg (fun z => e (e1.mp z)), if_neg e]
          simp only [kl, Option.bind_some]
          rw [key]
          by_cases c4 : (q : Int) ∣ Mn A s k
          · rw [if_pos c4, nI_1]
            refine ih (k + 1) fu rs1 cs1 (by omega) (by omega) (by omega) (fun t h0 h2 h3 h4 => ?_)
            by_cases e : t = k
            · subst e; exact c4
            · exact hv t h0 (by omega) h3 h4
          · rw [if_neg c4, nI_1]
            obtain ⟨fu, rfl⟩ : ∃ g, fu = g + 1 := ⟨fu - 1, by omega⟩
            refine ⟨onesN s, rs1, cs1, ?_, ho, Or.inr ⟨by omega, rfl, k, by omega, c2, c3, c4⟩⟩
            rw [L_X12_rankOf_19]
            by_cases c5 : (32 : Int32) ≤ nI (k + 1)
            · rw [if_pos c5]
            · rw [if_neg c5, ones_ok (s := s) (by omega)]
              simp only [kb1, Option.bind_some]
              rw [if_pos (nI_le (Nat.le_refl _) (by omega))]
        · rw [if_neg (fun z => c3 ((nI_eq (by omega) (by omega)).mp z))]
          simp only [kl, nI_1]
          refine ih (k + 1) fu rs cs (by omega) (by omega) (by omega) (fun t h0 h2 h3 h4 => ?_)
          by_cases e : t = k
          · subst e; exact absurd h4 c3
          · exact hv t h0 (by omega) h3 h4
      · rw [if_neg (fun z => c2 ((sub_fin ⟨k, by omega⟩ ⟨T, hT⟩).mp z))]
        simp only [kl, nI_1]
        refine ih (k + 1) fu rs cs (by omega) (by omega) (by omega) (fun t h0 h2 h3 h4 => ?_)
        by_cases e : t = k
        · subst e; exact absurd h3 c2
        · exact hv t h0 (by omega) h3 h4
