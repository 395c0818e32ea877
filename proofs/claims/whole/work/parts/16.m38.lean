/-! ===== the reference's guess ===== -/
def gJ (x3 x7 : Int64) (fu : Nat) (x11 x13 x15 x17 x19 x21 : Int64) (t19 : Int32) : Option (Int32 × Int64 × Int64) :=
    (if x11 = (0 : Int64) then
    kl (x7 + (1 : Int64)) fun t32 =>
    L_X12_layGuess_54 x3 x7 fu x11 x13 t32 x17 x19 x21 t19 x19 x15
    else
    if ¬ x11 = 0 then
    kl (x13 / x11) fun t23 =>
    if ¬ x11 = 0 then
    kl (x13 - x13 / x11 * x11) fun t25 =>
    if ¬ x15 = 0 then
    (if t23 ≤ ((x7 - x17) / x15) then
    kl ((t23 * x15) + x17) fun t28 =>
    kl ((t23 * x19) + x21) fun t29 =>
    L_X12_layGuess_54 x3 x7 fu t25 x11 t28 x15 t29 x19 t19 x19 x15
    else
    kl (x7 + (1 : Int64)) fun t30 =>
    kl ((t23 * x19) + x21) fun t31 =>
    L_X12_layGuess_54 x3 x7 fu t25 x11 t30 x15 t31 x19 t19 x19 x15)
    else none
    else none
    else none)
theorem lg_big {x3 x7 : Int64} {x15 : Int64} (h : x7 < x15) (fu : Nat) (x11 x13 x17 x19 x21 : Int64) (x23 : Int32) (ga gb : Int64) : L_X12_layGuess_54 x3 x7 (fu + 1) x11 x13 x15 x17 x19 x21 x23 ga gb = some (x23, ga, gb) := by
  rw [L_X12_layGuess_54, if_pos h]
theorem lg_one (x3 x7 : Int64) (fu : Nat) (x11 x13 x15 x17 x19 x21 : Int64) (ga gb : Int64) : L_X12_layGuess_54 x3 x7 (fu + 1) x11 x13 x15 x17 x19 x21 1 ga gb = some (1, ga, gb) := by
  rw [L_X12_layGuess_54]
  by_cases h : x7 < x15
  · rw [if_pos h]
  · rw [if_neg h, if_neg (by decide)]
theorem lg_go {x3 x7 : Int64} {x15 : Int64} (h : ¬ x7 < x15) (fu : Nat) (x11 x13 x17 x19 x21 : Int64) (ga gb : Int64) {r : Int32} (hr : f_X12_in x19 (-x7) x7 = some r) : L_X12_layGuess_54 x3 x7 (fu + 1) x11 x13 x15 x17 x19 x21 0 ga gb = (if r = 0 then gJ x3 x7 fu x11 x13 x15 x17 x19 x21 0 else if ¬ x3 = 0 then (if (x15 - x15 / x3 * x3) = (0 : Int64) then gJ x3 x7 fu x11 x13 x15 x17 x19 x21 0 else gJ x3 x7 fu x11 x13 x15 x17 x19 x21 1) else none) := by
  rw [L_X12_layGuess_54, if_neg h, if_pos rfl]
  exact kb1_of hr rfl
theorem in_ok {a lo hi : Int} (ha : rJ a) (hl : rJ lo) (hh : rJ hi) : f_X12_in (zJ a) (zJ lo) (zJ hi) = some (if lo ≤ a ∧ a ≤ hi then 1 else 0) := by
  unfold f_X12_in
  have e1 := zJ_lt ha hl
  have e2 := zJ_lt hh ha
  by_cases c1 : a < lo
  · rw [if_pos (e1.mpr c1), if_neg (by omega)]
  · rw [if_neg (fun z => c1 (e1.mp z))]
    by_cases c2 : hi < a
    · rw [if_pos (e2.mpr c2), if_neg (by omega)]
    · rw [if_neg (fun z => c2 (e2.mp z)), if_pos (by omega)]
theorem gJ_0 {p : Nat} {T : Nat} (hT : T < 2000000000000000000) (fu : Nat) (x13 x15 x17 x19 x21 : Int64) (t : Int32) : gJ (zJ (p : Int)) (zJ (T : Int)) (fu + 1) 0 x13 x15 x17 x19 x21 t = some (t, x19, x15) := by
  unfold gJ
  rw [if_pos rfl]
  refine kl_of rfl ?_
  apply lg_big
  rw [show (1 : Int64) = zJ 1 from rfl, zJ_add, zJ_lt (rJ_sm (sm_nat (by omega))) ⟨by omega, by omega⟩]
  omega
theorem gJ_s {p : Nat} {T M : Nat} (hT : T < M) (hM : M ≤ 2000000000000000000) {a : Int} {y x v' v : Nat} {ε : Int} (h : Eu M a y x v' v ε) (hx : 0 < x) (hv : v ≤ T) (fu : Nat) (t : Int32) : gJ (zJ (p : Int)) (zJ (T : Int)) fu (zJ (x : Int)) (zJ (y : Int)) (zJ (v : Int)) (zJ (v' : Int)) (zJ (ε * x)) (zJ (-ε * y)) t = L_X12_layGuess_54 (zJ (p : Int)) (zJ (T : Int)) fu (zJ ((y % x : Nat) : Int)) (zJ (x : Int)) (zJ (((if y / x * v + v' ≤ T then y / x * v + v' else T + 1 : Nat)) : Int)) (zJ (v : Int)) (zJ (-ε * ((y % x : Nat) : Int))) (zJ (-(-ε) * x)) t (zJ (ε * x)) (zJ (v : Int)) := by
  obtain ⟨v1, v2, v3⟩ := Eu_v h
  have hy := h.2.1.2.1
  have hv1 := h.2.1.2.2.1
  have hv2 := h.2.1.2.2.2
  have nx : ¬ zJ (x : Int) = 0 := fun z => by have := (zJ_zeroN (by omega)).mp z; omega
  have nv : ¬ zJ (v : Int) = 0 := fun z => by have := (zJ_zeroN (by omega)).mp z; omega
  have ex : zJ (y : Int) - zJ (y : Int) / zJ (x : Int) * zJ (x : Int) = zJ ((y % x : Nat) : Int) := zJ_remN (by omega) (by omega)
  have ed : zJ (y : Int) / zJ (x : Int) = zJ ((y / x : Nat) : Int) := by rw [zJ_div (rJ_sm (sm_nat (by omega))) (rJ_sm (sm_nat (by omega))) (by omega), tdiv_nat]
  have eq : (zJ (T : Int) - zJ (v' : Int)) / zJ (v : Int) = zJ (((T - v') / v : Nat) : Int) := by
    rw [zJ_sub, show (T : Int) - (v' : Int) = ((T - v' : Nat) : Int) by omega, zJ_div (rJ_sm (sm_nat (by omega))) (rJ_sm (sm_nat (by omega))) (by omega), tdiv_nat]
  have hq : y / x ≤ y := Nat.div_le_self _ _
  have hq2 : (T - v') / v ≤ T - v' := Nat.div_le_self _ _
  have ec : zJ ((y / x : Nat) : Int) ≤ zJ (((T - v') / v : Nat) : Int) ↔ y / x * v + v' ≤ T := by
    rw [zJ_le (rJ_sm (sm_nat (by omega))) (rJ_sm (sm_nat (by omega)))]
    have := Nat.le_div_iff_mul_le (x := y / x) (y := T - v') (show 0 < v by omega)
    omega
  have eu : zJ ((y / x : Nat) : Int) * zJ (ε * x) + zJ (-ε * y) = zJ (-ε * ((y % x : Nat) : Int)) := by
    rw [zJ_mul, zJ_add, ← mod_z]
    congr 1
    generalize ((y / x : Nat) : Int) = q
    grind
  unfold gJ
  rw [if_neg nx, if_pos nx]
  refine kl_of ed ?_
  rw [if_pos nx]
  refine kl_of ex ?_
  rw [if_pos nv, eq, Int.neg_neg]
  by_cases c : y / x * v + v' ≤ T
  · rw [if_pos (ec.mpr c), if_pos c]
    refine kl_of (show zJ ((y / x : Nat) : Int) * zJ (v : Int) + zJ (v' : Int) = zJ ((y / x * v + v' : Nat) : Int) by rw [zJ_mul, zJ_add, Int.natCast_add, Int.natCast_mul]) ?_
    exact kl_of eu rfl
  · rw [if_neg (fun z => c (ec.mp z)), if_neg c]
    refine kl_of (show zJ (T : Int) + (1 : Int64) = zJ ((T + 1 : Nat) : Int) by rw [show (1 : Int64) = zJ 1 from rfl, zJ_add]; rfl) ?_
    exact kl_of eu rfl
theorem lgT {T v : Nat} (hT : T < 2000000000000000000) (hv : v ≤ 2000000000000000000) : zJ (T : Int) < zJ (v : Int) ↔ T < v := by
  rw [zJ_lt (rJ_sm (sm_nat (by omega))) (rJ_sm (sm_nat (by omega)))]; omega
theorem lg_in {M T : Nat} (hT : T < M) (hM : M ≤ 2000000000000000000) {a : Int} {y x v' v : Nat} {ε : Int} (h : Eu M a y x v' v ε) : f_X12_in (zJ (ε * x)) (-zJ (T : Int)) (zJ (T : Int)) = some (if x ≤ T then 1 else 0) := by
  obtain ⟨v1, v2, v3⟩ := Eu_v h
  have hε := h.1
  rw [zJ_neg, in_ok (by rcases hε with e | e <;> rw [e] <;> exact ⟨by omega, by omega⟩) ⟨by omega, by omega⟩ ⟨by omega, by omega⟩]
  by_cases c : x ≤ T
  · rw [if_pos c, if_pos (by rcases hε with e | e <;> rw [e] <;> omega)]
  · rw [if_neg c, if_neg (by rcases hε with e | e <;> rw [e] <;> omega)]
/-- at the first remainder within the bound -/
theorem lg_fin {p M T : Nat} (hp : Pm p) (hT : T < M) (h2 : 2 * T * T < M) (hM : M ≤ 2000000000000000000) {a : Int} {y x v' v : Nat} {ε : Int} (h : Eu M a y x v' v ε) (hx : x ≤ T) (fu : Nat) (ga gb : Int64) : ∃ ga' gb', L_X12_layGuess_54 (zJ (p : Int)) (zJ (T : Int)) (fu + 3) (zJ (x : Int)) (zJ (y : Int)) (zJ (v : Int)) (zJ (v' : Int)) (zJ (ε * x)) (zJ (-ε * y)) 0 ga gb = some (if v ≤ T ∧ ¬ p ∣ v then 1 else 0, ga', gb') ∧ (v ≤ T ∧ ¬ p ∣ v → ga' = zJ (ε * x) ∧ gb' = zJ (v : Int)) := by
  obtain ⟨v1, v2, v3⟩ := Eu_v h
  have hp1 := hp.1
  have hlt := lgT (T := T) (v := v) (by omega) (by omega)
  by_cases c : T < v
  · refine ⟨ga, gb, ?_, fun z => by omega⟩
    rw [lg_big (hlt.mpr c), if_neg (by omega)]
  · have hin := lg_in hT hM h
    rw [if_pos hx] at hin
    rw [lg_go (fun z => c (hlt.mp z)) _ _ _ _ _ _ _ _ hin, if_neg (by decide), if_pos (nz_p (by omega) hp1.2)]
    have e := zJ_dvd (a := (v : Int)) (sm_nat (by omega)) (show 0 < p by omega) hp1.2
    rw [Int.natCast_dvd_natCast] at e
    have key : ∀ t : Int32, (t = 1 ∨ t = 0) → gJ (zJ (p : Int)) (zJ (T : Int)) (fu + 2) (zJ (x : Int)) (zJ (y : Int)) (zJ (v : Int)) (zJ (v' : Int)) (zJ (ε * x)) (zJ (-ε * y)) t = some (t, zJ (ε * x), zJ (v : Int)) := by
      intro t ht
      by_cases x0 : x = 0
      · subst x0
        exact gJ_0 (by omega) (fu + 1) _ _ _ _ _ t
      · rw [gJ_s hT hM h (by omega) (by omega)]
        rcases ht with rfl | rfl
        · exact lg_one _ _ (fu + 1) _ _ _ _ _ _ _ _
        · have hs := Eu_step h (show 0 < x by omega)
          have hbig : ¬ y / x * v + v' ≤ T := fun z => by
            have e1 := hs.2.2.1
            have e2 : (y / x * v + v') * x ≤ T * T := Nat.mul_le_mul z hx
            have e3 : v * (y % x) ≤ T * T := Nat.mul_le_mul (by omega) (by have := Nat.mod_lt y (show 0 < x by omega); omega)
            rw [Nat.mul_assoc] at h2
            omega
          rw [if_neg hbig]
          exact lg_big ((lgT (by omega) (by omega)).mpr (by omega)) (fu + 1) _ _ _ _ _ _ _ _
    by_cases c2 : p ∣ v
    · rw [if_pos (e.mpr c2), key 0 (Or.inr rfl), if_neg (fun z => z.2 c2)]
      exact ⟨_, _, rfl, fun z => absurd c2 z.2⟩
    · rw [if_neg (fun z => c2 (e.mp z)), key 1 (Or.inl rfl), if_pos ⟨by omega, c2⟩]
      exact ⟨_, _, rfl, fun _ => ⟨rfl, rfl⟩⟩
theorem lgx_eq {p M T : Nat} (hp : Pm p) (hT : T < M) (h2 : 2 * T * T < M) (hM : M ≤ 2000000000000000000) {a : Int} : ∀ (f y x v' v : Nat) (ε : Int) (fu : Nat) (ga gb : Int64), Eu M a y x v' v ε → T < y → (euF T f y x v' v ε).1 ≤ T → ∃ ga' gb', L_X12_layGuess_54 (zJ (p : Int)) (zJ (T : Int)) (fu + f + 3) (zJ (x : Int)) (zJ (y : Int)) (zJ (v : Int)) (zJ (v' : Int)) (zJ (ε * x)) (zJ (-ε * y)) 0 ga gb = some (if (euF T f y x v' v ε).2.1 ≤ T ∧ ¬ p ∣ (euF T f y x v' v ε).2.1 then 1 else 0, ga', gb') ∧ ((euF T f y x v' v ε).2.1 ≤ T ∧ ¬ p ∣ (euF T f y x v' v ε).2.1 → ga' = zJ ((euF T f y x v' v ε).2.2 * ((euF T f y x v' v ε).1 : Int)) ∧ gb' = zJ ((euF T f y x v' v ε).2.1 : Int)) := by
  intro f
  induction f with
  | zero =>
    intro y x v' v ε fu ga gb h hy hf
    exact lg_fin hp hT h2 hM h hf fu ga gb
  | succ f ih =>
    intro y x v' v ε fu ga gb h hy hf
    by_cases c : x ≤ T
    · rw [eu_end c]
      exact lg_fin hp hT h2 hM h c (fu + (f + 1)) ga gb
    · obtain ⟨v1, v2, v3⟩ := Eu_v h
      have hs := Eu_step h (show 0 < x by omega)
      obtain ⟨y2, w2, g1, g2, g3⟩ := eu_inv (T := T) f x (y % x) v (y / x * v + v') (-ε) hs (by omega)
      rw [eu_next c] at hf ⊢
      have hvn := hs.2.1.2.2.2
      have hlt := lgT (T := T) (v := v) (by omega) (by omega)
      by_cases c1 : T < v
      · refine ⟨ga, gb, ?_, fun z => by omega⟩
        rw [show fu + (f + 1) + 3 = (fu + f + 3) + 1 by omega, lg_big (hlt.mpr c1), if_neg (by omega)]
      · have hin := lg_in hT hM h
        rw [if_neg c] at hin
        rw [show fu + (f + 1) + 3 = (fu + f + 3) + 1 by omega, lg_go (fun z => c1 (hlt.mp z)) _ _ _ _ _ _ _ _ hin, if_pos rfl, gJ_s hT hM h (by omega) (by omega)]
        by_cases c3 : y / x * v + v' ≤ T
        · rw [if_pos c3]
          exact ih x (y % x) v (y / x * v + v') (-ε) fu (zJ (ε * x)) (zJ (v : Int)) hs (by omega) hf
        · rw [if_neg c3]
          refine ⟨zJ (ε * x), zJ (v : Int), ?_, fun z => by omega⟩
          rw [show fu + f + 3 = (fu + f + 2) + 1 by omega, lg_big ((lgT (by omega) (by omega)).mpr (by omega)), if_neg (by omega)]
theorem lgR_ok {F : Nat} (hF : 300 ≤ F) {p M A : Nat} (hp : Pm p) (h : A < M) (hM : M ≤ 2000000000000000000) (ga gb : Int64) : ∃ ga' gb', L_X12_layGuess_54 (zJ (p : Int)) (zJ ((Tb M : Nat) : Int)) F (zJ (A : Int)) (zJ (M : Int)) (1 : Int64) (0 : Int64) (zJ (A : Int)) (-zJ (M : Int)) 0 ga gb = some (if gF p M A = true then 1 else 0, ga', gb') ∧ (gF p M A = true → ga' = zJ (gA M A) ∧ gb' = zJ ((gB M A : Nat) : Int)) := by
  have hTl := Tb_lt (show 0 < M by omega) hM
  obtain ⟨y, v', hE, hy, hx⟩ := euR_spec h hM
  obtain ⟨ga', gb', e1, e2⟩ := lgx_eq hp hTl (Tb_spec (by omega) hM).1 hM 200 M A 0 1 1 (F - 203) ga gb (Eu_0 h) hTl hx
  rw [show F - 203 + 200 + 3 = F by omega, Int.one_mul, Int.neg_mul, Int.one_mul, ← zJ_neg] at e1
  refine ⟨ga', gb', ?_, fun z => ?_⟩
  · refine Eq.trans e1 ?_
    unfold gF euR
    by_cases c : (euF (Tb M) 200 M A 0 1 1).2.1 ≤ Tb M ∧ ¬ p ∣ (euF (Tb M) 200 M A 0 1 1).2.1
    · rw [if_pos c, if_pos (by rw [decide_eq_true_iff]; exact c)]
    · rw [if_neg c, if_neg (by rw [decide_eq_true_iff]; exact c)]
  · unfold gF at z
    rw [decide_eq_true_iff] at z
    exact e2 z
