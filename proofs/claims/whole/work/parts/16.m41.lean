/-! ===== how many digits surely do ===== -/
def Bt (A : Nat → Nat → Int) : Prop := ∀ i j, i < 4 → j < 4 → -9 ≤ A i j ∧ A i j ≤ 9
def Zr (A : Nat → Nat → Int) (n : Nat) : Prop := ∀ i j, i < n → n ≤ j → j < 4 → A i j = 0
theorem sq_le {x : Int} {b : Nat} (h : x.natAbs ≤ b) : x * x ≤ ((b * b : Nat) : Int) := by
  rw [← Int.natAbs_mul_self]
  exact Int.ofNat_le.mpr (Nat.mul_le_mul h h)
theorem rQ_le {A : Nat → Nat → Int} (hB : Bd A) (hT : Bt A) {i : Nat} (hi : i < 4) : 0 ≤ rQ A i ∧ rQ A i ≤ 10125 := by
  have h0 := hT i 0 hi (by omega)
  have h1 := hT i 1 hi (by omega)
  have h2 := hT i 2 hi (by omega)
  have h3 := hT i 3 hi (by omega)
  have h4 := hB i 4 hi (by omega)
  have e0 := sq_le (x := A i 0) (b := 9) (by omega)
  have e1 := sq_le (x := A i 1) (b := 9) (by omega)
  have e2 := sq_le (x := A i 2) (b := 9) (by omega)
  have e3 := sq_le (x := A i 3) (b := 9) (by omega)
  have e4 := sq_le (x := A i 4) (b := 99) (by omega)
  have f0 := sqp (A i 0)
  have f1 := sqp (A i 1)
  have f2 := sqp (A i 2)
  have f3 := sqp (A i 3)
  have f4 := sqp (A i 4)
  unfold rQ
  exact ⟨by omega, by omega⟩
theorem prodN_bd {f : Nat → Int} {n : Nat} (hn : n ≤ 4) (h : ∀ t, t < n → 0 ≤ f t ∧ f t ≤ 10125) : 0 ≤ prodN f n ∧ prodN f n ≤ 10509453369140625 := by
  have k := prodN_le (f := f) (g := fun _ => 10125) (k := n) (fun t ht => (h t ht).1) (fun t ht => (h t ht).2)
  refine ⟨k.1, Int.le_trans k.2 ?_⟩
  match n, hn with
  | 0, _ => simp [prodN]
  | 1, _ => simp [prodN]
  | 2, _ => simp [prodN]
  | 3, _ => simp [prodN]
  | 4, _ => simp [prodN]
theorem sqc_loop {nums : Nat → Int32} {A : Nat → Nat → Int} (hN : Nc nums A) {i : Nat} (hi : i < 4) : ∀ (d j fu : Nat), j + d = 5 → d < fu → L_X3_squares_5 (nI i) nums fu (zJ (sumN (fun j => A i j * A i j) j)) (nI j) = some (zJ (sumN (fun j => A i j * A i j) 5)) := by
  intro d
  induction d with
  | zero =>
    intro j fu hj hfu
    obtain ⟨fu, rfl⟩ : ∃ g, fu = g + 1 := ⟨fu - 1, by omega⟩
    rw [L_X3_squares_5, if_pos (show (5 : Int32) ≤ nI j from nI_le (a := 5) (by omega) (by omega)), show j = 5 by omega]
  | succ d ih =>
    intro j fu hj hfu
    obtain ⟨fu, rfl⟩ : ∃ g, fu = g + 1 := ⟨fu - 1, by omega⟩
    rw [L_X3_squares_5, if_neg (show ¬ (5 : Int32) ≤ nI j from nI_ge (b := 5) (by omega) (by omega))]
    refine kb1_of (number_ok hN hi (by omega)) ?_
    refine kb1_of (number_ok hN hi (by omega)) ?_
    have h4 := hN.2 i j hi (by omega)
    have e4 := sq_le (x := A i j) (b := 99) (by omega)
    have f4 := sqp (A i j)
    rw [zI_mul, zI_J ⟨by omega, by omega⟩, zJ_add, nI_1]
    exact ih (j + 1) fu (by omega) (by omega)
theorem rQ_sum (A : Nat → Nat → Int) (i : Nat) : sumN (fun j => A i j * A i j) 5 = rQ A i := by
  simp only [sumN, rQ]; omega
theorem squares_ok {F : Nat} (hF : 100 ≤ F) {nums : Nat → Int32} {A : Nat → Nat → Int} (hN : Nc nums A) {i : Nat} (hi : i < 4) : f_X3_squares F nums (nI i) = some (zJ (rQ A i)) := by
  unfold f_X3_squares
  refine kb1_of (show L_X3_squares_5 (nI i) nums F (0 : Int64) (0 : Int32) = _ from sqc_loop hN hi 5 0 F (by omega) (by omega)) ?_
  rw [rQ_sum]
theorem s6c_loop {F : Nat} (hF : 100 ≤ F) {nums : Nat → Int32} {A : Nat → Nat → Int} (hN : Nc nums A) {n : Nat} (hn : n ≤ 4) : ∀ (d i fu : Nat), i + d = n → d < fu → L_X11_sure_6 F (nI n) nums fu (zJ (2 * prodN (rQ A) i)) (nI i) = some (zJ (2 * prodN (rQ A) n)) := by
  intro d
  induction d with
  | zero =>
    intro i fu hi hfu
    obtain ⟨fu, rfl⟩ : ∃ g, fu = g + 1 := ⟨fu - 1, by omega⟩
    rw [L_X11_sure_6, if_pos (nI_le (by omega) (by omega)), show i = n by omega]
  | succ d ih =>
    intro i fu hi hfu
    obtain ⟨fu, rfl⟩ : ∃ g, fu = g + 1 := ⟨fu - 1, by omega⟩
    rw [L_X11_sure_6, if_neg (nI_ge (by omega) (by omega))]
    refine kb1_of (squares_ok hF hN (show i < 4 by omega)) ?_
    rw [zJ_mul, nI_1]
    have := ih (i + 1) fu (by omega) (by omega)
    rw [prodN, ← Int.mul_assoc] at this
    exact this
theorem s20_loop {w : Nat → Int32} {A : Nat → Nat → Int} {n : Nat} (hW : Wn w n A) {i : Nat} (hi : i < 4) (x1 : Int64) : ∀ (d j fu : Nat), j + d = n → d < fu → L_X12_sure_20 x1 (nI i) w fu (zJ (sumN (fun j => A i j * A i j) j)) (nI j) = some (zJ (sumN (fun j => A i j * A i j) n)) := by
  have hn := hW.2.2.1
  intro d
  induction d with
  | zero =>
    intro j fu hj hfu
    obtain ⟨fu, rfl⟩ : ∃ g, fu = g + 1 := ⟨fu - 1, by omega⟩
    rw [L_X12_sure_20]
    refine kb1_of (n_ok hW) ?_
    rw [if_pos (nI_le (by omega) (by omega)), show j = n by omega]
  | succ d ih =>
    intro j fu hj hfu
    obtain ⟨fu, rfl⟩ : ∃ g, fu = g + 1 := ⟨fu - 1, by omega⟩
    rw [L_X12_sure_20]
    refine kb1_of (n_ok hW) ?_
    rw [if_neg (nI_ge (by omega) (by omega))]
    refine kb1_of (cell_ok hW.2.2.2 hi (by omega)) ?_
    refine kb1_of (cell_ok hW.2.2.2 hi (by omega)) ?_
    rw [zJ_mul, zJ_add, nI_1]
    exact ih (j + 1) fu (by omega) (by omega)
theorem rQ_zr {A : Nat → Nat → Int} {n i : Nat} (hn : n ≤ 4) (hZ : Zr A n) (hi : i < n) : sumN (fun j => A i j * A i j) n + A i 4 * A i 4 = rQ A i := by
  have e := sumN_zero (f := fun j => A i j * A i j) hn (fun t a b => by rw [hZ i t hi a b]; rfl)
  rw [← e, ← rQ_sum]
  rfl
theorem s6m_loop {F : Nat} (hF : 100 ≤ F) {w : Nat → Int32} {A : Nat → Nat → Int} {n : Nat} (hW : Wn w n A) (hZ : Zr A n) : ∀ (d i fu : Nat), i + d = n → d < fu → L_X12_sure_6 F w fu (zJ (2 * prodN (rQ A) i)) (nI i) = some (zJ (2 * prodN (rQ A) n)) := by
  have hn := hW.2.2.1
  intro d
  induction d with
  | zero =>
    intro i fu hi hfu
    obtain ⟨fu, rfl⟩ : ∃ g, fu = g + 1 := ⟨fu - 1, by omega⟩
    rw [L_X12_sure_6]
    refine kb1_of (n_ok hW) ?_
    rw [if_pos (nI_le (by omega) (by omega)), show i = n by omega]
  | succ d ih =>
    intro i fu hi hfu
    obtain ⟨fu, rfl⟩ : ∃ g, fu = g + 1 := ⟨fu - 1, by omega⟩
    rw [L_X12_sure_6]
    refine kb1_of (n_ok hW) ?_
    rw [if_neg (nI_ge (by omega) (by omega))]
    refine kb1_of (show L_X12_sure_20 _ (nI i) w F (0 : Int64) (0 : Int32) = _ from s20_loop hW (show i < 4 by omega) _ n 0 F (by omega) (by omega)) ?_
    refine kb1_of (show f_X12_cell w (nI i) (4 : Int32) = _ from cell_ok hW.2.2.2 (show i < 4 by omega) (show 4 < 5 by omega)) ?_
    refine kb1_of (show f_X12_cell w (nI i) (4 : Int32) = _ from cell_ok hW.2.2.2 (show i < 4 by omega) (show 4 < 5 by omega)) ?_
    rw [zJ_mul, zJ_add, zJ_mul, nI_1, rQ_zr hn hZ (by omega)]
    have := ih (i + 1) fu (by omega) (by omega)
    rw [prodN, ← Int.mul_assoc] at this
    exact this
theorem least {Q : Nat → Prop} : ∀ n, Q n → ∃ m, m ≤ n ∧ Q m ∧ ∀ i, i < m → ¬ Q i := by
  intro n
  induction n using Nat.strongRecOn with
  | ind n ih =>
    intro h
    by_cases c : ∃ i, i < n ∧ Q i
    · obtain ⟨i, hi, hq⟩ := c
      obtain ⟨m, a, b, d⟩ := ih i hi hq
      exact ⟨m, by omega, b, d⟩
    · exact ⟨n, Nat.le_refl _, h, fun i hi hq => c ⟨i, hi, hq⟩⟩
/-- K is how many digits surely do -/
def Su (p P K : Nat) : Prop := 1 ≤ K ∧ K ≤ 60 ∧ P < p ^ K ∧ (∀ i, i < K → p ^ i ≤ P) ∧ p ^ K ≤ 2000000000000000000
theorem su_fin : ∀ pn : Fin 25, ∀ e : Fin 61, prN pn.val ^ e.val ≤ 21018906738281250 → prN pn.val ^ (e.val + 1) ≤ 2000000000000000000 := by decide +kernel
theorem Su_ex {pn P : Nat} (hpn : pn < 25) (h0 : 1 ≤ P) (hP : P ≤ 21018906738281250) : ∃ K, Su (prN pn) P K := by
  have hp := (Pm_pr hpn).1
  obtain ⟨K, a, b, c⟩ := least (Q := fun k => P < prN pn ^ k) 61 (by have := pw_big hp.1; omega)
  have hK : 1 ≤ K := by
    refine Classical.byContradiction fun z => ?_
    rw [show K = 0 by omega, Nat.pow_zero] at b
    omega
  have hle : prN pn ^ K ≤ 2000000000000000000 := by
    have := su_fin ⟨pn, hpn⟩ ⟨K - 1, by omega⟩ (by have := c (K - 1) (by omega); simp only; omega)
    simp only at this
    rwa [show K - 1 + 1 = K by omega] at this
  exact ⟨K, hK, pw_le hp.1 hle, b, fun i hi => by have := c i hi; omega, hle⟩
theorem s39_loop {pn P K : Nat} (hpn : pn < 25) (hP : P ≤ 21018906738281250) (hS : Su (prN pn) P K) : ∀ (d k fu : Nat), k + d = K → d < fu → L_X11_sure_39 (zJ (P : Int)) (nI pn) fu (nI k) (zJ ((prN pn ^ k : Nat) : Int)) = some (nI K) := by
  have hp := (Pm_pr hpn).1
  obtain ⟨s1, s2, s3, s4, s5⟩ := hS
  intro d
  induction d with
  | zero =>
    intro k fu hk hfu
    obtain ⟨fu, rfl⟩ : ∃ g, fu = g + 1 := ⟨fu - 1, by omega⟩
    have : k = K := by omega
    subst this
    rw [L_X11_sure_39, if_pos ((zJ_lt (rJ_sm (sm_nat (by omega))) (rJ_sm (sm_nat (by omega)))).mpr (by omega))]
  | succ d ih =>
    intro k fu hk hfu
    obtain ⟨fu, rfl⟩ : ∃ g, fu = g + 1 := ⟨fu - 1, by omega⟩
    have h4 := s4 k (by omega)
    rw [L_X11_sure_39, if_neg (fun z => by have := (zJ_lt (rJ_sm (sm_nat (by omega))) (rJ_sm (sm_nat (by omega)))).mp z; omega), if_neg (show ¬ (100 : Int32) ≤ nI k from nI_ge (b := 100) (by omega) (by omega))]
    refine kl_of (nI_1 k) ?_
    refine kb1_of (p_c hpn) ?_
    refine kl_of (show zJ ((prN pn ^ k : Nat) : Int) * (nI (prN pn)).toInt64 = zJ ((prN pn ^ (k + 1) : Nat) : Int) by rw [nIJ hp.2, zJ_mul, Nat.pow_succ, Int.natCast_mul]) ?_
    exact ih (k + 1) fu (by omega) (by omega)
theorem s82_loop {F : Nat} (hF : 100 ≤ F) {w : Nat → Int32} {A : Nat → Nat → Int} {n pn P K : Nat} (hW : Wp w n pn A) (hP : P ≤ 21018906738281250) (hS : Su (prN pn) P K) : ∀ (d k fu : Nat), k + d = K → d < fu → L_X12_sure_82 F (zJ (P : Int)) w fu (nI k) = some (nI K) := by
  have hp := (Pm_pr hW.2.2).1
  obtain ⟨s1, s2, s3, s4, s5⟩ := hS
  intro d
  induction d with
  | zero =>
    intro k fu hk hfu
    obtain ⟨fu, rfl⟩ : ∃ g, fu = g + 1 := ⟨fu - 1, by omega⟩
    have : k = K := by omega
    subst this
    rw [L_X12_sure_82]
    refine kb1_of (pm_ok hF hW) ?_
    refine kb1_of (by rw [nIJ hp.2]; exact powerM_ok hF hp.1 hp.2 (by omega)) ?_
    rw [if_pos s5, if_pos ((zJ_lt (rJ_sm (sm_nat (by omega))) (rJ_sm (sm_nat (by omega)))).mpr (by omega))]
  | succ d ih =>
    intro k fu hk hfu
    obtain ⟨fu, rfl⟩ : ∃ g, fu = g + 1 := ⟨fu - 1, by omega⟩
    have h4 := s4 k (by omega)
    rw [L_X12_sure_82]
    refine kb1_of (pm_ok hF hW) ?_
    refine kb1_of (by rw [nIJ hp.2]; exact powerM_ok hF hp.1 hp.2 (by omega)) ?_
    rw [if_pos (show prN pn ^ k ≤ 2000000000000000000 by omega), if_neg (fun z => by have := (zJ_lt (rJ_sm (sm_nat (by omega))) (rJ_sm (sm_nat (by omega)))).mp z; omega), nI_1]
    exact ih (k + 1) fu (by omega) (by omega)
/-- the product, as a number -/
def Pn (A : Nat → Nat → Int) (n : Nat) : Nat := (2 * prodN (rQ A) n).toNat
theorem Pn_e {A : Nat → Nat → Int} (hB : Bd A) (hT : Bt A) {n : Nat} (hn : n ≤ 4) : 2 * prodN (rQ A) n = (Pn A n : Int) ∧ Pn A n ≤ 21018906738281250 := by
  have := prodN_bd (f := rQ A) hn (fun t ht => rQ_le hB hT (by omega))
  unfold Pn
  exact ⟨by omega, by omega⟩
theorem Pn_pos {A : Nat → Nat → Int} (hB : Bd A) (hT : Bt A) {n : Nat} (hn : n ≤ 4) (hD : Dt A n ≠ 0) : 1 ≤ Pn A n := by
  have h1 := (Pn_e hB hT hn).1
  have h2 := had_D A hn
  have h3 : 1 ≤ Dt A n * Dt A n := by
    have := sqp (Dt A n)
    have : Dt A n * Dt A n ≠ 0 := Int.mul_ne_zero hD hD
    omega
  omega
theorem sureC_ok {F : Nat} (hF : 100 ≤ F) {nums : Nat → Int32} {A : Nat → Nat → Int} (hN : Nc nums A) (hT : Bt A) {n pn K : Nat} (hn : n ≤ 4) (hpn : pn < 25) (hS : Su (prN pn) (Pn A n) K) : f_X11_sure F (nI n) (nI pn) nums = some (nI K) := by
  obtain ⟨e1, e2⟩ := Pn_e hN.2 hT hn
  have := hS.2.1
  unfold f_X11_sure
  refine kb1_of (show L_X11_sure_6 F (nI n) nums F (2 : Int64) (0 : Int32) = _ from s6c_loop hF hN hn n 0 F (by omega) (by omega)) ?_
  rw [e1]
  refine kb1_of (show L_X11_sure_39 (zJ (Pn A n : Int)) (nI pn) F (0 : Int32) (1 : Int64) = _ from s39_loop hpn e2 hS K 0 F (by omega) (by omega)) ?_
  rfl
theorem sureM_ok {F : Nat} (hF : 100 ≤ F) {w : Nat → Int32} {A : Nat → Nat → Int} {n pn K : Nat} (hW : Wp w n pn A) (hT : Bt A) (hZ : Zr A n) (hS : Su (prN pn) (Pn A n) K) : f_X12_sure F w = some (nI K) := by
  obtain ⟨e1, e2⟩ := Pn_e hW.1.2.2.2.2 hT hW.1.2.2.1
  have h2 := hS.2.1
  have h1 := hS.1
  unfold f_X12_sure
  refine kb1_of (show L_X12_sure_6 F w F (2 : Int64) (0 : Int32) = _ from s6m_loop hF hW.1 hZ n 0 F (by omega) (by have := hW.1.2.2.1; omega)) ?_
  rw [e1]
  refine kb1_of (show L_X12_sure_82 F (zJ (Pn A n : Int)) w F (1 : Int32) = _ from s82_loop hF hW e2 hS (K - 1) 1 F (by omega) (by omega)) ?_
  rfl
theorem sq_T {x : Int} {M : Nat} {P : Nat} (h : 2 * (x * x) ≤ (P : Int)) (hM : P < M) (h0 : 0 < M) (hM2 : M ≤ 2000000000000000000) : x.natAbs ≤ Tb M := by
  refine Classical.byContradiction fun c => ?_
  have e := (Tb_spec h0 hM2).2
  have e2 : (Tb M + 1) * (Tb M + 1) ≤ x.natAbs * x.natAbs := Nat.mul_le_mul (by omega) (by omega)
  have e3 := Int.natAbs_mul_self (a := x)
  rw [Nat.mul_assoc] at e
  have e4 : ((x.natAbs * x.natAbs : Nat) : Int) = x * x := e3
  omega
/-- by so many digits each guess is right -/
theorem sure_right {A : Nat → Nat → Int} (hT : Bt A) {n pn ex K : Nat} {σ l : Nat → Nat} {X : Nat → Nat → Int} {s : Int} (hpn : pn < 25) (h : Ck A n n ex σ l X s) {c w : Nat → Int} (hS : Sy (prN pn) A n s (slA l n X s) (slB l n X s) c w) (hK : Su (prN pn) (Pn A n) K) {j : Nat} (hj : j < n) :
    gF (prN pn) (prN pn ^ K) (mdN (prN pn) (slB l n X s j) (w j) (slA l n X s j) K) = true ∧ gA (prN pn ^ K) (mdN (prN pn) (slB l n X s j) (w j) (slA l n X s j) K) = slA l n X s j ∧ ((gB (prN pn ^ K) (mdN (prN pn) (slB l n X s j) (w j) (slA l n X s j) K) : Nat) : Int) = slB l n X s j := by
  have hp := Pm_pr hpn
  have hn := (Ck_n h).1
  obtain ⟨q1, q2, q3, q4, q5⟩ := hS.1 j hj
  obtain ⟨g1, g2⟩ := sl_sq h hj
  obtain ⟨e1, e2⟩ := Pn_e h.1 hT hn
  obtain ⟨e3, e4⟩ := sl_n h hj
  have a1 := sq_T (x := slA l n X s j) (M := prN pn ^ K) (P := Pn A n) (by omega) hK.2.2.1 (by have := hK.2.2.1; omega) hK.2.2.2.2
  have a2 := sq_T (x := slB l n X s j) (M := prN pn ^ K) (P := Pn A n) (by omega) hK.2.2.1 (by have := hK.2.2.1; omega) hK.2.2.2.2
  refine rr_md hp q2 hK.2.2.2.2 ⟨by omega, by omega⟩ ⟨by omega, by omega⟩ ?_
  rw [e3, e4]
  exact fr_co (Ck_s h).1
