/-! ===== what the class reads of its clearing ===== -/
theorem fr_dvd (a b : Int) : ((Int.gcd a b : Nat) : Int) ∣ a ∧ ((Int.gcd a b : Nat) : Int) ∣ b := ⟨Int.gcd_dvd_left .., Int.gcd_dvd_right ..⟩
theorem frB_pos {a b : Int} (hb : b ≠ 0) : 1 ≤ frB a b ∧ frB a b ≤ b.natAbs ∧ frB a b ∣ b := by
  obtain ⟨-, c, hc⟩ := fr_dvd a b
  have hg : (Int.gcd a b : Nat) ≠ 0 := fun z => hb (Int.gcd_eq_zero_iff.mp z).2
  have e : frB a b = (c.natAbs : Int) := by
    unfold frB
    have h1 : (b.natAbs : Int) = ((Int.gcd a b : Nat) : Int) * (c.natAbs : Int) := by
      conv => lhs; rw [hc]
      rw [Int.natAbs_mul]; simp
    rw [h1, Int.mul_ediv_cancel_left _ (by omega)]
  have hc0 : c ≠ 0 := fun z => hb (by rw [hc, z, Int.mul_zero])
  have hle : c.natAbs ≤ b.natAbs := by
    conv => rhs; rw [hc]
    rw [Int.natAbs_mul]
    exact Nat.le_mul_of_pos_left _ (by simp; omega)
  refine ⟨by rw [e]; omega, by rw [e]; omega, ?_⟩
  rw [e, Int.natAbs_dvd]
  exact ⟨((Int.gcd a b : Nat) : Int), by rw [Int.mul_comm]; exact hc⟩
theorem frA_le {a b : Int} (hb : b ≠ 0) : (frA a b).natAbs ≤ a.natAbs := by
  obtain ⟨⟨c, hc⟩, -⟩ := fr_dvd a b
  have hg : (Int.gcd a b : Nat) ≠ 0 := fun z => hb (Int.gcd_eq_zero_iff.mp z).2
  have hle : c.natAbs ≤ a.natAbs := by
    conv => rhs; rw [hc]
    rw [Int.natAbs_mul]
    exact Nat.le_mul_of_pos_left _ (by simp; omega)
  unfold frA
  by_cases e : b < 0
  · rw [if_pos e]
    have : -a = ((Int.gcd a b : Nat) : Int) * (-c) := by conv => lhs; rw [hc]
                                                         rw [Int.mul_neg]
    rw [this, Int.mul_ediv_cancel_left _ (by omega)]; omega
  · rw [if_neg e]
    have : a / ((Int.gcd a b : Nat) : Int) = c := by conv => lhs; arg 1; rw [hc]
                                                     rw [Int.mul_ediv_cancel_left _ (by omega)]
    rw [this]; exact hle
theorem gcd_sm {a b : Int} (ha : sm a) (hb : sm b) (h0 : b ≠ 0) : sm ((Int.gcd a b : Nat) : Int) := by
  have : Int.gcd a b ≤ b.natAbs := Nat.le_of_dvd (by omega) (Int.natCast_dvd_natCast.mp (by rw [Int.dvd_natAbs]; exact Int.gcd_dvd_right ..))
  unfold sm at *; omega
theorem above_ok {F : Nat} (hF : 200 ≤ F) {v : Nat → Nat → Int64} {X : Nat → Nat → Int} (hM : Mt 5 v X) {s : Int} (hs : sm s) (h0 : s ≠ 0) {r c : Nat} (hr : r < 4) (hc : c < 5) (hx : sm (X r c)) : f_X1_above F (zJ s) v (nI r) (nI c) = some (zJ (frA (X r c) s)) := by
  have kr : kin (nI r) 4 := kin_nI (by decide) hr
  have kc : kin (nI c) 5 := kin_nI (by decide) hc
  have e : ((0 : Int64) ≤ zJ s) ↔ 0 ≤ s := by rw [show (0 : Int64) = zJ 0 from rfl, zJ_le ⟨by omega, by omega⟩ (rJ_sm hs)]
  have hg := gcd_sm hx hs h0
  obtain ⟨d1, d2⟩ := fr_dvd (X r c) s
  unfold f_X1_above
  simp only [kj1, if_pos kr, if_pos kc, nI_clamp (n := r) (show r < 2 ^ 31 by omega), nI_clamp (n := c) (show c < 2 ^ 31 by omega), hM r c hr hc]
  rw [gcd_ok hx hs hF]
  simp only [kb1, Option.bind_some]
  unfold frA
  by_cases q : 0 ≤ s
  · rw [if_pos (e.mpr q), quotient_ok hx hg, if_neg (by omega), tdiv_of_dvd d1]
    rfl
  · rw [if_neg (fun z => q (e.mp z)), zJ_neg, quotient_ok (by unfold sm at *; omega) hg, if_pos (by omega), tdiv_of_dvd (Int.dvd_neg.mpr d1)]
    rfl
theorem below_ok {F : Nat} (hF : 200 ≤ F) {v : Nat → Nat → Int64} {X : Nat → Nat → Int} (hM : Mt 5 v X) {s : Int} (hs : sm s) (h0 : s ≠ 0) {r c : Nat} (hr : r < 4) (hc : c < 5) (hx : sm (X r c)) : f_X1_below F (zJ s) v (nI r) (nI c) = some (zJ (frB (X r c) s)) := by
  have kr : kin (nI r) 4 := kin_nI (by decide) hr
  have kc : kin (nI c) 5 := kin_nI (by decide) hc
  have hg := gcd_sm hx hs h0
  obtain ⟨d1, d2⟩ := fr_dvd (X r c) s
  unfold f_X1_below
  rw [if_pos kr, if_pos kc, nI_clamp (n := r) (by omega), nI_clamp (n := c) (by omega), hM r c hr hc, gcd_ok hx hs hF]
  simp only [kb1, Option.bind_some]
  rw [abs_lt hs, quotient_ok (sm_nat (by unfold sm at hs; omega)) hg, tdiv_of_dvd (Int.dvd_natAbs.mpr d2)]
  rfl
/-- what is known of a clearing -/
def Ck (A : Nat → Nat → Int) (n k ex : Nat) (σ l : Nat → Nat) (X : Nat → Nat → Int) (s : Int) : Prop := Bd A ∧ 1 ≤ n ∧ Inv A n n k σ l X s ∧ ex ≤ n ∧ Sg A n σ ex
theorem Ck_n {A : Nat → Nat → Int} {n k ex : Nat} {σ l : Nat → Nat} {X : Nat → Nat → Int} {s : Int} (h : Ck A n k ex σ l X s) : n ≤ 4 ∧ k ≤ n := ⟨h.2.2.1.1.2.2.2, h.2.2.1.1.2.1⟩
theorem Ck_s {A : Nat → Nat → Int} {n k ex : Nat} {σ l : Nat → Nat} {X : Nat → Nat → Int} {s : Int} (h : Ck A n k ex σ l X s) : s ≠ 0 ∧ s.natAbs ≤ 2305430424 ∧ sm s := by
  obtain ⟨h1, h2⟩ := Ck_n h
  have := (Inv_ab h.1 h.2.2.1).2.2.1
  have := Bm_le (show k ≤ 4 by omega)
  exact ⟨h.2.2.1.2.2.2.1.2, by omega, sm_ab (by omega)⟩
theorem Ck_x {A : Nat → Nat → Int} {n k ex : Nat} {σ l : Nat → Nat} {X : Nat → Nat → Int} {s : Int} (h : Ck A n k ex σ l X s) {i c : Nat} (hi : i < 4) (hc : c < 5) : (X i c).natAbs ≤ 2305430424 ∧ sm (X i c) := by
  have := (Inv_ab h.1 h.2.2.1).2.2.2 i c hi hc
  exact ⟨this, sm_ab this⟩
theorem Mn_full (A : Nat → Nat → Int) {n : Nat} (hn : n ≤ 4) : Mn A (2 ^ n - 1) (2 ^ n - 1) = Dm A (fun i => i) (fun i => i) n := by
  have e : ∀ n : Fin 5, onesN (2 ^ n.val - 1) = n.val ∧ ∀ z : Fin 4, z.val < n.val → pkN (2 ^ n.val - 1) z.val = z.val := by decide +kernel
  obtain ⟨e1, e2⟩ := e ⟨n, by omega⟩
  simp only at e1 e2
  unfold Mn
  rw [e1]
  exact Dm_congr hn (fun i hi => e2 ⟨i, by omega⟩ hi) (fun i hi => e2 ⟨i, by omega⟩ hi)
theorem det_scale {A : Nat → Nat → Int} {n ex : Nat} {σ l : Nat → Nat} {X : Nat → Nat → Int} {s : Int} (h : Ck A n n ex σ l X s) : s = sgn ex * Mn A (2 ^ n - 1) (2 ^ n - 1) := by
  rw [h.2.2.1.2.2.2.1.1, Dm_congr (Ck_n h).1 (fun _ _ => rfl) (Inc_id (Inv_inc h.2.2.1)), h.2.2.2.2 (fun i => i), Mn_full A (Ck_n h).1]
theorem det_c {A : Nat → Nat → Int} {n k ex : Nat} {σ l : Nat → Nat} {X : Nat → Nat → Int} {s : Int} (h : Ck A n k ex σ l X s) : f_X1_determinant (nI n) (nI k) (nI ex) (zJ s) = some (zJ (Mn A (2 ^ n - 1) (2 ^ n - 1))) := by
  obtain ⟨h1, h2⟩ := Ck_n h
  have hex := h.2.2.2.1
  unfold f_X1_determinant
  by_cases c : k < n
  · rw [if_neg (nI_ge c (by omega)), det_of_full h.2.2.1 c]; rfl
  · have : k = n := by omega
    subst this
    rw [if_pos (nI_le (Nat.le_refl _) (by omega))]
    have hd := det_scale h
    rw [nI_z, show (2 : Int32) = zI 2 from rfl, zI_rem ⟨by omega, by omega⟩ ⟨by omega, by omega⟩ (by omega)]
    have e : ((ex : Int).tmod 2) = ((ex % 2 : Nat) : Int) := tmod_nat ex 2
    rw [e]
    unfold sgn at hd
    by_cases q : ex % 2 = 0
    · rw [if_pos q, Int.one_mul] at hd
      rw [q, if_pos (by rfl), hd]
    · rw [if_neg q] at hd
      rw [show ex % 2 = 1 by omega, if_neg (by decide), hd, zJ_neg, Int.neg_mul, Int.one_mul, Int.neg_neg]
theorem fits_loop {n : Nat} (hn : n ≤ 4) {v : Nat → Nat → Int64} {X : Nat → Nat → Int} (hM : Mt 5 v X) (hx : ∀ i, i < 4 → sm (X i 4)) : ∀ (d i fu : Nat), i + d = n → d < fu → ((∀ z, i ≤ z → z < n → X z 4 = 0) → L_X9_fitsSide_C_5 (nI n) v fu (nI i) = some (.inr ())) ∧ (¬ (∀ z, i ≤ z → z < n → X z 4 = 0) → L_X9_fitsSide_C_5 (nI n) v fu (nI i) = some (.inl ())) := by
  intro d
  induction d with
  | zero =>
    intro i fu hi hfu
    obtain ⟨fu, rfl⟩ : ∃ g, fu = g + 1 := ⟨fu - 1, by omega⟩
    rw [L_X9_fitsSide_C_5, if_pos (nI_le (by omega) (by omega))]
    exact ⟨fun _ => rfl, fun q => absurd (fun z a b => by omega) q⟩
  | succ d ih =>
    intro i fu hi hfu
    obtain ⟨fu, rfl⟩ : ∃ g, fu = g + 1 := ⟨fu - 1, by omega⟩
    rw [L_X9_fitsSide_C_5, if_neg (nI_ge (by omega) (by omega)), if_pos (kin_nI (by decide) (by omega)), if_pos (by decide), nI_clamp (n := i) (by omega), show (4 : Int32).toNatClampNeg = 4 from rfl, hM i 4 (by omega) (by omega)]
    have e : zJ (X i 4) = (0 : Int64) ↔ X i 4 = 0 := by
      rw [show (0 : Int64) = zJ 0 from rfl, zJ_eq (rJ_sm (hx i (by omega))) ⟨by omega, by omega⟩]
    by_cases c : X i 4 = 0
    · rw [if_pos (e.mpr c)]
      simp only [kl, nI_1]
      obtain ⟨h1, h2⟩ := ih (i + 1) fu (by omega) (by omega)
      refine ⟨fun q => h1 (fun z a b => q z (by omega) b), fun q => h2 (fun q2 => q (fun z a b => ?_))⟩
      by_cases y : z = i
      · rw [y]; exact c
      · exact q2 z (by omega) b
    · rw [if_neg (fun z => c (e.mp z))]
      exact ⟨fun q => absurd (q i (by omega) (by omega)) c, fun _ => rfl⟩
/-- the side comes of the columns -/
def fitB (n k : Nat) (X : Nat → Nat → Int) : Bool := decide (∀ z, z < n → k ≤ z → X z 4 = 0)
theorem fitB_iff {n k : Nat} {X : Nat → Nat → Int} : fitB n k X = true ↔ ∀ z, k ≤ z → z < n → X z 4 = 0 := by
  unfold fitB
  rw [decide_eq_true_iff]
  exact ⟨fun h z a b => h z b a, fun h z a b => h z b a⟩
theorem fits_ok {F : Nat} (hF : 100 ≤ F) {A : Nat → Nat → Int} {n k ex : Nat} {σ l : Nat → Nat} {X : Nat → Nat → Int} {s : Int} (h : Ck A n k ex σ l X s) {v : Nat → Nat → Int64} (hM : Mt 5 v X) : f_X9_fitsSide_C F (nI n) (nI k) v = some (if fitB n k X = true then 1 else 0) := by
  obtain ⟨h1, h2⟩ := Ck_n h
  obtain ⟨e1, e2⟩ := fits_loop h1 hM (fun i hi => (Ck_x h hi (by omega)).2) (n - k) k F (by omega) (by omega)
  unfold f_X9_fitsSide_C
  by_cases q : fitB n k X = true
  · rw [e1 (fitB_iff.mp q), if_pos q]; rfl
  · rw [e2 (fun z => q (fitB_iff.mpr z)), if_neg q]; rfl
theorem wideRank_c {F : Nat} (hF : 100 ≤ F) {A : Nat → Nat → Int} {n k ex : Nat} {σ l : Nat → Nat} {X : Nat → Nat → Int} {s : Int} (h : Ck A n k ex σ l X s) {v : Nat → Nat → Int64} (hM : Mt 5 v X) : f_X1_wideRank F (nI n) (nI k) v = some (nI (if fitB n k X = true then k else k + 1)) := by
  unfold f_X1_wideRank
  rw [fits_ok hF h hM]
  by_cases q : fitB n k X = true
  · simp only [if_pos q, kb1, Option.bind_some]; rfl
  · simp only [if_neg q, kb1, Option.bind_some]; rw [if_pos trivial, nI_1]
theorem kind_c {F : Nat} (hF : 100 ≤ F) {A : Nat → Nat → Int} {n k ex : Nat} {σ l : Nat → Nat} {X : Nat → Nat → Int} {s : Int} (h : Ck A n k ex σ l X s) {v : Nat → Nat → Int64} (hM : Mt 5 v X) : f_X1_kind F (nI n) (nI k) v = some (if fitB n k X = true then if k = n then 1 else 2 else 0) := by
  obtain ⟨h1, h2⟩ := Ck_n h
  unfold f_X1_kind
  rw [fits_ok hF h hM]
  by_cases q : fitB n k X = true
  · simp only [if_pos q, kb1, Option.bind_some]
    rw [if_neg (by decide)]
    by_cases e : k = n
    · rw [if_pos (by rw [e]), if_pos e]
    · rw [if_neg (fun z => e ((nI_eq (by omega) (by omega)).mp z)), if_neg e]
  · simp only [if_neg q, kb1, Option.bind_some]; rw [if_pos trivial]
theorem wideRank_m {F : Nat} (hF : 100 ≤ F) {w : Nat → Int32} {A : Nat → Nat → Int} {n k ex : Nat} {σ l : Nat → Nat} {X : Nat → Nat → Int} {s : Int} (hW : Wn w n A) (h : Ck A n k ex σ l X s) (rs cs : Nat → Int32) : ∃ rs' cs', f_X12_wideRank F w rs cs (0 : Int32) = some (nI (if fitB n k X = true then k else k + 1), rs', cs') := by
  obtain ⟨r, rs', cs', e1, e2, e3⟩ := wideRank_ok hF hW (q := 0) (Or.inl rfl) rs cs
  obtain ⟨w1, w2⟩ := Rk_wide h.2.2.1
  refine ⟨rs', cs', ?_⟩
  rw [show (0 : Int32) = nI 0 from rfl, e1]
  by_cases q : fitB n k X = true
  · rw [if_pos q, Rk_unique e3 (w1 (fitB_iff.mp q))]
  · rw [if_neg q, Rk_unique e3 (w2 (fun z => q (fitB_iff.mpr z)))]
theorem rank_m {F : Nat} (hF : 100 ≤ F) {w : Nat → Int32} {A : Nat → Nat → Int} {n k ex : Nat} {σ l : Nat → Nat} {X : Nat → Nat → Int} {s : Int} (hW : Wn w n A) (h : Ck A n k ex σ l X s) (rs cs : Nat → Int32) : ∃ rs' cs', f_X12_rank F w rs cs = some (nI k, rs', cs') := by
  obtain ⟨r, rs', cs', e1, e2, e3⟩ := rank_ok hF hW rs cs
  exact ⟨rs', cs', by rw [e1, Rk_unique e3 (Rk_full0 h.2.2.1)]⟩
theorem kind_m {F : Nat} (hF : 100 ≤ F) {w : Nat → Int32} {A : Nat → Nat → Int} {n k ex : Nat} {σ l : Nat → Nat} {X : Nat → Nat → Int} {s : Int} (hW : Wn w n A) (h : Ck A n k ex σ l X s) (rs cs : Nat → Int32) : ∃ rs' cs', f_X12_kind F w rs cs = some (if fitB n k X = true then if k = n then 1 else 2 else 0, rs', cs') := by
  obtain ⟨h1, h2⟩ := Ck_n h
  obtain ⟨rs1, cs1, e1⟩ := rank_m hF hW h rs cs
  obtain ⟨rs2, cs2, e2⟩ := wideRank_m hF hW h rs1 cs1
  refine ⟨rs2, cs2, ?_⟩
  unfold f_X12_kind
  rw [e1]
  simp only [kb3, kb1, Option.bind_some]
  rw [e2]
  simp only [Option.bind_some]
  by_cases q : fitB n k X = true
  · simp only [if_pos q]
    rw [if_pos (nI_le (Nat.le_refl _) (by omega)), n_ok hW]
    simp only [Option.bind_some]
    by_cases e : k = n
    · rw [if_pos (by rw [e]), if_pos e]
    · rw [if_neg (fun z => e ((nI_eq (by omega) (by omega)).mp z)), if_neg e]
  · simp only [if_neg q]
    rw [if_neg (nI_ge (by omega) (by omega))]
