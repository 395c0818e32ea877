/-! ===== nothing: by which whole numbers the columns make nothing ===== -/
def Fr (l : Nat → Nat) (k f : Nat) : Prop := (∀ i, i < f → i < k ∧ l i = i) ∧ ¬ (f < k ∧ l f = f)
theorem free_loop {k : Nat} (hk : k ≤ 4) {l : Nat → Nat} (hl4 : ∀ i, i < k → l i < 2 ^ 31) {ld : Nat → Int32} (hl : ∀ i, i < k → ld i = nI (l i)) (x1 : Int32) : ∀ (d f fu : Nat), f + d = k → d < fu → (∀ i, i < f → i < k ∧ l i = i) → ∃ f', L_X1_vanishing_2 x1 (nI k) ld fu (nI f) = some (nI f') ∧ f' ≤ k ∧ Fr l k f' := by
  intro d
  induction d with
  | zero =>
    intro f fu hf hfu hv
    obtain ⟨fu, rfl⟩ : ∃ g, fu = g + 1 := ⟨fu - 1, by omega⟩
    refine ⟨f, ?_, by omega, hv, by omega⟩
    rw [L_X1_vanishing_2, if_pos (nI_le (by omega) (by omega))]
  | succ d ih =>
    intro f fu hf hfu hv
    obtain ⟨fu, rfl⟩ : ∃ g, fu = g + 1 := ⟨fu - 1, by omega⟩
    have h4 := hl4 f (by omega)
    rw [L_X1_vanishing_2, if_neg (nI_ge (by omega) (by omega)), if_pos (kin_nI (by decide) (by omega)), nI_clamp (n := f) (by omega), hl f (by omega)]
    by_cases c : l f = f
    · rw [if_pos (by rw [c])]
      simp only [kl, nI_1]
      refine ih (f + 1) fu (by omega) (by omega) (fun i hi => ?_)
      by_cases e : i = f
      · subst e; exact ⟨by omega, c⟩
      · exact hv i (by omega)
    · rw [if_neg (fun z => c ((nI_eq h4 (by omega)).mp z))]
      exact ⟨f, rfl, by omega, hv, fun z => c z.2⟩
theorem Fr_has {l : Nat → Nat} {k n f : Nat} (hi : Inc l k n) (h : Fr l k f) : (∀ i, i < f → ∃ r, r < k ∧ l r = i) ∧ ∀ r, r < k → l r ≠ f := by
  refine ⟨fun i hif => ⟨i, h.1 i hif⟩, fun r hr e => ?_⟩
  have lo : ∀ i, i < k → i ≤ l i := by
    intro i
    induction i with
    | zero => intro _; omega
    | succ i ih => intro hi'; have := ih (by omega); have := hi.2 i (i + 1) (by omega) hi'; omega
  have h1 := lo r hr
  by_cases c : r < f
  · have := (h.1 r c).2; omega
  · have : r = f := by omega
    subst this
    exact h.2 ⟨hr, e⟩
theorem free_m {T f : Nat} (hT : T < 16) (hf : f < 5) (h1 : ∀ i, i < f → T.testBit i = true) (h2 : ¬ T.testBit f = true) : ∀ (d j fu : Nat), j + d = f → d < fu → L_X12_layNothing_7 (nI T) fu (nI j) = some (nI f) := by
  intro d
  induction d with
  | zero =>
    intro j fu hj hfu
    obtain ⟨fu, rfl⟩ : ∃ g, fu = g + 1 := ⟨fu - 1, by omega⟩
    have e : j = f := by omega
    rw [L_X12_layNothing_7, has_ok (s := T) (k := j) (by omega) (by omega), e, if_neg h2]
    rfl
  | succ d ih =>
    intro j fu hj hfu
    obtain ⟨fu, rfl⟩ : ∃ g, fu = g + 1 := ⟨fu - 1, by omega⟩
    rw [L_X12_layNothing_7, has_ok (s := T) (k := j) (by omega) (by omega), if_pos (h1 j (by omega))]
    simp only [kb1, Option.bind_some, kl, nI_1]
    rw [if_neg (by decide)]
    exact ih (j + 1) fu (by omega) (by omega)
/-- the least whole number that the first ones all divide -/
def lcs (g : Nat → Nat) : Nat → Nat
  | 0 => 1
  | m + 1 => Nat.lcm (lcs g m) (g m)
theorem lcs_dvd {g : Nat → Nat} {S m : Nat} (h : ∀ i, i < m → g i ∣ S) : lcs g m ∣ S := by
  induction m with
  | zero => exact Nat.one_dvd S
  | succ m ih => exact Nat.lcm_dvd (ih (fun i hi => h i (by omega))) (h m (by omega))
theorem lcm_a {a b : Nat} : a * (b / Nat.gcd a b) = Nat.lcm a b := by
  rw [Nat.lcm, Nat.mul_div_assoc _ (Nat.gcd_dvd_right a b)]
theorem lcm_b {a b : Nat} : a / Nat.gcd a b * b = Nat.lcm a b := by
  rw [Nat.lcm, Nat.mul_comm a b, Nat.mul_div_assoc _ (Nat.gcd_dvd_left a b), Nat.mul_comm]
theorem tdiv_nat (a b : Nat) : ((a : Int).tdiv (b : Int)) = ((a / b : Nat) : Int) := by
  rw [Int.tdiv_eq_ediv_of_nonneg (by omega)]; rfl
def fbN (X : Nat → Nat → Int) (s : Int) (f r : Nat) : Nat := (frB (X r f) s).natAbs
theorem fbN_e {X : Nat → Nat → Int} {s : Int} (hs : s ≠ 0) (f r : Nat) : frB (X r f) s = ((fbN X s f r : Nat) : Int) ∧ fbN X s f r ∣ s.natAbs ∧ 1 ≤ fbN X s f r ∧ fbN X s f r ≤ s.natAbs := by
  have h := frB_pos (a := X r f) hs
  unfold fbN
  refine ⟨by omega, ?_, by omega, by omega⟩
  exact Int.natAbs_dvd_natAbs.mpr h.2.2
theorem lcs_b {X : Nat → Nat → Int} {s : Int} (hs : s ≠ 0) (f m : Nat) : lcs (fbN X s f) m ∣ s.natAbs ∧ 1 ≤ lcs (fbN X s f) m ∧ lcs (fbN X s f) m ≤ s.natAbs := by
  have h := lcs_dvd (g := fbN X s f) (S := s.natAbs) (m := m) (fun i _ => (fbN_e hs f i).2.1)
  exact ⟨h, Nat.pos_of_dvd_of_pos h (by omega), Nat.le_of_dvd (by omega) h⟩
theorem van_loop {F : Nat} (hF : 200 ≤ F) {A : Nat → Nat → Int} {n k ex : Nat} {σ l : Nat → Nat} {X : Nat → Nat → Int} {s : Int} (h : Ck A n k ex σ l X s) {v : Nat → Nat → Int64} (hM : Mt 5 v X) {f : Nat} (hf : f < 5) (x1 : Int32) : ∀ (d r fu : Nat), r + d = k → d < fu → L_X1_vanishing_31 F x1 (nI f) (nI k) (zJ s) v fu (zJ (lcs (fbN X s f) r : Nat)) (nI r) = some (zJ (lcs (fbN X s f) k : Nat)) := by
  obtain ⟨h1, h2⟩ := Ck_n h
  obtain ⟨s1, s2, s3⟩ := Ck_s h
  intro d
  induction d with
  | zero =>
    intro r fu hr hfu
    obtain ⟨fu, rfl⟩ : ∃ g, fu = g + 1 := ⟨fu - 1, by omega⟩
    rw [L_X1_vanishing_31, if_pos (nI_le (by omega) (by omega)), show r = k by omega]
  | succ d ih =>
    intro r fu hr hfu
    obtain ⟨fu, rfl⟩ : ∃ g, fu = g + 1 := ⟨fu - 1, by omega⟩
    obtain ⟨b1, b2, b3, b4⟩ := fbN_e (X := X) s1 f r
    obtain ⟨l1, l2, l3⟩ := lcs_b (X := X) s1 f r
    have hi := ih (r + 1) fu (by omega) (by omega)
    rw [lcs] at hi
    have hg : Nat.gcd (lcs (fbN X s f) r) (fbN X s f r) ≤ fbN X s f r := Nat.gcd_le_right _ (by omega)
    rw [L_X1_vanishing_31, if_neg (nI_ge (by omega) (by omega)), below_ok hF hM s3 s1 (by omega) hf (Ck_x h (by omega) hf).2, b1]
    simp only [kb1, Option.bind_some]
    rw [gcd_ok (sm_nat (by omega)) (sm_nat (by omega)) hF]
    simp only [Option.bind_some]
    rw [show Int.gcd ((lcs (fbN X s f) r : Nat) : Int) ((fbN X s f r : Nat) : Int) = Nat.gcd (lcs (fbN X s f) r) (fbN X s f r) from rfl, quotient_ok (sm_nat (by omega)) (sm_nat (by omega)), tdiv_nat]
    simp only [Option.bind_some, kl, nI_1]
    rw [zJ_mul, ← Int.natCast_mul, lcm_a]
    exact hi
theorem nom_loop {F : Nat} (hF : 2305430425 ≤ F) {w : Nat → Int32} {A : Nat → Nat → Int} {n k ex : Nat} {σ l : Nat → Nat} {X : Nat → Nat → Int} {s : Int} (hW : Wn w n A) (h : Ck A n k ex σ l X s) {f : Nat} (hf : f < n) : ∀ (d r fu : Nat) (a b : Int64) (rs cs : Nat → Int32), r + d = k → d < fu → ∃ a' b' rs' cs', L_X12_layNothing_26 F (nI (St l k)) (nI f) w fu (zJ (lcs (fbN X s f) r : Nat)) (nI r) a b rs cs = some (zJ (lcs (fbN X s f) k : Nat), a', b', rs', cs') := by
  obtain ⟨h1, h2⟩ := Ck_n h
  obtain ⟨s1, s2, s3⟩ := Ck_s h
  obtain ⟨t1, t2, t3⟩ := St_of_inv h.2.2.1
  have hp := pow_n h1
  intro d
  induction d with
  | zero =>
    intro r fu a b rs cs hr hfu
    obtain ⟨fu, rfl⟩ : ∃ g, fu = g + 1 := ⟨fu - 1, by omega⟩
    refine ⟨a, b, rs, cs, ?_⟩
    rw [L_X12_layNothing_26, ones_ok (s := St l k) (by omega), t2]
    simp only [kb1, Option.bind_some]
    rw [if_pos (nI_le (by omega) (by omega)), show r = k by omega]
  | succ d ih =>
    intro r fu a b rs cs hr hfu
    obtain ⟨fu, rfl⟩ : ∃ g, fu = g + 1 := ⟨fu - 1, by omega⟩
    obtain ⟨b1, b2, b3, b4⟩ := fbN_e (X := X) s1 f r
    obtain ⟨l1, l2, l3⟩ := lcs_b (X := X) s1 f r
    obtain ⟨rs1, cs1, e1⟩ := layShare_ok hF hW h.2.2.1 (show r < k by omega) (show f < 5 by omega) (fun i p q => h.2.2.1.2.2.2.2.2.2.1 i f p q (by omega)) a b rs cs
    obtain ⟨a', b', rs', cs', e2⟩ := ih (r + 1) fu (zJ (frA (X r f) s)) (zJ (frB (X r f) s)) rs1 cs1 (by omega) (by omega)
    rw [lcs] at e2
    have hg : Nat.gcd (lcs (fbN X s f) r) (fbN X s f r) ≤ fbN X s f r := Nat.gcd_le_right _ (by omega)
    have hg0 : 0 < Nat.gcd (lcs (fbN X s f) r) (fbN X s f r) := Nat.gcd_pos_of_pos_right _ (by omega)
    refine ⟨a', b', rs', cs', ?_⟩
    rw [L_X12_layNothing_26, ones_ok (s := St l k) (by omega), t2]
    simp only [kb1, Option.bind_some]
    rw [if_neg (nI_ge (by omega) (by omega)), e1]
    simp only [kb4, Option.bind_some]
    rw [b1] at e2 ⊢
    rw [divisor_ok (sm_nat (by omega)) (sm_nat (by omega)) (by omega)]
    simp only [Option.bind_some]
    rw [show Int.gcd ((lcs (fbN X s f) r : Nat) : Int) ((fbN X s f r : Nat) : Int) = Nat.gcd (lcs (fbN X s f) r) (fbN X s f r) from rfl, if_pos (fun z => by have := (zJ_zeroN (by omega)).mp z; omega)]
    simp only [kl, nI_1]
    rw [zJ_div (rJ_sm (sm_nat (by omega))) (rJ_sm (sm_nat (by omega))) (by omega), tdiv_nat, zJ_mul, ← Int.natCast_mul, lcm_b]
    exact e2
def zn0 (k f : Nat) (X : Nat → Nat → Int) (s : Int) (j : Nat) : Int := if j = f then (lcs (fbN X s f) k : Nat) else 0
theorem zs_loop {w : Nat → Int32} {A : Nat → Nat → Int} {n f : Nat} (hW : Wn w n A) (hf : f < n) (x1 : Int32) (z : Int) : ∀ (d j fu : Nat) (zs : Nat → Int64), j + d = n → d < fu → ∃ zs', L_X12_layNothing_67 x1 (nI f) (zJ z) w fu (nI j) zs = some zs' ∧ ∀ i, zs' i = if j ≤ i ∧ i < n then zJ (if i = f then z else 0) else zs i := by
  have hn := hW.2.2.1
  intro d
  induction d with
  | zero =>
    intro j fu zs hj hfu
    obtain ⟨fu, rfl⟩ : ∃ g, fu = g + 1 := ⟨fu - 1, by omega⟩
    refine ⟨zs, ?_, fun i => by rw [if_neg (by omega)]⟩
    rw [L_X12_layNothing_67, n_ok hW]
    simp only [kb1, Option.bind_some]
    rw [if_pos (nI_le (by omega) (by omega))]
  | succ d ih =>
    intro j fu zs hj hfu
    obtain ⟨fu, rfl⟩ : ∃ g, fu = g + 1 := ⟨fu - 1, by omega⟩
    obtain ⟨zs', e1, e2⟩ := ih (j + 1) fu (vp_updL zs j (zJ (if j = f then z else 0))) (by omega) (by omega)
    refine ⟨zs', ?_, fun i => ?_⟩
    · rw [L_X12_layNothing_67, n_ok hW]
      simp only [kb1, Option.bind_some]
      rw [if_neg (nI_ge (by omega) (by omega))]
      by_cases c : j = f
      · rw [if_pos (by rw [c]), if_pos (kin_nI (by decide) (by omega)), nI_clamp (n := j) (by omega)]
        simp only [kl, nI_1]
        rw [if_pos c] at e1
        exact e1
      · rw [if_neg (fun q => c ((nI_eq (by omega) (by omega)).mp q)), if_pos (kin_nI (by decide) (by omega)), nI_clamp (n := j) (by omega)]
        simp only [kl, nI_1]
        rw [if_neg c] at e1
        exact e1
    · rw [e2 i]
      by_cases e : i = j
      · subst e; rw [if_neg (show ¬ (i + 1 ≤ i ∧ i < n) by omega), if_pos (show i ≤ i ∧ i < n by omega)]; simp [vp_updL]
      · by_cases c : j ≤ i ∧ i < n
        · rw [if_pos (by omega), if_pos c]
        · rw [if_neg (by omega), if_neg c]; simp [vp_updL, e]
/-- the number of the row that r leads -/
def znA (k f : Nat) (X : Nat → Nat → Int) (s : Int) (r : Nat) : Int := -frA (X r f) s * ((lcs (fbN X s f) k / fbN X s f r : Nat) : Int)
theorem zr_loop {F : Nat} (hF : 2305430425 ≤ F) {w : Nat → Int32} {A : Nat → Nat → Int} {n k ex : Nat} {σ l : Nat → Nat} {X : Nat → Nat → Int} {s : Int} (hW : Wn w n A) (h : Ck A n k ex σ l X s) {f : Nat} (hf : f < n) : ∀ (d r fu : Nat) (a b : Int64) (rs cs : Nat → Int32) (zs : Nat → Int64), r + d = k → d < fu → ∃ a' b' rs' cs' zs', L_X12_layNothing_103 F (nI (St l k)) (nI f) (zJ (lcs (fbN X s f) k : Nat)) w fu (nI r) a b rs cs zs = some (a', b', rs', cs', zs') ∧ (∀ i, (∀ t, r ≤ t → t < k → l t ≠ i) → zs' i = zs i) ∧ ∀ t, r ≤ t → t < k → zs' (l t) = zJ (znA k f X s t) := by
  obtain ⟨h1, h2⟩ := Ck_n h
  obtain ⟨s1, s2, s3⟩ := Ck_s h
  obtain ⟨t1, t2, t3⟩ := St_of_inv h.2.2.1
  have hp := pow_n h1
  have hi := Inv_inc h.2.2.1
  intro d
  induction d with
  | zero =>
    intro r fu a b rs cs zs hr hfu
    obtain ⟨fu, rfl⟩ : ∃ g, fu = g + 1 := ⟨fu - 1, by omega⟩
    refine ⟨a, b, rs, cs, zs, ?_, fun i _ => rfl, fun t p q => by omega⟩
    rw [L_X12_layNothing_103, ones_ok (s := St l k) (by omega), t2]
    simp only [kb1, Option.bind_some]
    rw [if_pos (nI_le (by omega) (by omega))]
  | succ d ih =>
    intro r fu a b rs cs zs hr hfu
    obtain ⟨fu, rfl⟩ : ∃ g, fu = g + 1 := ⟨fu - 1, by omega⟩
    obtain ⟨b1, b2, b3, b4⟩ := fbN_e (X := X) s1 f r
    obtain ⟨l1, l2, l3⟩ := lcs_b (X := X) s1 f k
    have hlr := hi.1 r (by omega)
    obtain ⟨rs1, cs1, e1⟩ := layShare_ok hF hW h.2.2.1 (show r < k by omega) (show f < 5 by omega) (fun i p q => h.2.2.1.2.2.2.2.2.2.1 i f p q (by omega)) a b rs cs
    obtain ⟨a', b', rs', cs', zs', e2, e3, e4⟩ := ih (r + 1) fu (zJ (frA (X r f) s)) (zJ (frB (X r f) s)) rs1 cs1 (vp_updL zs (l r) (zJ (znA k f X s r))) (by omega) (by omega)
    refine ⟨a', b', rs', cs', zs', ?_, fun i hi' => ?_, fun t p q => ?_⟩
    · rw [L_X12_layNothing_103, ones_ok (s := St l k) (by omega), t2]
      simp only [kb1, Option.bind_some]
      rw [if_neg (nI_ge (by omega) (by omega)), e1]
      simp only [kb4, Option.bind_some]
      rw [b1] at e2 ⊢
      rw [pick_ok (by omega) (by omega) (by omega), t3 r (by omega)]
      simp only [Option.bind_some]
      rw [if_pos (fun z => by have := (zJ_zeroN (by omega)).mp z; omega), if_pos (kin_nI (by decide) (by omega)), nI_clamp (n := l r) (by omega)]
      simp only [kl, nI_1]
      rw [zJ_div (rJ_sm (sm_nat (by omega))) (rJ_sm (sm_nat (by omega))) (by omega), tdiv_nat, zJ_neg, zJ_mul]
      exact e2
    · rw [e3 i (fun t p q => hi' t (by omega) q)]
      have := hi' r (by omega) (by omega)
      simp [vp_updL, Ne.symm this]
    · by_cases e : t = r
      · subst e
        rw [e3 (l t) (fun u p' q' => by have := hi.2 t u (by omega) q'; omega)]
        simp [vp_updL]
      · exact e4 t (by omega) q
/-- the numbers of NOTHING -/
def zn (l : Nat → Nat) (k f : Nat) (X : Nat → Nat → Int) (s : Int) (j : Nat) : Int := if j = f then ((lcs (fbN X s f) k : Nat) : Int) else match ledBy l j k with | some r => znA k f X s r | none => 0
theorem vanishing_c {F : Nat} (hF : 200 ≤ F) {A : Nat → Nat → Int} {n k ex : Nat} {σ l : Nat → Nat} {X : Nat → Nat → Int} {s : Int} (h : Ck A n k ex σ l X s) {v : Nat → Nat → Int64} (hM : Mt 5 v X) {ld : Nat → Int32} (hl : ∀ i, i < k → ld i = nI (l i)) : ∃ f, f ≤ k ∧ Fr l k f ∧ ∀ j, j < 4 → f_X1_vanishing F (nI k) (zJ s) v ld (nI j) = some (zJ (zn l k f X s j)) := by
  obtain ⟨h1, h2⟩ := Ck_n h
  obtain ⟨s1, s2, s3⟩ := Ck_s h
  obtain ⟨f, e1, e2, e3⟩ := free_loop (by omega) (Ck_l h) hl (nI 0) k 0 F (by omega) (by omega) (fun i hi => by omega)
  have e1' : ∀ x1, L_X1_vanishing_2 x1 (nI k) ld F (0 : Int32) = some (nI f) := fun x1 => by
    obtain ⟨f', g1, g2, g3⟩ := free_loop (by omega) (Ck_l h) hl x1 k 0 F (by omega) (by omega) (fun i hi => by omega)
    have : f' = f := by
      rcases Nat.lt_trichotomy f f' with c | c | c
      · exact absurd (g3.1 f c) e3.2
      · exact c.symm
      · exact absurd (e3.1 f' c) g3.2
    rw [← this]; exact g1
  refine ⟨f, e2, e3, fun j hj => ?_⟩
  unfold f_X1_vanishing
  rw [e1']
  simp only [kb1, Option.bind_some]
  rw [show L_X1_vanishing_31 F (nI j) (nI f) (nI k) (zJ s) v F (1 : Int64) (0 : Int32) = _ from van_loop hF h hM (by omega) (nI j) k 0 F (by omega) (by omega)]
  simp only [Option.bind_some]
  unfold zn
  by_cases c : j = f
  · rw [if_pos (by rw [c]), if_pos c]
  · rw [if_neg (fun q => c ((nI_eq (by omega) (by omega)).mp q)), if_neg c, rowLedBy_ok (by omega) (by omega) (Ck_l h) hl (by omega)]
    simp only [Option.bind_some]
    cases q : ledBy l j k with
    | none => rfl
    | some r =>
      have hr := (ledBy_some q).1
      obtain ⟨b1, b2, b3, b4⟩ := fbN_e (X := X) s1 f r
      obtain ⟨l1, l2, l3⟩ := lcs_b (X := X) s1 f k
      simp only
      rw [if_neg (by have : ∀ r : Fin 4, ¬ nI r.val = (-1 : Int32) := by decide
                     exact this ⟨r, by omega⟩), above_ok hF hM s3 s1 (by omega) (by omega) (Ck_x h (by omega) (by omega)).2, below_ok hF hM s3 s1 (by omega) (by omega) (Ck_x h (by omega) (by omega)).2, b1]
      simp only [Option.bind_some]
      rw [quotient_ok (sm_nat (by omega)) (sm_nat (by omega)), tdiv_nat]
      simp only [Option.bind_some]
      rw [zJ_neg, zJ_mul]
      rfl
theorem nothing_m {F : Nat} (hF : 2305430425 ≤ F) {w : Nat → Int32} {A : Nat → Nat → Int} {n k ex : Nat} {σ l : Nat → Nat} {X : Nat → Nat → Int} {s : Int} (hW : Wn w n A) (h : Ck A n k ex σ l X s) (hk : k < n) {f : Nat} (hf : f ≤ k) (hfr : Fr l k f) (a b : Int64) (rs cs : Nat → Int32) (zs : Nat → Int64) : ∃ a' b' rs' cs' zs', f_X12_layNothing F a b w rs cs zs = some (a', b', rs', cs', zs') ∧ ∀ j, j < n → zs' j = zJ (zn l k f X s j) := by
  obtain ⟨h1, h2⟩ := Ck_n h
  obtain ⟨s1, s2, s3⟩ := Ck_s h
  obtain ⟨t1, t2, t3⟩ := St_of_inv h.2.2.1
  have hp := pow_n h1
  obtain ⟨f1, f2⟩ := Fr_has (Inv_inc h.2.2.1) hfr
  have tb : ∀ j, j < 5 → ((St l k).testBit j = true ↔ ∃ r, r < k ∧ l r = j) := fun j hj => by
    have := tb_pk ⟨St l k, by omega⟩ ⟨j, hj⟩
    simp only at this
    rw [this]
    constructor
    · rintro ⟨r, p1, p2⟩; exact ⟨r.val, by omega, by rw [← p2, t3 r.val (by omega)]⟩
    · rintro ⟨r, p1, p2⟩; exact ⟨⟨r, by omega⟩, by simp only; omega, by simp only; rw [t3 r p1, p2]⟩
  obtain ⟨rs1, cs1, e1⟩ := leading_ok (F := F) (by omega) hW h.2.2.1 rs cs
  have e2 := free_m (T := St l k) (f := f) (by omega) (by omega) (fun i hi => (tb i (by omega)).mpr (f1 i hi)) (fun z => by obtain ⟨r, p1, p2⟩ := (tb f (by omega)).mp z; exact f2 r p1 p2) f 0 F (by omega) (by omega)
  obtain ⟨a3, b3, rs3, cs3, e3⟩ := nom_loop hF hW h (show f < n by omega) k 0 F a b rs1 cs1 (by omega) (by omega)
  obtain ⟨zs4, e4, g4⟩ := zs_loop hW (show f < n by omega) (nI (St l k)) ((lcs (fbN X s f) k : Nat) : Int) n 0 F zs (by omega) (by omega)
  obtain ⟨a5, b5, rs5, cs5, zs5, e5, g5, g6⟩ := zr_loop hF hW h (show f < n by omega) k 0 F a3 b3 rs3 cs3 zs4 (by omega) (by omega)
  refine ⟨a5, b5, rs5, cs5, zs5, ?_, fun j hj => ?_⟩
  · unfold f_X12_layNothing
    rw [e1]
    simp only [kb3, kb1, Option.bind_some]
    rw [show L_X12_layNothing_7 (nI (St l k)) F (0 : Int32) = some (nI f) from e2]
    simp only [Option.bind_some]
    rw [show L_X12_layNothing_26 F (nI (St l k)) (nI f) w F (1 : Int64) (0 : Int32) a b rs1 cs1 = _ from e3]
    simp only [kb5, Option.bind_some]
    rw [show L_X12_layNothing_67 (nI (St l k)) (nI f) (zJ (lcs (fbN X s f) k : Nat)) w F (0 : Int32) zs = some zs4 from e4]
    simp only [Option.bind_some]
    rw [show L_X12_layNothing_103 F (nI (St l k)) (nI f) (zJ (lcs (fbN X s f) k : Nat)) w F (0 : Int32) a3 b3 rs3 cs3 zs4 = _ from e5]
    rfl
  · unfold zn
    by_cases c : j = f
    · rw [if_pos c, g5 j (fun t _ q => by rw [c]; exact f2 t q), g4 j, if_pos (by omega), if_pos c]
    · rw [if_neg c]
      cases q : ledBy l j k with
      | some r =>
        obtain ⟨r1, r2⟩ := ledBy_some q
        have := g6 r (by omega) r1
        rw [r2] at this
        exact this
      | none =>
        rw [g5 j (fun t _ q' => ledBy_none q t q'), g4 j, if_pos (by omega), if_neg c]
