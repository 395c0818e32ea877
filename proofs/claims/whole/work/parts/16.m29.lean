/-! ===== the residues: each column of the leading ones; the ranks ===== -/
theorem sumN_dv {q : Int} {f g : Nat → Int} {k : Nat} (h : ∀ t, t < k → q ∣ f t - g t) : q ∣ sumN f k - sumN g k := by
  induction k with
  | zero => exact dv_refl _ _
  | succ k ih => rw [sumN, sumN]; exact dv_add (ih (fun t ht => h t (by omega))) (h k (by omega))
theorem sumN_mul (a : Int) (f : Nat → Int) (k : Nat) : sumN (fun t => a * f t) k = a * sumN f k := by
  induction k with
  | zero => simp [sumN]
  | succ k ih => rw [sumN, sumN, ih, Int.mul_add]
theorem LinR {p : Nat} (hp : Pm p) {A : Nat → Nat → Int} {n j k : Nat} {σ l : Nat → Nat} {X : Nat → Nat → Int} (h : InR p A n j k σ l X) {c : Nat} (hc : c < 9) (hz : ∀ i, k ≤ i → i < n → X i c = 0) {ρ : Nat} (hρ : ρ < n) : (p : Int) ∣ A ρ c - sumN (fun t => X t c * A ρ (l t)) k := by
  obtain ⟨⟨h1, h2, h3, h4⟩, ⟨h5, h5'⟩, ⟨h6, h7⟩, h8, h9, h10, h11, h12⟩ := h
  obtain ⟨i, hi, rfl⟩ := surj4 h4 h5 h5' hρ
  have e0 : (p : Int) ∣ Dm A σ l k * A (σ i) c - sumN (fun t => Dm A σ (up l t c) k * A (σ i) (l t)) k := by
    by_cases e3 : k ≤ 3
    · have e2 := lapm (A := A) (σ := σ) (l := l) (ρ := σ i) (c := c) e3
      rw [← e2]
      by_cases e : i < k
      · rw [repm e3 e]; exact Int.dvd_zero _
      · refine (dv_iff (h10 i c (by omega) hi hc)).mp ?_
        rw [hz i (by omega) hi, Int.mul_zero]; exact Int.dvd_zero _
    · have hk : k = 4 := by omega
      subst hk
      have hn : n = 4 := by omega
      subst hn
      have e : Dm A σ l 4 * A (σ i) c = sumN (fun t => Dm A σ (up l t c) 4 * A (σ i) (l t)) 4 := by
        match i, hi with
        | 0, _ => have := cra A (σ 0) (σ 1) (σ 2) (σ 3) (l 0) (l 1) (l 2) (l 3) c; simp [Dm, up, sumN]; omega
        | 1, _ => have := crb A (σ 0) (σ 1) (σ 2) (σ 3) (l 0) (l 1) (l 2) (l 3) c; simp [Dm, up, sumN]; omega
        | 2, _ => have := crc A (σ 0) (σ 1) (σ 2) (σ 3) (l 0) (l 1) (l 2) (l 3) c; simp [Dm, up, sumN]; omega
        | 3, _ => have := crd A (σ 0) (σ 1) (σ 2) (σ 3) (l 0) (l 1) (l 2) (l 3) c; simp [Dm, up, sumN]; omega
      rw [e]; exact dv_refl _ _
  have e1 : (p : Int) ∣ sumN (fun t => Dm A σ l k * (X t c * A (σ i) (l t))) k - sumN (fun t => Dm A σ (up l t c) k * A (σ i) (l t)) k := sumN_dv (fun t ht => by
    have := h9 t c ht hc
    rw [← Int.mul_assoc, ← Int.sub_mul]
    exact Int.dvd_mul_of_dvd_left this)
  rw [sumN_mul] at e1
  have e2 : (p : Int) ∣ Dm A σ l k * (A (σ i) c - sumN (fun t => X t c * A (σ i) (l t)) k) := by
    rw [Int.mul_sub]
    exact dv_trans e0 (dv_symm e1)
  exact ((Pm_q hp).1 _ _ e2).resolve_left h8
theorem Pm_1 {p : Nat} (hp : Pm p) : ¬ (p : Int) ∣ 1 := (Pm_q hp).2
theorem RkR {p : Nat} (hp : Pm p) {A : Nat → Nat → Int} {n k : Nat} {σ l : Nat → Nat} {X : Nat → Nat → Int} (h : InR p A n n k σ l X) : Rk A n (2 ^ n - 1) p k := by
  have hL := fun c hc hz ρ hρ => LinR hp h (c := c) hc hz (ρ := ρ) hρ
  obtain ⟨⟨h1, h2, h3, h4⟩, ⟨h5, h5'⟩, ⟨h6, h7⟩, h8, h9, h10, h11, h12⟩ := h
  have hpn := pow_n h4
  refine Rk_of (Pm_q hp) h4 h2 (by omega) (σ := σ) (l := l) (fun i hi => h5 i (by omega)) (fun a b ha hb => h5' a b (by omega) (by omega)) ⟨fun i hi => by have := h6 i (by omega); omega, fun i m a b => h7 i m a (by omega)⟩ (fun i hi => (tb_low ⟨n, by omega⟩ ⟨l i, by have := h6 i (by omega); omega⟩).mpr (h6 i hi)) h8 (s := 1) (Pm_1 hp) (Y := X) (a := fun t ρ => A ρ (l t)) (fun ρ c hρ hc hT => ?_)
  have hcj := (tb_low ⟨n, by omega⟩ ⟨c, hc⟩).mp hT
  simp only at hcj
  rw [Int.one_mul]
  exact hL c (by omega) (fun i a b => h11 i c a b hcj) ρ hρ
theorem RkR_wide {p : Nat} (hp : Pm p) {A : Nat → Nat → Int} {n k : Nat} {σ l : Nat → Nat} {X : Nat → Nat → Int} (h : InR p A n n k σ l X) : ((∀ i, k ≤ i → i < n → X i 4 = 0) → Rk A n (2 ^ n + 15) p k) ∧ (¬ (∀ i, k ≤ i → i < n → X i 4 = 0) → Rk A n (2 ^ n + 15) p (k + 1)) := by
  have hL := fun c hc hz ρ hρ => LinR hp h (c := c) hc hz (ρ := ρ) hρ
  obtain ⟨⟨h1, h2, h3, h4⟩, ⟨h5, h5'⟩, ⟨h6, h7⟩, h8, h9, h10, h11, h12⟩ := h
  have hpn := pow_n h4
  have hc4 : ∀ c, c < 5 → (2 ^ n + 15).testBit c = true → c < n ∨ c = 4 := fun c hc hT => (tb_wide ⟨n, by omega⟩ ⟨c, hc⟩).mp hT
  constructor
  · intro hz
    refine Rk_of (Pm_q hp) h4 h2 (by omega) (σ := σ) (l := l) (fun i hi => h5 i (by omega)) (fun a b ha hb => h5' a b (by omega) (by omega)) ⟨fun i hi => by have := h6 i (by omega); omega, fun i m a b => h7 i m a (by omega)⟩ (fun i hi => (tb_wide ⟨n, by omega⟩ ⟨l i, by have := h6 i (by omega); omega⟩).mpr (Or.inl (h6 i hi))) h8 (s := 1) (Pm_1 hp) (Y := X) (a := fun t ρ => A ρ (l t)) (fun ρ c hρ hc hT => ?_)
    rw [Int.one_mul]
    refine hL c (by omega) (fun i a b => ?_) ρ hρ
    rcases hc4 c hc hT with q | q
    · exact h11 i c a b q
    · rw [q]; exact hz i a b
  · intro hz
    obtain ⟨i, hi⟩ := Classical.not_forall.mp hz
    obtain ⟨hki, hi⟩ := Classical.not_forall.mp hi
    obtain ⟨hin, hx⟩ := Classical.not_forall.mp hi
    have hx2 : ¬ (p : Int) ∣ Dm A (up σ k (σ i)) (up l k 4) (k + 1) := fun z => by
      rcases (Pm_q hp).1 _ _ ((dv_iff (h10 i 4 hki hin (by omega))).mpr z) with y | y
      · exact h8 y
      · exact hx (rp_dvd (h12 i 4 (by omega) (by omega)) y)
    have hlow : ∀ z, z < k → up l k 4 z = l z := fun z hz => up_ne l (by omega)
    refine Rk_of (Pm_q hp) h4 (by omega) (by omega) (σ := up σ k (σ i)) (l := up l k 4) (fun z hz => ?_) (fun a b ha hb e => ?_) ⟨fun z hz => ?_, fun z m a b => ?_⟩ (fun z hz => ?_) hx2 (s := 1) (Pm_1 hp) (Y := fun t c => if c = 4 then (if t = k then 1 else 0) else if t = k then 0 else X t c) (a := fun t ρ => A ρ (up l k 4 t)) (fun ρ c hρ hc hT => ?_)
    · by_cases e : z = k
      · rw [e, up_eq]; exact h5 i hin
      · rw [up_ne _ e]; exact h5 z (by omega)
    · by_cases a1 : a = k
      · by_cases b1 : b = k
        · omega
        · rw [a1, up_eq, up_ne _ b1] at e; have := h5' i b hin (by omega) e; omega
      · by_cases b1 : b = k
        · rw [b1, up_eq, up_ne _ a1] at e; have := h5' a i (by omega) hin e; omega
        · rw [up_ne _ a1, up_ne _ b1] at e; exact h5' a b (by omega) (by omega) e
    · by_cases e : z = k
      · rw [e, up_eq]; omega
      · rw [up_ne _ e]; have := h6 z (by omega); omega
    · by_cases e : m = k
      · rw [e, up_eq, up_ne _ (by omega)]; have := h6 z (by omega); omega
      · rw [up_ne _ e, up_ne _ (by omega)]; exact h7 z m a (by omega)
    · by_cases e : z = k
      · rw [e, up_eq]; exact (tb_wide ⟨n, by omega⟩ ⟨4, by omega⟩).mpr (Or.inr rfl)
      · rw [up_ne _ e]; exact (tb_wide ⟨n, by omega⟩ ⟨l z, by have := h6 z (by omega); omega⟩).mpr (Or.inl (h6 z (by omega)))
    · rw [sumN, Int.one_mul]
      by_cases e : c = 4
      · subst e
        simp only [if_true]
        rw [sumN_zero (Nat.zero_le k) (fun t _ b => by rw [if_neg (by omega), Int.zero_mul]), sumN, up_eq, Int.zero_add, Int.one_mul]
        exact dv_refl _ _
      · simp only [if_neg e]
        have e2 : sumN (fun t => (if t = k then 0 else X t c) * A ρ (up l k 4 t)) k = sumN (fun t => X t c * A ρ (l t)) k := sumN_congr (fun t ht => by rw [if_neg (by omega), up_ne _ (by omega)])
        rw [if_pos trivial, Int.zero_mul, e2, Int.add_zero]
        exact hL c (by omega) (fun i a b => h11 i c a b ((hc4 c hc hT).resolve_right e)) ρ hρ
/-! ===== the residues cleared ===== -/
theorem p_c {pn : Nat} (h : pn < 25) : f_X3_p (nI pn) = some (nI (prN pn)) := by
  unfold f_X3_p
  have e := (kPr_fin ⟨pn, h⟩).1
  simp only at e
  rw [if_neg (nI_pos (by omega)), if_neg (show ¬ (25 : Int32) ≤ nI pn from nI_ge (b := 25) h (by omega)), if_pos (kin_nI (by decide) h), nI_clamp (by omega), e]
theorem colsR_loop {F : Nat} (hF : 100 ≤ F) {p : Nat} (hp : Pm p) {A : Nat → Nat → Int} {n : Nat} (hn : n ≤ 4) :
    ∀ (d j fu k ex : Nat) (σ l : Nat → Nat) (X : Nat → Nat → Int) (v : Nat → Nat → Int64), j + d = n → d < fu → InR p A n j k σ l X → Mt 9 v X → ex ≤ j →
      ∃ k' ex' σ' l' X' v', L_X9_clearColumns_R_12 F (nI n) (9 : Int32) (nI p) fu (nI j) (nI k) (nI ex) v = some (nI k', nI ex', v') ∧ InR p A n n k' σ' l' X' ∧ Mt 9 v' X' := by
  have hp1 := hp.1
  intro d
  induction d with
  | zero =>
    intro j fu k ex σ l X v hj hfu hI hM hex
    obtain ⟨fu, rfl⟩ : ∃ g, fu = g + 1 := ⟨fu - 1, by omega⟩
    have : j = n := by omega
    subst this
    refine ⟨k, ex, σ, l, X, v, ?_, hI, hM⟩
    rw [L_X9_clearColumns_R_12, if_pos (nI_le (Nat.le_refl _) (by omega))]
  | succ d ih =>
    intro j fu k ex σ l X v hj hfu hI hM hex
    obtain ⟨fu, rfl⟩ : ∃ g, fu = g + 1 := ⟨fu - 1, by omega⟩
    have hkn : k ≤ n := hI.1.2.1
    have hrg := hI.2.2.2.2.2.2.2
    have hsm : ∀ i c, i < 4 → c < 9 → sm (X i c) := fun i c hi hc => by have h1 := (hrg i c hi hc).1; have h2 := (hrg i c hi hc).2; unfold sm; omega
    rw [L_X9_clearColumns_R_12, if_neg (nI_ge (by omega) (by omega))]
    have go : ∀ (ex' : Nat) (σ' : Nat → Nat) (X' : Nat → Nat → Int) (v1 : Nat → Nat → Int64), k < n → InR p A n j k σ' l X' → Mt 9 v1 X' → X' k j ≠ 0 → ex' ≤ j + 1 →
        ∃ k' ex2 σ2 l2 X2 v2, (kb1 (f_X8_clearColumn F (nI n) (nI k) (nI p) v1 (nI j)) fun w8 => kl (nI k + 1) fun t12 => kl (nI j + 1) fun t13 => L_X9_clearColumns_R_12 F (nI n) 9 (nI p) fu t13 t12 (nI ex') w8) = some (nI k', nI ex2, v2) ∧ InR p A n n k' σ2 l2 X2 ∧ Mt 9 v2 X2 := by
      intro ex' σ' X' v1 hk hI' hM' hx hex'
      obtain ⟨w, v2, e1, e2, w0, w1, w2, w3⟩ := clearColumnR_ok hF hp hn (by omega : k < 4) (by omega : j < 9) hI'.2.2.2.2.2.2.2 hM' hx
      rw [e1]
      simp only [kb1, Option.bind_some, kl, nI_1]
      exact ih (j + 1) fu (k + 1) ex' σ' (up l k j) _ v2 (by omega) (by omega) (InR_step hp hI' (by omega) hk hx w2 w3) e2 hex'
    rcases raiseR_ok hF (n := n) (j := j) (k := k) (ex := ex) hn hkn (by omega) (by omega) hM hsm with ⟨e1, e2⟩ | ⟨c1, e1, e2⟩ | ⟨y, v1, c1, c2, e1, e2, e3⟩
    · rw [e1]
      simp only [kb3, Option.bind_some]
      rw [if_pos trivial]
      simp only [kl, nI_1]
      exact ih (j + 1) fu k ex σ l X v (by omega) (by omega) (InR_skip hI (by omega) e2) hM (by omega)
    · rw [e1]
      simp only [kb3, Option.bind_some]
      rw [if_neg (by decide)]
      exact go ex σ X v c1 hI hM e2 (by omega)
    · rw [e1]
      simp only [kb3, Option.bind_some]
      rw [if_neg (by decide)]
      exact go (ex + 1) _ _ v1 (by omega) (InR_swap hI c1 c2) e2 (by simp [swX]; by_cases q : k = y <;> simp [q]; omega; exact e3) (by omega)
/-- behind the side the table of ones -/
def Ext (A : Nat → Nat → Int) : Prop := ∀ i c, i < 4 → 5 ≤ c → c < 9 → A i c = if c = 5 + i then 1 else 0
theorem clR_row {p : Nat} (hp : Pm p) {nums : Nat → Int32} {A : Nat → Nat → Int} (h : Nc nums A) {i : Nat} (hi : i < 4) :
    ∀ (d c fu : Nat) (v : Nat → Nat → Int64) (X : Nat → Nat → Int), c + d = 5 → d < fu → Mt 9 v X →
      ∃ v', L_X8_clear_25 (nI i) (nI p) nums fu (nI c) v = some v' ∧ Mt 9 v' (fun a b => if a = i ∧ c ≤ b ∧ b < 5 then A a b % p else X a b) := by
  have hp1 := hp.1
  intro d
  induction d with
  | zero =>
    intro c fu v X hc hfu hM
    obtain ⟨fu, rfl⟩ : ∃ g, fu = g + 1 := ⟨fu - 1, by omega⟩
    refine ⟨v, ?_, Mt_congr hM (fun a b ha hb => by rw [if_neg (by omega)])⟩
    rw [L_X8_clear_25, if_pos (show (5 : Int32) ≤ nI c from nI_le (a := 5) (by omega) (by omega))]
  | succ d ih =>
    intro c fu v X hc hfu hM
    obtain ⟨fu, rfl⟩ : ∃ g, fu = g + 1 := ⟨fu - 1, by omega⟩
    obtain ⟨v', e1, e2⟩ := ih (c + 1) fu _ _ (by omega) (by omega) (Mt_set hM i c (A i c % p))
    have hb := h.2 i c hi (by omega)
    obtain ⟨z, q1, -, q3⟩ := lo_ok (a := A i c) (by unfold sm; omega) (show 0 < p by omega) hp1.2
    refine ⟨v', ?_, Mt_congr e2 (fun a b ha hb2 => ?_)⟩
    · rw [L_X8_clear_25, if_neg (show ¬ (5 : Int32) ≤ nI c from nI_ge (b := 5) (by omega) (by omega)), if_pos (kin_nI (by decide) hi), number_ok h hi (by omega)]
      simp only [kb1, Option.bind_some]
      rw [zI_J ⟨by omega, by omega⟩, q1]
      simp only [Option.bind_some]
      rw [if_pos (kin_nI (by decide) (by omega)), nI_clamp (n := i) (by omega), nI_clamp (n := c) (by omega), q3, nI_1]
      exact e1
    · by_cases a1 : a = i
      · by_cases b1 : c + 1 ≤ b ∧ b < 5
        · rw [if_pos ⟨a1, b1⟩, if_pos ⟨a1, by omega⟩]
        · by_cases b2 : b = c
          · subst a1 b2; rw [if_neg (by omega), if_pos (by simp), if_pos (by omega)]
          · rw [if_neg (by omega), if_neg (by omega), if_neg (by omega)]
      · rw [if_neg (by omega), if_neg (by omega), if_neg (by omega)]
theorem clR_ones {A : Nat → Nat → Int} (hE : Ext A) {i : Nat} (hi : i < 4) :
    ∀ (d c fu : Nat) (v : Nat → Nat → Int64) (X : Nat → Nat → Int), c + d = 9 → 5 ≤ c → d < fu → Mt 9 v X →
      ∃ v', L_X8_clear_61 (nI i) fu (nI c) v = some v' ∧ Mt 9 v' (fun a b => if a = i ∧ c ≤ b then A a b else X a b) := by
  intro d
  induction d with
  | zero =>
    intro c fu v X hc hc5 hfu hM
    obtain ⟨fu, rfl⟩ : ∃ g, fu = g + 1 := ⟨fu - 1, by omega⟩
    refine ⟨v, ?_, Mt_congr hM (fun a b ha hb => by rw [if_neg (by omega)])⟩
    rw [L_X8_clear_61, if_pos (show (9 : Int32) ≤ nI c from nI_le (a := 9) (by omega) (by omega))]
  | succ d ih =>
    intro c fu v X hc hc5 hfu hM
    obtain ⟨fu, rfl⟩ : ∃ g, fu = g + 1 := ⟨fu - 1, by omega⟩
    obtain ⟨v', e1, e2⟩ := ih (c + 1) fu _ _ (by omega) (by omega) (by omega) (Mt_set hM i c (A i c))
    have hA := hE i c hi hc5 (by omega)
    have kc : kin (nI c) 9 := kin_nI (by decide) (by omega)
    have e5 : nI c - (5 : Int32) = nI (c - 5) := by
      rw [nI_z, nI_z, show (5 : Int32) = zI 5 from rfl, zI_sub]; congr 1; omega
    refine ⟨v', ?_, Mt_congr e2 (fun a b ha hb2 => ?_)⟩
    · rw [L_X8_clear_61, if_neg (show ¬ (9 : Int32) ≤ nI c from nI_ge (b := 9) (by omega) (by omega)), if_pos (kin_nI (by decide) hi), e5, nI_clamp (n := i) (by omega), nI_clamp (n := c) (by omega)]
      by_cases q : c - 5 = i
      · rw [if_pos (by rw [q]), if_pos kc]
        rw [if_pos (by omega)] at hA
        rw [hA] at e1
        simp only [kl, nI_1]
        exact e1
      · rw [if_neg (fun z => q ((nI_eq (by omega) (by omega)).mp z)), if_pos kc]
        rw [if_neg (by omega)] at hA
        rw [hA] at e1
        simp only [kl, nI_1]
        exact e1
    · by_cases a1 : a = i
      · by_cases b1 : c + 1 ≤ b
        · rw [if_pos ⟨a1, b1⟩, if_pos ⟨a1, by omega⟩]
        · by_cases b2 : b = c
          · subst a1 b2; rw [if_neg (by omega), if_pos (by simp), if_pos (by simp)]
          · rw [if_neg (by omega), if_neg (by omega), if_neg (by omega)]
      · rw [if_neg (by omega), if_neg (by omega), if_neg (by omega)]
theorem clR_rows {F : Nat} (hF : 100 ≤ F) {p : Nat} (hp : Pm p) {nums : Nat → Int32} {A : Nat → Nat → Int} (h : Nc nums A) (hE : Ext A) :
    ∀ (d i fu : Nat) (v : Nat → Nat → Int64), i + d = 4 → d < fu → (∀ a b, a < i → b < 9 → v a b = zJ (A a b % p)) →
      ∃ v', L_X8_clear_18 F (nI p) nums fu (nI i) v = some v' ∧ Mt 9 v' (fun a b => A a b % p) := by
  have hp1 := hp.1
  intro d
  induction d with
  | zero =>
    intro i fu v hi hfu hM
    obtain ⟨fu, rfl⟩ : ∃ g, fu = g + 1 := ⟨fu - 1, by omega⟩
    refine ⟨v, ?_, fun a b ha hb => hM a b (by omega) hb⟩
    rw [L_X8_clear_18, if_pos (show (4 : Int32) ≤ nI i from nI_le (a := 4) (by omega) (by omega))]
  | succ d ih =>
    intro i fu v hi hfu hM
    obtain ⟨fu, rfl⟩ : ∃ g, fu = g + 1 := ⟨fu - 1, by omega⟩
    obtain ⟨X, hX⟩ : ∃ X, Mt 9 v X := ⟨fun a b => (v a b).toInt, fun a b _ _ => by
      obtain ⟨z, hz, e⟩ := zJ_of (v a b)
      show v a b = zJ (v a b).toInt
      rw [e, zJ_toInt hz]⟩
    obtain ⟨v1, e1, e2⟩ := clR_row hp h (by omega : i < 4) 5 0 F v X (by omega) (by omega) hX
    obtain ⟨v2, e3, e4⟩ := clR_ones hE (by omega : i < 4) 4 5 F v1 _ (by omega) (by omega) (by omega) e2
    rw [L_X8_clear_18, if_neg (show ¬ (4 : Int32) ≤ nI i from nI_ge (b := 4) (by omega) (by omega)), show L_X8_clear_25 (nI i) (nI p) nums F (0 : Int32) v = some v1 from e1]
    simp only [kb1, Option.bind_some, kl, nI_1]
    rw [show L_X8_clear_61 (nI i) F (5 : Int32) v1 = some v2 from e3]
    simp only [Option.bind_some]
    refine ih (i + 1) fu v2 (by omega) (by omega) (fun a b ha hb => ?_)
    have q := e4 a b (by omega) hb
    simp only at q
    by_cases c : a = i
    · by_cases c5 : 5 ≤ b
      · rw [if_pos ⟨c, c5⟩] at q
        rw [q]
        have := hE a b (by omega) c5 hb
        by_cases z : b = 5 + a
        · rw [if_pos z] at this; rw [this, Int.emod_eq_of_lt (by omega) (by omega)]
        · rw [if_neg z] at this; rw [this, Int.zero_emod]
      · rw [if_neg (by omega), if_pos (by omega)] at q
        exact q
    · rw [if_neg (by omega), if_neg (by omega)] at q
      rw [q, ← hX a b (by omega) hb]
      exact hM a b (by omega) hb
theorem clearR_ok {F : Nat} (hF : 100 ≤ F) {nums : Nat → Int32} {A : Nat → Nat → Int} (h : Nc nums A) (hE : Ext A) {n pn : Nat} (hn : n ≤ 4) (hpn : pn < 25) (vn vr vex vp : Int32) (v : Nat → Nat → Int64) :
    ∃ k ex σ l X v', f_X8_clear F vn vr vex (9 : Int32) vp v (nI n) (nI pn) nums = some (nI n, nI k, nI ex, nI (prN pn), v') ∧ InR (prN pn) A n n k σ l X ∧ Mt 9 v' X := by
  have hp := Pm_pr hpn
  obtain ⟨v1, e1, e2⟩ := clR_rows hF hp h hE 4 0 F v (by omega) (by omega) (fun a b ha => by omega)
  obtain ⟨k, ex, σ, l, X, v', f1, f2, f3⟩ := colsR_loop hF hp (A := A) hn n 0 F 0 0 (fun i => i) (fun i => i) (fun a b => A a b % prN pn) v1 (by omega) (by omega)
    ⟨⟨by omega, by omega, by omega, hn⟩, ⟨fun i hi => hi, fun a b _ _ e => e⟩, ⟨fun i hi => by omega, fun a b _ hb => by omega⟩, by simpa [Dm] using Pm_1 hp, fun i c hi => by omega, fun i c _ _ _ => by simpa [Dm, up] using dv_emod (prN pn) (A i c), fun i c _ _ hc => by omega, fun _ _ _ _ => rp_mod (by have := hp.1; omega) _⟩ e2 (by omega)
  refine ⟨k, ex, σ, l, X, v', ?_, f2, f3⟩
  unfold f_X8_clear f_X9_clearColumns_R
  rw [p_c hpn]
  simp only [kb1, Option.bind_some]
  rw [show L_X8_clear_18 F (nI (prN pn)) nums F (0 : Int32) v = some v1 from e1]
  simp only [Option.bind_some]
  rw [show L_X9_clearColumns_R_12 F (nI n) (9 : Int32) (nI (prN pn)) F (0 : Int32) (0 : Int32) (0 : Int32) v1 = some (nI k, nI ex, v') from f1]
  rfl
