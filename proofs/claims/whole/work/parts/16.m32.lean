/-! ===== the class by the prime: bad, fits, ways, back ===== -/
theorem full_fin : ∀ (n : Fin 5) (s : Fin 16) (t : Fin 32), s.val < 2 ^ n.val → t.val &&& (2 ^ n.val - 1) = t.val → onesN s.val = n.val → onesN t.val = n.val → s.val = 2 ^ n.val - 1 ∧ t.val = 2 ^ n.val - 1 := by decide +kernel
theorem bad_iff {p : Nat} (hp : Pm p) {A : Nat → Nat → Int} {n k : Nat} {σ l : Nat → Nat} {X : Nat → Nat → Int} (h1 : 1 ≤ n) (h : InR p A n n k σ l X) : (k < n ↔ (p : Int) ∣ Dt A n) := by
  have hR := RkR hp h
  have hn := h.1.2.2.2
  have hk := h.1.2.1
  constructor
  · intro hk
    refine Classical.byContradiction fun c => ?_
    have := Rk_unique hR (Rk_full h1 hn c)
    omega
  · intro hd
    refine Classical.byContradiction fun c => ?_
    have : k = n := by omega
    subst this
    rcases hR.1 with e | ⟨s, t, a1, a2, a3, a4, a5, a6, a7⟩
    · omega
    · have hpn := pow_n hn
      obtain ⟨b1, b2⟩ := full_fin ⟨k, by omega⟩ ⟨s, by omega⟩ ⟨t, a3⟩ a2 a4 a6 a5
      simp only at b1 b2
      rw [b1, b2] at a7
      exact a7 hd
theorem primeIsBad_ok {F : Nat} (hF : 100 ≤ F) {nums : Nat → Int32} {A : Nat → Nat → Int} (h : Nc nums A) (hE : Ext A) {n pn : Nat} (h1 : 1 ≤ n) (hn : n ≤ 4) (hpn : pn < 25) (vn vr vex vp : Int32) (v : Nat → Nat → Int64) :
    ∃ k ex σ l X v', f_X11_primeIsBad F (nI n) (nI pn) nums vn vr vex (9 : Int32) vp v = some (if (prN pn : Int) ∣ Dt A n then 1 else 0, nI n, nI k, nI ex, nI (prN pn), v') ∧ InR (prN pn) A n n k σ l X ∧ Mt 9 v' X := by
  obtain ⟨k, ex, σ, l, X, v', e1, e2, e3⟩ := clearR_ok hF h hE hn hpn vn vr vex vp v
  refine ⟨k, ex, σ, l, X, v', ?_, e2, e3⟩
  have hb := bad_iff (Pm_pr hpn) h1 e2
  have hk := e2.1.2.1
  unfold f_X11_primeIsBad
  rw [e1]
  simp only [kb5, Option.bind_some]
  by_cases c : (prN pn : Int) ∣ Dt A n
  · rw [if_neg (nI_ge (hb.mpr c) (by omega)), if_pos c]
  · have : ¬ k < n := fun z => c (hb.mp z)
    rw [if_pos (nI_le (by omega) (by omega)), if_neg c]
theorem fitsR_loop {n : Nat} (hn : n ≤ 4) {v : Nat → Nat → Int64} {X : Nat → Nat → Int} (hM : Mt 9 v X) (hx : ∀ i, i < 4 → sm (X i 4)) : ∀ (d i fu : Nat), i + d = n → d < fu → ((∀ z, i ≤ z → z < n → X z 4 = 0) → L_X9_fitsSide_R_5 (nI n) v fu (nI i) = some (.inr ())) ∧ (¬ (∀ z, i ≤ z → z < n → X z 4 = 0) → L_X9_fitsSide_R_5 (nI n) v fu (nI i) = some (.inl ())) := by
  intro d
  induction d with
  | zero =>
    intro i fu hi hfu
    obtain ⟨fu, rfl⟩ : ∃ g, fu = g + 1 := ⟨fu - 1, by omega⟩
    rw [L_X9_fitsSide_R_5, if_pos (nI_le (by omega) (by omega))]
    exact ⟨fun _ => rfl, fun q => absurd (fun z a b => by omega) q⟩
  | succ d ih =>
    intro i fu hi hfu
    obtain ⟨fu, rfl⟩ : ∃ g, fu = g + 1 := ⟨fu - 1, by omega⟩
    rw [L_X9_fitsSide_R_5, if_neg (nI_ge (by omega) (by omega)), if_pos (kin_nI (by decide) (by omega)), if_pos (by decide), nI_clamp (n := i) (by omega), show (4 : Int32).toNatClampNeg = 4 from rfl, hM i 4 (by omega) (by omega)]
    have e : zJ (X i 4) = (0 : Int64) ↔ X i 4 = 0 := by
      rw [show (0 : Int64) = zJ 0 from rfl, zJ_eq (rJ_sm (hx i (by omega))) ⟨by omega, by omega⟩]
    by_cases c : X i 4 = 0
    · rw [if_pos (e.mpr c)]
      simp only [kl, nI_1]
      obtain ⟨h1, h2⟩ := ih (i + 1) fu (by omega) (by omega)
      refine ⟨fun q => h1 (fun z a b => q z (by omega) b), fun q => h2 (fun q2 => q (fun z a b => ?_))⟩
      by_cases y : z = i
      · rw [y]; exact c
      · exact q2 z (by omega) b
    · rw [if_neg (fun z => c (e.mp z))]
      exact ⟨fun q => absurd (q i (by omega) (by omega)) c, fun _ => rfl⟩
theorem InR_sm {p : Nat} (hp : Pm p) {A : Nat → Nat → Int} {n j k : Nat} {σ l : Nat → Nat} {X : Nat → Nat → Int} (h : InR p A n j k σ l X) : ∀ i c, i < 4 → c < 9 → sm (X i c) := fun i c hi hc => by
  have h1 := (h.2.2.2.2.2.2.2 i c hi hc).1
  have h2 := (h.2.2.2.2.2.2.2 i c hi hc).2
  have := hp.1
  unfold sm; omega
theorem fitsR_ok {F : Nat} (hF : 100 ≤ F) {p : Nat} (hp : Pm p) {A : Nat → Nat → Int} {n k : Nat} {σ l : Nat → Nat} {X : Nat → Nat → Int} (h : InR p A n n k σ l X) {v : Nat → Nat → Int64} (hM : Mt 9 v X) : f_X9_fitsSide_R F (nI n) (nI k) v = some (if fitB n k X = true then 1 else 0) := by
  have h1 := h.1.2.2.2
  have h2 := h.1.2.1
  obtain ⟨e1, e2⟩ := fitsR_loop h1 hM (fun i hi => InR_sm hp h i 4 hi (by omega)) (n - k) k F (by omega) (by omega)
  unfold f_X9_fitsSide_R
  by_cases q : fitB n k X = true
  · rw [e1 (fitB_iff.mp q), if_pos q]; rfl
  · rw [e2 (fun z => q (fitB_iff.mpr z)), if_neg q]; rfl
/-- so many times p -/
def wy (p : Nat) (b : Int32) : Nat → Int32
  | 0 => b
  | d + 1 => wy p (b * nI p) d
theorem ways_loop {n p : Nat} (hn : n ≤ 4) : ∀ (d k fu : Nat) (b : Int32), k + d = n → d < fu → L_X8_ways_16 (nI n) (nI p) fu b (nI k) = some (wy p b d) := by
  intro d
  induction d with
  | zero =>
    intro k fu b hk hfu
    obtain ⟨fu, rfl⟩ : ∃ g, fu = g + 1 := ⟨fu - 1, by omega⟩
    rw [L_X8_ways_16, if_pos (nI_le (by omega) (by omega))]; rfl
  | succ d ih =>
    intro k fu b hk hfu
    obtain ⟨fu, rfl⟩ : ∃ g, fu = g + 1 := ⟨fu - 1, by omega⟩
    rw [L_X8_ways_16, if_neg (nI_ge (by omega) (by omega))]
    simp only [kl, nI_1]
    rw [ih (k + 1) fu _ (by omega) (by omega)]; rfl
theorem waysM_loop {w : Nat → Int32} {n : Nat} {A : Nat → Nat → Int} (h : Wn w n A) {p : Nat} : ∀ (d k fu : Nat) (b : Int32), k + d = n → d < fu → L_X12_waysNow_33 (nI p) w fu b (nI k) = some (wy p b d) := by
  have hn := h.2.2.1
  intro d
  induction d with
  | zero =>
    intro k fu b hk hfu
    obtain ⟨fu, rfl⟩ : ∃ g, fu = g + 1 := ⟨fu - 1, by omega⟩
    rw [L_X12_waysNow_33, n_ok h]
    simp only [kb1, Option.bind_some]
    rw [if_pos (nI_le (by omega) (by omega))]; rfl
  | succ d ih =>
    intro k fu b hk hfu
    obtain ⟨fu, rfl⟩ : ∃ g, fu = g + 1 := ⟨fu - 1, by omega⟩
    rw [L_X12_waysNow_33, n_ok h]
    simp only [kb1, Option.bind_some]
    rw [if_neg (nI_ge (by omega) (by omega))]
    simp only [kl, nI_1]
    rw [ih (k + 1) fu _ (by omega) (by omega)]; rfl
theorem wy_0 (p d : Nat) : wy p 0 d = 0 := by
  induction d with
  | zero => rfl
  | succ d ih => rw [wy, show (0 : Int32) * nI p = 0 by simp]; exact ih
theorem ways_ok {F : Nat} (hF : 100 ≤ F) {p : Nat} (hp : Pm p) {A : Nat → Nat → Int} {n k : Nat} {σ l : Nat → Nat} {X : Nat → Nat → Int} (h : InR p A n n k σ l X) {v : Nat → Nat → Int64} (hM : Mt 9 v X) : f_X8_ways F (nI n) (nI k) (nI p) v = some (if fitB n k X = true then wy p 1 (n - k) else 0) := by
  have h1 := h.1.2.2.2
  have h2 := h.1.2.1
  unfold f_X8_ways
  rw [fitsR_ok hF hp h hM]
  by_cases q : fitB n k X = true
  · simp only [if_pos q, kb1, Option.bind_some]
    rw [if_neg (by decide), ways_loop h1 (n - k) k F 1 (by omega) (by omega)]
    rfl
  · simp only [if_neg q, kb1, Option.bind_some]
    rw [if_pos trivial]
theorem rankM_p {F : Nat} (hF : 100 ≤ F) {w : Nat → Int32} {p : Nat} (hp : Pm p) {A : Nat → Nat → Int} {n k : Nat} {σ l : Nat → Nat} {X : Nat → Nat → Int} (hW : Wn w n A) (h : InR p A n n k σ l X) (rs cs : Nat → Int32) : ∃ rs' cs', f_X12_rankOf F w rs cs (nI (2 ^ n - 1)) (nI p) = some (nI k, rs', cs') := by
  have hpn := pow_n hW.2.2.1
  have := hp.1
  obtain ⟨r, rs', cs', e1, e2, e3⟩ := rankOf_ok hF hW (T := 2 ^ n - 1) (q := p) (by omega) (Or.inr ⟨by omega, by omega⟩) rs cs
  exact ⟨rs', cs', by rw [e1, Rk_unique e3 (RkR hp h)]⟩
theorem waysNow_ok {F : Nat} (hF : 100 ≤ F) {w : Nat → Int32} {n pn : Nat} {A : Nat → Nat → Int} (hW : Wp w n pn A) {k : Nat} {σ l : Nat → Nat} {X : Nat → Nat → Int} (h : InR (prN pn) A n n k σ l X) (rs cs : Nat → Int32) : ∃ rs' cs', f_X12_waysNow F w rs cs = some (if fitB n k X = true then wy (prN pn) 1 (n - k) else 0, rs', cs') := by
  have hp := Pm_pr hW.2.2
  have h1 := h.1.2.2.2
  have h2 := h.1.2.1
  obtain ⟨rs1, cs1, e1⟩ := rankM_p hF hp hW.1 h rs cs
  obtain ⟨r, rs2, cs2, e2, e3, e4⟩ := wideRank_ok hF hW.1 (q := prN pn) (Or.inr ⟨by have := hp.1; omega, by have := hp.1; omega⟩) rs1 cs1
  obtain ⟨w1, w2⟩ := RkR_wide hp h
  refine ⟨rs2, cs2, ?_⟩
  unfold f_X12_waysNow
  rw [pm_ok hF hW]
  simp only [kb1, Option.bind_some]
  rw [allColumns_ok hW.1]
  simp only [Option.bind_some]
  rw [e1]
  simp only [kb3, Option.bind_some]
  rw [e2]
  simp only [Option.bind_some]
  by_cases q : fitB n k X = true
  · have hr := Rk_unique e4 (w1 (fitB_iff.mp q))
    rw [if_pos q, if_pos (nI_le (by omega) (by omega)), show (1 : Int32) = (1 : Int32) from rfl, waysM_loop hW.1 (n - k) k F 1 (by omega) (by omega)]
    rfl
  · have hr := Rk_unique e4 (w2 (fun z => q (fitB_iff.mpr z)))
    rw [if_neg q, if_neg (nI_ge (by omega) (by omega)), waysM_loop hW.1 (n - k) k F 0 (by omega) (by omega), wy_0]
    rfl
/-! ===== what leads the table back ===== -/
theorem bset_fin : ∀ (n j : Fin 5), j.val < n.val → (nI (2 ^ n.val - 1) &&& (((1 : Int32) <<< (nI j.val &&& 31)) ^^^ (-1 : Int32))) = nI (2 ^ n.val - 1 - 2 ^ j.val) := by decide +kernel
theorem bset_lt : ∀ (n j : Fin 5), j.val < n.val → 2 ^ n.val - 1 - 2 ^ j.val < 16 := by decide +kernel
theorem backc_ok {v : Nat → Nat → Int64} {X : Nat → Nat → Int} (hM : Mt 9 v X) {i j : Nat} (hi : i < 4) (hj : j < 4) : f_X8_inverse v (nI i) (nI j) = some (zI (X i (5 + j))) := by
  unfold f_X8_inverse
  have e : (5 : Int32) + nI j = nI (5 + j) := by rw [show (5 : Int32) = nI 5 from rfl, nI_add]
  rw [e, if_pos (kin_nI (by decide) hi), if_pos (kin_nI (by decide) (by omega)), nI_clamp (n := i) (by omega), nI_clamp (n := 5 + j) (by omega), hM i (5 + j) hi (by omega), zJ_I]
theorem InR_id {p : Nat} {A : Nat → Nat → Int} {n : Nat} {σ l : Nat → Nat} {X : Nat → Nat → Int} (h : InR p A n n n σ l X) : ∀ i, i < n → l i = i := Inc_id ⟨h.2.2.1.1, h.2.2.1.2⟩
theorem LinRn {p : Nat} (hp : Pm p) {A : Nat → Nat → Int} {n : Nat} {σ l : Nat → Nat} {X : Nat → Nat → Int} (h : InR p A n n n σ l X) {c : Nat} (hc : c < 9) {ρ : Nat} (hρ : ρ < n) : (p : Int) ∣ A ρ c - sumN (fun t => X t c * A ρ t) n := by
  have := LinR hp h hc (fun i a b => by omega) hρ
  rwa [sumN_congr (fun t ht => by rw [InR_id h t ht])] at this
theorem Dm_id (A : Nat → Nat → Int) {n : Nat} (hn : n ≤ 4) : Dm A (fun i => i) (fun i => i) n = Dt A n := (Mn_full A hn).symm
theorem rp_eq {p : Nat} {x y : Int} (hx : rp p x) (hy : rp p y) (h : (p : Int) ∣ x - y) : x = y := by
  obtain ⟨z, hz⟩ := h
  have h1 := hx.1
  have h2 := hx.2
  have h3 := hy.1
  have h4 := hy.2
  have : z = 0 := by
    rcases Int.lt_trichotomy z 0 with c | c | c
    · have : (p : Int) * z ≤ p * (-1) := Int.mul_le_mul_of_nonneg_left (by omega) (by omega)
      omega
    · exact c
    · have : (p : Int) * 1 ≤ p * z := Int.mul_le_mul_of_nonneg_left (by omega) (by omega)
      omega
  rw [this, Int.mul_zero] at hz
  omega
theorem par_fin : ∀ (i j : Fin 4), ((nI i.val + nI j.val) - (nI i.val + nI j.val) / (2 : Int32) * (2 : Int32)) = 0 ↔ (i.val + j.val) % 2 = 0 := by decide +kernel
theorem bk_mul {p : Nat} (hp : 0 < p) {m u x D M : Int} (em : m = M) (hx : rp p x) (key : (p : Int) ∣ M - x * D) (u2 : (p : Int) ∣ D * u - 1) : (m % (p : Int) * u) % (p : Int) = x := by
  subst em
  refine rp_eq (rp_mod hp _) hx ?_
  have a1 := dv_emod p (m % (p : Int) * u)
  have a2 : (p : Int) ∣ m % (p : Int) * u - m * u := by rw [← Int.sub_mul]; exact Int.dvd_mul_of_dvd_left (dv_emod p m)
  have a3 : (p : Int) ∣ m * u - x * D * u := by rw [← Int.sub_mul]; exact Int.dvd_mul_of_dvd_left key
  have a4 : (p : Int) ∣ x * D * u - x := by
    rw [show x * D * u - x = x * (D * u - 1) by rw [Int.mul_sub, Int.mul_one, Int.mul_assoc]]
    exact Int.dvd_mul_of_dvd_right u2
  exact dv_trans a1 (dv_trans a2 (dv_trans a3 a4))
theorem bk_key {p : Nat} (hp : Pm p) {n : Nat} {A : Nat → Nat → Int} (hE : Ext A) (hn : n ≤ 4) {σ l : Nat → Nat} {X : Nat → Nat → Int} (h : InR p A n n n σ l X) {i j : Nat} (hi : i < n) (hj : j < n) : (p : Int) ∣ sgn (i + j) * Mn A (2 ^ n - 1 - 2 ^ j) (2 ^ n - 1 - 2 ^ i) - X i (5 + j) * Dt A n := by
  have q := colR (q := (p : Int)) (A := A) (R := fun i => i) (C := fun i => i) (y := fun t => X t (5 + j)) (s := 1) (c := 5 + j) (k := n) (r := i) hn hi (fun t ht => by omega) (fun ρ hρ => by
    rw [Int.one_mul]; exact LinRn hp h (by omega) hρ)
  rwa [Int.one_mul, back_id hE hn hi hj, Dm_id A hn] at q
theorem bk_fin {F : Nat} (hF : 100 ≤ F) {w : Nat → Int32} {n : Nat} {A : Nat → Nat → Int} (hW : Wn w n A) {p : Nat} (hp : Pm p) (hD : ¬ (p : Int) ∣ Dt A n) {m x M : Int} (hm : m.natAbs ≤ 2305430424) (em : m = M) (hx : rp p x) (key : (p : Int) ∣ M - x * Dt A n) (rs1 cs1 : Nat → Int32) : ∃ rs2 cs2, (kb1 (f_X12_leftOver (zJ m) (zJ p)) fun r14 => kb3 (f_X12_determinant F w rs1 cs1) fun r16 w17 w18 => kb1 (f_X12_inverse F r16 (zJ p)) fun r20 => if ¬ zJ (p : Int) = 0 then some (((r14 * r20) - (r14 * r20) / zJ p * zJ p), w17, w18) else none) = some (zJ x, rs2, cs2) := by
  have hp1 := hp.1
  have hn := hW.2.2.1
  have hB := hW.2.2.2.2
  obtain ⟨rs2, cs2, e2⟩ := determinant_ok hF hW rs1 cs1
  obtain ⟨u, e3, u1, u2⟩ := inverse_ok hF hp (sm_ab (Dt_ab hB hn)) hD
  refine ⟨rs2, cs2, ?_⟩
  rw [loM_ok (sm_ab hm) (by omega) hp1.2, e2]
  simp only [kb1, kb3, Option.bind_some]
  rw [e3]
  simp only [Option.bind_some]
  have hr := rp_mod (show 0 < p by omega) m
  have hb := ab_rp hp1.2 hr u1
  rw [if_pos (nz_p (by omega) hp1.2), zJ_mul, remp_ok (by unfold sm; omega) hb.1 (by omega) hp1.2, bk_mul (by omega) em hx key u2]
/-- a bind whose first is known -/
theorem kb1_of {α δ : Type} {x : Option α} {a : α} {k : α → Option δ} {y : Option δ} (h : x = some a) (hk : k a = y) : kb1 x k = y := by subst h; exact hk
theorem kb2_of {α β δ : Type} {x : Option (α × β)} {a : α} {b : β} {k : α → β → Option δ} {y : Option δ} (h : x = some (a, b)) (hk : k a b = y) : kb2 x k = y := by subst h; exact hk
theorem kb3_of {α β γ δ : Type} {x : Option (α × β × γ)} {a : α} {b : β} {c : γ} {k : α → β → γ → Option δ} {y : Option δ} (h : x = some (a, b, c)) (hk : k a b c = y) : kb3 x k = y := by subst h; exact hk
theorem kl_of {α β : Type} {v w : α} {k : α → Option β} {y : Option β} (h : v = w) (hk : k w = y) : kl v k = y := by subst h; exact hk
theorem kt_of {c : Prop} [Decidable c] {β : Type} {x z y : Option β} (hc : c) (h : x = y) : (if c then x else z) = y := by rw [if_pos hc]; exact h
theorem kn_of {c : Prop} [Decidable c] {β : Type} {x z y : Option β} (hc : ¬ c) (h : z = y) : (if c then x else z) = y := by rw [if_neg hc]; exact h
theorem backM_ok {F : Nat} (hF : 100 ≤ F) {w : Nat → Int32} {n pn : Nat} {A : Nat → Nat → Int} (hW : Wp w n pn A) (hE : Ext A) {σ l : Nat → Nat} {X : Nat → Nat → Int} (h : InR (prN pn) A n n n σ l X) (hD : ¬ (prN pn : Int) ∣ Dt A n) {i j : Nat} (hi : i < n) (hj : j < n) (rs cs : Nat → Int32) : ∃ rs' cs', f_X12_backOf F w rs cs (nI i) (nI j) = some (zJ (X i (5 + j)), rs', cs') := by
  have hp := Pm_pr hW.2.2
  have hp1 := hp.1
  have hn := hW.1.2.2.1
  have hB := hW.1.2.2.2.2
  have s1 := bset_lt ⟨n, by omega⟩ ⟨i, by omega⟩ hi
  have s2 := bset_lt ⟨n, by omega⟩ ⟨j, by omega⟩ hj
  simp only at s1 s2
  obtain ⟨rs1, cs1, e1⟩ := minor_ok hF hW.1.2.2.2 rs cs (s := 2 ^ n - 1 - 2 ^ j) (t := 2 ^ n - 1 - 2 ^ i) s2 (by omega)
  have hab := Mn_ab hB (s := 2 ^ n - 1 - 2 ^ j) (t := 2 ^ n - 1 - 2 ^ i) s2 (by omega)
  have key := bk_key hp hE hn h hi hj
  have hx := h.2.2.2.2.2.2.2 i (5 + j) (by omega) (by omega)
  have hpar := par_fin ⟨i, by omega⟩ ⟨j, by omega⟩
  simp only at hpar
  have g1 := bset_fin ⟨n, by omega⟩ ⟨i, by omega⟩ hi
  have g2 := bset_fin ⟨n, by omega⟩ ⟨j, by omega⟩ hj
  simp only at g1 g2
  generalize hM : Mn A (2 ^ n - 1 - 2 ^ j) (2 ^ n - 1 - 2 ^ i) = M at e1 hab key
  have go : ∀ rs2 cs2, (if ((nI i + nI j) - (nI i + nI j) / (2 : Int32) * (2 : Int32)) = 0 then (kb1 (f_X12_leftOver (zJ M) (zJ (prN pn))) fun r14 => kb3 (f_X12_determinant F w rs1 cs1) fun r16 w17 w18 => kb1 (f_X12_inverse F r16 (zJ (prN pn))) fun r20 => if ¬ zJ (prN pn : Int) = 0 then some (((r14 * r20) - (r14 * r20) / zJ (prN pn) * zJ (prN pn)), w17, w18) else none) else (kb1 (f_X12_leftOver (-zJ M) (zJ (prN pn))) fun r14 => kb3 (f_X12_determinant F w rs1 cs1) fun r16 w17 w18 => kb1 (f_X12_inverse F r16 (zJ (prN pn))) fun r20 => if ¬ zJ (prN pn : Int) = 0 then some (((r14 * r20) - (r14 * r20) / zJ (prN pn) * zJ (prN pn)), w17, w18) else none)) = some (zJ (X i (5 + j)), rs2, cs2) → f_X12_backOf F w rs cs (nI i) (nI j) = some (zJ (X i (5 + j)), rs2, cs2) := by
    intro rs2 cs2 hy
    unfold f_X12_backOf
    refine kb1_of (pm_ok hF hW) ?_
    refine kl_of (nIJ hp1.2) ?_
    refine kb1_of (allColumns_ok hW.1) ?_
    refine kb1_of (allColumns_ok hW.1) ?_
    refine kb3_of (by rw [g1, g2]; exact e1) ?_
    exact hy
  by_cases c : (i + j) % 2 = 0
  · obtain ⟨rs2, cs2, e2⟩ := bk_fin hF hW.1 hp hD (m := M) hab (by rw [sgn, if_pos c, Int.one_mul]) hx key rs1 cs1
    exact ⟨rs2, cs2, go _ _ (by rw [if_pos (hpar.mpr c)]; exact e2)⟩
  · obtain ⟨rs2, cs2, e2⟩ := bk_fin hF hW.1 hp hD (m := -M) (by omega) (by rw [sgn, if_neg c, Int.neg_mul, Int.one_mul]) hx key rs1 cs1
    exact ⟨rs2, cs2, go _ _ (by rw [if_neg (fun z => c (hpar.mp z)), zJ_neg]; exact e2)⟩
