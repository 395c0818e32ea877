/-! ===== the residues: a column cleared ===== -/
def rp (p : Nat) (x : Int) : Prop := 0 ≤ x ∧ x < (p : Int)
theorem rp_mod {p : Nat} (h : 0 < p) (a : Int) : rp p (a % p) := ⟨Int.emod_nonneg _ (by omega), Int.emod_lt_of_pos _ (by omega)⟩
theorem lo_ok {a : Int} (ha : sm a) {p : Nat} (hp : 0 < p) (hp2 : p < 98) : ∃ z, f_X11_leftOver (zJ a) (nI p) = some z ∧ z = zI (a % p) ∧ z.toInt64 = zJ (a % p) := by
  have h := rp_mod hp a
  refine ⟨_, leftOver_ok ha hp (by omega), rfl, zI_J ⟨by have := h.1; omega, by have := h.2; omega⟩⟩
theorem ab_rp {p : Nat} (hp : p < 98) {x y : Int} (hx : rp p x) (hy : rp p y) : 0 ≤ x * y ∧ x * y ≤ 9409 := by
  have h1 := Int.mul_nonneg hx.1 hy.1
  have h2 : x * y ≤ 97 * 97 := Int.mul_le_mul (by have := hx.2; omega) (by have := hy.2; omega) hy.1 (by decide)
  omega
theorem sc_loop {p r w : Nat} (hp : Pm p) (hr : r < 4) (hw : w < p) {X0 : Nat → Nat → Int} (hX : ∀ c, c < 9 → rp p (X0 r c)) (x1 : Int32) :
    ∀ (d c fu : Nat) (v : Nat → Nat → Int64) (X : Nat → Nat → Int), c + d = 9 → d < fu → Mt 9 v X → (∀ b, c ≤ b → X r b = X0 r b) →
      ∃ v', L_X8_clearColumn_18 x1 (nI w) (nI r) (nI p) fu (nI c) v = some v' ∧ Mt 9 v' (fun a b => if a = r ∧ c ≤ b then (X0 r b * w) % p else X a b) := by
  have hp1 := hp.1
  intro d
  induction d with
  | zero =>
    intro c fu v X hc hfu hM h1
    obtain ⟨fu, rfl⟩ : ∃ g, fu = g + 1 := ⟨fu - 1, by omega⟩
    refine ⟨v, ?_, Mt_congr hM (fun a b ha hb => ?_)⟩
    · rw [L_X8_clearColumn_18, if_pos (show (9 : Int32) ≤ nI c from nI_le (a := 9) (by omega) (by omega))]
    · rw [if_neg (by omega)]
  | succ d ih =>
    intro c fu v X hc hfu hM h1
    obtain ⟨fu, rfl⟩ : ∃ g, fu = g + 1 := ⟨fu - 1, by omega⟩
    have kr : kin (nI r) 4 := kin_nI (by decide) hr
    have kc : kin (nI c) 9 := kin_nI (by decide) (by omega)
    have hb := ab_rp hp1.2 (hX c (by omega)) (show rp p (w : Int) from ⟨by omega, by omega⟩)
    obtain ⟨z, q1, -, q3⟩ := lo_ok (a := X0 r c * w) (by unfold sm; omega) (show 0 < p by omega) hp1.2
    obtain ⟨v', e1, e2⟩ := ih (c + 1) fu (ku v r (vp_updL (v r) c (zJ ((X0 r c * w) % p)))) _ (by omega) (by omega) (Mt_set hM r c _) (fun b hb2 => by rw [if_neg (by omega)]; exact h1 b (by omega))
    refine ⟨v', ?_, Mt_congr e2 (fun a b ha hb2 => ?_)⟩
    · rw [L_X8_clearColumn_18, if_neg (show ¬ (9 : Int32) ≤ nI c from nI_ge (b := 9) (by omega) (by omega)), if_pos kr, if_pos kr, if_pos kc, nI_clamp (n := r) (by omega), nI_clamp (n := c) (by omega), hM r c hr (by omega), h1 c (Nat.le_refl c), nI_z w, zI_J ⟨by omega, by omega⟩, zJ_mul, q1]
      simp only [kb1, Option.bind_some]
      rw [if_pos kc]
      simp only [kl, nI_1, q3]
      rw [← nI_z w]
      exact e1
    · by_cases a1 : a = r
      · by_cases b1 : c + 1 ≤ b
        · rw [if_pos ⟨a1, b1⟩, if_pos ⟨a1, by omega⟩]
        · by_cases b2 : b = c
          · subst a1 b2; rw [if_neg (by omega), if_pos (by simp), if_pos (by simp)]
          · rw [if_neg (by omega), if_neg (by omega), if_neg (by omega)]
      · rw [if_neg (by omega), if_neg (by omega), if_neg (by omega)]
theorem rd_loop {p r i : Nat} (hp : Pm p) (hr : r < 4) (hi : i < 4) {fc : Int} (hfc : rp p fc) {X0 : Nat → Nat → Int} (hX : ∀ a c, a < 4 → c < 9 → rp p (X0 a c)) (hir : i ≠ r ∨ fc = 0) (x1 : Int32) :
    ∀ (d c fu : Nat) (v : Nat → Nat → Int64) (X : Nat → Nat → Int), c + d = 9 → d < fu → Mt 9 v X → (∀ b, c ≤ b → X i b = X0 i b) → (∀ b, c ≤ b → X r b = X0 r b) →
      ∃ v', L_X8_clearColumn_98 x1 (nI i) (zJ fc) (nI r) (nI p) fu (nI c) v = some v' ∧ Mt 9 v' (fun a b => if a = i ∧ c ≤ b then (X0 i b - fc * X0 r b) % p else X a b) := by
  have hp1 := hp.1
  intro d
  induction d with
  | zero =>
    intro c fu v X hc hfu hM h1 h2
    obtain ⟨fu, rfl⟩ : ∃ g, fu = g + 1 := ⟨fu - 1, by omega⟩
    refine ⟨v, ?_, Mt_congr hM (fun a b ha hb => ?_)⟩
    · rw [L_X8_clearColumn_98, if_pos (show (9 : Int32) ≤ nI c from nI_le (a := 9) (by omega) (by omega))]
    · rw [if_neg (by omega)]
  | succ d ih =>
    intro c fu v X hc hfu hM h1 h2
    obtain ⟨fu, rfl⟩ : ∃ g, fu = g + 1 := ⟨fu - 1, by omega⟩
    have kr : kin (nI r) 4 := kin_nI (by decide) hr
    have ki : kin (nI i) 4 := kin_nI (by decide) hi
    have kc : kin (nI c) 9 := kin_nI (by decide) (by omega)
    have hb := ab_rp hp1.2 hfc (hX r c hr (by omega))
    have hb0 := hX i c hi (by omega)
    have hb1 := hb0.1
    have hb2 := hb0.2
    obtain ⟨z, q1, -, q3⟩ := lo_ok (a := X0 i c - fc * X0 r c) (by unfold sm; omega) (show 0 < p by omega) hp1.2
    obtain ⟨v', e1, e2⟩ := ih (c + 1) fu (ku v i (vp_updL (v i) c (zJ ((X0 i c - fc * X0 r c) % p)))) _ (by omega) (by omega) (Mt_set hM i c _) (fun b hb2 => by rw [if_neg (by omega)]; exact h1 b (by omega)) (fun b hb2 => by rw [if_neg (by omega)]; exact h2 b (by omega))
    refine ⟨v', ?_, Mt_congr e2 (fun a b ha hb2 => ?_)⟩
    · rw [L_X8_clearColumn_98, if_neg (show ¬ (9 : Int32) ≤ nI c from nI_ge (b := 9) (by omega) (by omega)), if_pos ki, if_pos ki, if_pos kc, if_pos kr, if_pos kc, nI_clamp (n := i) (by omega), nI_clamp (n := r) (by omega), nI_clamp (n := c) (by omega), hM r c hr (by omega), hM i c hi (by omega), h1 c (Nat.le_refl c), h2 c (Nat.le_refl c), zJ_mul, zJ_sub, q1]
      simp only [kb1, Option.bind_some]
      rw [if_pos kc]
      simp only [kl, nI_1, q3]
      exact e1
    · by_cases a1 : a = i
      · by_cases b1 : c + 1 ≤ b
        · rw [if_pos ⟨a1, b1⟩, if_pos ⟨a1, by omega⟩]
        · by_cases b2 : b = c
          · subst a1 b2; rw [if_neg (by omega), if_pos (by simp), if_pos (by simp)]
          · rw [if_neg (by omega), if_neg (by omega), if_neg (by omega)]
      · rw [if_neg (by omega), if_neg (by omega), if_neg (by omega)]
/-- rows below k done: row a loses its number in column l times row r -/
def rdX (X : Nat → Nat → Int) (p r l k : Nat) : Nat → Nat → Int := fun a b => if a < k ∧ a ≠ r then (X a b - X a l * X r b) % p else X a b
theorem rd_rp {X : Nat → Nat → Int} {p r l k : Nat} (h0 : 0 < p) (hX : ∀ a c, a < 4 → c < 9 → rp p (X a c)) : ∀ a c, a < 4 → c < 9 → rp p (rdX X p r l k a c) := fun a c ha hc => by
  unfold rdX
  by_cases e : a < k ∧ a ≠ r
  · rw [if_pos e]; exact rp_mod h0 _
  · rw [if_neg e]; exact hX a c ha hc
theorem rc_loop {F : Nat} (hF : 100 ≤ F) {p n r l : Nat} (hp : Pm p) (hn : n ≤ 4) (hr : r < 4) (hl : l < 9) {X0 : Nat → Nat → Int} (hX : ∀ a c, a < 4 → c < 9 → rp p (X0 a c)) :
    ∀ (d k fu : Nat) (v : Nat → Nat → Int64), k + d = n → d < fu → Mt 9 v (rdX X0 p r l k) →
      ∃ v', L_X8_clearColumn_65 F (nI l) (nI n) (nI r) (nI p) fu (nI k) v = some v' ∧ Mt 9 v' (rdX X0 p r l n) := by
  have hp1 := hp.1
  intro d
  induction d with
  | zero =>
    intro k fu v hk hfu hM
    obtain ⟨fu, rfl⟩ : ∃ g, fu = g + 1 := ⟨fu - 1, by omega⟩
    have : k = n := by omega
    subst this
    refine ⟨v, ?_, hM⟩
    rw [L_X8_clearColumn_65, if_pos (nI_le (Nat.le_refl _) (by omega))]
  | succ d ih =>
    intro k fu v hk hfu hM
    obtain ⟨fu, rfl⟩ : ∃ g, fu = g + 1 := ⟨fu - 1, by omega⟩
    have hR := rd_rp (r := r) (l := l) (k := k) (show 0 < p by omega) hX
    rw [L_X8_clearColumn_65, if_neg (nI_ge (by omega) (by omega))]
    by_cases c : k = r
    · subst c
      rw [if_pos rfl]
      obtain ⟨v1, e1, e2⟩ := rd_loop hp hr hr (fc := 0) ⟨by omega, by omega⟩ hR (Or.inr rfl) (nI l) 9 0 F v _ (by omega) (by omega) hM (fun _ _ => rfl) (fun _ _ => rfl)
      rw [show L_X8_clearColumn_98 (nI l) (nI k) (0 : Int64) (nI k) (nI p) F (0 : Int32) v = some v1 from e1]
      simp only [kb1, Option.bind_some, kl, nI_1]
      refine ih (k + 1) fu v1 (by omega) (by omega) (Mt_congr e2 (fun a b ha hb => ?_))
      by_cases a1 : a = k
      · subst a1
        have := hX a b ha hb
        simp [rdX, Int.emod_eq_of_lt this.1 this.2]
      · unfold rdX
        rw [if_neg (by omega)]
        by_cases a2 : a < k ∧ a ≠ k
        · rw [if_pos a2, if_pos (by omega)]
        · rw [if_neg a2, if_neg (by omega)]
    · have kk : kin (nI k) 4 := kin_nI (by decide) (by omega)
      have kl' : kin (nI l) 9 := kin_nI (by decide) hl
      have m1 : v k l = zJ (X0 k l) := by have := hM k l (by omega) hl; simpa [rdX] using this
      rw [if_neg (fun z => c ((nI_eq (by omega) (by omega)).mp z)), if_pos kk, if_pos kl', nI_clamp (n := k) (by omega), nI_clamp (n := l) (by omega), m1]
      obtain ⟨v1, e1, e2⟩ := rd_loop hp hr (show k < 4 by omega) (hX k l (by omega) hl) hR (Or.inl c) (nI l) 9 0 F v _ (by omega) (by omega) hM (fun _ _ => rfl) (fun _ _ => rfl)
      simp only [kl]
      rw [show L_X8_clearColumn_98 (nI l) (nI k) (zJ (X0 k l)) (nI r) (nI p) F (0 : Int32) v = some v1 from e1]
      simp only [kb1, Option.bind_some, nI_1]
      refine ih (k + 1) fu v1 (by omega) (by omega) (Mt_congr e2 (fun a b ha hb => ?_))
      by_cases a1 : a = k
      · subst a1
        simp [rdX, c]
      · unfold rdX
        rw [if_neg (by omega)]
        by_cases a2 : a < k ∧ a ≠ r
        · rw [if_pos a2, if_pos (by omega)]
        · rw [if_neg a2, if_neg (by omega)]
/-- row r is brought to 1 in column l, all others to 0 -/
def ccX (X : Nat → Nat → Int) (p n r l w : Nat) : Nat → Nat → Int := rdX (fun a b => if a = r then (X r b * w) % p else X a b) p r l n
theorem clearColumnR_ok {F : Nat} (hF : 100 ≤ F) {p n r l : Nat} (hp : Pm p) (hn : n ≤ 4) (hr : r < 4) (hl : l < 9) {X : Nat → Nat → Int} (hX : ∀ a c, a < 4 → c < 9 → rp p (X a c)) {v : Nat → Nat → Int64} (hM : Mt 9 v X) (h0 : X r l ≠ 0) :
    ∃ w v', f_X8_clearColumn F (nI n) (nI r) (nI p) v (nI l) = some v' ∧ Mt 9 v' (ccX X p n r l w) ∧ 0 < w ∧ w < p ∧ (p : Int) ∣ X r l * w - 1 ∧ ∀ a c, a < 4 → c < 9 → rp p (ccX X p n r l w a c) := by
  have hp1 := hp.1
  have kr : kin (nI r) 4 := kin_nI (by decide) hr
  have kl' : kin (nI l) 9 := kin_nI (by decide) hl
  have hx := hX r l hr hl
  obtain ⟨x, hxe⟩ : ∃ x : Nat, X r l = (x : Int) := ⟨(X r l).toNat, by have := hx.1; omega⟩
  obtain ⟨w, e1, w0, w1, w2⟩ := oneOver_ok hF hp (x := x) (by omega) (by have := hx.2; omega)
  obtain ⟨v1, e2, e3⟩ := sc_loop hp hr w1 (fun c hc => hX r c hr hc) (nI l) 9 0 F v X (by omega) (by omega) hM (fun _ _ => rfl)
  have hX1 : ∀ a c, a < 4 → c < 9 → rp p ((fun a b => if a = r then (X r b * w) % p else X a b) a c) := fun a c ha hc => by
    by_cases e : a = r
    · simp only [if_pos e]; exact rp_mod (by omega) _
    · simp only [if_neg e]; exact hX a c ha hc
  obtain ⟨v2, e4, e5⟩ := rc_loop hF hp hn hr hl hX1 n 0 F v1 (by omega) (by omega) (Mt_congr e3 (fun a b ha hb => by simp [rdX]))
  refine ⟨w, v2, ?_, e5, w0, w1, ?_, rd_rp (by omega) hX1⟩
  · unfold f_X8_clearColumn
    rw [if_pos kr, if_pos kl', nI_clamp (n := r) (by omega), nI_clamp (n := l) (by omega), hM r l hr hl, hxe, e1]
    simp only [kb1, Option.bind_some]
    rw [show L_X8_clearColumn_18 (nI l) (nI w) (nI r) (nI p) F (0 : Int32) v = some v1 from e2]
    simp only [Option.bind_some]
    rw [show L_X8_clearColumn_65 F (nI l) (nI n) (nI r) (nI p) F (0 : Int32) v1 = some v2 from e4]
    rfl
  · rw [hxe]
    have := Nat.div_add_mod (x * w) p
    rw [w2] at this
    refine ⟨((x * w / p : Nat) : Int), ?_⟩
    have e : ((x * w : Nat) : Int) = ((p * (x * w / p) + 1 : Nat) : Int) := by rw [this]
    rw [Int.natCast_mul, Int.natCast_add, Int.natCast_mul] at e
    omega
