/-! ===== the class clears rows exactly: what its loops do to the numbers ===== -/
def Mt (wd : Nat) (v : Nat → Nat → Int64) (X : Nat → Nat → Int) : Prop := ∀ i j, i < 4 → j < wd → v i j = zJ (X i j)
theorem Mt_set {wd : Nat} {v : Nat → Nat → Int64} {X : Nat → Nat → Int} (h : Mt wd v X) (n j : Nat) (z : Int) : Mt wd (ku v n (vp_updL (v n) j (zJ z))) (fun a c => if a = n ∧ c = j then z else X a c) := by
  intro a c ha hc
  unfold ku vp_updL
  by_cases e1 : a = n
  · subst e1
    by_cases e2 : c = j
    · subst e2; simp
    · simp [e2, h a c ha hc]
  · simp [e1, h a c ha hc]
theorem Mt_congr {wd : Nat} {v : Nat → Nat → Int64} {X Y : Nat → Nat → Int} (h : Mt wd v X) (e : ∀ i j, i < 4 → j < wd → X i j = Y i j) : Mt wd v Y := fun i j hi hj => by rw [h i j hi hj, e i j hi hj]
theorem cr_loop {i r : Nat} (hi : i < 4) (hr : r < 4) (hir : i ≠ r) {pv fc s : Int} {X0 : Nat → Nat → Int} (hb : ∀ c, c < 5 → sm (pv * X0 i c - fc * X0 r c)) (hs : sm s) :
    ∀ (d c fu : Nat) (v : Nat → Nat → Int64) (X : Nat → Nat → Int), c + d = 5 → d < fu → Mt 5 v X → (∀ b, c ≤ b → X i b = X0 i b) → (∀ b, X r b = X0 r b) →
      ∃ v', L_X1_clearRow_25 (nI i) (zJ pv) (zJ fc) (nI r) (zJ s) fu (nI c) v = some v' ∧ Mt 5 v' (fun a b => if a = i ∧ c ≤ b then (pv * X0 i b - fc * X0 r b).tdiv s else X a b) := by
  intro d
  induction d with
  | zero =>
    intro c fu v X hc hfu hM h1 h2
    obtain ⟨fu, rfl⟩ : ∃ g, fu = g + 1 := ⟨fu - 1, by omega⟩
    refine ⟨v, ?_, Mt_congr hM (fun a b ha hb => ?_)⟩
    · rw [L_X1_clearRow_25, if_pos (show (5 : Int32) ≤ nI c from nI_le (a := 5) (by omega) (by omega))]
    · rw [if_neg (by omega)]
  | succ d ih =>
    intro c fu v X hc hfu hM h1 h2
    obtain ⟨fu, rfl⟩ : ∃ g, fu = g + 1 := ⟨fu - 1, by omega⟩
    have ki : kin (nI i) 4 := kin_nI (by decide) hi
    have kr : kin (nI r) 4 := kin_nI (by decide) hr
    have kc : kin (nI c) 5 := kin_nI (by decide) (by omega)
    have q : f_X11_quotient (zJ pv * v (nI i).toNatClampNeg (nI c).toNatClampNeg - zJ fc * v (nI r).toNatClampNeg (nI c).toNatClampNeg) (zJ s) = some (zJ ((pv * X0 i c - fc * X0 r c).tdiv s)) := by
      rw [nI_clamp (n := i) (by omega), nI_clamp (n := r) (by omega), nI_clamp (n := c) (by omega), hM i c hi (by omega), hM r c hr (by omega), h1 c (Nat.le_refl c), h2 c, zJ_mul, zJ_mul, zJ_sub, quotient_ok (hb c (by omega)) hs]
    obtain ⟨v', e1, e2⟩ := ih (c + 1) fu (ku v i (vp_updL (v i) c (zJ ((pv * X0 i c - fc * X0 r c).tdiv s)))) _ (by omega) (by omega) (Mt_set hM i c _) (fun b hb2 => by rw [if_neg (by omega)]; exact h1 b (by omega)) (fun b => by rw [if_neg (by omega)]; exact h2 b)
    refine ⟨v', ?_, Mt_congr e2 (fun a b ha hb2 => ?_)⟩
    · rw [L_X1_clearRow_25, if_neg (show ¬ (5 : Int32) ≤ nI c from nI_ge (b := 5) (by omega) (by omega)), if_pos ki, if_pos ki, if_pos kc, if_pos kr, if_pos kc, q]
      simp only [kb1, Option.bind_some]
      rw [if_pos kc]
      simp only [kl, nI_clamp (n := i) (show i < 2 ^ 31 by omega), nI_clamp (n := c) (show c < 2 ^ 31 by omega), nI_1]
      exact e1
    · by_cases a1 : a = i
      · by_cases b1 : c + 1 ≤ b
        · rw [if_pos ⟨a1, b1⟩, if_pos ⟨a1, by omega⟩]
        · by_cases b2 : b = c
          · subst a1 b2; rw [if_neg (by omega), if_pos (by simp), if_pos (by simp)]
          · rw [if_neg (by omega), if_neg (by omega), if_neg (by omega)]
      · rw [if_neg (by omega), if_neg (by omega), if_neg (by omega)]
theorem clearRow_ok {F : Nat} (hF : 100 ≤ F) {i r l : Nat} (hi : i < 4) (hr : r < 4) (hir : i ≠ r) (hl : l < 5) {v : Nat → Nat → Int64} {X : Nat → Nat → Int} {s : Int} (hM : Mt 5 v X) (hb : ∀ c, c < 5 → sm (X r l * X i c - X i l * X r c)) (hs : sm s) :
    ∃ v', f_X1_clearRow F (nI r) (zJ s) v (nI i) (nI l) = some v' ∧ Mt 5 v' (fun a b => if a = i then (X r l * X i b - X i l * X r b).tdiv s else X a b) := by
  obtain ⟨v', e1, e2⟩ := cr_loop hi hr hir hb hs 5 0 F v X (by omega) (by omega) hM (fun _ _ => rfl) (fun _ => rfl)
  refine ⟨v', ?_, Mt_congr e2 (fun a b ha hb2 => by simp)⟩
  have ki : kin (nI i) 4 := kin_nI (by decide) hi
  have kr : kin (nI r) 4 := kin_nI (by decide) hr
  have kc : kin (nI l) 5 := kin_nI (by decide) hl
  unfold f_X1_clearRow
  rw [if_pos kr, if_pos kc]
  simp only [kl]
  rw [if_pos ki, if_pos kc, nI_clamp (n := i) (by omega), nI_clamp (n := r) (by omega), nI_clamp (n := l) (by omega), hM i l hi hl, hM r l hr hl, show (0 : Int32) = nI 0 from rfl, e1]
  rfl
theorem cc_loop {F : Nat} (hF : 100 ≤ F) {n r l : Nat} (hn : n ≤ 4) (hr : r < 4) (hl : l < 5) {s : Int} (hs : sm s) {X0 : Nat → Nat → Int} (hb : ∀ i c, i < n → c < 5 → sm (X0 r l * X0 i c - X0 i l * X0 r c)) :
    ∀ (d k fu : Nat) (v : Nat → Nat → Int64), k + d = n → d < fu → Mt 5 v (fun a b => if a < k ∧ a ≠ r then (X0 r l * X0 a b - X0 a l * X0 r b).tdiv s else X0 a b) →
      ∃ v', L_X1_clearColumn_2 F (nI l) (nI n) (nI r) (zJ s) fu (nI k) v = some v' ∧ Mt 5 v' (fun a b => if a < n ∧ a ≠ r then (X0 r l * X0 a b - X0 a l * X0 r b).tdiv s else X0 a b) := by
  intro d
  induction d with
  | zero =>
    intro k fu v hk hfu hM
    obtain ⟨fu, rfl⟩ : ∃ g, fu = g + 1 := ⟨fu - 1, by omega⟩
    have : k = n := by omega
    subst this
    refine ⟨v, ?_, hM⟩
    rw [L_X1_clearColumn_2, if_pos (nI_le (Nat.le_refl _) (by omega))]
  | succ d ih =>
    intro k fu v hk hfu hM
    obtain ⟨fu, rfl⟩ : ∃ g, fu = g + 1 := ⟨fu - 1, by omega⟩
    rw [L_X1_clearColumn_2, if_neg (nI_ge (by omega) (by omega))]
    by_cases c : k = r
    · subst c
      rw [if_pos rfl]
      simp only [kl, nI_1]
      refine ih (k + 1) fu v (by omega) (by omega) (Mt_congr hM (fun a b ha hb2 => ?_))
      by_cases a1 : a < k ∧ a ≠ k
      · rw [if_pos a1, if_pos (by omega)]
      · rw [if_neg a1, if_neg (by omega)]
    · rw [if_neg (fun z => c ((nI_eq (by omega) (by omega)).mp z))]
      obtain ⟨v1, e1, e2⟩ := clearRow_ok (i := k) (r := r) (l := l) hF (by omega) hr c hl hM (fun b hb2 => by
        simp only [show ¬ (r < k ∧ r ≠ r) by omega, show ¬ (k < k ∧ k ≠ r) by omega, if_false]
        exact hb k b (by omega) hb2) hs
      rw [e1]
      simp only [kb1, Option.bind_some, kl, nI_1]
      refine ih (k + 1) fu v1 (by omega) (by omega) (Mt_congr e2 (fun a b ha hb2 => ?_))
      by_cases a1 : a = k
      · subst a1
        rw [if_pos rfl]
        simp only [show ¬ (r < a ∧ r ≠ r) by omega, show ¬ (a < a ∧ a ≠ r) by omega, if_false]
        rw [if_pos (by omega)]
      · rw [if_neg a1]
        by_cases a2 : a < k ∧ a ≠ r
        · rw [if_pos a2, if_pos (by omega)]
        · rw [if_neg a2, if_neg (by omega)]
theorem clearColumn_ok {F : Nat} (hF : 100 ≤ F) {n r l : Nat} (hn : n ≤ 4) (hr : r < 4) (hl : l < 5) {s : Int} (hs : sm s) {v : Nat → Nat → Int64} {X : Nat → Nat → Int} (hM : Mt 5 v X) (hb : ∀ i c, i < n → c < 5 → sm (X r l * X i c - X i l * X r c)) (ld : Nat → Int32) :
    ∃ v', f_X1_clearColumn F (nI n) (nI r) (zJ s) v ld (nI l) = some (zJ (X r l), v', upd ld r (nI l)) ∧ Mt 5 v' (fun a b => if a < n ∧ a ≠ r then (X r l * X a b - X a l * X r b).tdiv s else X a b) := by
  obtain ⟨v', e1, e2⟩ := cc_loop hF hn hr hl hs hb n 0 F v (by omega) (by omega) (Mt_congr hM (fun a b ha hb2 => by rw [if_neg (by omega)]))
  refine ⟨v', ?_, e2⟩
  have kr : kin (nI r) 4 := kin_nI (by decide) hr
  have kc : kin (nI l) 5 := kin_nI (by decide) hl
  unfold f_X1_clearColumn
  rw [show (0 : Int32) = nI 0 from rfl, e1]
  simp only [kb1, Option.bind_some]
  rw [if_pos kr, if_pos kc]
  simp only [kl]
  rw [if_pos kr, nI_clamp (n := r) (by omega), nI_clamp (n := l) (by omega)]
  have e3 := e2 r l hr hl
  simp only [show ¬ (r < n ∧ r ≠ r) by omega, if_false] at e3
  rw [e3]
