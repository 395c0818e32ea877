/-! ===== the reference's prime, cells, determinants of parts ===== -/
theorem mono_fisPrime {F k : Nat} {x r : Int32} (h : f_X12_isPrime F x = some r) : f_X12_isPrime (F + k) x = some r := by
  unfold f_X12_isPrime at h ⊢
  obtain ⟨y, h1, h⟩ := kb1_e h
  rw [mono_isPrime _ _ _ _ _ _ h1]
  exact h
theorem mono_p17 (F k : Nat) (x2 : Int32) : ∀ (fu : Nat) (x1 r : Int32), L_X12_p_17 F x2 fu x1 = some r → L_X12_p_17 (F + k) x2 (fu + k) x1 = some r := by
  intro fu
  induction fu with
  | zero => intro x1 r h; cases h
  | succ fu ih =>
    intro x1 r h
    rw [show fu + 1 + k = (fu + k) + 1 by omega]
    rw [L_X12_p_17] at h ⊢
    obtain ⟨r4, h1, h⟩ := kb1_e h
    rw [mono_fisPrime h1]
    show (if r4 = 0 then _ else _) = _
    by_cases c : r4 = 0
    · rw [if_pos c] at h ⊢; exact ih _ _ h
    · rw [if_neg c] at h ⊢; exact h
theorem mono_p4 (F k : Nat) (w : Nat → Int32) : ∀ (fu : Nat) (x1 x2 r : Int32), L_X12_p_4 F w fu x1 x2 = some r → L_X12_p_4 (F + k) w (fu + k) x1 x2 = some r := by
  intro fu
  induction fu with
  | zero => intro x1 x2 r h; cases h
  | succ fu ih =>
    intro x1 x2 r h
    rw [show fu + 1 + k = (fu + k) + 1 by omega]
    rw [L_X12_p_4] at h ⊢
    by_cases c : w (1 : Int32).toNatClampNeg < x2
    · rw [if_pos c] at h ⊢; exact h
    · rw [if_neg c] at h ⊢
      have h := kl_e h _ rfl
      obtain ⟨y8, h1, h⟩ := kb1_e h
      show kb1 (L_X12_p_17 (F + k) x2 (F + k) (x1 + 1)) _ = _
      rw [mono_p17 F k x2 F _ _ h1]
      exact ih _ _ _ h
theorem congr_p4 (F : Nat) (w w' : Nat → Int32) (hw : w 1 = w' 1) : ∀ (fu : Nat) (x1 x2 : Int32), L_X12_p_4 F w fu x1 x2 = L_X12_p_4 F w' fu x1 x2 := by
  intro fu
  induction fu with
  | zero => intros; rfl
  | succ fu ih =>
    intro x1 x2
    rw [L_X12_p_4, L_X12_p_4, show w (1 : Int32).toNatClampNeg = w' (1 : Int32).toNatClampNeg from hw]
    simp only [kl, ih]
set_option maxRecDepth 100000 in
theorem p_fin : ∀ k : Fin 25, L_X12_p_4 100 (fun _ => nI k.val) 100 1 0 = some (kPr k.val) := by decide +kernel
theorem p_ok {F : Nat} (hF : 100 ≤ F) {w : Nat → Int32} {pn : Nat} (h1 : w 1 = nI pn) (hp : pn < 25) : f_X12_p F w = some (kPr pn) := by
  unfold f_X12_p
  have h := mono_p4 100 (F - 100) _ 100 1 0 _ (p_fin ⟨pn, hp⟩)
  rw [show 100 + (F - 100) = F by omega, congr_p4 F _ w (by show nI pn = w 1; rw [h1])] at h
  rw [h]
  rfl
/-- determinants of parts -/
def D2 (A : Nat → Nat → Int) (r s c d : Nat) : Int := A r c * A s d - A r d * A s c
def D3 (A : Nat → Nat → Int) (r s t c d e : Nat) : Int := A r c * D2 A s t d e - A r d * D2 A s t c e + A r e * D2 A s t c d
def D4 (A : Nat → Nat → Int) (r s t u c d e f : Nat) : Int := A r c * D3 A s t u d e f - A r d * D3 A s t u c e f + A r e * D3 A s t u c d f - A r f * D3 A s t u c d e
/-- the reference's numbers: the table and the side (column 4) in its row of words -/
def Wc (w : Nat → Int32) (A : Nat → Nat → Int) : Prop := (∀ i j, i < 4 → j < 5 → w (2 + 5 * i + j) = zI (A i j)) ∧ ∀ i j, i < 4 → j < 5 → -99 ≤ A i j ∧ A i j ≤ 99
theorem cell_ok {w : Nat → Int32} {A : Nat → Nat → Int} (h : Wc w A) {i j : Nat} (hi : i < 4) (hj : j < 5) : f_X12_cell w (nI i) (nI j) = some (zJ (A i j)) := by
  unfold f_X12_cell
  have e : ((2 : Int32) + (5 : Int32) * nI i) + nI j = nI (2 + 5 * i + j) := by
    rw [show (2 : Int32) = nI 2 from rfl, show (5 : Int32) = nI 5 from rfl, pk_mul, nI_add, nI_add]
  rw [e, if_pos (kin_nI (by decide) (by omega)), nI_clamp (by omega), h.1 i j hi hj, zI_J]
  have := h.2 i j hi hj
  exact ⟨by omega, by omega⟩
theorem e_ok {w : Nat → Int32} {A : Nat → Nat → Int} (h : Wc w A) {rs cs : Nat → Int32} {a x r c : Nat} (ha : a < 4) (hx : x < 4) (hr : rs a = nI r) (hc : cs x = nI c) (hr4 : r < 4) (hc5 : c < 5) : f_X12_e w rs cs (nI a) (nI x) = some (zJ (A r c)) := by
  unfold f_X12_e
  rw [if_pos (kin_nI (by decide) ha), if_pos (kin_nI (by decide) hx), nI_clamp (by omega), nI_clamp (by omega), hr, hc, cell_ok h hr4 hc5]
  rfl
/-- rows and columns as they are picked, m of them -/
def Pk (rs : Nat → Int32) (R : Nat → Nat) (m b : Nat) : Prop := ∀ k, k < m → rs k = nI (R k) ∧ R k < b
theorem two_ok {w : Nat → Int32} {A : Nat → Nat → Int} (h : Wc w A) {rs cs : Nat → Int32} {R C : Nat → Nat} {m : Nat} (hm : m ≤ 4) (hR : Pk rs R m 4) (hC : Pk cs C m 5) {a b x y : Nat} (ha : a < m) (hb : b < m) (hx : x < m) (hy : y < m) : f_X12_two w rs cs (nI a) (nI b) (nI x) (nI y) = some (zJ (D2 A (R a) (R b) (C x) (C y))) := by
  unfold f_X12_two
  rw [e_ok h (by omega) (by omega) (hR a ha).1 (hC x hx).1 (hR a ha).2 (hC x hx).2, e_ok h (by omega) (by omega) (hR b hb).1 (hC y hy).1 (hR b hb).2 (hC y hy).2, e_ok h (by omega) (by omega) (hR a ha).1 (hC y hy).1 (hR a ha).2 (hC y hy).2, e_ok h (by omega) (by omega) (hR b hb).1 (hC x hx).1 (hR b hb).2 (hC x hx).2]
  simp only [kb1, Option.bind_some, zJ_mul, zJ_sub, D2]
theorem three_ok {w : Nat → Int32} {A : Nat → Nat → Int} (h : Wc w A) {rs cs : Nat → Int32} {R C : Nat → Nat} {m : Nat} (hm : m ≤ 4) (hR : Pk rs R m 4) (hC : Pk cs C m 5) {a x y z : Nat} (ha : a + 2 < m) (hx : x < m) (hy : y < m) (hz : z < m) : f_X12_three w rs cs (nI a) (nI x) (nI y) (nI z) = some (zJ (D3 A (R a) (R (a + 1)) (R (a + 2)) (C x) (C y) (C z))) := by
  unfold f_X12_three
  have e1 : nI a + (1 : Int32) = nI (a + 1) := nI_1 a
  have e2 : nI a + (2 : Int32) = nI (a + 2) := by rw [show (2 : Int32) = nI 2 from rfl, nI_add]
  rw [e1, e2, e_ok h (by omega) (by omega) (hR a (by omega)).1 (hC x hx).1 (hR a (by omega)).2 (hC x hx).2, e_ok h (by omega) (by omega) (hR a (by omega)).1 (hC y hy).1 (hR a (by omega)).2 (hC y hy).2, e_ok h (by omega) (by omega) (hR a (by omega)).1 (hC z hz).1 (hR a (by omega)).2 (hC z hz).2,
    two_ok h hm hR hC (by omega) (by omega) hy hz, two_ok h hm hR hC (by omega) (by omega) hx hz, two_ok h hm hR hC (by omega) (by omega) hx hy]
  simp only [kb1, Option.bind_some, zJ_mul, zJ_sub, zJ_add, D3]
/-- the determinant of m rows and columns -/
def Dm (A : Nat → Nat → Int) (R C : Nat → Nat) : Nat → Int
  | 0 => 1
  | 1 => A (R 0) (C 0)
  | 2 => D2 A (R 0) (R 1) (C 0) (C 1)
  | 3 => D3 A (R 0) (R 1) (R 2) (C 0) (C 1) (C 2)
  | _ => D4 A (R 0) (R 1) (R 2) (R 3) (C 0) (C 1) (C 2) (C 3)
theorem det_ok {w : Nat → Int32} {A : Nat → Nat → Int} (h : Wc w A) {rs cs : Nat → Int32} {R C : Nat → Nat} {m : Nat} (hm : m ≤ 4) (hR : Pk rs R m 4) (hC : Pk cs C m 5) : f_X12_det w rs cs (nI m) = some (zJ (Dm A R C m)) := by
  unfold f_X12_det
  have k0 : (0 : Int32) = nI 0 := rfl
  have k1 : (1 : Int32) = nI 1 := rfl
  have k2 : (2 : Int32) = nI 2 := rfl
  have k3 : (3 : Int32) = nI 3 := rfl
  match m, hm with
  | 0, _ => rfl
  | 1, _ =>
    rw [if_neg (by decide), if_pos (by decide), k0, e_ok h (by omega) (by omega) (hR 0 (by omega)).1 (hC 0 (by omega)).1 (hR 0 (by omega)).2 (hC 0 (by omega)).2]
    rfl
  | 2, _ =>
    rw [if_neg (by decide), if_neg (by decide), if_pos (by decide), k0, k1, two_ok h (m := 2) (by omega) hR hC (by omega) (by omega) (by omega) (by omega)]
    rfl
  | 3, _ =>
    rw [if_neg (by decide), if_neg (by decide), if_neg (by decide), if_pos (by decide), k0, k1, k2, three_ok h (m := 3) (by omega) hR hC (by omega) (by omega) (by omega) (by omega)]
    rfl
  | 4, _ =>
    rw [if_neg (by decide), if_neg (by decide), if_neg (by decide), if_neg (by decide), k0, k1, k2, k3, e_ok h (by omega) (by omega) (hR 0 (by omega)).1 (hC 0 (by omega)).1 (hR 0 (by omega)).2 (hC 0 (by omega)).2, e_ok h (by omega) (by omega) (hR 0 (by omega)).1 (hC 1 (by omega)).1 (hR 0 (by omega)).2 (hC 1 (by omega)).2, e_ok h (by omega) (by omega) (hR 0 (by omega)).1 (hC 2 (by omega)).1 (hR 0 (by omega)).2 (hC 2 (by omega)).2, e_ok h (by omega) (by omega) (hR 0 (by omega)).1 (hC 3 (by omega)).1 (hR 0 (by omega)).2 (hC 3 (by omega)).2,
      three_ok h (m := 4) (by omega) hR hC (a := 1) (by omega) (by omega) (by omega) (by omega), three_ok h (m := 4) (by omega) hR hC (a := 1) (by omega) (by omega) (by omega) (by omega), three_ok h (m := 4) (by omega) hR hC (a := 1) (by omega) (by omega) (by omega) (by omega), three_ok h (m := 4) (by omega) hR hC (a := 1) (by omega) (by omega) (by omega) (by omega)]
    simp only [kb1, Option.bind_some, zJ_mul, zJ_sub, zJ_add, Dm, D4]
