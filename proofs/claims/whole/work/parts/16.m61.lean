/-! ===== deeds: swap, mix, turn ===== -/
/-- two rows are asked -/
theorem two_case {w : Nat → Int32} {n : Nat} {A : Nat → Nat → Int} (hW : Wn w n A) (x1 x2 : Int32) : (∃ i k, i < n ∧ k < n ∧ i ≠ k ∧ x1 = nI i ∧ x2 = nI k ∧ f_X11_areNotTwoRows (nI n) x1 x2 = some 0 ∧ f_X12_isRow w x1 = some 1 ∧ f_X12_isRow w x2 = some 1 ∧ ¬ x1 = x2) ∨
    (f_X11_areNotTwoRows (nI n) x1 x2 = some 1 ∧ (f_X12_isRow w x1 = some 0 ∨ (f_X12_isRow w x1 = some 1 ∧ (f_X12_isRow w x2 = some 0 ∨ (f_X12_isRow w x2 = some 1 ∧ x1 = x2))))) := by
  have hn := hW.2.2.1
  unfold f_X11_areNotTwoRows
  rcases row_case hW x1 with ⟨i, hi, rfl, e1, e2⟩ | ⟨e1, e2⟩
  · rcases row_case hW x2 with ⟨k, hk, rfl, f1, f2⟩ | ⟨f1, f2⟩
    · by_cases c : i = k
      · subst c
        exact .inr ⟨kb1_of e1 (by rw [if_neg (by decide)]; exact kb1_of f1 (by rw [if_neg (by decide), if_pos rfl])), .inr ⟨e2, .inr ⟨f2, rfl⟩⟩⟩
      · have c' : ¬ nI i = nI k := fun z => c ((nI_eq (by omega) (by omega)).mp z)
        exact .inl ⟨i, k, hi, hk, c, rfl, rfl, kb1_of e1 (by rw [if_neg (by decide)]; exact kb1_of f1 (by rw [if_neg (by decide), if_neg c'])), e2, f2, c'⟩
    · exact .inr ⟨kb1_of e1 (by rw [if_neg (by decide)]; exact kb1_of f1 (if_pos rfl)), .inr ⟨e2, .inl f2⟩⟩
  · exact .inr ⟨kb1_of e1 (if_pos rfl), .inl e2⟩
theorem sw_T {A : Nat → Nat → Int} {n i k : Nat} (hi : i < n) (hk : k < n) (hn : n ≤ 4) (hT : Bt A) (hZ : Zr A n) : Bt (swX A i k) ∧ Zr (swX A i k) n := by
  refine ⟨fun a b ha hb => ?_, fun a b ha hb hb4 => ?_⟩
  · unfold swX
    by_cases c1 : a = i
    · rw [if_pos c1]; exact hT k b (by omega) hb
    · rw [if_neg c1]
      by_cases c2 : a = k
      · rw [if_pos c2]; exact hT i b (by omega) hb
      · rw [if_neg c2]; exact hT a b ha hb
  · unfold swX
    by_cases c1 : a = i
    · rw [if_pos c1]; exact hZ k b hk hb hb4
    · rw [if_neg c1]
      by_cases c2 : a = k
      · rw [if_pos c2]; exact hZ i b hi hb hb4
      · rw [if_neg c2]; exact hZ a b ha hb hb4
/-- beyond the side the table of ones again -/
def exT (B : Nat → Nat → Int) : Nat → Nat → Int := fun a b => if 5 ≤ b then (if b = 5 + a then 1 else 0) else B a b
theorem ex_T {B : Nat → Nat → Int} {n : Nat} (hT : Bt B) (hZ : Zr B n) : Bt (exT B) ∧ Zr (exT B) n ∧ Ext (exT B) ∧ ∀ i j, i < 4 → j < 5 → B i j = exT B i j := by
  have e : ∀ i j, j < 5 → exT B i j = B i j := fun i j hj => if_neg (by omega)
  exact ⟨fun i j hi hj => by rw [e i j (by omega)]; exact hT i j hi hj, fun i j hi hj hj4 => by rw [e i j (by omega)]; exact hZ i j hi hj hj4, fun i c hi hc hc9 => if_pos hc, fun i j hi hj => (e i j hj).symm⟩
theorem swap_ag {F : Nat} (hF : 100 ≤ F) {vn vp : Int32} {nums w : Nat → Int32} {n pn : Nat} {A : Nat → Nat → Int} (h : NowR vn vp nums w n pn A) {hc hn : Int32} {store : Nat → Int32} {kn : Int32} (hH : HisR hc hn store kn w) (x1 x2 : Int32) :
    ∃ r nums' hc' hn' store' kn' w', f_X11_swap F vn vp nums hc hn store x1 x2 = some (r, nums', hc', hn', store') ∧ f_X12_swap F kn w x1 x2 = some (r, kn', w') ∧ Dd vn vp nums' hc' hn' store' kn' w' w := by
  have hW := h.2.2.2.1
  obtain rfl : vn = nI n := h.1
  have hn4 := hW.1.2.2.1
  unfold f_X11_swap f_X12_swap
  rcases two_case hW.1 x1 x2 with ⟨i, k, hi, hk, hik, rfl, rfl, e1, e2, e3, e4⟩ | ⟨e1, e2⟩
  · obtain ⟨hc', hn', store', kn', w1, r1, r2, r3, r4, r5⟩ := remember_ag hF h hH
    have h1 := now_congr h r4
    obtain ⟨nums', a1, a2⟩ := exC_loop (A := A) (show i < 4 by omega) (show k < 4 by omega) hik 5 0 F nums (by omega) (by omega) (Nc_congr h1.2.2.1 (fun a b ha hb => by rw [if_neg (by omega)]))
    obtain ⟨w', b1, b2, b3⟩ := exM_loop (A := A) (show i < 4 by omega) (show k < 4 by omega) hik 5 0 F w1 (by omega) (by omega) (Wc_congr h1.2.2.2.1.1.2.2.2 (fun a b ha hb => by rw [if_neg (by omega)]))
    obtain ⟨s1, s2⟩ := sw_T hi hk hn4 h1.2.2.2.2.1 h1.2.2.2.2.2.1
    obtain ⟨t1, t2, t3, t4⟩ := ex_T s1 s2
    refine ⟨1, nums', hc', hn', store', kn', w', ?_, ?_, ⟨n, pn, _, now_new h1 (Nc_congr a2 t4) (Wc_congr b2 t4) (b3 0 (by omega)) (b3 1 (by omega)) t1 t2 t3⟩, HisR_congr r3 (fun z a b => b3 z (by omega)), fun z hz => by rw [b3 z (by omega)]; exact r5 z hz⟩
    · refine kb1_of e1 ?_
      rw [if_pos rfl]
      refine kb3_of r1 ?_
      refine kb1_of (a := nums') ?_ rfl
      unfold f_X3_exchange
      exact kb1_of (show L_X3_exchange_2 (nI i) (nI k) F (0 : Int32) nums = _ from a1) rfl
    · refine kb1_of e2 ?_
      rw [if_neg (by decide)]
      refine kb1_of e3 ?_
      rw [if_neg (by decide), if_neg e4]
      refine kb2_of r2 ?_
      exact kb1_of (show L_X12_swap_31 (nI i) (nI k) F (0 : Int32) w1 = _ from b1) rfl
  · refine ⟨-1000000001, nums, hc, hn, store, kn, w, kb1_of e1 (if_neg (by decide)), ?_, Dd_of h hH⟩
    rcases e2 with e2 | ⟨e2, e3 | ⟨e3, e4⟩⟩
    · exact kb1_of e2 (if_pos rfl)
    · exact kb1_of e2 (by rw [if_neg (by decide)]; exact kb1_of e3 (if_pos rfl))
    · exact kb1_of e2 (by rw [if_neg (by decide)]; exact kb1_of e3 (by rw [if_neg (by decide), if_pos e4]))
/-- mixing: a number within its bounds -/
def bnd (c : Nat) : Int := if c = 4 then 99 else 9
abbrev okc (A : Nat → Nat → Int) (i k : Nat) (t : Int) (c : Nat) : Prop := -bnd c ≤ A i c + t * A k c ∧ A i c + t * A k c ≤ bnd c
theorem tA_b {A : Nat → Nat → Int} (hB : Bd A) {t : Int} (ht : -3 ≤ t ∧ t ≤ 3) {i k c : Nat} (hi : i < 4) (hk : k < 4) (hc : c < 5) : -396 ≤ A i c + t * A k c ∧ A i c + t * A k c ≤ 396 := by
  have h1 := hB i c hi hc
  have h2 := hB k c hk hc
  have h3 := ab_mul (x := t) (y := A k c) (a := 3) (b := 99) (by omega) (by omega)
  generalize t * A k c = z at h3 ⊢
  omega
theorem caC_loop {A : Nat → Nat → Int} {nums : Nat → Int32} (hN : Nc nums A) {t : Int} (ht : -3 ≤ t ∧ t ≤ 3) {i k : Nat} (hi : i < 4) (hk : k < 4) : ∀ (d c fu : Nat), c + d = 5 → d < fu → ((∀ z, c ≤ z → z < 5 → okc A i k t z) → L_X3_canAdd_3 (nI i) (nI k) (zI t) nums fu (nI c) = some (.inr ())) ∧ (¬ (∀ z, c ≤ z → z < 5 → okc A i k t z) → L_X3_canAdd_3 (nI i) (nI k) (zI t) nums fu (nI c) = some (.inl ())) := by
  intro d
  induction d with
  | zero =>
    intro c fu hc hfu
    obtain ⟨fu, rfl⟩ : ∃ g, fu = g + 1 := ⟨fu - 1, by omega⟩
    refine ⟨fun _ => ?_, fun z => absurd (fun y a b => by omega) z⟩
    rw [L_X3_canAdd_3, if_pos (show (5 : Int32) ≤ nI c from nI_le (a := 5) (by omega) (by omega))]
  | succ d ih =>
    intro c fu hc hfu
    obtain ⟨fu, rfl⟩ : ∃ g, fu = g + 1 := ⟨fu - 1, by omega⟩
    obtain ⟨i1, i2⟩ := ih (c + 1) fu (by omega) (by omega)
    have hb := tA_b hN.2 ht hi hk (show c < 5 by omega)
    have n1 := number_ok hN hi (show c < 5 by omega)
    have n2 := number_ok hN hk (show c < 5 by omega)
    have main : L_X3_canAdd_3 (nI i) (nI k) (zI t) nums (fu + 1) (nI c) = if okc A i k t c then L_X3_canAdd_3 (nI i) (nI k) (zI t) nums fu (nI (c + 1)) else some (.inl ()) := by
      rw [L_X3_canAdd_3, if_neg (show ¬ (5 : Int32) ≤ nI c from nI_ge (b := 5) (by omega) (by omega))]
      simp only [kj1]
      have hab : ∀ b : Int, 0 ≤ b → b ≤ 99 → (kb1 (f_X3_number nums (nI i) (nI c)) fun r4 => kb1 (f_X3_number nums (nI k) (nI c)) fun r6 => if (if 0 ≤ r4 + zI t * r6 then r4 + zI t * r6 else 0 - (r4 + zI t * r6)) ≤ zI b then kl (nI c + 1) fun t9 => L_X3_canAdd_3 (nI i) (nI k) (zI t) nums fu t9 else some (.inl ())) = if (-b ≤ A i c + t * A k c ∧ A i c + t * A k c ≤ b) then L_X3_canAdd_3 (nI i) (nI k) (zI t) nums fu (nI (c + 1)) else some (.inl ()) := by
        intro b hb0 hb1
        refine kb1_of n1 ?_
        refine kb1_of n2 ?_
        rw [zI_mul, zI_add]
        generalize A i c + t * A k c = z at hb
        have habs : (if (0 : Int32) ≤ zI z then zI z else 0 - zI z) = zI (if 0 ≤ z then z else -z) := by
          by_cases s : 0 ≤ z
          · rw [if_pos s, if_pos (show (0 : Int32) ≤ zI z from (zI_le (a := 0) ⟨by omega, by omega⟩ ⟨by omega, by omega⟩).mpr s)]
          · rw [if_neg s, if_neg (show ¬ (0 : Int32) ≤ zI z from fun y => s ((zI_le (a := 0) ⟨by omega, by omega⟩ ⟨by omega, by omega⟩).mp y)), show (0 : Int32) = zI 0 from rfl, zI_sub]
            congr 1
            omega
        rw [habs]
        by_cases s : -b ≤ z ∧ z ≤ b
        · rw [if_pos s, if_pos ((zI_le ⟨by split <;> omega, by split <;> omega⟩ ⟨by omega, by omega⟩).mpr (by split <;> omega))]
          exact kl_of (nI_1 c) rfl
        · rw [if_neg s, if_neg (fun y => s (by have := (zI_le ⟨by split <;> omega, by split <;> omega⟩ ⟨by omega, by omega⟩).mp y; revert this; split <;> omega))]
      by_cases c4 : c = 4
      · have e4 : nI c = (4 : Int32) := by rw [c4]; rfl
        rw [if_pos e4]
        have := hab 99 (by omega) (by omega)
        rw [show zI 99 = (99 : Int32) from rfl] at this
        rw [this]
        unfold okc bnd
        rw [if_pos c4]
      · have e4 : ¬ nI c = (4 : Int32) := fun z => c4 ((nI_eq (b := 4) (by omega) (by omega)).mp z)
        rw [if_neg e4]
        have := hab 9 (by omega) (by omega)
        rw [show zI 9 = (9 : Int32) from rfl] at this
        rw [this]
        unfold okc bnd
        rw [if_neg c4]
    rw [main]
    by_cases o : okc A i k t c
    · rw [if_pos o]
      refine ⟨fun z => i1 (fun y a b => z y (by omega) b), fun z => i2 (fun y => z (fun q a b => ?_))⟩
      by_cases qc : q = c
      · subst qc; exact o
      · exact y q (by omega) b
    · rw [if_neg o]
      exact ⟨fun z => absurd (z c (Nat.le_refl _) (by omega)) o, fun _ => rfl⟩
theorem caM_loop {A : Nat → Nat → Int} {w : Nat → Int32} (hW : Wc w A) {t : Int} (ht : -3 ≤ t ∧ t ≤ 3) {i k : Nat} (hi : i < 4) (hk : k < 4) : ∀ (d c fu : Nat), c + d = 5 → d < fu → ((∀ z, c ≤ z → z < 5 → okc A i k t z) → L_X12_mix_45 (nI i) (nI k) (zI t) w fu (nI c) = some (.inr ())) ∧ (¬ (∀ z, c ≤ z → z < 5 → okc A i k t z) → L_X12_mix_45 (nI i) (nI k) (zI t) w fu (nI c) = some (.inl ())) := by
  intro d
  induction d with
  | zero =>
    intro c fu hc hfu
    obtain ⟨fu, rfl⟩ : ∃ g, fu = g + 1 := ⟨fu - 1, by omega⟩
    refine ⟨fun _ => ?_, fun z => absurd (fun y a b => by omega) z⟩
    rw [L_X12_mix_45, if_pos (show (5 : Int32) ≤ nI c from nI_le (a := 5) (by omega) (by omega))]
  | succ d ih =>
    intro c fu hc hfu
    obtain ⟨fu, rfl⟩ : ∃ g, fu = g + 1 := ⟨fu - 1, by omega⟩
    obtain ⟨i1, i2⟩ := ih (c + 1) fu (by omega) (by omega)
    have hb := tA_b hW.2 ht hi hk (show c < 5 by omega)
    have n1 := cell_ok hW hi (show c < 5 by omega)
    have n2 := cell_ok hW hk (show c < 5 by omega)
    have main : L_X12_mix_45 (nI i) (nI k) (zI t) w (fu + 1) (nI c) = if okc A i k t c then L_X12_mix_45 (nI i) (nI k) (zI t) w fu (nI (c + 1)) else some (.inl ()) := by
      rw [L_X12_mix_45, if_neg (show ¬ (5 : Int32) ≤ nI c from nI_ge (b := 5) (by omega) (by omega))]
      simp only [kj1]
      have hab : ∀ b : Int, 0 ≤ b → b ≤ 99 → (kb1 (f_X12_cell w (nI i) (nI c)) fun r14 => kb1 (f_X12_cell w (nI k) (nI c)) fun r16 => kb1 (f_X12_in (r14 + (zI t).toInt64 * r16) (-zI b).toInt64 (zI b).toInt64) fun r18 => if r18 = 0 then some (.inl ()) else kl (nI c + 1) fun t21 => L_X12_mix_45 (nI i) (nI k) (zI t) w fu t21) = if (-b ≤ A i c + t * A k c ∧ A i c + t * A k c ≤ b) then L_X12_mix_45 (nI i) (nI k) (zI t) w fu (nI (c + 1)) else some (.inl ()) := by
        intro b hb0 hb1
        refine kb1_of n1 ?_
        refine kb1_of n2 ?_
        rw [zI_J ⟨by omega, by omega⟩, zJ_mul, zJ_add, zI_neg, zI_J ⟨by omega, by omega⟩, zI_J ⟨by omega, by omega⟩]
        generalize A i c + t * A k c = z at hb
        refine kb1_of (in_ok ⟨by omega, by omega⟩ ⟨by omega, by omega⟩ ⟨by omega, by omega⟩) ?_
        by_cases s : -b ≤ z ∧ z ≤ b
        · rw [if_pos s, if_pos s, if_neg (by decide)]
          exact kl_of (nI_1 c) rfl
        · rw [if_neg s, if_neg s, if_pos rfl]
      by_cases c4 : c = 4
      · have e4 : nI c = (4 : Int32) := by rw [c4]; rfl
        rw [if_pos e4]
        have := hab 99 (by omega) (by omega)
        rw [show zI 99 = (99 : Int32) from rfl] at this
        rw [this]
        unfold okc bnd
        rw [if_pos c4]
      · have e4 : ¬ nI c = (4 : Int32) := fun z => c4 ((nI_eq (b := 4) (by omega) (by omega)).mp z)
        rw [if_neg e4]
        have := hab 9 (by omega) (by omega)
        rw [show zI 9 = (9 : Int32) from rfl] at this
        rw [this]
        unfold okc bnd
        rw [if_neg c4]
    rw [main]
    by_cases o : okc A i k t c
    · rw [if_pos o]
      refine ⟨fun z => i1 (fun y a b => z y (by omega) b), fun z => i2 (fun y => z (fun q a b => ?_))⟩
      by_cases qc : q = c
      · subst qc; exact o
      · exact y q (by omega) b
    · rw [if_neg o]
      exact ⟨fun z => absurd (z c (Nat.le_refl _) (by omega)) o, fun _ => rfl⟩
def mxX (A : Nat → Nat → Int) (i k : Nat) (t : Int) (c : Nat) : Nat → Nat → Int := fun a b => if a = i ∧ b < c then A i b + t * A k b else A a b
theorem mx_b {A : Nat → Nat → Int} {i k : Nat} {t : Int} (ho : ∀ z, z < 5 → okc A i k t z) {c : Nat} (hc : c < 5) : -99 ≤ A i c + t * A k c ∧ A i c + t * A k c ≤ 99 := by
  have := ho c hc
  unfold okc bnd at this
  by_cases c4 : c = 4
  · rw [if_pos c4] at this; exact this
  · rw [if_neg c4] at this
    generalize A i c + t * A k c = z at this ⊢
    omega
theorem adC_loop {A : Nat → Nat → Int} {t : Int} {i k : Nat} (hi : i < 4) (hk : k < 4) (hik : i ≠ k) (ho : ∀ z, z < 5 → okc A i k t z) : ∀ (d c fu : Nat) (nums : Nat → Int32), c + d = 5 → d < fu → Nc nums (mxX A i k t c) → ∃ nums', L_X3_add_3 (nI i) (nI k) (zI t) fu (nI c) nums = some nums' ∧ Nc nums' (mxX A i k t 5) := by
  intro d
  induction d with
  | zero =>
    intro c fu nums hc hfu h
    obtain ⟨fu, rfl⟩ : ∃ g, fu = g + 1 := ⟨fu - 1, by omega⟩
    refine ⟨nums, ?_, by rw [show (5 : Nat) = c by omega]; exact h⟩
    rw [L_X3_add_3, if_pos (show (5 : Int32) ≤ nI c from nI_le (a := 5) (by omega) (by omega))]
  | succ d ih =>
    intro c fu nums hc hfu h
    obtain ⟨fu, rfl⟩ : ∃ g, fu = g + 1 := ⟨fu - 1, by omega⟩
    have n1 : f_X3_number nums (nI i) (nI c) = some (zI (A i c)) := by
      rw [number_ok h hi (show c < 5 by omega)]; unfold mxX; rw [if_neg (by omega)]
    have n2 : f_X3_number nums (nI k) (nI c) = some (zI (A k c)) := by
      rw [number_ok h hk (show c < 5 by omega)]; unfold mxX; rw [if_neg (by omega)]
    have hb := mx_b ho (show c < 5 by omega)
    obtain ⟨nums', e1, e2⟩ := ih (c + 1) fu (upd nums (5 * i + c) (zI (A i c + t * A k c))) (by omega) (by omega) (Nc_congr (Nc_set h hi (show c < 5 by omega) hb) (fun a b ha hb => by
      show (if a = i ∧ b = c then A i c + t * A k c else mxX A i k t c a b) = mxX A i k t (c + 1) a b
      unfold mxX
      by_cases c1 : a = i ∧ b = c
      · rw [if_pos c1, if_pos (by omega), c1.2]
      · rw [if_neg c1]
        by_cases c2 : a = i ∧ b < c
        · rw [if_pos c2, if_pos (by omega)]
        · rw [if_neg c2, if_neg (by omega)]))
    refine ⟨nums', ?_, e2⟩
    rw [L_X3_add_3, if_neg (show ¬ (5 : Int32) ≤ nI c from nI_ge (b := 5) (by omega) (by omega))]
    refine kb1_of n1 ?_
    refine kb1_of n2 ?_
    rw [zI_mul, zI_add]
    refine kb1_of (setC_ok nums hi (by omega) _) ?_
    exact kl_of (nI_1 c) e1
theorem adM_loop {A : Nat → Nat → Int} {t : Int} (ht : -3 ≤ t ∧ t ≤ 3) {i k : Nat} (hi : i < 4) (hk : k < 4) (hik : i ≠ k) (ho : ∀ z, z < 5 → okc A i k t z) : ∀ (d c fu : Nat) (w : Nat → Int32), c + d = 5 → d < fu → Wc w (mxX A i k t c) → ∃ w', L_X12_mix_114 (nI i) (nI k) (zI t) fu (nI c) w = some w' ∧ Wc w' (mxX A i k t 5) ∧ ∀ z, (z < 2 ∨ 22 ≤ z) → w' z = w z := by
  intro d
  induction d with
  | zero =>
    intro c fu w hc hfu h
    obtain ⟨fu, rfl⟩ : ∃ g, fu = g + 1 := ⟨fu - 1, by omega⟩
    refine ⟨w, ?_, by rw [show (5 : Nat) = c by omega]; exact h, fun _ _ => rfl⟩
    rw [L_X12_mix_114, if_pos (show (5 : Int32) ≤ nI c from nI_le (a := 5) (by omega) (by omega))]
  | succ d ih =>
    intro c fu w hc hfu h
    obtain ⟨fu, rfl⟩ : ∃ g, fu = g + 1 := ⟨fu - 1, by omega⟩
    have n1 : f_X12_cell w (nI i) (nI c) = some (zJ (A i c)) := by
      rw [cell_ok h hi (show c < 5 by omega)]; unfold mxX; rw [if_neg (by omega)]
    have n2 : f_X12_cell w (nI k) (nI c) = some (zJ (A k c)) := by
      rw [cell_ok h hk (show c < 5 by omega)]; unfold mxX; rw [if_neg (by omega)]
    have hb := mx_b ho (show c < 5 by omega)
    obtain ⟨w', e1, e2, e3⟩ := ih (c + 1) fu (upd w (2 + 5 * i + c) (zI (A i c + t * A k c))) (by omega) (by omega) (Wc_congr (Wc_set h hi (show c < 5 by omega) hb) (fun a b ha hb => by
      show (if a = i ∧ b = c then A i c + t * A k c else mxX A i k t c a b) = mxX A i k t (c + 1) a b
      unfold mxX
      by_cases c1 : a = i ∧ b = c
      · rw [if_pos c1, if_pos (by omega), c1.2]
      · rw [if_neg c1]
        by_cases c2 : a = i ∧ b < c
        · rw [if_pos c2, if_pos (by omega)]
        · rw [if_neg c2, if_neg (by omega)]))
    refine ⟨w', ?_, e2, fun z hz => by rw [e3 z hz, pk_un (by omega)]⟩
    rw [L_X12_mix_114, if_neg (show ¬ (5 : Int32) ≤ nI c from nI_ge (b := 5) (by omega) (by omega))]
    refine kb1_of n1 ?_
    refine kb1_of n2 ?_
    rw [zI_J ⟨by omega, by omega⟩, zJ_mul, zJ_add, zJ_I]
    refine kb1_of (setM_ok w hi (by omega) _) ?_
    exact kl_of (nI_1 c) e1
theorem mix_ag {F : Nat} (hF : 100 ≤ F) {vn vp : Int32} {nums w : Nat → Int32} {n pn : Nat} {A : Nat → Nat → Int} (h : NowR vn vp nums w n pn A) {hc hn : Int32} {store : Nat → Int32} {kn : Int32} (hH : HisR hc hn store kn w) (x1 x2 x3 : Int32) :
    ∃ r nums' hc' hn' store' kn' w', f_X11_mix F vn vp nums hc hn store x1 x2 x3 = some (r, nums', hc', hn', store') ∧ f_X12_mix F kn w x1 x2 x3 = some (r, kn', w') ∧ Dd vn vp nums' hc' hn' store' kn' w' w := by
  have hW := h.2.2.2.1
  obtain rfl : vn = nI n := h.1
  have hn4 := hW.1.2.2.1
  have hin := inI x3 (lo := -3) (hi := 3) ⟨by decide, by decide⟩ ⟨by decide, by decide⟩
  rw [show zJ (-3) = (-3 : Int64) by decide, show zJ 3 = (3 : Int64) from rfl] at hin
  unfold f_X11_mix f_X12_mix
  rcases two_case hW.1 x1 x2 with ⟨i, k, hi, hk, hik, rfl, rfl, e1, e2, e3, e4⟩ | ⟨e1, e2⟩
  · by_cases c0 : x3 < (-3 : Int32)
    · refine ⟨-1000000002, nums, hc, hn, store, kn, w, kb1_of e1 (by rw [if_pos rfl, if_pos c0]), ?_, Dd_of h hH⟩
      refine kb1_of e2 ?_
      rw [if_neg (by decide)]
      refine kb1_of e3 ?_
      rw [if_neg (by decide), if_neg e4]
      refine kb1_of hin ?_
      rw [if_neg (show ¬ (-3 ≤ x3.toInt ∧ x3.toInt ≤ 3) by rw [Int32.lt_iff_toInt_lt, show (-3 : Int32).toInt = -3 by decide] at c0; omega), if_pos rfl]
    · by_cases c1 : x3 ≤ (3 : Int32)
      · have ht : -3 ≤ x3.toInt ∧ x3.toInt ≤ 3 := by
          rw [Int32.lt_iff_toInt_lt, show (-3 : Int32).toInt = -3 by decide] at c0
          rw [Int32.le_iff_toInt_le, show (3 : Int32).toInt = 3 by decide] at c1
          omega
        rw [if_pos ht] at hin
        obtain ⟨k1, k2⟩ := caC_loop h.2.2.1 ht (show i < 4 by omega) (show k < 4 by omega) 5 0 F (by omega) (by omega)
        obtain ⟨l1, l2⟩ := caM_loop hW.1.2.2.2 ht (show i < 4 by omega) (show k < 4 by omega) 5 0 F (by omega) (by omega)
        rw [zI_self] at k1 k2 l1 l2
        by_cases ho : ∀ z, 0 ≤ z → z < 5 → okc A i k x3.toInt z
        · have kk := k1 ho
          have ll := l1 ho
          obtain ⟨hc', hn', store', kn', w1, r1, r2, r3, r4, r5⟩ := remember_ag hF h hH
          have h1 := now_congr h r4
          obtain ⟨nums', a1, a2⟩ := adC_loop (A := A) (t := x3.toInt) (show i < 4 by omega) (show k < 4 by omega) hik (fun z hz => ho z (by omega) hz) 5 0 F nums (by omega) (by omega) (Nc_congr h1.2.2.1 (fun a b ha hb => by unfold mxX; rw [if_neg (by omega)]))
          obtain ⟨w', b1, b2, b3⟩ := adM_loop (A := A) (t := x3.toInt) ht (show i < 4 by omega) (show k < 4 by omega) hik (fun z hz => ho z (by omega) hz) 5 0 F w1 (by omega) (by omega) (Wc_congr h1.2.2.2.1.1.2.2.2 (fun a b ha hb => by unfold mxX; rw [if_neg (by omega)]))
          rw [zI_self] at a1 b1
          have s1 : Bt (mxX A i k x3.toInt 5) := fun a b ha hb => by
            unfold mxX
            by_cases c : a = i ∧ b < 5
            · rw [if_pos c]
              have := ho b (by omega) (by omega)
              unfold okc bnd at this
              rw [if_neg (by omega)] at this
              exact this
            · rw [if_neg c]; exact h1.2.2.2.2.1 a b ha hb
          have s2 : Zr (mxX A i k x3.toInt 5) n := fun a b ha hb hb4 => by
            unfold mxX
            by_cases c : a = i ∧ b < 5
            · rw [if_pos c, h1.2.2.2.2.2.1 i b hi hb hb4, h1.2.2.2.2.2.1 k b hk hb hb4]; omega
            · rw [if_neg c]; exact h1.2.2.2.2.2.1 a b ha hb hb4
          obtain ⟨t1, t2, t3, t4⟩ := ex_T s1 s2
          refine ⟨1, nums', hc', hn', store', kn', w', ?_, ?_, ⟨n, pn, _, now_new h1 (Nc_congr a2 t4) (Wc_congr b2 t4) (b3 0 (by omega)) (b3 1 (by omega)) t1 t2 t3⟩, HisR_congr r3 (fun z a b => b3 z (by omega)), fun z hz => by rw [b3 z (by omega)]; exact r5 z hz⟩
          · refine kb1_of e1 ?_
            rw [if_pos rfl, if_neg c0, if_pos c1]
            refine kb1_of (a := 1) ?_ ?_
            · unfold f_X3_canAdd
              rw [show L_X3_canAdd_3 (nI i) (nI k) x3 nums F (0 : Int32) = _ from kk]
              rfl
            · rw [if_neg (by decide)]
              refine kb3_of r1 ?_
              refine kb1_of (a := nums') ?_ rfl
              unfold f_X3_add
              exact kb1_of (show L_X3_add_3 (nI i) (nI k) x3 F (0 : Int32) nums = _ from a1) rfl
          · refine kb1_of e2 ?_
            rw [if_neg (by decide)]
            refine kb1_of e3 ?_
            rw [if_neg (by decide), if_neg e4]
            refine kb1_of hin ?_
            rw [if_neg (by decide), show L_X12_mix_45 (nI i) (nI k) x3 w F (0 : Int32) = _ from ll]
            show (kb2 (f_X12_remember F kn w) fun w23 w24 => kb1 (L_X12_mix_114 (nI i) (nI k) x3 F (0 : Int32) w24) fun w34 => some ((1 : Int32), w23, w34)) = _
            refine kb2_of r2 ?_
            exact kb1_of (show L_X12_mix_114 (nI i) (nI k) x3 F (0 : Int32) w1 = _ from b1) rfl
        · have kk := k2 ho
          have ll := l2 ho
          refine ⟨-1000000004, nums, hc, hn, store, kn, w, ?_, ?_, Dd_of h hH⟩
          · refine kb1_of e1 ?_
            rw [if_pos rfl, if_neg c0, if_pos c1]
            refine kb1_of (a := 0) ?_ (if_pos rfl)
            unfold f_X3_canAdd
            rw [show L_X3_canAdd_3 (nI i) (nI k) x3 nums F (0 : Int32) = _ from kk]
            rfl
          · refine kb1_of e2 ?_
            rw [if_neg (by decide)]
            refine kb1_of e3 ?_
            rw [if_neg (by decide), if_neg e4]
            refine kb1_of hin ?_
            rw [if_neg (by decide), show L_X12_mix_45 (nI i) (nI k) x3 w F (0 : Int32) = _ from ll]
            rfl
      · refine ⟨-1000000002, nums, hc, hn, store, kn, w, kb1_of e1 (by rw [if_pos rfl, if_neg c0, if_neg c1]), ?_, Dd_of h hH⟩
        refine kb1_of e2 ?_
        rw [if_neg (by decide)]
        refine kb1_of e3 ?_
        rw [if_neg (by decide), if_neg e4]
        refine kb1_of hin ?_
        rw [if_neg (show ¬ (-3 ≤ x3.toInt ∧ x3.toInt ≤ 3) by rw [Int32.le_iff_toInt_le, show (3 : Int32).toInt = 3 by decide] at c1; omega), if_pos rfl]
  · refine ⟨-1000000001, nums, hc, hn, store, kn, w, kb1_of e1 (if_neg (by decide)), ?_, Dd_of h hH⟩
    rcases e2 with e2 | ⟨e2, e3 | ⟨e3, e4⟩⟩
    · exact kb1_of e2 (if_pos rfl)
    · exact kb1_of e2 (by rw [if_neg (by decide)]; exact kb1_of e3 (if_pos rfl))
    · exact kb1_of e2 (by rw [if_neg (by decide)]; exact kb1_of e3 (by rw [if_neg (by decide), if_pos e4]))
