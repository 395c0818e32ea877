/-! ===== deeds: size, swap ===== -/
/-- the table of ones, side 0 -/
def A0 (n : Nat) : Nat → Nat → Int := fun a b => if 5 ≤ b then (if b = 5 + a then 1 else 0) else if a = b ∧ a < n then 1 else 0
theorem A0_b (n a b : Nat) : 0 ≤ A0 n a b ∧ A0 n a b ≤ 1 := by
  unfold A0
  split <;> split <;> omega
theorem A0_T (n : Nat) : Bd (A0 n) ∧ Bt (A0 n) ∧ Zr (A0 n) n ∧ Ext (A0 n) := by
  refine ⟨fun i j _ _ => by have := A0_b n i j; omega, fun i j _ _ => by have := A0_b n i j; omega, fun i j hi hj hj4 => ?_, fun i c hi hc hc9 => ?_⟩
  · unfold A0
    rw [if_neg (by omega), if_neg (by omega)]
  · unfold A0
    rw [if_pos hc]
theorem bg_row {n i : Nat} (hn : n ≤ 4) (hi : i < 4) : ∀ (d c fu : Nat) (nums : Nat → Int32), c + d = 5 → d < fu → ∃ nums', L_X3_begin_14 (nI i) (nI n) fu (nI c) nums = some nums' ∧ ∀ k, nums' k = if 5 * i + c ≤ k ∧ k < 5 * i + 5 then zI (A0 n i (k - 5 * i)) else nums k := by
  intro d
  induction d with
  | zero =>
    intro c fu nums hc hfu
    obtain ⟨fu, rfl⟩ : ∃ g, fu = g + 1 := ⟨fu - 1, by omega⟩
    refine ⟨nums, ?_, fun k => by rw [if_neg (by omega)]⟩
    rw [L_X3_begin_14, if_pos (show (5 : Int32) ≤ nI c from nI_le (a := 5) (by omega) (by omega))]
  | succ d ih =>
    intro c fu nums hc hfu
    obtain ⟨fu, rfl⟩ : ∃ g, fu = g + 1 := ⟨fu - 1, by omega⟩
    obtain ⟨nums', e1, e2⟩ := ih (c + 1) fu (upd nums (5 * i + c) (zI (A0 n i c))) (by omega) (by omega)
    refine ⟨nums', ?_, fun k => ?_⟩
    · rw [L_X3_begin_14, if_neg (show ¬ (5 : Int32) ≤ nI c from nI_ge (b := 5) (by omega) (by omega))]
      by_cases c1 : i = c
      · subst c1
        rw [if_pos rfl]
        by_cases c2 : n ≤ i
        · rw [if_pos (nI_le c2 (by omega))]
          have ea : A0 n i i = 0 := by unfold A0; rw [if_neg (by omega), if_neg (by omega)]
          rw [ea] at e1
          exact kb1_of (setC_ok nums hi (by omega) _) (kl_of (nI_1 i) e1)
        · rw [if_neg (nI_ge (by omega) (by omega))]
          have ea : A0 n i i = 1 := by unfold A0; rw [if_neg (by omega), if_pos (by omega)]
          rw [ea] at e1
          exact kb1_of (setC_ok nums hi (by omega) _) (kl_of (nI_1 i) e1)
      · rw [if_neg (fun z => c1 ((nI_eq (by omega) (by omega)).mp z))]
        have ea : A0 n i c = 0 := by unfold A0; rw [if_neg (by omega), if_neg (by omega)]
        rw [ea] at e1
        exact kb1_of (setC_ok nums hi (by omega) _) (kl_of (nI_1 c) e1)
    · rw [e2 k]
      by_cases c1 : k = 5 * i + c
      · subst c1
        rw [if_neg (by omega), if_pos (by omega), pk_us, show 5 * i + c - 5 * i = c by omega]
      · by_cases c2 : 5 * i + (c + 1) ≤ k ∧ k < 5 * i + 5
        · rw [if_pos c2, if_pos (by omega)]
        · rw [if_neg c2, if_neg (by omega), pk_un c1]
theorem bg_rows {F : Nat} (hF : 100 ≤ F) {n : Nat} (hn : n ≤ 4) : ∀ (d i fu : Nat) (nums : Nat → Int32), i + d = 4 → d < fu → (∀ a b, a < i → b < 5 → nums (5 * a + b) = zI (A0 n a b)) → ∃ nums', L_X3_begin_7 F (nI n) fu (nI i) nums = some nums' ∧ Nc nums' (A0 n) := by
  intro d
  induction d with
  | zero =>
    intro i fu nums hi hfu h
    obtain ⟨fu, rfl⟩ : ∃ g, fu = g + 1 := ⟨fu - 1, by omega⟩
    refine ⟨nums, ?_, fun a b ha hb => h a b (by omega) hb, (A0_T n).1⟩
    rw [L_X3_begin_7, if_pos (show (4 : Int32) ≤ nI i from nI_le (a := 4) (by omega) (by omega))]
  | succ d ih =>
    intro i fu nums hi hfu h
    obtain ⟨fu, rfl⟩ : ∃ g, fu = g + 1 := ⟨fu - 1, by omega⟩
    obtain ⟨nums1, e1, e2⟩ := bg_row hn (show i < 4 by omega) 5 0 F nums (by omega) (by omega)
    obtain ⟨nums', e3, e4⟩ := ih (i + 1) fu nums1 (by omega) (by omega) (fun a b ha hb => by
      rw [e2]
      by_cases c : a = i
      · subst c
        rw [if_pos (by omega), show 5 * a + b - 5 * a = b by omega]
      · rw [if_neg (by omega)]
        exact h a b (by omega) hb)
    refine ⟨nums', ?_, e4⟩
    rw [L_X3_begin_7, if_neg (show ¬ (4 : Int32) ≤ nI i from nI_ge (b := 4) (by omega) (by omega))]
    refine kb1_of (show L_X3_begin_14 (nI i) (nI n) F (0 : Int32) nums = _ from e1) ?_
    exact kl_of (nI_1 i) e3
theorem beginC_ok {F : Nat} (hF : 100 ≤ F) {n : Nat} (hn : n ≤ 4) (vn : Int32) (nums : Nat → Int32) : ∃ nums', f_X3_begin F vn nums (nI n) = some (nI n, nums') ∧ Nc nums' (A0 n) := by
  obtain ⟨nums', e1, e2⟩ := bg_rows hF hn 4 0 F nums (by omega) (by omega) (fun a b ha => by omega)
  refine ⟨nums', ?_, e2⟩
  unfold f_X3_begin
  exact kb1_of (show L_X3_begin_7 F (nI n) F (0 : Int32) nums = _ from e1) rfl
theorem lo_fin : ∀ k : Fin 20, (nI k.val / (5 : Int32) = nI (k.val / 5)) ∧ (nI k.val - nI k.val / (5 : Int32) * (5 : Int32) = nI (k.val % 5)) := by decide +kernel
theorem lay_loop {n : Nat} (hn : n ≤ 4) : ∀ (d k fu : Nat) (w : Nat → Int32), k + d = 20 → d < fu → ∃ w', L_X12_layOnes_9 (nI n) fu (nI k) w = some w' ∧ ∀ i, w' i = if 2 + k ≤ i ∧ i < 22 then zI (A0 n ((i - 2) / 5) ((i - 2) % 5)) else w i := by
  intro d
  induction d with
  | zero =>
    intro k fu w hk hfu
    obtain ⟨fu, rfl⟩ : ∃ g, fu = g + 1 := ⟨fu - 1, by omega⟩
    refine ⟨w, ?_, fun i => by rw [if_neg (by omega)]⟩
    rw [L_X12_layOnes_9, if_pos (show (20 : Int32) ≤ nI k from nI_le (a := 20) (by omega) (by omega))]
  | succ d ih =>
    intro k fu w hk hfu
    obtain ⟨fu, rfl⟩ : ∃ g, fu = g + 1 := ⟨fu - 1, by omega⟩
    obtain ⟨f1, f2⟩ := lo_fin ⟨k, by omega⟩
    simp only at f1 f2
    have kk : kin (nI (2 + k)) 418 := kin_nI (by decide) (by omega)
    obtain ⟨w', e1, e2⟩ := ih (k + 1) fu (upd w (2 + k) (zI (A0 n (k / 5) (k % 5)))) (by omega) (by omega)
    refine ⟨w', ?_, fun i => ?_⟩
    · rw [L_X12_layOnes_9, if_neg (show ¬ (20 : Int32) ≤ nI k from nI_ge (b := 20) (by omega) (by omega)), f2, f1, show (2 : Int32) + nI k = nI (2 + k) from nI_add 2 k, nI_clamp (n := 2 + k) (by omega)]
      by_cases c1 : k % 5 = k / 5
      · rw [if_pos (by rw [c1])]
        by_cases c2 : n ≤ k / 5
        · rw [if_pos (nI_le c2 (by omega)), if_pos kk]
          have ea : A0 n (k / 5) (k % 5) = 0 := by unfold A0; rw [if_neg (by omega), if_neg (by omega)]
          rw [ea] at e1
          exact kl_of rfl (kl_of (nI_1 k) e1)
        · rw [if_neg (nI_ge (by omega) (by omega)), if_pos kk]
          have ea : A0 n (k / 5) (k % 5) = 1 := by unfold A0; rw [if_neg (by omega), if_pos (by omega)]
          rw [ea] at e1
          exact kl_of rfl (kl_of (nI_1 k) e1)
      · rw [if_neg (fun z => c1 ((nI_eq (by omega) (by omega)).mp z)), if_pos kk]
        have ea : A0 n (k / 5) (k % 5) = 0 := by unfold A0; rw [if_neg (by omega), if_neg (by omega)]
        rw [ea] at e1
        exact kl_of rfl (kl_of (nI_1 k) e1)
    · rw [e2 i]
      by_cases c1 : i = 2 + k
      · subst c1
        rw [if_neg (by omega), if_pos (by omega), pk_us, show 2 + k - 2 = k by omega]
      · by_cases c2 : 2 + (k + 1) ≤ i ∧ i < 22
        · rw [if_pos c2, if_pos (by omega)]
        · rw [if_neg c2, if_neg (by omega), pk_un c1]
theorem layM_ok {F : Nat} (hF : 100 ≤ F) {n : Nat} (hn : n ≤ 4) (w : Nat → Int32) : ∃ w', f_X12_layOnes F w (nI n) = some w' ∧ Wc w' (A0 n) ∧ w' 0 = nI n ∧ w' 1 = w 1 ∧ ∀ i, 22 ≤ i → w' i = w i := by
  obtain ⟨w', e1, e2⟩ := lay_loop hn 20 0 F (upd w 0 (nI n)) (by omega) (by omega)
  refine ⟨w', ?_, ⟨fun i j hi hj => ?_, (A0_T n).1⟩, ?_, ?_, fun i hi => ?_⟩
  · unfold f_X12_layOnes
    refine kl_of rfl ?_
    exact kb1_of (show L_X12_layOnes_9 (nI n) F (0 : Int32) (upd w 0 (nI n)) = _ from e1) rfl
  · rw [e2, if_pos (by omega), show (2 + 5 * i + j - 2) / 5 = i by omega, show (2 + 5 * i + j - 2) % 5 = j by omega]
  · rw [e2, if_neg (by omega), pk_us]
  · rw [e2, if_neg (by omega), pk_un (by omega)]
  · rw [e2, if_neg (by omega), pk_un (by omega)]
theorem size_ag {F : Nat} (hF : 100 ≤ F) {vn vp : Int32} {nums w : Nat → Int32} {n pn : Nat} {A : Nat → Nat → Int} (h : NowR vn vp nums w n pn A) {hc hn : Int32} {store : Nat → Int32} {kn : Int32} (hH : HisR hc hn store kn w) (x1 : Int32) :
    ∃ r vn' nums' hc' hn' store' kn' w', f_X11_size F vn vp nums hc hn store x1 = some (r, vn', nums', hc', hn', store') ∧ f_X12_size F kn w x1 = some (r, kn', w') ∧ Dd vn' vp nums' hc' hn' store' kn' w' w := by
  have hin := inI x1 (lo := 1) (hi := 4) ⟨by decide, by decide⟩ ⟨by decide, by decide⟩
  rw [show zJ 1 = (1 : Int64) from rfl, show zJ 4 = (4 : Int64) from rfl] at hin
  unfold f_X11_size f_X12_size
  by_cases c0 : x1 < (1 : Int32)
  · refine ⟨-1000000002, vn, nums, hc, hn, store, kn, w, by rw [if_pos c0], ?_, Dd_of h hH⟩
    refine kb1_of hin ?_
    rw [if_neg (show ¬ (1 ≤ x1.toInt ∧ x1.toInt ≤ 4) by rw [Int32.lt_iff_toInt_lt, show (1 : Int32).toInt = 1 by decide] at c0; omega), if_pos rfl]
  · by_cases c1 : x1 ≤ (4 : Int32)
    · have c0' := c0
      have c1' := c1
      rw [Int32.lt_iff_toInt_lt, show (1 : Int32).toInt = 1 by decide] at c0
      rw [Int32.le_iff_toInt_le, show (4 : Int32).toInt = 4 by decide] at c1
      rw [if_pos (by omega)] at hin
      obtain ⟨m, hm, rfl⟩ := toInt_nI (n := 5) (x := x1) (by omega) (by omega)
      rw [nI_toInt (by omega)] at c0 c1
      obtain ⟨hc', hn', store', kn', w1, e1, e2, e3, e4, e5⟩ := remember_ag hF h hH
      obtain ⟨nums', b1, b2⟩ := beginC_ok hF (n := m) (by omega) vn nums
      obtain ⟨w', l1, l2, l3, l4, l5⟩ := layM_ok hF (n := m) (by omega) w1
      have h1 := now_congr h e4
      have hnow : NowR (nI m) vp nums' w' m pn (A0 m) := by
        obtain ⟨rfl, rfl, hN, ⟨⟨g0, g1, g4, hC⟩, hp, hpn⟩, hT, hZ, hE⟩ := h1
        obtain ⟨a1, a2, a3, a4⟩ := A0_T m
        exact ⟨rfl, rfl, b2, ⟨⟨l3, by omega, by omega, l2⟩, by rw [l4, hp], hpn⟩, a2, a3, a4⟩
      obtain rfl : vn = nI n := h.1
      refine ⟨nI n, nI m, nums', hc', hn', store', kn', w', ?_, ?_, ⟨m, pn, A0 m, hnow⟩, HisR_congr e3 (fun i a b => l5 i a), fun i hi => by rw [l5 i (by omega)]; exact e5 i hi⟩
      · rw [if_neg c0', if_pos c1']
        exact kb3_of e1 (kb2_of b1 rfl)
      · refine kb1_of hin ?_
        rw [if_neg (by decide)]
        refine kb2_of e2 ?_
        refine kb1_of (n_ok h1.2.2.2.1.1) ?_
        exact kb1_of l1 rfl
    · refine ⟨-1000000002, vn, nums, hc, hn, store, kn, w, by rw [if_neg c0, if_neg c1], ?_, Dd_of h hH⟩
      refine kb1_of hin ?_
      rw [if_neg (show ¬ (1 ≤ x1.toInt ∧ x1.toInt ≤ 4) by rw [Int32.le_iff_toInt_le, show (4 : Int32).toInt = 4 by decide] at c1; omega), if_pos rfl]
/-- rows changed about -/
theorem exC_loop {A : Nat → Nat → Int} {i k : Nat} (hi : i < 4) (hk : k < 4) (hik : i ≠ k) : ∀ (d c fu : Nat) (nums : Nat → Int32), c + d = 5 → d < fu → Nc nums (fun a b => if b < c then swX A i k a b else A a b) → ∃ nums', L_X3_exchange_2 (nI i) (nI k) fu (nI c) nums = some nums' ∧ Nc nums' (swX A i k) := by
  intro d
  induction d with
  | zero =>
    intro c fu nums hc hfu h
    obtain ⟨fu, rfl⟩ : ∃ g, fu = g + 1 := ⟨fu - 1, by omega⟩
    refine ⟨nums, ?_, Nc_congr h (fun a b ha hb => by rw [if_pos (by omega)])⟩
    rw [L_X3_exchange_2, if_pos (show (5 : Int32) ≤ nI c from nI_le (a := 5) (by omega) (by omega))]
  | succ d ih =>
    intro c fu nums hc hfu h
    obtain ⟨fu, rfl⟩ : ∃ g, fu = g + 1 := ⟨fu - 1, by omega⟩
    have n1 := number_ok h hi (show c < 5 by omega)
    have n2 := number_ok h hk (show c < 5 by omega)
    simp only [if_neg (show ¬ c < c by omega)] at n1 n2
    have b1 := h.2 i c hi (by omega)
    have b2 := h.2 k c hk (by omega)
    simp only [if_neg (show ¬ c < c by omega)] at b1 b2
    obtain ⟨nums', e1, e2⟩ := ih (c + 1) fu (upd (upd nums (5 * i + c) (zI (A k c))) (5 * k + c) (zI (A i c))) (by omega) (by omega) (Nc_congr (Nc_set (Nc_set h hi (show c < 5 by omega) b2) hk (show c < 5 by omega) b1) (fun a b ha hb => by
      show (if a = k ∧ b = c then A i c else if a = i ∧ b = c then A k c else if b < c then swX A i k a b else A a b) = if b < c + 1 then swX A i k a b else A a b
      unfold swX
      by_cases cb : b = c
      · subst cb
        by_cases ak : a = k
        · subst ak
          rw [if_pos ⟨rfl, rfl⟩, if_pos (by omega), if_neg (by omega), if_pos rfl]
        · rw [if_neg (by omega)]
          by_cases ai : a = i
          · subst ai
            rw [if_pos ⟨rfl, rfl⟩, if_pos (by omega), if_pos rfl]
          · rw [if_neg (by omega), if_neg (by omega), if_pos (by omega), if_neg ai, if_neg ak]
      · rw [if_neg (by omega), if_neg (by omega)]
        by_cases lt : b < c
        · rw [if_pos lt, if_pos (show b < c + 1 by omega)]
        · rw [if_neg lt, if_neg (show ¬ b < c + 1 by omega)]))
    refine ⟨nums', ?_, e2⟩
    rw [L_X3_exchange_2, if_neg (show ¬ (5 : Int32) ≤ nI c from nI_ge (b := 5) (by omega) (by omega))]
    refine kb1_of n1 ?_
    refine kb1_of n2 ?_
    refine kb1_of (setC_ok nums hi (by omega) _) ?_
    refine kb1_of (setC_ok _ hk (by omega) _) ?_
    exact kl_of (nI_1 c) e1
theorem exM_loop {A : Nat → Nat → Int} {i k : Nat} (hi : i < 4) (hk : k < 4) (hik : i ≠ k) : ∀ (d c fu : Nat) (w : Nat → Int32), c + d = 5 → d < fu → Wc w (fun a b => if b < c then swX A i k a b else A a b) → ∃ w', L_X12_swap_31 (nI i) (nI k) fu (nI c) w = some w' ∧ Wc w' (swX A i k) ∧ ∀ z, (z < 2 ∨ 22 ≤ z) → w' z = w z := by
  intro d
  induction d with
  | zero =>
    intro c fu w hc hfu h
    obtain ⟨fu, rfl⟩ : ∃ g, fu = g + 1 := ⟨fu - 1, by omega⟩
    refine ⟨w, ?_, Wc_congr h (fun a b ha hb => by rw [if_pos (by omega)]), fun _ _ => rfl⟩
    rw [L_X12_swap_31, if_pos (show (5 : Int32) ≤ nI c from nI_le (a := 5) (by omega) (by omega))]
  | succ d ih =>
    intro c fu w hc hfu h
    obtain ⟨fu, rfl⟩ : ∃ g, fu = g + 1 := ⟨fu - 1, by omega⟩
    have n1 := cell_ok h hi (show c < 5 by omega)
    have n2 := cell_ok h hk (show c < 5 by omega)
    simp only [if_neg (show ¬ c < c by omega)] at n1 n2
    have b1 := h.2 i c hi (by omega)
    have b2 := h.2 k c hk (by omega)
    simp only [if_neg (show ¬ c < c by omega)] at b1 b2
    obtain ⟨w', e1, e2, e3⟩ := ih (c + 1) fu (upd (upd w (2 + 5 * i + c) (zI (A k c))) (2 + 5 * k + c) (zI (A i c))) (by omega) (by omega) (Wc_congr (Wc_set (Wc_set h hi (show c < 5 by omega) b2) hk (show c < 5 by omega) b1) (fun a b ha hb => by
      show (if a = k ∧ b = c then A i c else if a = i ∧ b = c then A k c else if b < c then swX A i k a b else A a b) = if b < c + 1 then swX A i k a b else A a b
      unfold swX
      by_cases cb : b = c
      · subst cb
        by_cases ak : a = k
        · subst ak
          rw [if_pos ⟨rfl, rfl⟩, if_pos (by omega), if_neg (by omega), if_pos rfl]
        · rw [if_neg (by omega)]
          by_cases ai : a = i
          · subst ai
            rw [if_pos ⟨rfl, rfl⟩, if_pos (by omega), if_pos rfl]
          · rw [if_neg (by omega), if_neg (by omega), if_pos (by omega), if_neg ai, if_neg ak]
      · rw [if_neg (by omega), if_neg (by omega)]
        by_cases lt : b < c
        · rw [if_pos lt, if_pos (show b < c + 1 by omega)]
        · rw [if_neg lt, if_neg (show ¬ b < c + 1 by omega)]))
    refine ⟨w', ?_, e2, fun z hz => by rw [e3 z hz, pk_un (by omega), pk_un (by omega)]⟩
    rw [L_X12_swap_31, if_neg (show ¬ (5 : Int32) ≤ nI c from nI_ge (b := 5) (by omega) (by omega))]
    refine kb1_of n1 ?_
    refine kl_of (zJ_I _) ?_
    refine kb1_of n2 ?_
    rw [zJ_I]
    refine kb1_of (setM_ok w hi (by omega) _) ?_
    refine kb1_of (setM_ok _ hk (by omega) _) ?_
    exact kl_of (nI_1 c) e1
