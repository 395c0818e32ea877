/-! ===== deeds: turn ===== -/
def trX (A : Nat → Nat → Int) (i j : Nat) : Nat → Nat → Int := fun a b => if (a < i ∧ b < i) ∨ (a = i ∧ b < j) ∨ (b = i ∧ a < j) then A b a else A a b
theorem trX_1 (A : Nat → Nat → Int) {i j : Nat} (h : j < i) : trX A i j i j = A i j ∧ trX A i j j i = A j i := by
  unfold trX
  exact ⟨if_neg (by omega), if_neg (by omega)⟩
theorem trX_s (A : Nat → Nat → Int) {i j : Nat} (h : j < i) (a b : Nat) : (if a = j ∧ b = i then A i j else if a = i ∧ b = j then A j i else trX A i j a b) = trX A i (j + 1) a b := by
  unfold trX
  by_cases c1 : a = j ∧ b = i
  · obtain ⟨rfl, rfl⟩ := c1
    rw [if_pos ⟨rfl, rfl⟩, if_pos (by omega)]
  · rw [if_neg c1]
    by_cases c2 : a = i ∧ b = j
    · obtain ⟨rfl, rfl⟩ := c2
      rw [if_pos ⟨rfl, rfl⟩, if_pos (by omega)]
    · rw [if_neg c2]
      by_cases c3 : (a < i ∧ b < i) ∨ (a = i ∧ b < j) ∨ (b = i ∧ a < j)
      · rw [if_pos c3, if_pos (by omega)]
      · rw [if_neg c3, if_neg (by omega)]
theorem trX_e (A : Nat → Nat → Int) (i a b : Nat) : trX A i i a b = trX A (i + 1) 0 a b := by
  unfold trX
  by_cases c1 : a = i ∧ b = i
  · obtain ⟨rfl, rfl⟩ := c1
    rw [if_neg (by omega), if_pos (by omega)]
  · by_cases c3 : (a < i ∧ b < i) ∨ (a = i ∧ b < i) ∨ (b = i ∧ a < i)
    · rw [if_pos c3, if_pos (by omega)]
    · rw [if_neg c3, if_neg (by omega)]
theorem tuC_in {A : Nat → Nat → Int} {i : Nat} (hi : i < 4) : ∀ (d j fu : Nat) (nums : Nat → Int32), j + d = i → d < fu → Nc nums (trX A i j) → ∃ nums', L_X3_transpose_12 (nI i) fu (nI j) nums = some nums' ∧ Nc nums' (trX A (i + 1) 0) := by
  intro d
  induction d with
  | zero =>
    intro j fu nums hj hfu h
    obtain ⟨fu, rfl⟩ : ∃ g, fu = g + 1 := ⟨fu - 1, by omega⟩
    have : j = i := by omega
    subst this
    refine ⟨nums, ?_, Nc_congr h (fun a b _ _ => trX_e A j a b)⟩
    rw [L_X3_transpose_12, if_pos (nI_le (Nat.le_refl _) (by omega))]
  | succ d ih =>
    intro j fu nums hj hfu h
    obtain ⟨fu, rfl⟩ : ∃ g, fu = g + 1 := ⟨fu - 1, by omega⟩
    have n1 := number_ok h hi (show j < 5 by omega)
    have n2 := number_ok h (show j < 4 by omega) (show i < 5 by omega)
    have b1 := h.2 i j hi (by omega)
    have b2 := h.2 j i (by omega) (by omega)
    rw [(trX_1 A (show j < i by omega)).1] at n1 b1
    rw [(trX_1 A (show j < i by omega)).2] at n2 b2
    obtain ⟨nums', e1, e2⟩ := ih (j + 1) fu (upd (upd nums (5 * i + j) (zI (A j i))) (5 * j + i) (zI (A i j))) (by omega) (by omega) (Nc_congr (Nc_set (Nc_set h hi (show j < 5 by omega) b2) (show j < 4 by omega) (show i < 5 by omega) b1) (fun a b _ _ => trX_s A (show j < i by omega) a b))
    refine ⟨nums', ?_, e2⟩
    rw [L_X3_transpose_12, if_neg (nI_ge (by omega) (by omega))]
    refine kb1_of n1 ?_
    refine kb1_of n2 ?_
    refine kb1_of (setC_ok nums hi (by omega) _) ?_
    refine kb1_of (setC_ok _ (by omega) (by omega) _) ?_
    exact kl_of (nI_1 j) e1
theorem tuC_loop {F : Nat} (hF : 100 ≤ F) {A : Nat → Nat → Int} {n : Nat} (hn : n ≤ 4) : ∀ (d i fu : Nat) (nums : Nat → Int32), i + d = n → d < fu → Nc nums (trX A i 0) → ∃ nums', L_X3_transpose_2 F (nI n) fu (nI i) nums = some nums' ∧ Nc nums' (trX A n 0) := by
  intro d
  induction d with
  | zero =>
    intro i fu nums hi hfu h
    obtain ⟨fu, rfl⟩ : ∃ g, fu = g + 1 := ⟨fu - 1, by omega⟩
    refine ⟨nums, ?_, by rw [show n = i by omega]; exact h⟩
    rw [L_X3_transpose_2, if_pos (nI_le (by omega) (by omega))]
  | succ d ih =>
    intro i fu nums hi hfu h
    obtain ⟨fu, rfl⟩ : ∃ g, fu = g + 1 := ⟨fu - 1, by omega⟩
    obtain ⟨nums1, e1, e2⟩ := tuC_in (show i < 4 by omega) i 0 F nums (by omega) (by omega) h
    obtain ⟨nums', e3, e4⟩ := ih (i + 1) fu nums1 (by omega) (by omega) e2
    refine ⟨nums', ?_, e4⟩
    rw [L_X3_transpose_2, if_neg (nI_ge (by omega) (by omega))]
    refine kb1_of (show L_X3_transpose_12 (nI i) F (0 : Int32) nums = _ from e1) ?_
    exact kl_of (nI_1 i) e3
theorem tuM_in {A : Nat → Nat → Int} {i : Nat} (hi : i < 4) : ∀ (d j fu : Nat) (w : Nat → Int32), j + d = i → d < fu → Wc w (trX A i j) → ∃ w', L_X12_turn_16 (nI i) fu (nI j) w = some w' ∧ Wc w' (trX A (i + 1) 0) ∧ ∀ z, (z < 2 ∨ 22 ≤ z) → w' z = w z := by
  intro d
  induction d with
  | zero =>
    intro j fu w hj hfu h
    obtain ⟨fu, rfl⟩ : ∃ g, fu = g + 1 := ⟨fu - 1, by omega⟩
    have : j = i := by omega
    subst this
    refine ⟨w, ?_, Wc_congr h (fun a b _ _ => trX_e A j a b), fun _ _ => rfl⟩
    rw [L_X12_turn_16, if_pos (nI_le (Nat.le_refl _) (by omega))]
  | succ d ih =>
    intro j fu w hj hfu h
    obtain ⟨fu, rfl⟩ : ∃ g, fu = g + 1 := ⟨fu - 1, by omega⟩
    have n1 := cell_ok h hi (show j < 5 by omega)
    have n2 := cell_ok h (show j < 4 by omega) (show i < 5 by omega)
    have b1 := h.2 i j hi (by omega)
    have b2 := h.2 j i (by omega) (by omega)
    rw [(trX_1 A (show j < i by omega)).1] at n1 b1
    rw [(trX_1 A (show j < i by omega)).2] at n2 b2
    obtain ⟨w', e1, e2, e3⟩ := ih (j + 1) fu (upd (upd w (2 + 5 * i + j) (zI (A j i))) (2 + 5 * j + i) (zI (A i j))) (by omega) (by omega) (Wc_congr (Wc_set (Wc_set h hi (show j < 5 by omega) b2) (show j < 4 by omega) (show i < 5 by omega) b1) (fun a b _ _ => trX_s A (show j < i by omega) a b))
    refine ⟨w', ?_, e2, fun z hz => by rw [e3 z hz, pk_un (by omega), pk_un (by omega)]⟩
    rw [L_X12_turn_16, if_neg (nI_ge (by omega) (by omega))]
    refine kb1_of n1 ?_
    refine kl_of (zJ_I _) ?_
    refine kb1_of n2 ?_
    rw [zJ_I]
    refine kb1_of (setM_ok w hi (by omega) _) ?_
    refine kb1_of (setM_ok _ (by omega) (by omega) _) ?_
    exact kl_of (nI_1 j) e1
theorem tuM_loop {F : Nat} (hF : 100 ≤ F) {A : Nat → Nat → Int} {n : Nat} (hn : n ≤ 4) : ∀ (d i fu : Nat) (w : Nat → Int32), i + d = n → d < fu → w 0 = nI n → Wc w (trX A i 0) → ∃ w', L_X12_turn_6 F fu (nI i) w = some w' ∧ Wc w' (trX A n 0) ∧ ∀ z, (z < 2 ∨ 22 ≤ z) → w' z = w z := by
  intro d
  induction d with
  | zero =>
    intro i fu w hi hfu h0 h
    obtain ⟨fu, rfl⟩ : ∃ g, fu = g + 1 := ⟨fu - 1, by omega⟩
    refine ⟨w, ?_, by rw [show n = i by omega]; exact h, fun _ _ => rfl⟩
    rw [L_X12_turn_6]
    refine kb1_of (show f_X12_n w = some (nI n) by unfold f_X12_n; rw [show (0 : Int32).toNatClampNeg = 0 from rfl, h0]) ?_
    rw [if_pos (nI_le (by omega) (by omega))]
  | succ d ih =>
    intro i fu w hi hfu h0 h
    obtain ⟨fu, rfl⟩ : ∃ g, fu = g + 1 := ⟨fu - 1, by omega⟩
    obtain ⟨w1, e1, e2, e5⟩ := tuM_in (show i < 4 by omega) i 0 F w (by omega) (by omega) h
    obtain ⟨w', e3, e4, e6⟩ := ih (i + 1) fu w1 (by omega) (by omega) (by rw [e5 0 (by omega), h0]) e2
    refine ⟨w', ?_, e4, fun z hz => by rw [e6 z hz, e5 z hz]⟩
    rw [L_X12_turn_6]
    refine kb1_of (show f_X12_n w = some (nI n) by unfold f_X12_n; rw [show (0 : Int32).toNatClampNeg = 0 from rfl, h0]) ?_
    rw [if_neg (nI_ge (by omega) (by omega))]
    refine kb1_of (show L_X12_turn_16 (nI i) F (0 : Int32) w = _ from e1) ?_
    exact kl_of (nI_1 i) e3
theorem turn_ag {F : Nat} (hF : 100 ≤ F) {vn vp : Int32} {nums w : Nat → Int32} {n pn : Nat} {A : Nat → Nat → Int} (h : NowR vn vp nums w n pn A) {hc hn : Int32} {store : Nat → Int32} {kn : Int32} (hH : HisR hc hn store kn w) (cn cr ce : Int32) (csc : Int64) (rows : Nat → Nat → Int64) (ld rs cs : Nat → Int32) :
    ∃ r nums' z1 z2 z3 z4 z5 z6 hc' hn' store' kn' w' rs' cs', f_X11_turn F vn vp nums cn cr ce 5 csc rows ld hc hn store = some (r, nums', z1, z2, z3, z4, z5, z6, hc', hn', store') ∧ f_X12_turn F kn w rs cs = some (r, kn', w', rs', cs') ∧ Dd vn vp nums' hc' hn' store' kn' w' w := by
  have hW := h.2.2.2.1
  obtain rfl : vn = nI n := h.1
  have hn4 := hW.1.2.2.1
  obtain ⟨hc', hn', store', kn', w1, r1, r2, r3, r4, r5⟩ := remember_ag hF h hH
  have h1 := now_congr h r4
  have hz : ∀ a b, a < 4 → b < 5 → A a b = trX A 0 0 a b := fun a b _ _ => by unfold trX; rw [if_neg (by omega)]
  obtain ⟨nums', a1, a2⟩ := tuC_loop hF (A := A) hn4 n 0 F nums (by omega) (by omega) (Nc_congr h1.2.2.1 hz)
  obtain ⟨w', b1, b2, b3⟩ := tuM_loop hF (A := A) hn4 n 0 F w1 (by omega) (by omega) h1.2.2.2.1.1.1 (Wc_congr h1.2.2.2.1.1.2.2.2 hz)
  have s1 : Bt (trX A n 0) := fun a b ha hb => by
    unfold trX
    by_cases c : (a < n ∧ b < n) ∨ (a = n ∧ b < 0) ∨ (b = n ∧ a < 0)
    · rw [if_pos c]; exact h1.2.2.2.2.1 b a hb ha
    · rw [if_neg c]; exact h1.2.2.2.2.1 a b ha hb
  have s2 : Zr (trX A n 0) n := fun a b ha hb hb4 => by
    unfold trX
    rw [if_neg (by omega)]
    exact h1.2.2.2.2.2.1 a b ha hb hb4
  obtain ⟨t1, t2, t3, t4⟩ := ex_T s1 s2
  have hnow := now_new h1 (Nc_congr a2 t4) (Wc_congr b2 t4) (b3 0 (by omega)) (b3 1 (by omega)) t1 t2 t3
  obtain ⟨k, ex, σ, l, X, s, rows', ld', e, hC, hM, hl⟩ := clr hF hnow cn cr ce csc rows ld
  obtain ⟨rs', cs', er⟩ := rank_m hF hnow.2.2.2.1.1 hC rs cs
  refine ⟨nI k, nums', nI n, nI k, nI ex, zJ s, rows', ld', hc', hn', store', kn', w', rs', cs', ?_, ?_, ⟨n, pn, _, hnow⟩, HisR_congr r3 (fun z a b => b3 z (by omega)), fun z hz => by rw [b3 z (by omega)]; exact r5 z hz⟩
  · unfold f_X11_turn
    refine kb3_of r1 ?_
    refine kb1_of (a := nums') ?_ ?_
    · unfold f_X3_transpose
      exact kb1_of (show L_X3_transpose_2 F (nI n) F (0 : Int32) nums = _ from a1) rfl
    · refine kb7_of (a := nI k) (b := nI n) (c := nI k) (d := nI ex) (e := zJ s) (f := rows') (g := ld') ?_ rfl
      unfold f_X11_rank
      exact kb6_of e rfl
  · unfold f_X12_turn
    refine kb2_of r2 ?_
    refine kb1_of (show L_X12_turn_6 F F (0 : Int32) w1 = _ from b1) ?_
    exact kb3_of er rfl
/-! ===== draws ===== -/
def SeedR (st : Int64) (sd : Int32) : Prop := ∃ s : Nat, s < 2 ^ 31 ∧ st = zJ (s : Int) ∧ sd = zI (s : Int)
theorem jAnd {n : Nat} (h : n < 2 ^ 63) : zJ (n : Int) &&& (2147483647 : Int64) = zJ ((n % 2 ^ 31 : Nat) : Int) := by
  apply Int64.toBitVec_inj.mp
  apply BitVec.eq_of_toNat_eq
  show ((BitVec.ofInt 64 (n : Int)) &&& (BitVec.ofInt 64 ((2 ^ 31 - 1 : Nat) : Int))).toNat = (BitVec.ofInt 64 ((n % 2 ^ 31 : Nat) : Int)).toNat
  rw [BitVec.toNat_and, BitVec.ofInt_natCast, BitVec.ofInt_natCast, BitVec.ofInt_natCast, BitVec.toNat_ofNat, BitVec.toNat_ofNat, BitVec.toNat_ofNat, Nat.mod_eq_of_lt (show n < 2 ^ 64 by omega), Nat.mod_eq_of_lt (show 2 ^ 31 - 1 < 2 ^ 64 by decide), Nat.mod_eq_of_lt (show n % 2 ^ 31 < 2 ^ 64 by omega), Nat.and_two_pow_sub_one_eq_mod]
theorem draw_ag {st : Int64} {sd : Int32} (h : SeedR st sd) {m : Nat} (hm : 1 ≤ m) (hm2 : m ≤ 100) : ∃ d st' sd', d < m ∧ f_X2_next st (nI m) = some (nI d, st') ∧ f_X12_draw sd (nI m) = some (nI d, sd') ∧ SeedR st' sd' := by
  obtain ⟨s, hs, rfl, rfl⟩ := h
  have hv : ∃ v : Nat, v = s * 1103515245 + 12345 := ⟨_, rfl⟩
  obtain ⟨v, hv⟩ := hv
  have hvb : v < 4611686018427387904 := by omega
  have e1 : (zJ (s : Int) * (1103515245 : Int64)) + (12345 : Int64) = zJ (v : Int) := by
    rw [show (1103515245 : Int64) = zJ ((1103515245 : Nat) : Int) from rfl, jM, show (12345 : Int64) = zJ ((12345 : Nat) : Int) from rfl, jA, hv]
  have hs' : v % 2 ^ 31 < 2 ^ 31 := Nat.mod_lt _ (by decide)
  refine ⟨v % 2 ^ 31 / 65536 % m, zJ ((v % 2 ^ 31 : Nat) : Int), zI ((v % 2 ^ 31 : Nat) : Int), Nat.mod_lt _ (by omega), ?_, ?_, v % 2 ^ 31, hs', rfl, rfl⟩
  · unfold f_X2_next
    rw [e1]
    refine kl_of (jAnd (by omega)) ?_
    generalize v % 2 ^ 31 = u at hs'
    have e2 : zJ (u : Int) / (65536 : Int64) = zJ ((u / 65536 : Nat) : Int) := by
      rw [show (65536 : Int64) = zJ ((65536 : Nat) : Int) from rfl, zJ_div ⟨by omega, by omega⟩ ⟨by omega, by omega⟩ (by omega), tdiv_nat]
    rw [e2]
    refine kb1_of (leftOver_ok (sm_nat (by omega)) (by omega) (by omega)) ?_
    rw [nI_z, show (((u / 65536 : Nat) : Int) % ((m : Nat) : Int)) = ((u / 65536 % m : Nat) : Int) from rfl]
  · unfold f_X12_draw
    rw [zI_J ⟨by omega, by omega⟩, e1, show (2147483648 : Int64) = zJ ((2 ^ 31 : Nat) : Int) by decide, zJ_remN hvb (by decide), zJ_I]
    refine kl_of rfl ?_
    generalize v % 2 ^ 31 = u at hs'
    rw [if_pos (nI_ne0 (by omega) (by omega))]
    have e2 : zI (u : Int) / (65536 : Int32) = zI ((u / 65536 : Nat) : Int) := by
      rw [show (65536 : Int32) = zI ((65536 : Nat) : Int) from rfl, zI_div ⟨by omega, by omega⟩ ⟨by omega, by omega⟩ (by omega), tdiv_nat]
    rw [e2, nI_z m, zI_rem ⟨by omega, by omega⟩ ⟨by omega, by omega⟩ (by omega), tmod_nat, nI_z]
theorem drift_step {F : Nat} (hF : 100 ≤ F) {vn vp : Int32} {nums w : Nat → Int32} {n pn : Nat} {A : Nat → Nat → Int} (h : NowR vn vp nums w n pn A) {hc hn : Int32} {store : Nat → Int32} {kn : Int32} (hH : HisR hc hn store kn w) {st : Int64} {sd : Int32} (hS : SeedR st sd) (x1 : Int32) (fu : Nat) (x2 : Int32) (hx : ¬ x1 ≤ x2) :
    ∃ nums' hc' hn' store' st' kn' sd' w', f_X11_changeByDraws vn vp nums hc hn store st = some (nums', hc', hn', store', st') ∧ L_X12_drift_17 F x1 (fu + 1) x2 kn sd w = L_X12_drift_17 F x1 fu (x2 + 1) kn' sd' w' ∧ Dd vn vp nums' hc' hn' store' kn' w' w ∧ SeedR st' sd' := by
  have hW := h.2.2.2.1
  obtain rfl : vn = nI n := h.1
  have hn1 := hW.1.2.1
  have hn4 := hW.1.2.2.1
  obtain ⟨i, st1, sd1, hi, d1, d2, hS1⟩ := draw_ag hS (m := n) hn1 (by omega)
  obtain ⟨j, st2, sd2, hj, d3, d4, hS2⟩ := draw_ag hS1 (m := n + 1) (by omega) (by omega)
  obtain ⟨v, st3, sd3, hv, d5, d6, hS3⟩ := draw_ag hS2 (m := 19) (by omega) (by omega)
  have p1 : nI n + (1 : Int32) = nI (n + 1) := nI_1 n
  by_cases cj : j = n
  · subst cj
    obtain ⟨nums', hc', hn', store', kn', w1, w', g1, g2, g3, g4, g5, g6⟩ := change_ag hF h hH (i := i) (j := 4) (v := 11 * (v : Int) - 99) hi (.inr ⟨rfl, by omega, by omega⟩)
    have hn0 : f_X12_n w1 = some (nI j) := n_ok (now_congr h g3).2.2.2.1.1
    have ev : (11 : Int32) * nI v - (99 : Int32) = zI (11 * (v : Int) - 99) := by rw [nI_z, show (11 : Int32) = zI 11 from rfl, zI_mul, show (99 : Int32) = zI 99 from rfl, zI_sub]
    refine ⟨nums', hc', hn', store', st3, kn', sd3, w', ?_, ?_, g6, hS3⟩
    · unfold f_X11_changeByDraws
      refine kb2_of d1 ?_
      rw [p1]
      refine kb2_of d3 ?_
      refine kb2_of (show f_X2_next st2 (19 : Int32) = _ from d5) ?_
      rw [if_pos rfl, ev]
      exact kb5_of (show f_X11_change (nI j) vp nums hc hn store (nI i) (4 : Int32) _ = _ from g1) rfl
    · rw [L_X12_drift_17, if_neg hx]
      refine kb2_of g2 ?_
      refine kb1_of hn0 ?_
      refine kb2_of d2 ?_
      refine kb1_of hn0 ?_
      rw [p1]
      refine kb2_of d4 ?_
      refine kb2_of (show f_X12_draw sd2 (19 : Int32) = _ from d6) ?_
      refine kb1_of hn0 ?_
      simp only [kj1]
      rw [if_pos trivial]
      refine kb1_of hn0 ?_
      rw [if_pos rfl, ev]
      exact kb1_of (show f_X12_set w1 (nI i) (4 : Int32) _ = _ from g5) rfl
  · obtain ⟨nums', hc', hn', store', kn', w1, w', g1, g2, g3, g4, g5, g6⟩ := change_ag hF h hH (i := i) (j := j) (v := (v : Int) - 9) hi (.inl ⟨by omega, by omega, by omega⟩)
    have hn0 : f_X12_n w1 = some (nI n) := n_ok (now_congr h g3).2.2.2.1.1
    have ev : nI v - (9 : Int32) = zI ((v : Int) - 9) := by rw [nI_z, show (9 : Int32) = zI 9 from rfl, zI_sub]
    have cj' : ¬ nI j = nI n := fun z => cj ((nI_eq (by omega) (by omega)).mp z)
    refine ⟨nums', hc', hn', store', st3, kn', sd3, w', ?_, ?_, g6, hS3⟩
    · unfold f_X11_changeByDraws
      refine kb2_of d1 ?_
      rw [p1]
      refine kb2_of d3 ?_
      refine kb2_of (show f_X2_next st2 (19 : Int32) = _ from d5) ?_
      rw [if_neg cj', ev]
      exact kb5_of g1 rfl
    · rw [L_X12_drift_17, if_neg hx]
      refine kb2_of g2 ?_
      refine kb1_of hn0 ?_
      refine kb2_of d2 ?_
      refine kb1_of hn0 ?_
      rw [p1]
      refine kb2_of d4 ?_
      refine kb2_of (show f_X12_draw sd2 (19 : Int32) = _ from d6) ?_
      refine kb1_of hn0 ?_
      simp only [kj1]
      rw [if_neg cj']
      refine kb1_of hn0 ?_
      rw [if_neg cj', ev]
      exact kb1_of g5 rfl
theorem Dd_trans {vn vp vn' vp' : Int32} {nums nums' : Nat → Int32} {hc hn hc' hn' : Int32} {store store' : Nat → Int32} {kn kn' : Int32} {w w1 w2 : Nat → Int32} (h1 : Dd vn vp nums hc hn store kn w1 w) (h2 : Dd vn' vp' nums' hc' hn' store' kn' w2 w1) : Dd vn' vp' nums' hc' hn' store' kn' w2 w := ⟨h2.1, h2.2.1, fun i hi => by rw [h2.2.2 i hi, h1.2.2 i hi]⟩
theorem drift_loop {F : Nat} (hF : 100 ≤ F) {vn vp : Int32} {m : Nat} (hm : m ≤ 12) : ∀ (d k fu : Nat) (nums w : Nat → Int32) (hc hn : Int32) (store : Nat → Int32) (kn : Int32) (st : Int64) (sd : Int32), k + d = m → d < fu → (∃ n pn A, NowR vn vp nums w n pn A) → HisR hc hn store kn w → SeedR st sd →
    ∃ nums' hc' hn' store' st' kn' sd' w', L_X11_drift_16 (nI m) vn vp fu (nI k) nums hc hn store st = some (nums', hc', hn', store', st') ∧ L_X12_drift_17 F (nI m) fu (nI k) kn sd w = some (kn', sd', w') ∧ Dd vn vp nums' hc' hn' store' kn' w' w ∧ SeedR st' sd' := by
  intro d
  induction d with
  | zero =>
    intro k fu nums w hc hn store kn st sd hk hfu hN hH hS
    obtain ⟨fu, rfl⟩ : ∃ g, fu = g + 1 := ⟨fu - 1, by omega⟩
    refine ⟨nums, hc, hn, store, st, kn, sd, w, ?_, ?_, ⟨hN, hH, fun _ _ => rfl⟩, hS⟩
    · rw [L_X11_drift_16, if_pos (nI_le (by omega) (by omega))]
    · rw [L_X12_drift_17, if_pos (nI_le (by omega) (by omega))]
  | succ d ih =>
    intro k fu nums w hc hn store kn st sd hk hfu hN hH hS
    obtain ⟨fu, rfl⟩ : ∃ g, fu = g + 1 := ⟨fu - 1, by omega⟩
    obtain ⟨n, pn, A, hN⟩ := hN
    have hx : ¬ nI m ≤ nI k := nI_ge (by omega) (by omega)
    obtain ⟨nums1, hc1, hn1, store1, st1, kn1, sd1, w1, e1, e2, e3, e4⟩ := drift_step hF hN hH hS (nI m) fu (nI k) hx
    obtain ⟨nums', hc', hn', store', st', kn', sd', w', f1, f2, f3, f4⟩ := ih (k + 1) fu nums1 w1 hc1 hn1 store1 kn1 st1 sd1 (by omega) (by omega) e3.1 e3.2.1 e4
    refine ⟨nums', hc', hn', store', st', kn', sd', w', ?_, ?_, Dd_trans e3 f3, f4⟩
    · rw [L_X11_drift_16, if_neg hx]
      refine kb5_of e1 ?_
      exact kl_of (nI_1 k) f1
    · rw [e2, nI_1]
      exact f2
