/-! ===== deeds: numbers set, size, put, side, prime, undo ===== -/
theorem Wc_set {w : Nat → Int32} {B : Nat → Nat → Int} (h : Wc w B) {a0 b0 : Nat} (ha : a0 < 4) (hb : b0 < 5) {v : Int} (hv : -99 ≤ v ∧ v ≤ 99) : Wc (upd w (2 + 5 * a0 + b0) (zI v)) (fun a b => if a = a0 ∧ b = b0 then v else B a b) := by
  refine ⟨fun i j hi hj => ?_, fun i j hi hj => ?_⟩
  · show _ = zI (if i = a0 ∧ j = b0 then v else B i j)
    by_cases c : i = a0 ∧ j = b0
    · rw [if_pos c]
      obtain ⟨rfl, rfl⟩ := c
      exact pk_us
    · rw [pk_un (by omega), if_neg c]
      exact h.1 i j hi hj
  · show -99 ≤ (if i = a0 ∧ j = b0 then v else B i j) ∧ (if i = a0 ∧ j = b0 then v else B i j) ≤ 99
    by_cases c : i = a0 ∧ j = b0
    · rw [if_pos c]; exact hv
    · rw [if_neg c]; exact h.2 i j hi hj
theorem Nc_set {w : Nat → Int32} {B : Nat → Nat → Int} (h : Nc w B) {a0 b0 : Nat} (ha : a0 < 4) (hb : b0 < 5) {v : Int} (hv : -99 ≤ v ∧ v ≤ 99) : Nc (upd w (5 * a0 + b0) (zI v)) (fun a b => if a = a0 ∧ b = b0 then v else B a b) := by
  refine ⟨fun i j hi hj => ?_, fun i j hi hj => ?_⟩
  · show _ = zI (if i = a0 ∧ j = b0 then v else B i j)
    by_cases c : i = a0 ∧ j = b0
    · rw [if_pos c]
      obtain ⟨rfl, rfl⟩ := c
      exact pk_us
    · rw [pk_un (by omega), if_neg c]
      exact h.1 i j hi hj
  · show -99 ≤ (if i = a0 ∧ j = b0 then v else B i j) ∧ (if i = a0 ∧ j = b0 then v else B i j) ≤ 99
    by_cases c : i = a0 ∧ j = b0
    · rw [if_pos c]; exact hv
    · rw [if_neg c]; exact h.2 i j hi hj
theorem Wc_congr {w : Nat → Int32} {B B' : Nat → Nat → Int} (h : Wc w B) (e : ∀ i j, i < 4 → j < 5 → B i j = B' i j) : Wc w B' :=
  ⟨fun i j hi hj => by rw [← e i j hi hj]; exact h.1 i j hi hj, fun i j hi hj => by rw [← e i j hi hj]; exact h.2 i j hi hj⟩
theorem Nc_congr {w : Nat → Int32} {B B' : Nat → Nat → Int} (h : Nc w B) (e : ∀ i j, i < 4 → j < 5 → B i j = B' i j) : Nc w B' :=
  ⟨fun i j hi hj => by rw [← e i j hi hj]; exact h.1 i j hi hj, fun i j hi hj => by rw [← e i j hi hj]; exact h.2 i j hi hj⟩
theorem setC_ok (nums : Nat → Int32) {i j : Nat} (hi : i < 4) (hj : j < 5) (v : Int32) : f_X3_set nums (nI i) (nI j) v = some (upd nums (5 * i + j) v) := by
  unfold f_X3_set
  have e : (nI i * (5 : Int32)) + nI j = nI (5 * i + j) := by rw [show (5 : Int32) = nI 5 from rfl, iM, nI_add, Nat.mul_comm]
  rw [e, if_pos (show kin (nI (5 * i + j)) 20 from kin_nI (by decide) (by omega)), nI_clamp (n := 5 * i + j) (by omega)]
  rfl
theorem setM_ok (w : Nat → Int32) {i j : Nat} (hi : i < 4) (hj : j < 5) (v : Int32) : f_X12_set w (nI i) (nI j) v = some (upd w (2 + 5 * i + j) v) := by
  unfold f_X12_set
  have e : ((2 : Int32) + ((5 : Int32) * nI i)) + nI j = nI (2 + 5 * i + j) := by rw [show (5 : Int32) = nI 5 from rfl, iM, show (2 : Int32) = nI 2 from rfl, nI_add, nI_add]
  rw [e, if_pos (show kin (nI (2 + 5 * i + j)) 418 from kin_nI (by decide) (by omega)), nI_clamp (n := 2 + 5 * i + j) (by omega)]
  rfl
theorem now_congr {vn vp : Int32} {nums w w' : Nat → Int32} {n pn : Nat} {A : Nat → Nat → Int} (h : NowR vn vp nums w n pn A) (e : ∀ k, k < 22 → w' k = w k) : NowR vn vp nums w' n pn A := by
  obtain ⟨hG, g0, g1, g2⟩ := Gd_now h
  exact now_Gd (Gd_congr hG e) (by rw [e 0 (by omega)]; exact g0) (by rw [e 1 (by omega)]; exact g1) (fun k hk => by rw [e _ (by omega)]; exact g2 k hk)
/-- a new table in both -/
theorem now_new {vn vp : Int32} {nums nums' w w' : Nat → Int32} {n pn : Nat} {A B : Nat → Nat → Int} (h : NowR vn vp nums w n pn A) (h1 : Nc nums' B) (h2 : Wc w' B) (e0 : w' 0 = w 0) (e1 : w' 1 = w 1) (hT : Bt B) (hZ : Zr B n) (hE : Ext B) : NowR vn vp nums' w' n pn B := by
  obtain ⟨rfl, rfl, hN, ⟨⟨g0, g1, g4, hC⟩, hp, hpn⟩, -, -, -⟩ := h
  exact ⟨rfl, rfl, h1, ⟨⟨by rw [e0, g0], g1, g4, h2⟩, by rw [e1, hp], hpn⟩, hT, hZ, hE⟩
theorem set_now {vn vp : Int32} {nums w : Nat → Int32} {n pn : Nat} {A : Nat → Nat → Int} (h : NowR vn vp nums w n pn A) {i j : Nat} {v : Int} (hi : i < n) (hj : (j < n ∧ -9 ≤ v ∧ v ≤ 9) ∨ (j = 4 ∧ -99 ≤ v ∧ v ≤ 99)) : NowR vn vp (upd nums (5 * i + j) (zI v)) (upd w (2 + 5 * i + j) (zI v)) n pn (fun a b => if a = i ∧ b = j then v else A a b) := by
  have h' := h
  obtain ⟨-, -, hN, ⟨⟨g0, g1, g4, hC⟩, hp, hpn⟩, hT, hZ, hE⟩ := h
  refine now_new h' (Nc_set hN (by omega) (by omega) (by omega)) (Wc_set hC (by omega) (by omega) (by omega)) (pk_un (by omega)) (pk_un (by omega)) (fun a b ha hb => ?_) (fun a b ha hb hb4 => ?_) (fun a b ha hb hb9 => ?_)
  · show -9 ≤ (if a = i ∧ b = j then v else A a b) ∧ (if a = i ∧ b = j then v else A a b) ≤ 9
    by_cases c : a = i ∧ b = j
    · rw [if_pos c]; omega
    · rw [if_neg c]; exact hT a b ha hb
  · show (if a = i ∧ b = j then v else A a b) = 0
    rw [if_neg (by omega)]
    exact hZ a b ha hb hb4
  · show (if a = i ∧ b = j then v else A a b) = _
    rw [if_neg (by omega)]
    exact hE a b ha hb hb9
/-- the state behind a deed -/
def Dd (vn vp : Int32) (nums : Nat → Int32) (hc hn : Int32) (store : Nat → Int32) (kn : Int32) (w' w : Nat → Int32) : Prop := (∃ n pn A, NowR vn vp nums w' n pn A) ∧ HisR hc hn store kn w' ∧ ∀ i, 374 ≤ i → w' i = w i
theorem Dd_of {vn vp : Int32} {nums w : Nat → Int32} {n pn : Nat} {A : Nat → Nat → Int} (h : NowR vn vp nums w n pn A) {hc hn : Int32} {store : Nat → Int32} {kn : Int32} (hH : HisR hc hn store kn w) : Dd vn vp nums hc hn store kn w w := ⟨⟨n, pn, A, h⟩, hH, fun _ _ => rfl⟩
/-- one number changed, by both -/
theorem change_ag {F : Nat} (hF : 100 ≤ F) {vn vp : Int32} {nums w : Nat → Int32} {n pn : Nat} {A : Nat → Nat → Int} (h : NowR vn vp nums w n pn A) {hc hn : Int32} {store : Nat → Int32} {kn : Int32} (hH : HisR hc hn store kn w) {i j : Nat} {v : Int} (hi : i < n) (hj : (j < n ∧ -9 ≤ v ∧ v ≤ 9) ∨ (j = 4 ∧ -99 ≤ v ∧ v ≤ 99)) :
    ∃ nums' hc' hn' store' kn' w1 w', f_X11_change vn vp nums hc hn store (nI i) (nI j) (zI v) = some (zI (A i j) + 100, nums', hc', hn', store') ∧ f_X12_remember F kn w = some (kn', w1) ∧ (∀ k, k < 22 → w1 k = w k) ∧ f_X12_cell w1 (nI i) (nI j) = some (zJ (A i j)) ∧ f_X12_set w1 (nI i) (nI j) (zI v) = some w' ∧ Dd vn vp nums' hc' hn' store' kn' w' w := by
  obtain ⟨hc', hn', store', kn', w1, e1, e2, e3, e4, e5⟩ := remember_ag hF h hH
  have h1 := now_congr h e4
  have h2 := set_now h1 hi hj
  have hn4 := h.2.2.2.1.1.2.2.1
  refine ⟨upd nums (5 * i + j) (zI v), hc', hn', store', kn', w1, upd w1 (2 + 5 * i + j) (zI v), ?_, e2, e4, cell_ok h1.2.2.2.1.1.2.2.2 (by omega) (by omega), setM_ok w1 (by omega) (by omega) _, ⟨n, pn, _, h2⟩, HisR_congr e3 (fun k a b => pk_un (by omega)), fun k hk => by rw [pk_un (by omega)]; exact e5 k hk⟩
  unfold f_X11_change
  refine kb3_of e1 ?_
  refine kb1_of (number_ok h.2.2.1 (by omega) (by omega)) ?_
  exact kb1_of (setC_ok nums (by omega) (by omega) _) rfl
theorem zI_self (x : Int32) : zI x.toInt = x := Int32.ofInt_toInt x
theorem put_ag {F : Nat} (hF : 100 ≤ F) {vn vp : Int32} {nums w : Nat → Int32} {n pn : Nat} {A : Nat → Nat → Int} (h : NowR vn vp nums w n pn A) {hc hn : Int32} {store : Nat → Int32} {kn : Int32} (hH : HisR hc hn store kn w) (x1 x2 x3 : Int32) :
    ∃ r nums' hc' hn' store' kn' w', f_X11_put vn vp nums hc hn store x1 x2 x3 = some (r, nums', hc', hn', store') ∧ f_X12_put F kn w x1 x2 x3 = some (r, kn', w') ∧ Dd vn vp nums' hc' hn' store' kn' w' w := by
  have hW := h.2.2.2.1
  obtain rfl : vn = nI n := h.1
  have hin := inI x3 (lo := -9) (hi := 9) ⟨by decide, by decide⟩ ⟨by decide, by decide⟩
  rw [show zJ (-9) = (-9 : Int64) by decide, show zJ 9 = (9 : Int64) from rfl] at hin
  unfold f_X11_put f_X12_put
  rcases row_case hW.1 x1 with ⟨i, hi, rfl, e1, e2⟩ | ⟨e1, e2⟩
  · rcases row_case hW.1 x2 with ⟨j, hj, rfl, f1, f2⟩ | ⟨f1, f2⟩
    · by_cases c0 : x3 < (-9 : Int32)
      · refine ⟨-1000000002, nums, hc, hn, store, kn, w, ?_, ?_, Dd_of h hH⟩
        · exact kb1_of e1 (by rw [if_neg (by decide)]; exact kb1_of f1 (by rw [if_neg (by decide), if_pos c0]))
        · refine kb1_of e2 ?_
          rw [if_neg (by decide)]
          refine kb1_of f2 ?_
          rw [if_neg (by decide)]
          refine kb1_of hin ?_
          rw [if_neg (show ¬ (-9 ≤ x3.toInt ∧ x3.toInt ≤ 9) by rw [Int32.lt_iff_toInt_lt, show (-9 : Int32).toInt = -9 by decide] at c0; omega), if_pos rfl]
      · by_cases c1 : x3 ≤ (9 : Int32)
        · have v1 : -9 ≤ x3.toInt ∧ x3.toInt ≤ 9 := by
            rw [Int32.lt_iff_toInt_lt, show (-9 : Int32).toInt = -9 by decide] at c0
            rw [Int32.le_iff_toInt_le, show (9 : Int32).toInt = 9 by decide] at c1
            omega
          obtain ⟨nums', hc', hn', store', kn', w1, w', g1, g2, g3, g4, g5, g6⟩ := change_ag hF h hH (i := i) (j := j) (v := x3.toInt) hi (.inl ⟨hj, v1⟩)
          rw [zI_self] at g1 g5
          refine ⟨zI (A i j) + 100, nums', hc', hn', store', kn', w', ?_, ?_, g6⟩
          · exact kb1_of e1 (by rw [if_neg (by decide)]; exact kb1_of f1 (by rw [if_neg (by decide), if_neg c0, if_pos c1]; exact kb5_of g1 rfl))
          · refine kb1_of e2 ?_
            rw [if_neg (by decide)]
            refine kb1_of f2 ?_
            rw [if_neg (by decide)]
            refine kb1_of hin ?_
            rw [if_pos v1, if_neg (by decide)]
            refine kb2_of g2 ?_
            refine kb1_of g4 ?_
            refine kl_of (zJ_I _) ?_
            exact kb1_of g5 rfl
        · refine ⟨-1000000002, nums, hc, hn, store, kn, w, ?_, ?_, Dd_of h hH⟩
          · exact kb1_of e1 (by rw [if_neg (by decide)]; exact kb1_of f1 (by rw [if_neg (by decide), if_neg c0, if_neg c1]))
          · refine kb1_of e2 ?_
            rw [if_neg (by decide)]
            refine kb1_of f2 ?_
            rw [if_neg (by decide)]
            refine kb1_of hin ?_
            rw [if_neg (show ¬ (-9 ≤ x3.toInt ∧ x3.toInt ≤ 9) by rw [Int32.le_iff_toInt_le, show (9 : Int32).toInt = 9 by decide] at c1; omega), if_pos rfl]
    · exact ⟨-1000000001, nums, hc, hn, store, kn, w, kb1_of e1 (by rw [if_neg (by decide)]; exact kb1_of f1 (if_pos rfl)), kb1_of e2 (by rw [if_neg (by decide)]; exact kb1_of f2 (if_pos rfl)), Dd_of h hH⟩
  · exact ⟨-1000000001, nums, hc, hn, store, kn, w, kb1_of e1 (if_pos rfl), kb1_of e2 (if_pos rfl), Dd_of h hH⟩
theorem side_ag {F : Nat} (hF : 100 ≤ F) {vn vp : Int32} {nums w : Nat → Int32} {n pn : Nat} {A : Nat → Nat → Int} (h : NowR vn vp nums w n pn A) {hc hn : Int32} {store : Nat → Int32} {kn : Int32} (hH : HisR hc hn store kn w) (x1 x2 : Int32) :
    ∃ r nums' hc' hn' store' kn' w', f_X11_side vn vp nums hc hn store x1 x2 = some (r, nums', hc', hn', store') ∧ f_X12_side F kn w x1 x2 = some (r, kn', w') ∧ Dd vn vp nums' hc' hn' store' kn' w' w := by
  have hW := h.2.2.2.1
  obtain rfl : vn = nI n := h.1
  have hin := inI x2 (lo := -99) (hi := 99) ⟨by decide, by decide⟩ ⟨by decide, by decide⟩
  rw [show zJ (-99) = (-99 : Int64) by decide, show zJ 99 = (99 : Int64) from rfl] at hin
  unfold f_X11_side f_X12_side
  rcases row_case hW.1 x1 with ⟨i, hi, rfl, e1, e2⟩ | ⟨e1, e2⟩
  · by_cases c0 : x2 < (-99 : Int32)
    · refine ⟨-1000000002, nums, hc, hn, store, kn, w, ?_, ?_, Dd_of h hH⟩
      · exact kb1_of e1 (by rw [if_neg (by decide), if_pos c0])
      · refine kb1_of e2 ?_
        rw [if_neg (by decide)]
        refine kb1_of hin ?_
        rw [if_neg (show ¬ (-99 ≤ x2.toInt ∧ x2.toInt ≤ 99) by rw [Int32.lt_iff_toInt_lt, show (-99 : Int32).toInt = -99 by decide] at c0; omega), if_pos rfl]
    · by_cases c1 : x2 ≤ (99 : Int32)
      · have v1 : -99 ≤ x2.toInt ∧ x2.toInt ≤ 99 := by
          rw [Int32.lt_iff_toInt_lt, show (-99 : Int32).toInt = -99 by decide] at c0
          rw [Int32.le_iff_toInt_le, show (99 : Int32).toInt = 99 by decide] at c1
          omega
        obtain ⟨nums', hc', hn', store', kn', w1, w', g1, g2, g3, g4, g5, g6⟩ := change_ag hF h hH (i := i) (j := 4) (v := x2.toInt) hi (.inr ⟨rfl, v1⟩)
        rw [zI_self] at g1 g5
        refine ⟨zI (A i 4) + 100, nums', hc', hn', store', kn', w', ?_, ?_, g6⟩
        · exact kb1_of e1 (by rw [if_neg (by decide), if_neg c0, if_pos c1]; exact kb5_of g1 rfl)
        · refine kb1_of e2 ?_
          rw [if_neg (by decide)]
          refine kb1_of hin ?_
          rw [if_pos v1, if_neg (by decide)]
          refine kb2_of g2 ?_
          refine kb1_of g4 ?_
          refine kl_of (zJ_I _) ?_
          exact kb1_of g5 rfl
      · refine ⟨-1000000002, nums, hc, hn, store, kn, w, ?_, ?_, Dd_of h hH⟩
        · exact kb1_of e1 (by rw [if_neg (by decide), if_neg c0, if_neg c1])
        · refine kb1_of e2 ?_
          rw [if_neg (by decide)]
          refine kb1_of hin ?_
          rw [if_neg (show ¬ (-99 ≤ x2.toInt ∧ x2.toInt ≤ 99) by rw [Int32.le_iff_toInt_le, show (99 : Int32).toInt = 99 by decide] at c1; omega), if_pos rfl]
  · exact ⟨-1000000001, nums, hc, hn, store, kn, w, kb1_of e1 (if_pos rfl), kb1_of e2 (if_pos rfl), Dd_of h hH⟩
theorem prime_d {F : Nat} (hF : 100 ≤ F) {vn vp : Int32} {nums w : Nat → Int32} {n pn : Nat} {A : Nat → Nat → Int} (h : NowR vn vp nums w n pn A) {hc hn : Int32} {store : Nat → Int32} {kn : Int32} (hH : HisR hc hn store kn w) (x1 : Int32) :
    ∃ r vp' hc' hn' store' kn' w', f_X11_prime vn vp nums hc hn store x1 = some (r, vp', hc', hn', store') ∧ f_X12_prime F kn w x1 = some (r, kn', w') ∧ Dd vn vp' nums hc' hn' store' kn' w' w := by
  have hin := inI x1 (lo := 0) (hi := 24) ⟨by decide, by decide⟩ ⟨by decide, by decide⟩
  rw [show zJ 0 = (0 : Int64) from rfl, show zJ 24 = (24 : Int64) from rfl] at hin
  unfold f_X11_prime f_X12_prime
  by_cases c0 : x1 < 0
  · refine ⟨-1000000002, vp, hc, hn, store, kn, w, by rw [if_pos c0], ?_, Dd_of h hH⟩
    refine kb1_of hin ?_
    rw [if_neg (show ¬ (0 ≤ x1.toInt ∧ x1.toInt ≤ 24) by rw [lt0_toInt] at c0; omega), if_pos rfl]
  · by_cases c1 : x1 < (25 : Int32)
    · have c0' := c0
      have c1' := c1
      rw [lt0_toInt] at c0
      rw [Int32.lt_iff_toInt_lt, show (25 : Int32).toInt = 25 by decide] at c1
      rw [if_pos (by omega)] at hin
      obtain ⟨k, hk, rfl⟩ := toInt_nI (n := 25) (x := x1) (by omega) (by omega)
      obtain ⟨hc', hn', store', kn', w1, e1, e2, e3, e4, e5⟩ := remember_ag hF h hH
      have h2 : NowR vn (nI k) nums (upd w1 1 (nI k)) n k A := by
        obtain ⟨rfl, rfl, hN, ⟨⟨g0, g1, g4, hC⟩, hp, hpn⟩, hT, hZ, hE⟩ := now_congr h e4
        exact ⟨rfl, rfl, hN, ⟨⟨by rw [pk_un (by omega)]; exact g0, g1, g4, ⟨fun i j hi hj => by rw [pk_un (by omega)]; exact hC.1 i j hi hj, hC.2⟩⟩, pk_us, hk⟩, hT, hZ, hE⟩
      refine ⟨nI (prN k), nI k, hc', hn', store', kn', upd w1 1 (nI k), ?_, ?_, ⟨n, k, A, h2⟩, HisR_congr e3 (fun i a b => pk_un (by omega)), fun i hi => by rw [pk_un (by omega)]; exact e5 i hi⟩
      · rw [if_neg c0', if_pos c1']
        exact kb3_of e1 (kb1_of (p_c hk) rfl)
      · refine kb1_of hin ?_
        rw [if_neg (by decide)]
        refine kb2_of e2 ?_
        refine kl_of rfl ?_
        exact kb1_of (pm_ok hF h2.2.2.2.1) rfl
    · refine ⟨-1000000002, vp, hc, hn, store, kn, w, by rw [if_neg c0, if_neg c1], ?_, Dd_of h hH⟩
      refine kb1_of hin ?_
      rw [if_neg (show ¬ (0 ≤ x1.toInt ∧ x1.toInt ≤ 24) by rw [Int32.lt_iff_toInt_lt, show (25 : Int32).toInt = 25 by decide] at c1; omega), if_pos rfl]
theorem un_loop {F : Nat} (hF : 100 ≤ F) {n : Nat} (hn : 1 ≤ n) (hn2 : n ≤ 16) : ∀ (d k fu : Nat) (w : Nat → Int32), k + d = 17 - n → d < fu → ∃ w', L_X12_undo_29 F (nI n) fu (nI k) w = some w' ∧ ∀ i, w' i = if 22 * k ≤ i ∧ i < 22 * (17 - n) then w (i + 22 * n) else w i := by
  intro d
  induction d with
  | zero =>
    intro k fu w hk hfu
    obtain ⟨fu, rfl⟩ : ∃ g, fu = g + 1 := ⟨fu - 1, by omega⟩
    refine ⟨w, ?_, fun i => by rw [if_neg (by omega)]⟩
    rw [L_X12_undo_29, nI_add, if_pos (show (16 : Int32) < nI (k + n) from nI_lt (a := 16) (by omega) (by omega))]
  | succ d ih =>
    intro k fu w hk hfu
    obtain ⟨fu, rfl⟩ : ∃ g, fu = g + 1 := ⟨fu - 1, by omega⟩
    obtain ⟨w1, e1, e2⟩ := copyRow_ok hF (f := 22 * (k + n)) (t := 22 * k) (by omega) (by omega) (by omega) w
    obtain ⟨w', e3, e4⟩ := ih (k + 1) fu w1 (by omega) (by omega)
    refine ⟨w', ?_, fun i => ?_⟩
    · rw [L_X12_undo_29, nI_add, if_neg (show ¬ (16 : Int32) < nI (k + n) from nI_nlt (b := k + n) (a := 16) (by omega) (by omega))]
      refine kb1_of (a := w1) ?_ ?_
      · rw [show (22 : Int32) = nI 22 from rfl, iM, iM]; exact e1
      · exact kl_of (nI_1 k) e3
    · rw [e4 i]
      by_cases c : 22 * (k + 1) ≤ i ∧ i < 22 * (17 - n)
      · rw [if_pos c, if_pos (by omega), e2, if_neg (by omega)]
      · rw [if_neg c, e2]
        by_cases c2 : 22 * k ≤ i ∧ i < 22 * k + 22
        · rw [if_pos c2, if_pos (by omega)]
          congr 1
          omega
        · rw [if_neg c2, if_neg (by omega)]
theorem fm_fin : ∀ (t : Fin 16) (n : Fin 17), f_J9_floorMod_7cf53 (nI t.val - nI n.val) (16 : Int32) = some (nI ((t.val + 16 - n.val) % 16)) := by decide +kernel
theorem undo_ag {F : Nat} (hF : 100 ≤ F) {vn vp : Int32} {nums w : Nat → Int32} {n pn : Nat} {A : Nat → Nat → Int} (h : NowR vn vp nums w n pn A) {hc hn : Int32} {store : Nat → Int32} {kn : Int32} (hH : HisR hc hn store kn w) (x1 : Int32) :
    ∃ r vn' vp' nums' hc' hn' kn' w', f_X11_undo vn vp nums hc hn store x1 = some (r, vn', vp', nums', hc', hn') ∧ f_X12_undo F kn w x1 = some (r, kn', w') ∧ Dd vn' vp' nums' hc' hn' store kn' w' w := by
  have hin := inI x1 (lo := 1) (hi := 16) ⟨by decide, by decide⟩ ⟨by decide, by decide⟩
  rw [show zJ 1 = (1 : Int64) from rfl, show zJ 16 = (16 : Int64) from rfl] at hin
  unfold f_X11_undo f_X12_undo
  by_cases c0 : x1 < (1 : Int32)
  · refine ⟨-1000000002, vn, vp, nums, hc, hn, kn, w, by rw [if_pos c0], ?_, Dd_of h hH⟩
    refine kb1_of hin ?_
    rw [if_neg (show ¬ (1 ≤ x1.toInt ∧ x1.toInt ≤ 16) by rw [Int32.lt_iff_toInt_lt, show (1 : Int32).toInt = 1 by decide] at c0; omega), if_pos rfl]
  · by_cases c1 : x1 ≤ (16 : Int32)
    · have c0' := c0
      have c1' := c1
      rw [Int32.lt_iff_toInt_lt, show (1 : Int32).toInt = 1 by decide] at c0
      rw [Int32.le_iff_toInt_le, show (16 : Int32).toInt = 16 by decide] at c1
      rw [if_pos (by omega)] at hin
      obtain ⟨m, hm, rfl⟩ := toInt_nI (n := 17) (x := x1) (by omega) (by omega)
      rw [nI_toInt (by omega)] at c0 c1
      have hH' := hH
      obtain ⟨h0, t, h1, h2, rfl, rfl, rfl, h3⟩ := hH
      by_cases c2 : nI m ≤ nI h0
      · have c2' := (nI_leI (by omega) (by omega)).mp c2
        obtain ⟨w', u1, u2⟩ := un_loop hF (n := m) (by omega) (by omega) (17 - m) 0 F w (by omega) (by omega)
        obtain ⟨a, n', pn', A', b⟩ := h3 (m - 1) (by omega)
        obtain ⟨nums', r1, r2⟩ := readFrom_ok (N := 352) (f := (t + 16 - m) % 16 * 22) (by decide) (by omega) vn vp nums store
        have slot : ∀ k, k < 22 → store ((t + 16 - m) % 16 * 22 + k) = w' k := by
          intro k hk
          have := a k hk
          rw [show 22 * ((t + 15 - (m - 1)) % 16) + k = (t + 16 - m) % 16 * 22 + k by omega, show 22 * (m - 1 + 1) + k = k + 22 * m by omega] at this
          rw [this, u2, if_pos (by omega)]
        refine ⟨nI (h0 - m), store ((t + 16 - m) % 16 * 22), store ((t + 16 - m) % 16 * 22 + 1), nums', nI (h0 - m), nI ((t + 16 - m) % 16), nI (h0 - m), w', ?_, ?_, ⟨n', pn', A', now_Gd (Gd_congr b (fun k hk => ?_)) (slot 0 (by omega)) (slot 1 (by omega)) (fun k hk => ?_)⟩, ⟨h0 - m, (t + 16 - m) % 16, by omega, by omega, rfl, rfl, rfl, fun i hi => ?_⟩, fun i hi => ?_⟩
        · rw [if_neg c0', if_pos c1', if_pos c2]
          unfold f_X5_bringBack
          refine kb5_of ?_ rfl
          refine kb1_of (fm_fin ⟨t, h2⟩ ⟨m, by omega⟩) ?_
          refine kl_of (iS c2') ?_
          refine kb3_of ?_ rfl
          rw [show (22 : Int32) = nI 22 from rfl, iM]
          exact r1
        · refine kb1_of hin ?_
          rw [if_neg (by decide), if_pos c2]
          refine kb1_of u1 ?_
          exact kl_of (iS c2') rfl
        · show w' k = w (22 * (m - 1 + 1) + k)
          rw [u2, if_pos (by omega)]
          congr 1
          omega
        · rw [r2 k hk, show (t + 16 - m) % 16 * 22 + 2 + k = (t + 16 - m) % 16 * 22 + (2 + k) by omega]
          exact slot (2 + k) (by omega)
        · obtain ⟨a2, n2, pn2, A2, b2⟩ := h3 (i + m) (by omega)
          have e : ∀ k, k < 22 → w' (22 * (i + 1) + k) = w (22 * (i + m + 1) + k) := fun k hk => by
            rw [u2, if_pos (by omega)]
            congr 1
            omega
          refine ⟨fun k hk => ?_, n2, pn2, A2, Gd_congr b2 (fun k hk => e k hk)⟩
          rw [e k hk, ← a2 k hk]
          congr 1
          omega
        · rw [u2, if_neg (by omega)]
      · refine ⟨-1000000003, vn, vp, nums, nI h0, nI t, nI h0, w, by rw [if_neg c0', if_pos c1', if_neg c2], ?_, Dd_of h hH'⟩
        refine kb1_of hin ?_
        rw [if_neg (by decide), if_neg c2]
    · refine ⟨-1000000002, vn, vp, nums, hc, hn, kn, w, by rw [if_neg c0, if_neg c1], ?_, Dd_of h hH⟩
      refine kb1_of hin ?_
      rw [if_neg (show ¬ (1 ≤ x1.toInt ∧ x1.toInt ≤ 16) by rw [Int32.le_iff_toInt_le, show (16 : Int32).toInt = 16 by decide] at c1; omega), if_pos rfl]
