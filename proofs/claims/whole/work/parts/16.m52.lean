/-! ===== class and reference, call by call: solution, nothing, and by the prime ===== -/
theorem solution_ag {F : Nat} (hF : 2305430425 ≤ F) {vn vp : Int32} {nums w : Nat → Int32} {n pn : Nat} {A : Nat → Nat → Int} (h : NowR vn vp nums w n pn A) (cn cr ce : Int32) (csc : Int64) (rows : Nat → Nat → Int64) (ld : Nat → Int32) (a b : Int64) (rs cs : Nat → Int32) (x1 x2 : Int32) :
    Ag (f_X11_solution F vn nums cn cr ce 5 csc rows ld x1 x2) (f_X12_solution F a b w rs cs x1 x2) := by
  obtain ⟨k, ex, σ, l, X, s, rows', ld', e, hC, hM, hl⟩ := clr (show 100 ≤ F by omega) h cn cr ce csc rows ld
  obtain ⟨rfl, rfl, hN, hW, hT, hZ, hE⟩ := h
  obtain ⟨hn4, hkn⟩ := Ck_n hC
  rcases row_case hW.1 x1 with ⟨j, hj, rfl, e1, e2⟩ | ⟨e1, e2⟩
  · rcases part_case x2 with ⟨p0, p1, p2⟩ | ⟨p1, p2⟩
    · obtain ⟨rs1, cs1, ek⟩ := kind_m (show 100 ≤ F by omega) hW.1 hC rs cs
      have ef := fits_ok (show 100 ≤ F by omega) hC hM
      cases q : fitB n k X with
      | false =>
        rw [q] at ef ek
        refine Ag_of (r := -1) (a := (nI n, nI k, nI ex, zJ s, rows', ld')) (b := (a, b, rs1, cs1)) ?_ ?_
        · unfold f_X11_solution
          refine kb1_of e1 ?_
          rw [if_neg (by decide)]
          refine kb1_of p1 ?_
          rw [if_pos rfl]
          refine kb6_of e ?_
          refine kb1_of ef ?_
          rfl
        · unfold f_X12_solution
          refine kb1_of e2 ?_
          rw [if_neg (by decide)]
          refine kb1_of p2 ?_
          rw [if_neg (by decide)]
          refine kb3_of ek ?_
          rfl
      | true =>
        rw [q] at ef ek
        obtain ⟨r', r1, r2⟩ := shown_ok (slA l k X s j) (slB l k X s j) p0
        obtain ⟨rs2, cs2, es⟩ := sol_m hF hW.1 hC q (show j < 4 by omega) a b rs1 cs1
        refine Ag_of (r := r') (a := (nI n, nI k, nI ex, zJ s, rows', ld')) (b := (zJ (slA l k X s j), zJ (slB l k X s j), rs2, cs2)) ?_ ?_
        · unfold f_X11_solution
          refine kb1_of e1 ?_
          rw [if_neg (by decide)]
          refine kb1_of p1 ?_
          rw [if_pos rfl]
          refine kb6_of e ?_
          refine kb1_of ef ?_
          rw [if_neg (by decide)]
          refine kb1_of (solA_c (by omega) hC hM hl (by omega)) ?_
          refine kb1_of (solB_c (by omega) hC hM hl (by omega)) ?_
          exact kb1_of r1 rfl
        · unfold f_X12_solution
          refine kb1_of e2 ?_
          rw [if_neg (by decide)]
          refine kb1_of p2 ?_
          rw [if_neg (by decide)]
          refine kb3_of ek ?_
          rw [if_neg (by by_cases c : k = n <;> simp [c])]
          refine kb4_of es ?_
          exact r2 _
    · refine Ag_of (r := -1000000002) (a := (cn, cr, ce, csc, rows, ld)) (b := (a, b, rs, cs)) ?_ ?_
      · unfold f_X11_solution
        refine kb1_of e1 ?_
        rw [if_neg (by decide)]
        refine kb1_of p1 ?_
        rw [if_neg (by decide)]
      · unfold f_X12_solution
        refine kb1_of e2 ?_
        rw [if_neg (by decide)]
        refine kb1_of p2 ?_
        rw [if_pos rfl]
  · refine Ag_of (r := -1000000001) (a := (cn, cr, ce, csc, rows, ld)) (b := (a, b, rs, cs)) ?_ ?_
    · unfold f_X11_solution
      exact kb1_of e1 (if_pos rfl)
    · unfold f_X12_solution
      exact kb1_of e2 (if_pos rfl)
theorem nothing_ag {F : Nat} (hF : 2305430425 ≤ F) {vn vp : Int32} {nums w : Nat → Int32} {n pn : Nat} {A : Nat → Nat → Int} (h : NowR vn vp nums w n pn A) (cn cr ce : Int32) (csc : Int64) (rows : Nat → Nat → Int64) (ld : Nat → Int32) (a b : Int64) (rs cs : Nat → Int32) (zs : Nat → Int64) (x1 : Int32) :
    Ag (f_X11_nothing F vn nums cn cr ce 5 csc rows ld x1) (f_X12_nothing F a b w rs cs zs x1) := by
  obtain ⟨k, ex, σ, l, X, s, rows', ld', e, hC, hM, hl⟩ := clr (show 100 ≤ F by omega) h cn cr ce csc rows ld
  obtain ⟨rfl, rfl, hN, hW, hT, hZ, hE⟩ := h
  obtain ⟨hn4, hkn⟩ := Ck_n hC
  rcases row_case hW.1 x1 with ⟨j, hj, rfl, e1, e2⟩ | ⟨e1, e2⟩
  · obtain ⟨rs1, cs1, ek⟩ := rank_m (show 100 ≤ F by omega) hW.1 hC rs cs
    by_cases c : k = n
    · subst c
      refine Ag_of (r := -1) (a := (nI k, nI k, nI ex, zJ s, rows', ld')) (b := (a, b, rs1, cs1, zs)) ?_ ?_
      · unfold f_X11_nothing
        refine kb1_of e1 ?_
        rw [if_neg (by decide)]
        refine kb6_of e ?_
        rw [if_pos rfl]
      · unfold f_X12_nothing
        refine kb1_of e2 ?_
        rw [if_neg (by decide)]
        refine kb3_of ek ?_
        refine kb1_of (n_ok hW.1) ?_
        rw [if_pos rfl]
    · have hc : ¬ nI k = nI n := fun z => c ((nI_eq (by omega) (by omega)).mp z)
      obtain ⟨f, f1, f2, f3⟩ := vanishing_c (show 200 ≤ F by omega) hC hM hl
      obtain ⟨a', b', rs2, cs2, zs', z1, z2⟩ := nothing_m hF hW.1 hC (by omega) f1 f2 a b rs1 cs1 zs
      refine Ag_of (r := zI (zn l k f X s j) + 1000000000) (a := (nI n, nI k, nI ex, zJ s, rows', ld')) (b := (a', b', rs2, cs2, zs')) ?_ ?_
      · unfold f_X11_nothing
        refine kb1_of e1 ?_
        rw [if_neg (by decide)]
        refine kb6_of e ?_
        rw [if_neg hc]
        refine kb1_of (f3 j (by omega)) ?_
        rw [zJ_I]
      · unfold f_X12_nothing
        refine kb1_of e2 ?_
        rw [if_neg (by decide)]
        refine kb3_of ek ?_
        refine kb1_of (n_ok hW.1) ?_
        rw [if_neg hc]
        refine kb5_of z1 ?_
        rw [if_pos (show kin (nI j) 4 from kin_nI (by decide) (by omega)), nI_clamp (n := j) (by omega), z2 j hj, zJ_I]
  · refine Ag_of (r := -1000000001) (a := (cn, cr, ce, csc, rows, ld)) (b := (a, b, rs, cs, zs)) ?_ ?_
    · unfold f_X11_nothing
      exact kb1_of e1 (if_pos rfl)
    · unfold f_X12_nothing
      exact kb1_of e2 (if_pos rfl)
/-- the prime is bad, or the table has full rank and a solution -/
theorem bad_case {F : Nat} (hF : 100 ≤ F) {vn vp : Int32} {nums w : Nat → Int32} {n pn : Nat} {A : Nat → Nat → Int} (h : NowR vn vp nums w n pn A) (rn rr re rq : Int32) (rrows : Nat → Nat → Int64) (rs cs : Nat → Int32) :
    (∃ k ex rows' rs' cs', f_X11_primeIsBad F vn vp nums rn rr re 9 rq rrows = some (1, nI n, nI k, nI ex, nI (prN pn), rows') ∧ f_X12_isBad F w rs cs = some (1, rs', cs') ∧ (prN pn : Int) ∣ Dt A n) ∨
    (∃ ex σ l Y rows' rs' cs', f_X11_primeIsBad F vn vp nums rn rr re 9 rq rrows = some (0, nI n, nI n, nI ex, nI (prN pn), rows') ∧ f_X12_isBad F w rs cs = some (0, rs', cs') ∧ (¬ (prN pn : Int) ∣ Dt A n) ∧ InR (prN pn) A n n n σ l Y ∧ Mt 9 rows' Y) := by
  obtain ⟨rfl, rfl, hN, hW, hT, hZ, hE⟩ := h
  obtain ⟨k, ex, σ, l, Y, rows', e, hR, hM⟩ := primeIsBad_ok hF hN hE hW.1.2.1 hW.1.2.2.1 hW.2.2 rn rr re rq rrows
  obtain ⟨rs', cs', e2⟩ := isBad_ok hF hW rs cs
  by_cases c : (prN pn : Int) ∣ Dt A n
  · rw [if_pos c] at e e2
    exact .inl ⟨k, ex, rows', rs', cs', e, e2, c⟩
  · rw [if_neg c] at e e2
    have hk : k = n := by
      have := mt (bad_iff (Pm_pr hW.2.2) hW.1.2.1 hR).mp c
      have := hR.1.2.1
      omega
    subst hk
    exact .inr ⟨ex, σ, l, Y, rows', rs', cs', e, e2, c, hR, hM⟩
theorem good {vn vp : Int32} {nums w : Nat → Int32} {n pn : Nat} {A : Nat → Nat → Int} (h : NowR vn vp nums w n pn A) (hD : ¬ (prN pn : Int) ∣ Dt A n) : ∃ ex σ l X s c u, Ck A n n ex σ l X s ∧ Sy (prN pn) A n s (slA l n X s) (slB l n X s) c u ∧ ∀ j, j < n → rp (prN pn) (u j) := by
  obtain ⟨k, ex, σ, l, X, s, rows', ld', e, hC, hM, hl⟩ := clr (F := 100) (by decide) h 0 0 0 0 (fun _ _ => 0) (fun _ => 0)
  obtain ⟨rfl, rfl, hN, hW, hT, hZ, hE⟩ := h
  have hk : k = n := full_of_det hC.2.2.1 hW.1.2.1 (fun z => hD (by show (prN pn : Int) ∣ Mn A (2 ^ n - 1) (2 ^ n - 1); rw [z]; exact Int.dvd_zero _))
  subst hk
  obtain ⟨c, u, h1, h2⟩ := Sy_of (Pm_pr hW.2.2) hC hD
  exact ⟨ex, σ, l, X, s, c, u, hC, h1, h2⟩
theorem back_ag {F : Nat} (hF : 2305430425 ≤ F) {vn vp : Int32} {nums w : Nat → Int32} {n pn : Nat} {A : Nat → Nat → Int} (h : NowR vn vp nums w n pn A) (rn rr re rq : Int32) (rrows : Nat → Nat → Int64) (rs cs : Nat → Int32) (x1 x2 : Int32) :
    Ag (f_X11_back F vn vp nums rn rr re 9 rq rrows x1 x2) (f_X12_back F w rs cs x1 x2) := by
  have hb := bad_case (show 100 ≤ F by omega) h rn rr re rq rrows rs cs
  obtain ⟨rfl, rfl, hN, hW, hT, hZ, hE⟩ := h
  have hn4 := hW.1.2.2.1
  rcases row_case hW.1 x1 with ⟨i, hi, rfl, e1, e2⟩ | ⟨e1, e2⟩
  · rcases row_case hW.1 x2 with ⟨j, hj, rfl, f1, f2⟩ | ⟨f1, f2⟩
    · rcases hb with ⟨k, ex, rows', rs', cs', b1, b2, b3⟩ | ⟨ex, σ, l, Y, rows', rs', cs', b1, b2, b3, b4, b5⟩
      · refine Ag_of (r := -1000000003) (a := (nI n, nI k, nI ex, nI (prN pn), rows')) (b := (rs', cs')) ?_ ?_
        · unfold f_X11_back
          refine kb1_of e1 ?_
          rw [if_neg (by decide)]
          refine kb1_of f1 ?_
          rw [if_neg (by decide)]
          refine kb6_of b1 ?_
          rw [if_neg (by decide)]
        · unfold f_X12_back
          refine kb1_of e2 ?_
          rw [if_neg (by decide)]
          refine kb1_of f2 ?_
          rw [if_neg (by decide)]
          refine kb3_of b2 ?_
          rw [if_neg (by decide)]
      · obtain ⟨rs2, cs2, g⟩ := backM_ok (show 100 ≤ F by omega) hW hE b4 b3 hi hj rs' cs'
        refine Ag_of (r := zI (Y i (5 + j))) (a := (nI n, nI n, nI ex, nI (prN pn), rows')) (b := (rs2, cs2)) ?_ ?_
        · unfold f_X11_back
          refine kb1_of e1 ?_
          rw [if_neg (by decide)]
          refine kb1_of f1 ?_
          rw [if_neg (by decide)]
          refine kb6_of b1 ?_
          rw [if_pos rfl]
          exact kb1_of (backc_ok b5 (by omega) (by omega)) rfl
        · unfold f_X12_back
          refine kb1_of e2 ?_
          rw [if_neg (by decide)]
          refine kb1_of f2 ?_
          rw [if_neg (by decide)]
          refine kb3_of b2 ?_
          rw [if_pos rfl]
          refine kb3_of g ?_
          rw [zJ_I]
    · refine Ag_of (r := -1000000001) (a := (rn, rr, re, rq, rrows)) (b := (rs, cs)) ?_ ?_
      · unfold f_X11_back
        refine kb1_of e1 ?_
        rw [if_neg (by decide)]
        exact kb1_of f1 (if_pos rfl)
      · unfold f_X12_back
        refine kb1_of e2 ?_
        rw [if_neg (by decide)]
        exact kb1_of f2 (if_pos rfl)
  · refine Ag_of (r := -1000000001) (a := (rn, rr, re, rq, rrows)) (b := (rs, cs)) ?_ ?_
    · unfold f_X11_back
      exact kb1_of e1 (if_pos rfl)
    · unfold f_X12_back
      exact kb1_of e2 (if_pos rfl)
theorem digit_ag {F : Nat} (hF : 2305430425 ≤ F) {vn vp : Int32} {nums w : Nat → Int32} {n pn : Nat} {A : Nat → Nat → Int} (h : NowR vn vp nums w n pn A) (rn rr re rq : Int32) (rrows : Nat → Nat → Int64) (pw : Int64) (rests dg : Nat → Int32) (md : Nat → Int64) (a b la lb : Int64) (rs cs : Nat → Int32) (x1 x2 : Int32) :
    Ag (f_X11_digit F vn vp nums rn rr re 9 rq rrows pw rests dg md x1 x2) (f_X12_digit F a b la lb w rs cs x1 x2) := by
  have hb := bad_case (show 100 ≤ F by omega) h rn rr re rq rrows rs cs
  have hg := good h
  obtain ⟨rfl, rfl, hN, hW, hT, hZ, hE⟩ := h
  have hn4 := hW.1.2.2.1
  have hp := Pm_pr hW.2.2
  rcases row_case hW.1 x1 with ⟨j, hj, rfl, e1, e2⟩ | ⟨e1, e2⟩
  · rcases dig_case x2 with ⟨k, hk, rfl, f1, f2⟩ | ⟨f1, f2⟩
    · rcases hb with ⟨k', ex, rows', rs', cs', b1, b2, b3⟩ | ⟨ex, σ, l, Y, rows', rs', cs', b1, b2, b3, b4, b5⟩
      · refine Ag_of (r := -1000000003) (a := (nI n, nI k', nI ex, nI (prN pn), rows', pw, rests, dg, md)) (b := (a, b, la, lb, rs', cs')) ?_ ?_
        · unfold f_X11_digit
          refine kb1_of e1 ?_
          rw [if_neg (by decide)]
          refine kb1_of f1 ?_
          rw [if_pos rfl]
          refine kb6_of b1 ?_
          rw [if_neg (by decide)]
        · unfold f_X12_digit
          refine kb1_of e2 ?_
          rw [if_neg (by decide)]
          refine kb1_of f2 ?_
          rw [if_neg (by decide)]
          refine kb3_of b2 ?_
          rw [if_neg (by decide)]
      · obtain ⟨ex', σ', l', X, s, c, u, hC, hS, hu⟩ := hg b3
        obtain ⟨pw', rests', dg', md', g1, g2, g3, g4, g5⟩ := lift_ok (F := F) (by omega) hN hE hW.2.2 b4 b5 (K := k + 1) (by omega) pw rests dg md
        obtain ⟨rs2, cs2, m1⟩ := digitM_ok hF hW hC hS hu hj (k := k) (by omega) a b la lb rs' cs'
        refine Ag_of (r := zI (dgt (prN pn) (slB l' n X s j) (u j) (slA l' n X s j) k)) (a := (nI n, nI n, nI ex, nI (prN pn), rows', pw', rests', dg', md')) (b := (zJ (slA l' n X s j), zJ (slB l' n X s j), zJ (lft (prN pn) (slB l' n X s j) (u j) (slA l' n X s j) (k + 1)), zJ (slB l' n X s j), rs2, cs2)) ?_ ?_
        · unfold f_X11_digit
          refine kb1_of e1 ?_
          rw [if_neg (by decide)]
          refine kb1_of f1 ?_
          rw [if_pos rfl]
          refine kb6_of b1 ?_
          rw [if_pos rfl, nI_1]
          refine kb4_of g1 ?_
          rw [if_pos (show kin (nI j) 4 from kin_nI (by decide) (by omega)), nI_clamp (n := j) (by omega), g5 k rfl j hj, dgK hp hE b4 b3 hS k hj]
        · unfold f_X12_digit
          refine kb1_of e2 ?_
          rw [if_neg (by decide)]
          refine kb1_of f2 ?_
          rw [if_neg (by decide)]
          refine kb3_of b2 ?_
          rw [if_pos rfl]
          exact kb7_of m1 rfl
    · refine Ag_of (r := -1000000002) (a := (rn, rr, re, rq, rrows, pw, rests, dg, md)) (b := (a, b, la, lb, rs, cs)) ?_ ?_
      · unfold f_X11_digit
        refine kb1_of e1 ?_
        rw [if_neg (by decide)]
        exact kb1_of f1 (if_neg (by decide))
      · unfold f_X12_digit
        refine kb1_of e2 ?_
        rw [if_neg (by decide)]
        exact kb1_of f2 (if_pos rfl)
  · refine Ag_of (r := -1000000001) (a := (rn, rr, re, rq, rrows, pw, rests, dg, md)) (b := (a, b, la, lb, rs, cs)) ?_ ?_
    · unfold f_X11_digit
      exact kb1_of e1 (if_pos rfl)
    · unfold f_X12_digit
      exact kb1_of e2 (if_pos rfl)
