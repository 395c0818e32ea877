/-! ===== class and reference, call by call: near, short, cut ===== -/
/-- what the class divides -/
def qt (a b : Int) : UInt64 := FP.ddiv (FP.l2d (zJ a)) (FP.l2d (zJ b))
theorem qt_0 {b : Int} (hb : 1 ≤ b) (hb2 : b.natAbs < 2 ^ 53) : qt 0 b = 0 := by
  have h := whole_div (a := 0) (by decide) hb hb2
  have hv : FP.Core.val64 (qt 0 b) = .fin false 0 FP.Core.b64.qmin := h
  refine FP.Core.val64_inj (by rw [hv]; intro e; cases e) ?_
  rw [hv]
  exact FP.Core.val64_dconst0.symm
theorem nearest_c {F : Nat} (hF : 200 ≤ F) {A : Nat → Nat → Int} (hT : Bt A) {n k ex : Nat} {σ l : Nat → Nat} {X : Nat → Nat → Int} {s : Int} (h : Ck A n k ex σ l X s) {v : Nat → Nat → Int64} (hM : Mt 5 v X) {ld : Nat → Int32} (hl : ∀ i, i < k → ld i = nI (l i)) {j : Nat} (hj : j < 2 ^ 31) : f_X1_nearest F (nI k) (zJ s) v ld (nI j) = some (qt (slA l k X s j) (slB l k X s j)) := by
  obtain ⟨b1, b2, b3⟩ := sl_b hT h j
  unfold f_X1_nearest
  refine kb1_of (solB_c hF h hM hl hj) ?_
  refine kl_of rfl ?_
  rw [l2d_pos b2 (by omega), if_neg (show ¬ cmpValue (some .gt) .l ≤ 0 by decide)]
  refine kb1_of (solA_c hF h hM hl hj) ?_
  rw [if_pos]
  · rfl
  · refine kq64_of ?_
    rw [whole_div (by omega) b2 (by omega)]
    exact FP.Core.roundRatio_ne_nan _ _ _ _ _
/-- the solution that is not 0: the double, and the reference's bits of it -/
theorem qt_n {F : Nat} (hF : 100 ≤ F) {a b : Int} (ha : a.natAbs < 2 ^ 21) (h0 : a ≠ 0) (hb : 1 ≤ b) (hb2 : b.natAbs < 2 ^ 32) (v1 v2 : Int32) (v3 : Int64) :
    ∃ (C : Nat) (P : Int) (s : Bool), f_X12_layNear F (zJ a) (zJ b) v1 v2 v3 = some (bI s, zI P, zJ (C : Int)) ∧ -33 ≤ P ∧ P ≤ 21 ∧ N64 (qt a b) s C (P - 52) := by
  obtain ⟨C, P, e1, e2, e3, e4, e5, e6⟩ := layNear_ok hF ha h0 hb hb2 v1 v2 v3
  refine ⟨C, P, decide (a < 0), e1, e4, e5, ?_, e2, e3, by omega, by omega⟩
  rw [← e6]
  exact whole_div (by omega) hb (by omega)
theorem bod_0 (F : Nat) : f_X11_bitsOfDouble F 0 = some 0 := by
  unfold f_X11_bitsOfDouble
  rw [show FP.dcmp 0 FP.dconst0 = some .eq by decide +kernel]
  simp only [kj1]
  rw [if_pos (show (0 : Int32) ≤ cmpValue (some .eq) .g by decide)]
  refine kb1_of (a := 0) ?_ ?_
  · unfold f_X11_bitsOfSize
    rw [show FP.dcmp 0 FP.dconst0 = some .eq by decide +kernel, if_pos (show cmpValue (some .eq) .l = 0 by decide)]
  · rw [if_pos (show (0 : Int32) ≤ cmpValue (some .eq) .g by decide)]
theorem d2f_0 : FP.d2f 0 = 0 := by decide +kernel
theorem f2d_0 : FP.f2d 0 = 0 := by decide +kernel
theorem bof_0 (F : Nat) : f_X11_bitsOfFloat F 0 = some 0 := by
  unfold f_X11_bitsOfFloat
  rw [show FP.fcmp 0 FP.fconst0 = some .eq by decide +kernel, f2d_0]
  simp only [kj1]
  rw [if_pos (show (0 : Int32) ≤ cmpValue (some .eq) .g by decide), if_pos (show kq64 0 by decide)]
  refine kb1_of (a := 0) ?_ ?_
  · unfold f_X11_bitsOfSize
    rw [show FP.dcmp 0 FP.dconst0 = some .eq by decide +kernel, if_pos (show cmpValue (some .eq) .l = 0 by decide)]
  · rw [if_pos (show (0 : Int32) ≤ cmpValue (some .eq) .g by decide)]
/-- near, short and cut: three pairs of functions of the solution -/
theorem near_v {F : Nat} (hF : 1000 ≤ F) {a b : Int} (ha : a.natAbs < 2 ^ 21) (hb : 1 ≤ b) (hb2 : b.natAbs < 2 ^ 32) (v1 v2 : Int32) (v3 : Int64) : ∃ r z, f_X11_bitsOfDouble F (qt a b) = some r ∧ f_X12_nearNow F (zJ a) (zJ b) v1 v2 v3 = some (r, z) := by
  by_cases c : a = 0
  · subst c
    refine ⟨0, (0, 0, 0), by rw [qt_0 hb (by omega)]; exact bod_0 F, ?_⟩
    unfold f_X12_nearNow
    exact kb3_of (layNear_0 ..) (if_pos rfl)
  · obtain ⟨C, P, s, e1, e2, e3, e4⟩ := qt_n (F := F) (by omega) ha c hb hb2 v1 v2 v3
    exact ⟨_, _, bod_ok hF e4 (by omega) (by omega), nearNow_ok e1 e4.2.1 e4.2.2.1 (by omega) (by omega)⟩
theorem short_v {F : Nat} (hF : 1000 ≤ F) {a b : Int} (ha : a.natAbs < 2 ^ 21) (hb : 1 ≤ b) (hb2 : b.natAbs < 2 ^ 32) (v1 v2 : Int32) (v3 : Int64) : ∃ r z, kq32 (FP.d2f (qt a b)) ∧ f_X11_bitsOfFloat F (FP.d2f (qt a b)) = some r ∧ f_X12_shortNow F (zJ a) (zJ b) v1 v2 v3 = some (r, z) := by
  by_cases c : a = 0
  · subst c
    refine ⟨0, (0, 0, 0), by rw [qt_0 hb (by omega), d2f_0]; decide, by rw [qt_0 hb (by omega), d2f_0]; exact bof_0 F, ?_⟩
    unfold f_X12_shortNow f_X12_layShort
    refine kb3_of (kb3_of (layNear_0 ..) (if_pos (by decide))) (if_pos rfl)
  · obtain ⟨C, P, s, e1, e2, e3, e4⟩ := qt_n (F := F) (by omega) ha c hb hb2 v1 v2 v3
    have hs := layShort_ok e1 e4.2.1 e4.2.2.1
    have hf := d2f_n e4 (by omega) (by omega)
    have hu : up24 (FP.Core.nearest C (2 ^ 29)) = 0 ∨ up24 (FP.Core.nearest C (2 ^ 29)) = 1 := by unfold up24; split <;> simp
    rw [show P - 52 + 29 + up24 (FP.Core.nearest C (2 ^ 29)) = P + up24 (FP.Core.nearest C (2 ^ 29)) - 23 by omega] at hf
    exact ⟨_, _, N32_q hf, bof_ok hF hf (by omega) (by omega), shortNow_ok hs hf.2.1 hf.2.2.1 (by omega) (by omega)⟩
theorem cut_v {F : Nat} (hF : 1000 ≤ F) {a b : Int} (ha : a.natAbs < 2 ^ 21) (hb : 1 ≤ b) (hb2 : b.natAbs < 2 ^ 32) (v1 v2 : Int32) (v3 : Int64) : ∃ r z, kq32 (FP.d2f (qt a b)) ∧ kq32 (FP.fmul (FP.d2f (qt a b)) 1148846080) ∧ (FP.f2i (FP.fmul (FP.d2f (qt a b)) 1148846080)).toInt64 = r ∧ f_X12_cutNow F (zJ a) (zJ b) v1 v2 v3 = some (r, z) := by
  by_cases c : a = 0
  · subst c
    refine ⟨0, (0, 0, 0), by rw [qt_0 hb (by omega), d2f_0]; decide, by rw [qt_0 hb (by omega), d2f_0]; decide +kernel, by rw [qt_0 hb (by omega), d2f_0]; decide +kernel, ?_⟩
    unfold f_X12_cutNow f_X12_layShort
    refine kb3_of (kb3_of (layNear_0 ..) (if_pos (by decide))) (if_pos rfl)
  · obtain ⟨C, P, s, e1, e2, e3, e4⟩ := qt_n (F := F) (by omega) ha c hb hb2 v1 v2 v3
    have hs := layShort_ok e1 e4.2.1 e4.2.2.1
    have hf := d2f_n e4 (by omega) (by omega)
    have hu : up24 (FP.Core.nearest C (2 ^ 29)) = 0 ∨ up24 (FP.Core.nearest C (2 ^ 29)) = 1 := by unfold up24; split <;> simp
    rw [show P - 52 + 29 + up24 (FP.Core.nearest C (2 ^ 29)) = P + up24 (FP.Core.nearest C (2 ^ 29)) - 23 by omega] at hf
    obtain ⟨out, z1, z2, z3, o1, o2, o3, o4⟩ := cutNow_ok hF hs hf.2.1 hf.2.2.1 (by omega) (by omega)
    have hm := f1000 hf o2 o3 (by omega) (by omega)
    refine ⟨_, _, N32_q hf, N32_q hm, ?_, o4⟩
    rw [f2i_n hm, zI_J]
    unfold cV
    exact ⟨by omega, by omega⟩
theorem why_case {F : Nat} (hF : 2305430425 ≤ F) {vn vp : Int32} {nums w : Nat → Int32} {n pn : Nat} {A : Nat → Nat → Int} (h : NowR vn vp nums w n pn A) (cn cr ce : Int32) (csc : Int64) (rows : Nat → Nat → Int64) (ld : Nat → Int32) (rs cs : Nat → Int32) (x1 : Int32) :
    (f_X11_whyNoValue F vn nums cn cr ce 5 csc rows ld x1 = some (-1000000001, cn, cr, ce, csc, rows, ld) ∧ f_X12_isRow w x1 = some 0) ∨
    (∃ z rs' cs', f_X11_whyNoValue F vn nums cn cr ce 5 csc rows ld x1 = some (-1, z) ∧ f_X12_isRow w x1 = some 1 ∧ f_X12_kind F w rs cs = some (0, rs', cs')) ∨
    (∃ k ex l X s rows' ld' kd rs' cs' a b, f_X11_whyNoValue F vn nums cn cr ce 5 csc rows ld x1 = some (0, nI n, nI k, nI ex, zJ s, rows', ld') ∧ f_X12_isRow w x1 = some 1 ∧ f_X12_kind F w rs cs = some (kd, rs', cs') ∧ (¬ kd = 0) ∧ f_X1_nearest F (nI k) (zJ s) rows' ld' x1 = some (qt a b) ∧ (∀ a0 b0 rs cs, ∃ rs' cs', f_X12_laySolution F a0 b0 w rs cs x1 = some (zJ a, zJ b, rs', cs')) ∧ a = slA l k X s x1.toNatClampNeg ∧ a.natAbs < 2 ^ 21 ∧ 1 ≤ b ∧ b.natAbs < 2 ^ 32) := by
  obtain ⟨k, ex, σ, l, X, s, rows', ld', e, hC, hM, hl⟩ := clr (show 100 ≤ F by omega) h cn cr ce csc rows ld
  obtain ⟨rfl, rfl, hN, hW, hT, hZ, hE⟩ := h
  obtain ⟨hn4, hkn⟩ := Ck_n hC
  rcases row_case hW.1 x1 with ⟨j, hj, rfl, e1, e2⟩ | ⟨e1, e2⟩
  · obtain ⟨rs1, cs1, ek⟩ := kind_m (show 100 ≤ F by omega) hW.1 hC rs cs
    have ef := fits_ok (show 100 ≤ F by omega) hC hM
    cases q : fitB n k X with
    | false =>
      rw [q] at ef ek
      refine .inr (.inl ⟨(nI n, nI k, nI ex, zJ s, rows', ld'), rs1, cs1, ?_, e2, ek⟩)
      unfold f_X11_whyNoValue
      refine kb1_of e1 ?_
      rw [if_neg (by decide)]
      refine kb6_of e ?_
      exact kb1_of ef rfl
    | true =>
      rw [q] at ef ek
      obtain ⟨b1, b2, b3⟩ := sl_b hT hC j
      refine .inr (.inr ⟨k, ex, l, X, s, rows', ld', _, rs1, cs1, slA l k X s j, slB l k X s j, ?_, e2, ek, ?_, nearest_c (by omega) hT hC hM hl (by omega), fun a0 b0 rs cs => sol_m hF hW.1 hC q (show j < 4 by omega) a0 b0 rs cs, by rw [nI_clamp (n := j) (by omega)], b1, b2, b3⟩)
      · unfold f_X11_whyNoValue
        refine kb1_of e1 ?_
        rw [if_neg (by decide)]
        refine kb6_of e ?_
        exact kb1_of ef rfl
      · by_cases c : k = n <;> simp [c]
  · refine .inl ⟨?_, e2⟩
    unfold f_X11_whyNoValue
    exact kb1_of e1 (if_pos rfl)
theorem near_ag {F : Nat} (hF : 2305430425 ≤ F) {vn vp : Int32} {nums w : Nat → Int32} {n pn : Nat} {A : Nat → Nat → Int} (h : NowR vn vp nums w n pn A) (cn cr ce : Int32) (csc : Int64) (rows : Nat → Nat → Int64) (ld : Nat → Int32) (a0 b0 : Int64) (v1 v2 : Int32) (v3 : Int64) (rs cs : Nat → Int32) (x1 : Int32) :
    Ag (f_X11_near F vn nums cn cr ce 5 csc rows ld x1) (f_X12_near F a0 b0 v1 v2 v3 w rs cs x1) := by
  unfold f_X11_near f_X12_near
  rcases why_case hF h cn cr ce csc rows ld rs cs x1 with ⟨e1, e2⟩ | ⟨z, rs', cs', e1, e2, e3⟩ | ⟨k, ex, l, X, s, rows', ld', kd, rs', cs', a, b, e1, e2, e3, e4, e5, e6, -, e7, e8, e9⟩
  · exact Ag_of (kb7_of e1 (if_neg (by decide))) (kb1_of e2 (if_pos rfl))
  · obtain ⟨z1, z2, z3, z4, z5, z6⟩ := z
    exact Ag_of (r := -1) (kb7_of e1 (if_neg (by decide))) (kb1_of e2 (by rw [if_neg (by decide)]; exact kb3_of e3 (if_pos rfl)))
  · obtain ⟨rs2, cs2, es⟩ := e6 a0 b0 rs' cs'
    obtain ⟨r, z, q1, q2⟩ := near_v (F := F) (by omega) e7 e8 e9 v1 v2 v3
    obtain ⟨z1, z2, z3⟩ := z
    refine Ag_of (kb7_of e1 (by rw [if_pos rfl]; exact kb1_of e5 (kb1_of q1 rfl))) (kb1_of e2 (by rw [if_neg (by decide)]; exact kb3_of e3 (by rw [if_neg e4]; exact kb4_of es (kb4_of q2 rfl))))
theorem shortly_ag {F : Nat} (hF : 2305430425 ≤ F) {vn vp : Int32} {nums w : Nat → Int32} {n pn : Nat} {A : Nat → Nat → Int} (h : NowR vn vp nums w n pn A) (cn cr ce : Int32) (csc : Int64) (rows : Nat → Nat → Int64) (ld : Nat → Int32) (a0 b0 : Int64) (v1 v2 : Int32) (v3 : Int64) (rs cs : Nat → Int32) (x1 : Int32) :
    Ag (f_X11_shortly F vn nums cn cr ce 5 csc rows ld x1) (f_X12_shortly F a0 b0 v1 v2 v3 w rs cs x1) := by
  unfold f_X11_shortly f_X12_shortly
  rcases why_case hF h cn cr ce csc rows ld rs cs x1 with ⟨e1, e2⟩ | ⟨z, rs', cs', e1, e2, e3⟩ | ⟨k, ex, l, X, s, rows', ld', kd, rs', cs', a, b, e1, e2, e3, e4, e5, e6, -, e7, e8, e9⟩
  · exact Ag_of (kb7_of e1 (if_neg (by decide))) (kb1_of e2 (if_pos rfl))
  · obtain ⟨z1, z2, z3, z4, z5, z6⟩ := z
    exact Ag_of (r := -1) (kb7_of e1 (if_neg (by decide))) (kb1_of e2 (by rw [if_neg (by decide)]; exact kb3_of e3 (if_pos rfl)))
  · obtain ⟨rs2, cs2, es⟩ := e6 a0 b0 rs' cs'
    obtain ⟨r, z, q0, q1, q2⟩ := short_v (F := F) (by omega) e7 e8 e9 v1 v2 v3
    obtain ⟨z1, z2, z3⟩ := z
    refine Ag_of (kb7_of e1 (by rw [if_pos rfl]; exact kb1_of e5 (by rw [if_pos q0]; exact kb1_of q1 rfl))) (kb1_of e2 (by rw [if_neg (by decide)]; exact kb3_of e3 (by rw [if_neg e4]; exact kb4_of es (kb4_of q2 rfl))))
theorem cut_ag {F : Nat} (hF : 2305430425 ≤ F) {vn vp : Int32} {nums w : Nat → Int32} {n pn : Nat} {A : Nat → Nat → Int} (h : NowR vn vp nums w n pn A) (cn cr ce : Int32) (csc : Int64) (rows : Nat → Nat → Int64) (ld : Nat → Int32) (a0 b0 : Int64) (v1 v2 : Int32) (v3 : Int64) (rs cs : Nat → Int32) (x1 : Int32) :
    Ag (f_X11_cut F vn nums cn cr ce 5 csc rows ld x1) (f_X12_cut F a0 b0 v1 v2 v3 w rs cs x1) := by
  unfold f_X11_cut f_X12_cut
  rcases why_case hF h cn cr ce csc rows ld rs cs x1 with ⟨e1, e2⟩ | ⟨z, rs', cs', e1, e2, e3⟩ | ⟨k, ex, l, X, s, rows', ld', kd, rs', cs', a, b, e1, e2, e3, e4, e5, e6, -, e7, e8, e9⟩
  · exact Ag_of (kb7_of e1 (if_neg (by decide))) (kb1_of e2 (if_pos rfl))
  · obtain ⟨z1, z2, z3, z4, z5, z6⟩ := z
    exact Ag_of (r := -1) (kb7_of e1 (if_neg (by decide))) (kb1_of e2 (by rw [if_neg (by decide)]; exact kb3_of e3 (if_pos rfl)))
  · obtain ⟨rs2, cs2, es⟩ := e6 a0 b0 rs' cs'
    obtain ⟨r, z, q0, q1, q3, q2⟩ := cut_v (F := F) (by omega) e7 e8 e9 v1 v2 v3
    obtain ⟨z1, z2, z3⟩ := z
    refine Ag_of (kb7_of e1 (by rw [if_pos rfl]; exact kb1_of e5 (by rw [if_pos q0, if_pos q1]; exact kl_of rfl (by rw [q3])))) (kb1_of e2 (by rw [if_neg (by decide)]; exact kb3_of e3 (by rw [if_neg e4]; exact kb4_of es (kb4_of q2 rfl))))
