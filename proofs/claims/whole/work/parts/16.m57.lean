/-! ===== told ===== -/
theorem sm_i {α : Type} {x y : α} (h : some x = some y) : x = y := by injection h
theorem told_ag {F : Nat} (hF : 2305430425 ≤ F) {vn vp : Int32} {nums w : Nat → Int32} {n pn : Nat} {A : Nat → Nat → Int} (h : NowR vn vp nums w n pn A) {bc : Int32} {un pl va : Nat → Int32} {wr : Int32} {bo ba bi : Nat → Int32} (hB : BookR bc un pl va wr bo ba bi) {hc kn : Int32} (hh : hc = kn) (cn cr ce : Int32) (csc : Int64) (rows : Nat → Nat → Int64) (ld : Nat → Int32) (rn rr re rq : Int32) (rrows : Nat → Nat → Int64) (pw : Int64) (rests dg : Nat → Int32) (md : Nat → Int64) (we wt waf war : Int32) (wpw : Int64) (wrests wdg : Nat → Int32) (wmd : Nat → Int64) (wgf : Int32) (wga wgb : Int64) (a b la lb u v : Int64) (rs cs : Nat → Int32) (x1 : Int32) :
    Ag (f_X11_told F vn vp nums cn cr ce 5 csc rows ld rn rr re 9 rq rrows pw rests dg md we wt waf war wpw wrests wdg wmd wgf wga wgb hc bc un pl va x1) (f_X12_told F kn wr a b la lb u v w bo ba bi rs cs x1) := by
  have T := table_ag hF h cn cr ce csc rows ld a b rs cs
  have P := prime_ag hF h rn rr re rq rrows rs cs
  have G := guesses_ag hF h cn cr ce csc rows ld rn rr re rq rrows we wt waf war wpw wrests wdg wmd wgf wga wgb a b u v rs cs
  have Wg := wrong_ag hF h hB rn rr re rq rrows pw rests dg md a b la lb rs cs
  obtain ⟨rfl, rfl, hN, hW, hT, hZ, hE⟩ := h
  obtain ⟨T2, T3, T4, T5, T6, T7, T9⟩ := T
  obtain ⟨P8, P10, P11⟩ := P
  obtain ⟨G12, G13, G14⟩ := G
  by_cases c0 : x1 = 0
  · subst c0
    exact Ag_of (by unfold f_X11_told; rw [if_pos rfl]) (by unfold f_X12_told; rw [if_pos rfl]; exact kb1_of (n_ok hW.1) rfl)
  by_cases c1 : x1 = 1
  · subst c1
    exact Ag_of (by unfold f_X11_told; rw [if_neg (by decide), if_pos rfl]; exact kb1_of (p_c hW.2.2) rfl) (by unfold f_X12_told; rw [if_neg (by decide), if_pos rfl]; exact kb1_of (pm_ok (by omega) hW) rfl)
  by_cases c2 : x1 = 2
  · subst c2
    obtain ⟨r, z, y, e1, e2⟩ := T2
    obtain ⟨z1, z2, z3, z4, z5, z6⟩ := z
    obtain ⟨d0, d1, d2, e3, e4⟩ := kb3_e e2
    have e5 := congrArg Prod.fst (sm_i e4)
    simp only at e5
    exact Ag_of (by unfold f_X11_told; rw [if_neg (by decide), if_neg (by decide), if_pos rfl]; exact kb7_of e1 rfl) (by unfold f_X12_told; rw [if_neg (by decide), if_neg (by decide), if_pos rfl]; exact kb3_of e3 (by rw [e5]))
  by_cases c3 : x1 = 3
  · subst c3
    obtain ⟨r, z, y, e1, e2⟩ := T3
    obtain ⟨z1, z2, z3, z4, z5, z6⟩ := z
    obtain ⟨y1, y2⟩ := y
    exact Ag_of (by unfold f_X11_told; rw [if_neg (by decide), if_neg (by decide), if_neg (by decide), if_pos rfl]; exact kb7_of e1 rfl) (by unfold f_X12_told; rw [if_neg (by decide), if_neg (by decide), if_neg (by decide), if_pos rfl]; exact kb3_of e2 rfl)
  by_cases c4 : x1 = 4
  · subst c4
    obtain ⟨r, z, y, e1, e2⟩ := T4
    obtain ⟨z1, z2, z3, z4, z5, z6⟩ := z
    obtain ⟨y1, y2⟩ := y
    exact Ag_of (by unfold f_X11_told; rw [if_neg (by decide), if_neg (by decide), if_neg (by decide), if_neg (by decide), if_pos rfl]; exact kb7_of e1 rfl) (by unfold f_X12_told; rw [if_neg (by decide), if_neg (by decide), if_neg (by decide), if_neg (by decide), if_pos rfl]; exact kb3_of e2 rfl)
  by_cases c5 : x1 = 5
  · subst c5
    obtain ⟨r, z, y, e1, e2⟩ := T5
    obtain ⟨z1, z2, z3, z4, z5, z6⟩ := z
    obtain ⟨y1, y2⟩ := y
    exact Ag_of (by unfold f_X11_told; rw [if_neg (by decide), if_neg (by decide), if_neg (by decide), if_neg (by decide), if_neg (by decide), if_pos rfl]; exact kb7_of e1 rfl) (by unfold f_X12_told; rw [if_neg (by decide), if_neg (by decide), if_neg (by decide), if_neg (by decide), if_neg (by decide), if_pos rfl]; exact kb3_of e2 rfl)
  by_cases c6 : x1 = 6
  · subst c6
    obtain ⟨r, z, y, e1, e2⟩ := T6
    obtain ⟨z1, z2, z3, z4, z5, z6⟩ := z
    obtain ⟨y1, y2⟩ := y
    exact Ag_of (by unfold f_X11_told; rw [if_neg (by decide), if_neg (by decide), if_neg (by decide), if_neg (by decide), if_neg (by decide), if_neg (by decide), if_pos rfl]; exact kb7_of e1 rfl) (by unfold f_X12_told; rw [if_neg (by decide), if_neg (by decide), if_neg (by decide), if_neg (by decide), if_neg (by decide), if_neg (by decide), if_pos rfl]; exact kb3_of e2 rfl)
  by_cases c7 : x1 = 7
  · subst c7
    obtain ⟨r, z, y, e1, e2⟩ := T7
    obtain ⟨z1, z2, z3, z4, z5, z6⟩ := z
    obtain ⟨y1, y2, y3, y4⟩ := y
    exact Ag_of (by unfold f_X11_told; rw [if_neg (by decide), if_neg (by decide), if_neg (by decide), if_neg (by decide), if_neg (by decide), if_neg (by decide), if_neg (by decide), if_pos rfl]; exact kb7_of e1 rfl) (by unfold f_X12_told; rw [if_neg (by decide), if_neg (by decide), if_neg (by decide), if_neg (by decide), if_neg (by decide), if_neg (by decide), if_neg (by decide), if_pos rfl]; exact kb5_of e2 rfl)
  by_cases c8 : x1 = 8
  · subst c8
    obtain ⟨r, z, y, e1, e2⟩ := P8
    obtain ⟨z1, z2, z3, z4, z5⟩ := z
    obtain ⟨d0, d1, d2, e3, e4⟩ := kb3_e e2
    by_cases q : d0 = 0
    · rw [if_pos q] at e4
      have e5 : (0 : Int32) = r := congrArg Prod.fst (sm_i e4)
      exact Ag_of (by unfold f_X11_told; rw [if_neg (by decide), if_neg (by decide), if_neg (by decide), if_neg (by decide), if_neg (by decide), if_neg (by decide), if_neg (by decide), if_neg (by decide), if_pos rfl]; exact kb6_of e1 rfl) (by unfold f_X12_told; rw [if_neg (by decide), if_neg (by decide), if_neg (by decide), if_neg (by decide), if_neg (by decide), if_neg (by decide), if_neg (by decide), if_neg (by decide)]; unfold f_X12_toldOfPrime; refine kb9_of (by rw [if_pos rfl]; exact kb3_of e3 (by rw [if_pos q, e5])) rfl)
    · rw [if_neg q] at e4
      have e5 : (1 : Int32) = r := congrArg Prod.fst (sm_i e4)
      exact Ag_of (by unfold f_X11_told; rw [if_neg (by decide), if_neg (by decide), if_neg (by decide), if_neg (by decide), if_neg (by decide), if_neg (by decide), if_neg (by decide), if_neg (by decide), if_pos rfl]; exact kb6_of e1 rfl) (by unfold f_X12_told; rw [if_neg (by decide), if_neg (by decide), if_neg (by decide), if_neg (by decide), if_neg (by decide), if_neg (by decide), if_neg (by decide), if_neg (by decide)]; unfold f_X12_toldOfPrime; refine kb9_of (by rw [if_pos rfl]; exact kb3_of e3 (by rw [if_neg q, e5])) rfl)
  by_cases c9 : x1 = 9
  · subst c9
    obtain ⟨r, z, y, e1, e2⟩ := T9
    obtain ⟨z1, z2, z3, z4, z5, z6⟩ := z
    obtain ⟨y1, y2⟩ := y
    exact Ag_of (by unfold f_X11_told; rw [if_neg (by decide), if_neg (by decide), if_neg (by decide), if_neg (by decide), if_neg (by decide), if_neg (by decide), if_neg (by decide), if_neg (by decide), if_neg (by decide), if_pos rfl]; exact kb7_of e1 rfl) (by unfold f_X12_told; rw [if_neg (by decide), if_neg (by decide), if_neg (by decide), if_neg (by decide), if_neg (by decide), if_neg (by decide), if_neg (by decide), if_neg (by decide)]; unfold f_X12_toldOfPrime; refine kb9_of (by rw [if_neg (by decide), if_pos rfl]; exact kb3_of e2 rfl) rfl)
  by_cases c10 : x1 = 10
  · subst c10
    obtain ⟨r, z, y, e1, e2⟩ := P10
    obtain ⟨z1, z2, z3, z4, z5⟩ := z
    obtain ⟨y1, y2⟩ := y
    obtain ⟨d0, e3, e4⟩ := kb1_e e2
    obtain ⟨d1, e5, e6⟩ := kb1_e e4
    exact Ag_of (by unfold f_X11_told; rw [if_neg (by decide), if_neg (by decide), if_neg (by decide), if_neg (by decide), if_neg (by decide), if_neg (by decide), if_neg (by decide), if_neg (by decide), if_neg (by decide), if_neg (by decide), if_pos rfl]; exact kb6_of e1 rfl) (by unfold f_X12_told; rw [if_neg (by decide), if_neg (by decide), if_neg (by decide), if_neg (by decide), if_neg (by decide), if_neg (by decide), if_neg (by decide), if_neg (by decide)]; unfold f_X12_toldOfPrime; refine kb9_of (by rw [if_neg (by decide), if_neg (by decide), if_pos rfl]; exact kb1_of e3 (kb1_of e5 (kb3_of e6 rfl))) rfl)
  by_cases c11 : x1 = 11
  · subst c11
    obtain ⟨r, z, y, e1, e2⟩ := P11
    obtain ⟨z1, z2, z3, z4, z5⟩ := z
    obtain ⟨y1, y2⟩ := y
    exact Ag_of (by unfold f_X11_told; rw [if_neg (by decide), if_neg (by decide), if_neg (by decide), if_neg (by decide), if_neg (by decide), if_neg (by decide), if_neg (by decide), if_neg (by decide), if_neg (by decide), if_neg (by decide), if_neg (by decide), if_pos rfl]; exact kb6_of e1 rfl) (by unfold f_X12_told; rw [if_neg (by decide), if_neg (by decide), if_neg (by decide), if_neg (by decide), if_neg (by decide), if_neg (by decide), if_neg (by decide), if_neg (by decide)]; unfold f_X12_toldOfPrime; refine kb9_of (by rw [if_neg (by decide), if_neg (by decide), if_neg (by decide), if_pos rfl]; exact kb3_of e2 rfl) rfl)
  by_cases c12 : x1 = 12
  · subst c12
    obtain ⟨r, z, y, e1, e2⟩ := G12
    obtain ⟨z1, z2, z3, z4, z5, z6, z7, z8, z9, z10, z11, z12, z13, z14, z15, z16, z17, z18, z19, z20, z21, z22⟩ := z
    obtain ⟨d0, d1, d2, e3, e4⟩ := kb3_e e2
    by_cases q : d0 = 0
    · rw [if_pos q] at e4
      obtain ⟨d3, e5, e6⟩ := kb1_e e4
      have e7 : d3 = r := congrArg Prod.fst (sm_i e6)
      exact Ag_of (by unfold f_X11_told; rw [if_neg (by decide), if_neg (by decide), if_neg (by decide), if_neg (by decide), if_neg (by decide), if_neg (by decide), if_neg (by decide), if_neg (by decide), if_neg (by decide), if_neg (by decide), if_neg (by decide), if_neg (by decide), if_pos rfl]; exact kb23_of e1 rfl) (by unfold f_X12_told; rw [if_neg (by decide), if_neg (by decide), if_neg (by decide), if_neg (by decide), if_neg (by decide), if_neg (by decide), if_neg (by decide), if_neg (by decide)]; unfold f_X12_toldOfPrime; refine kb9_of (by rw [if_neg (by decide), if_neg (by decide), if_neg (by decide), if_neg (by decide), if_pos rfl]; exact kb3_of e3 (by rw [if_pos q]; exact kb1_of e5 (by rw [e7]))) rfl)
    · rw [if_neg q] at e4
      have e5 : (-1 : Int32) = r := congrArg Prod.fst (sm_i e4)
      exact Ag_of (by unfold f_X11_told; rw [if_neg (by decide), if_neg (by decide), if_neg (by decide), if_neg (by decide), if_neg (by decide), if_neg (by decide), if_neg (by decide), if_neg (by decide), if_neg (by decide), if_neg (by decide), if_neg (by decide), if_neg (by decide), if_pos rfl]; exact kb23_of e1 rfl) (by unfold f_X12_told; rw [if_neg (by decide), if_neg (by decide), if_neg (by decide), if_neg (by decide), if_neg (by decide), if_neg (by decide), if_neg (by decide), if_neg (by decide)]; unfold f_X12_toldOfPrime; refine kb9_of (by rw [if_neg (by decide), if_neg (by decide), if_neg (by decide), if_neg (by decide), if_pos rfl]; exact kb3_of e3 (by rw [if_neg q, e5])) rfl)
  by_cases c13 : x1 = 13
  · subst c13
    obtain ⟨r, z, y, e1, e2⟩ := G13
    obtain ⟨z1, z2, z3, z4, z5, z6, z7, z8, z9, z10, z11, z12, z13, z14, z15, z16, z17, z18, z19, z20, z21, z22⟩ := z
    obtain ⟨d0, d1, d2, e3, e4⟩ := kb3_e e2
    by_cases q : d0 = 0
    · rw [if_pos q] at e4
      obtain ⟨y1, y2, y3, y4, y5, y6⟩ := y
      exact Ag_of (by unfold f_X11_told; rw [if_neg (by decide), if_neg (by decide), if_neg (by decide), if_neg (by decide), if_neg (by decide), if_neg (by decide), if_neg (by decide), if_neg (by decide), if_neg (by decide), if_neg (by decide), if_neg (by decide), if_neg (by decide), if_neg (by decide), if_pos rfl]; exact kb23_of e1 rfl) (by unfold f_X12_told; rw [if_neg (by decide), if_neg (by decide), if_neg (by decide), if_neg (by decide), if_neg (by decide), if_neg (by decide), if_neg (by decide), if_neg (by decide)]; unfold f_X12_toldOfPrime; refine kb9_of (by rw [if_neg (by decide), if_neg (by decide), if_neg (by decide), if_neg (by decide), if_neg (by decide), if_pos rfl]; exact kb3_of e3 (by rw [if_pos q]; exact kb7_of e4 rfl)) rfl)
    · rw [if_neg q] at e4
      have e5 : (-1 : Int32) = r := congrArg Prod.fst (sm_i e4)
      exact Ag_of (by unfold f_X11_told; rw [if_neg (by decide), if_neg (by decide), if_neg (by decide), if_neg (by decide), if_neg (by decide), if_neg (by decide), if_neg (by decide), if_neg (by decide), if_neg (by decide), if_neg (by decide), if_neg (by decide), if_neg (by decide), if_neg (by decide), if_pos rfl]; exact kb23_of e1 rfl) (by unfold f_X12_told; rw [if_neg (by decide), if_neg (by decide), if_neg (by decide), if_neg (by decide), if_neg (by decide), if_neg (by decide), if_neg (by decide), if_neg (by decide)]; unfold f_X12_toldOfPrime; refine kb9_of (by rw [if_neg (by decide), if_neg (by decide), if_neg (by decide), if_neg (by decide), if_neg (by decide), if_pos rfl]; exact kb3_of e3 (by rw [if_neg q, e5])) rfl)
  by_cases c14 : x1 = 14
  · subst c14
    obtain ⟨r, z, y, e1, e2⟩ := G14
    obtain ⟨z1, z2, z3, z4, z5, z6, z7, z8, z9, z10, z11, z12, z13, z14, z15, z16, z17, z18, z19, z20, z21, z22⟩ := z
    obtain ⟨d0, d1, d2, e3, e4⟩ := kb3_e e2
    by_cases q : d0 = 0
    · rw [if_pos q] at e4
      obtain ⟨y1, y2, y3, y4, y5, y6⟩ := y
      exact Ag_of (by unfold f_X11_told; rw [if_neg (by decide), if_neg (by decide), if_neg (by decide), if_neg (by decide), if_neg (by decide), if_neg (by decide), if_neg (by decide), if_neg (by decide), if_neg (by decide), if_neg (by decide), if_neg (by decide), if_neg (by decide), if_neg (by decide), if_neg (by decide), if_pos rfl]; exact kb23_of e1 rfl) (by unfold f_X12_told; rw [if_neg (by decide), if_neg (by decide), if_neg (by decide), if_neg (by decide), if_neg (by decide), if_neg (by decide), if_neg (by decide), if_neg (by decide)]; unfold f_X12_toldOfPrime; refine kb9_of (by rw [if_neg (by decide), if_neg (by decide), if_neg (by decide), if_neg (by decide), if_neg (by decide), if_neg (by decide), if_pos rfl]; exact kb3_of e3 (by rw [if_pos q]; exact kb7_of e4 rfl)) rfl)
    · rw [if_neg q] at e4
      have e5 : (-1 : Int32) = r := congrArg Prod.fst (sm_i e4)
      exact Ag_of (by unfold f_X11_told; rw [if_neg (by decide), if_neg (by decide), if_neg (by decide), if_neg (by decide), if_neg (by decide), if_neg (by decide), if_neg (by decide), if_neg (by decide), if_neg (by decide), if_neg (by decide), if_neg (by decide), if_neg (by decide), if_neg (by decide), if_neg (by decide), if_pos rfl]; exact kb23_of e1 rfl) (by unfold f_X12_told; rw [if_neg (by decide), if_neg (by decide), if_neg (by decide), if_neg (by decide), if_neg (by decide), if_neg (by decide), if_neg (by decide), if_neg (by decide)]; unfold f_X12_toldOfPrime; refine kb9_of (by rw [if_neg (by decide), if_neg (by decide), if_neg (by decide), if_neg (by decide), if_neg (by decide), if_neg (by decide), if_pos rfl]; exact kb3_of e3 (by rw [if_neg q, e5])) rfl)
  by_cases c15 : x1 = 15
  · subst c15
    obtain ⟨c, J, K, V, hc0, rfl, rfl, hB⟩ := hB
    exact Ag_of (by unfold f_X11_told; rw [if_neg (by decide), if_neg (by decide), if_neg (by decide), if_neg (by decide), if_neg (by decide), if_neg (by decide), if_neg (by decide), if_neg (by decide), if_neg (by decide), if_neg (by decide), if_neg (by decide), if_neg (by decide), if_neg (by decide), if_neg (by decide), if_neg (by decide), if_pos rfl]) (by unfold f_X12_told; rw [if_neg (by decide), if_neg (by decide), if_neg (by decide), if_neg (by decide), if_neg (by decide), if_neg (by decide), if_neg (by decide), if_neg (by decide)]; unfold f_X12_toldOfPrime; exact kb9_of (by rw [if_neg (by decide), if_neg (by decide), if_neg (by decide), if_neg (by decide), if_neg (by decide), if_neg (by decide), if_neg (by decide), if_pos rfl]) rfl)
  by_cases c16 : x1 = 16
  · subst c16
    obtain ⟨r, z, y, e1, e2⟩ := Wg
    obtain ⟨z1, z2, z3, z4, z5, z6, z7, z8, z9⟩ := z
    obtain ⟨y1, y2, y3, y4, y5, y6⟩ := y
    exact Ag_of (by unfold f_X11_told; rw [if_neg (by decide), if_neg (by decide), if_neg (by decide), if_neg (by decide), if_neg (by decide), if_neg (by decide), if_neg (by decide), if_neg (by decide), if_neg (by decide), if_neg (by decide), if_neg (by decide), if_neg (by decide), if_neg (by decide), if_neg (by decide), if_neg (by decide), if_neg (by decide), if_pos rfl]; exact kb10_of e1 rfl) (by unfold f_X12_told; rw [if_neg (by decide), if_neg (by decide), if_neg (by decide), if_neg (by decide), if_neg (by decide), if_neg (by decide), if_neg (by decide), if_neg (by decide)]; unfold f_X12_toldOfPrime; refine kb9_of (by rw [if_neg (by decide), if_neg (by decide), if_neg (by decide), if_neg (by decide), if_neg (by decide), if_neg (by decide), if_neg (by decide), if_neg (by decide), if_pos rfl]; exact kb7_of e2 rfl) rfl)
  by_cases c17 : x1 = 17
  · subst c17
    subst hh
    exact Ag_of (by unfold f_X11_told; rw [if_neg (by decide), if_neg (by decide), if_neg (by decide), if_neg (by decide), if_neg (by decide), if_neg (by decide), if_neg (by decide), if_neg (by decide), if_neg (by decide), if_neg (by decide), if_neg (by decide), if_neg (by decide), if_neg (by decide), if_neg (by decide), if_neg (by decide), if_neg (by decide), if_neg (by decide), if_pos rfl]) (by unfold f_X12_told; rw [if_neg (by decide), if_neg (by decide), if_neg (by decide), if_neg (by decide), if_neg (by decide), if_neg (by decide), if_neg (by decide), if_neg (by decide)]; unfold f_X12_toldOfPrime; exact kb9_of (by rw [if_neg (by decide), if_neg (by decide), if_neg (by decide), if_neg (by decide), if_neg (by decide), if_neg (by decide), if_neg (by decide), if_neg (by decide), if_neg (by decide), if_pos rfl]) rfl)
  exact Ag_of (r := -1000000002) (by unfold f_X11_told; rw [if_neg c0, if_neg c1, if_neg c2, if_neg c3, if_neg c4, if_neg c5, if_neg c6, if_neg c7, if_neg c8, if_neg c9, if_neg c10, if_neg c11, if_neg c12, if_neg c13, if_neg c14, if_neg c15, if_neg c16, if_neg c17]) (by unfold f_X12_told; rw [if_neg c0, if_neg c1, if_neg c2, if_neg c3, if_neg c4, if_neg c5, if_neg c6, if_neg c7]; unfold f_X12_toldOfPrime; exact kb9_of (by rw [if_neg c8, if_neg c9, if_neg c10, if_neg c11, if_neg c12, if_neg c13, if_neg c14, if_neg c15, if_neg c16, if_neg c17]) rfl)
