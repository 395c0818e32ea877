/-! ===== class and reference, call by call: rest, guess, near, short, cut ===== -/
theorem rest_ag {F : Nat} (hF : 2305430425 ≤ F) {vn vp : Int32} {nums w : Nat → Int32} {n pn : Nat} {A : Nat → Nat → Int} (h : NowR vn vp nums w n pn A) (rn rr re rq : Int32) (rrows : Nat → Nat → Int64) (pw : Int64) (rests dg : Nat → Int32) (md : Nat → Int64) (a b la lb : Int64) (rs cs : Nat → Int32) (x1 x2 : Int32) :
    Ag (f_X11_rest F vn vp nums rn rr re 9 rq rrows pw rests dg md x1 x2) (f_X12_rest F a b la lb w rs cs x1 x2) := by
  have hb := bad_case (show 100 ≤ F by omega) h rn rr re rq rrows rs cs
  have hg := good h
  obtain ⟨rfl, rfl, hN, hW, hT, hZ, hE⟩ := h
  have hn4 := hW.1.2.2.1
  have hp := Pm_pr hW.2.2
  have hin := inI x2 (lo := 0) (hi := 100) ⟨by decide, by decide⟩ ⟨by decide, by decide⟩
  rw [show zJ 0 = (0 : Int64) from rfl, show zJ 100 = (100 : Int64) from rfl] at hin
  rcases row_case hW.1 x1 with ⟨i, hi, rfl, e1, e2⟩ | ⟨e1, e2⟩
  · by_cases c0 : x2 < 0
    · refine Ag_of (r := -1000000002) (a := (rn, rr, re, rq, rrows, pw, rests, dg, md)) (b := (a, b, la, lb, rs, cs)) ?_ ?_
      · unfold f_X11_rest
        refine kb1_of e1 ?_
        rw [if_neg (by decide), if_pos c0]
      · unfold f_X12_rest
        refine kb1_of e2 ?_
        rw [if_neg (by decide)]
        refine kb1_of hin ?_
        rw [if_neg (show ¬ (0 ≤ x2.toInt ∧ x2.toInt ≤ 100) by rw [lt0_toInt] at c0; omega), if_pos rfl]
    · by_cases c1 : x2 ≤ (100 : Int32)
      · have c0' := c0
        have c1' := c1
        rw [lt0_toInt] at c0
        rw [Int32.le_iff_toInt_le, show (100 : Int32).toInt = 100 from rfl] at c1
        rw [if_pos (by omega)] at hin
        obtain ⟨k, hk, rfl⟩ := toInt_nI (n := 101) (x := x2) (by omega) (by omega)
        rcases hb with ⟨k', ex, rows', rs', cs', b1, b2, b3⟩ | ⟨ex, σ, l, Y, rows', rs', cs', b1, b2, b3, b4, b5⟩
        · refine Ag_of (r := -1000000003) (a := (nI n, nI k', nI ex, nI (prN pn), rows', pw, rests, dg, md)) (b := (a, b, la, lb, rs', cs')) ?_ ?_
          · unfold f_X11_rest
            refine kb1_of e1 ?_
            rw [if_neg (by decide), if_neg c0', if_pos c1']
            refine kb6_of b1 ?_
            rw [if_neg (by decide)]
          · unfold f_X12_rest
            refine kb1_of e2 ?_
            rw [if_neg (by decide)]
            refine kb1_of hin ?_
            rw [if_neg (by decide)]
            refine kb3_of b2 ?_
            rw [if_neg (by decide)]
        · obtain ⟨ex', σ', l', X, s, c, u, hC, hS, hu⟩ := hg b3
          obtain ⟨pw', rests', dg', md', g1, g2, g3, g4, g5⟩ := lift_ok (F := F) (by omega) hN hE hW.2.2 b4 b5 (K := k) (by omega) pw rests dg md
          obtain ⟨a', b', la', lb', rs2, cs2, m1⟩ := restM_ok hF hW hE hC hS hu b3 b4 hi (k := k) (by omega) a b la lb rs' cs'
          refine Ag_of (r := zI (rsK (prN pn) A n Y k i) + 1000000000) (a := (nI n, nI n, nI ex, nI (prN pn), rows', pw', rests', dg', md')) (b := (a', b', la', lb', rs2, cs2)) ?_ ?_
          · unfold f_X11_rest
            refine kb1_of e1 ?_
            rw [if_neg (by decide), if_neg c0', if_pos c1']
            refine kb6_of b1 ?_
            rw [if_pos rfl]
            refine kb4_of g1 ?_
            rw [if_pos (show kin (nI i) 4 from kin_nI (by decide) (by omega)), nI_clamp (n := i) (by omega), g3 i hi]
          · unfold f_X12_rest
            refine kb1_of e2 ?_
            rw [if_neg (by decide)]
            refine kb1_of hin ?_
            rw [if_neg (by decide)]
            refine kb3_of b2 ?_
            rw [if_pos rfl]
            refine kb7_of m1 ?_
            rw [zJ_I]
      · refine Ag_of (r := -1000000002) (a := (rn, rr, re, rq, rrows, pw, rests, dg, md)) (b := (a, b, la, lb, rs, cs)) ?_ ?_
        · unfold f_X11_rest
          refine kb1_of e1 ?_
          rw [if_neg (by decide), if_neg c0, if_neg c1]
        · unfold f_X12_rest
          refine kb1_of e2 ?_
          rw [if_neg (by decide)]
          refine kb1_of hin ?_
          rw [if_neg (show ¬ (0 ≤ x2.toInt ∧ x2.toInt ≤ 100) by rw [Int32.le_iff_toInt_le, show (100 : Int32).toInt = 100 from rfl] at c1; omega), if_pos rfl]
  · refine Ag_of (r := -1000000001) (a := (rn, rr, re, rq, rrows, pw, rests, dg, md)) (b := (a, b, la, lb, rs, cs)) ?_ ?_
    · unfold f_X11_rest
      exact kb1_of e1 (if_pos rfl)
    · unfold f_X12_rest
      exact kb1_of e2 (if_pos rfl)
/-- the power for a guess: too great or none for both, or p to the k -/
theorem pow_case {F : Nat} (hF : 100 ≤ F) {p : Nat} (hp : 2 ≤ p) (hp2 : p < 98) (x : Int32) :
    (f_X11_powerForGuess F (nI p) x = some (-1) ∧ (f_X12_in x.toInt64 (1 : Int64) (62 : Int64) = some 0 ∨ (f_X12_in x.toInt64 (1 : Int64) (62 : Int64) = some 1 ∧ f_X12_power F (zJ (p : Int)) x = some 0))) ∨
    (∃ k, 1 ≤ k ∧ x = nI k ∧ p ^ k ≤ 2000000000000000000 ∧ f_X11_powerForGuess F (nI p) x = some (zJ ((p ^ k : Nat) : Int)) ∧ f_X12_in x.toInt64 (1 : Int64) (62 : Int64) = some 1 ∧ f_X12_power F (zJ (p : Int)) x = some (zJ ((p ^ k : Nat) : Int))) := by
  have hin := inI x (lo := 1) (hi := 62) ⟨by decide, by decide⟩ ⟨by decide, by decide⟩
  rw [show zJ 1 = (1 : Int64) from rfl, show zJ 62 = (62 : Int64) from rfl] at hin
  rw [hin]
  by_cases c : (1 : Int32) ≤ x
  · have c' := c
    rw [Int32.le_iff_toInt_le, show (1 : Int32).toInt = 1 from rfl] at c
    obtain ⟨k, hk, rfl⟩ := toInt_nI (n := 2 ^ 31) (x := x) (by omega) (by have := Int32.toInt_lt x; omega)
    rw [nI_toInt hk] at c hin ⊢
    rw [powerC_ok hF hp hp2 (by omega) hk, powerM_ok hF hp hp2 hk]
    by_cases d : p ^ k ≤ 2000000000000000000
    · have := pw_le hp d
      rw [if_pos d, if_pos (by omega), if_pos d]
      exact .inr ⟨k, by omega, rfl, d, rfl, rfl, rfl⟩
    · rw [if_neg d, if_neg d]
      refine .inl ⟨rfl, ?_⟩
      by_cases e : 1 ≤ (k : Int) ∧ (k : Int) ≤ 62
      · rw [if_pos e]; exact .inr ⟨rfl, rfl⟩
      · rw [if_neg e]; exact .inl rfl
  · refine .inl ⟨?_, .inl ?_⟩
    · unfold f_X11_powerForGuess
      rw [if_neg c]
    · rw [if_neg]
      rw [Int32.le_iff_toInt_le, show (1 : Int32).toInt = 1 from rfl] at c
      omega
theorem guess_ag {F : Nat} (hF : 2305430425 ≤ F) {vn vp : Int32} {nums w : Nat → Int32} {n pn : Nat} {A : Nat → Nat → Int} (h : NowR vn vp nums w n pn A) (rn rr re rq : Int32) (rrows : Nat → Nat → Int64) (pw : Int64) (rests dg : Nat → Int32) (md : Nat → Int64) (gf0 : Int32) (ga0 gb0 : Int64) (a b u0 v0 : Int64) (rs cs : Nat → Int32) (x1 x2 x3 : Int32) :
    Ag (f_X11_guess F vn vp nums rn rr re 9 rq rrows pw rests dg md gf0 ga0 gb0 x1 x2 x3) (f_X12_guess F a b u0 v0 w rs cs x1 x2 x3) := by
  have hb := bad_case (show 100 ≤ F by omega) h rn rr re rq rrows rs cs
  have hg := good h
  obtain ⟨rfl, rfl, hN, hW, hT, hZ, hE⟩ := h
  have hn4 := hW.1.2.2.1
  have hp := Pm_pr hW.2.2
  have hp1 := hp.1
  rcases row_case hW.1 x1 with ⟨j, hj, rfl, e1, e2⟩ | ⟨e1, e2⟩
  · rcases part_case x3 with ⟨q0, q1, q2⟩ | ⟨q1, q2⟩
    · rcases pow_case (show 100 ≤ F by omega) hp1.1 hp1.2 x2 with ⟨w1, w2⟩ | ⟨k, k1, rfl, k2, w1, w2, w3⟩
      · refine Ag_of (r := -1000000002) (a := (rn, rr, re, rq, rrows, pw, rests, dg, md, gf0, ga0, gb0)) (b := (a, b, u0, v0, rs, cs)) ?_ ?_
        · unfold f_X11_guess
          refine kb1_of e1 ?_
          rw [if_neg (by decide)]
          refine kb1_of (p_c hW.2.2) ?_
          refine kb1_of w1 ?_
          refine kb1_of q1 ?_
          rw [if_pos rfl, if_pos rfl]
        · unfold f_X12_guess
          refine kb1_of e2 ?_
          rw [if_neg (by decide)]
          refine kb1_of q2 ?_
          rw [if_neg (by decide)]
          rcases w2 with w2 | ⟨w2, w3⟩
          · exact kb1_of w2 (if_pos rfl)
          · refine kb1_of w2 ?_
            rw [if_neg (by decide)]
            refine kb1_of (pm_ok (by omega) hW) ?_
            rw [nIJ hp1.2]
            exact kb1_of w3 (if_pos rfl)
      · have hk60 := pw_le hp1.1 k2
        have hpos : 0 < prN pn ^ k := Nat.pow_pos (by omega)
        have n1 : ¬ zJ ((prN pn ^ k : Nat) : Int) = (-1 : Int64) := fun z => by
          have := (zJ_eq (a := ((prN pn ^ k : Nat) : Int)) (b := -1) ⟨by omega, by omega⟩ ⟨by decide, by decide⟩).mp (z.trans (show (-1 : Int64) = zJ (-1) by decide))
          omega
        have n0 : ¬ zJ ((prN pn ^ k : Nat) : Int) = (0 : Int64) := fun z => by
          have := (zJ_zeroN (by omega)).mp z
          omega
        rcases hb with ⟨k', ex, rows', rs', cs', b1, b2, b3⟩ | ⟨ex, σ, l, Y, rows', rs', cs', b1, b2, b3, b4, b5⟩
        · refine Ag_of (r := -1000000003) (a := (nI n, nI k', nI ex, nI (prN pn), rows', pw, rests, dg, md, gf0, ga0, gb0)) (b := (a, b, u0, v0, rs', cs')) ?_ ?_
          · unfold f_X11_guess
            refine kb1_of e1 ?_
            rw [if_neg (by decide)]
            refine kb1_of (p_c hW.2.2) ?_
            refine kb1_of w1 ?_
            refine kb1_of q1 ?_
            rw [if_pos rfl, if_neg n1]
            refine kb6_of b1 ?_
            rw [if_neg (by decide)]
          · unfold f_X12_guess
            refine kb1_of e2 ?_
            rw [if_neg (by decide)]
            refine kb1_of q2 ?_
            rw [if_neg (by decide)]
            refine kb1_of w2 ?_
            rw [if_neg (by decide)]
            refine kb1_of (pm_ok (by omega) hW) ?_
            rw [nIJ hp1.2]
            refine kb1_of w3 ?_
            rw [if_neg n0]
            refine kb3_of b2 ?_
            rw [if_neg (by decide)]
        · obtain ⟨ex', σ', l', X, s, c, u, hC, hS, hu⟩ := hg b3
          obtain ⟨pw', rests', dg', md', g1, g2, g3, g4, g5⟩ := lift_ok (F := F) (by omega) hN hE hW.2.2 b4 b5 (K := k) (by omega) pw rests dg md
          obtain ⟨u', v', rs2, cs2, m1, m2⟩ := lgM_ok hF hW hC hS hu hj k2 a b u0 v0 rs' cs'
          obtain ⟨d1, d2⟩ := mdN_e hp1.1 (slB l' n X s j) (u j) (slA l' n X s j) k
          have es : f_X4_seek F gf0 ga0 gb0 (zJ ((mdN (prN pn) (slB l' n X s j) (u j) (slA l' n X s j) k : Nat) : Int)) (zJ ((prN pn ^ k : Nat) : Int)) (nI (prN pn)) = some (bI (gf (prN pn) (slA l' n X s) (slB l' n X s) u k j), zJ (ga (prN pn) (slA l' n X s) (slB l' n X s) u k j), zJ (gb (prN pn) (slA l' n X s) (slB l' n X s) u k j)) := seek_ok (show 300 ≤ F by omega) hp d2 k2 gf0 ga0 gb0
          have hmd : md' j = zJ ((mdN (prN pn) (slB l' n X s j) (u j) (slA l' n X s j) k : Nat) : Int) := by rw [g4 j hj, made_eq hp hE b4 b3 hS k hj]
          have cls : f_X11_guess F (nI n) (nI pn) nums rn rr re 9 rq rrows pw rests dg md gf0 ga0 gb0 (nI j) (nI k) x3 = (if bI (gf (prN pn) (slA l' n X s) (slB l' n X s) u k j) = 0 then some ((-1 : Int64), nI n, nI n, nI ex, nI (prN pn), rows', pw', rests', dg', md', bI (gf (prN pn) (slA l' n X s) (slB l' n X s) u k j), zJ (ga (prN pn) (slA l' n X s) (slB l' n X s) u k j), zJ (gb (prN pn) (slA l' n X s) (slB l' n X s) u k j)) else (if x3 = 0 then some (zJ (ga (prN pn) (slA l' n X s) (slB l' n X s) u k j) + (4000000000 : Int64), nI n, nI n, nI ex, nI (prN pn), rows', pw', rests', dg', md', bI (gf (prN pn) (slA l' n X s) (slB l' n X s) u k j), zJ (ga (prN pn) (slA l' n X s) (slB l' n X s) u k j), zJ (gb (prN pn) (slA l' n X s) (slB l' n X s) u k j)) else some (zJ (gb (prN pn) (slA l' n X s) (slB l' n X s) u k j), nI n, nI n, nI ex, nI (prN pn), rows', pw', rests', dg', md', bI (gf (prN pn) (slA l' n X s) (slB l' n X s) u k j), zJ (ga (prN pn) (slA l' n X s) (slB l' n X s) u k j), zJ (gb (prN pn) (slA l' n X s) (slB l' n X s) u k j)))) := by
            unfold f_X11_guess
            refine kb1_of e1 ?_
            rw [if_neg (by decide)]
            refine kb1_of (p_c hW.2.2) ?_
            refine kb1_of w1 ?_
            refine kb1_of q1 ?_
            rw [if_pos rfl, if_neg n1]
            refine kb6_of b1 ?_
            rw [if_pos rfl]
            refine kb4_of g1 ?_
            rw [if_pos (show kin (nI j) 4 from kin_nI (by decide) (by omega)), nI_clamp (n := j) (by omega), hmd]
            refine kb1_of (p_c hW.2.2) ?_
            exact kb3_of es rfl
          have rfe : f_X12_guess F a b u0 v0 w rs cs (nI j) (nI k) x3 = (if bI (gf (prN pn) (slA l' n X s) (slB l' n X s) u k j) = 0 then some ((-1 : Int64), zJ (slA l' n X s j), zJ (slB l' n X s j), u', v', rs2, cs2) else (if x3 = 0 then some (u' + (4000000000 : Int64), zJ (slA l' n X s j), zJ (slB l' n X s j), u', v', rs2, cs2) else some (v', zJ (slA l' n X s j), zJ (slB l' n X s j), u', v', rs2, cs2))) := by
            unfold f_X12_guess
            refine kb1_of e2 ?_
            rw [if_neg (by decide)]
            refine kb1_of q2 ?_
            rw [if_neg (by decide)]
            refine kb1_of w2 ?_
            rw [if_neg (by decide)]
            refine kb1_of (pm_ok (by omega) hW) ?_
            rw [nIJ hp1.2]
            refine kb1_of w3 ?_
            rw [if_neg n0]
            refine kb3_of b2 ?_
            rw [if_pos rfl]
            exact kb7_of m1 rfl
          rw [cls, rfe]
          cases gq : gf (prN pn) (slA l' n X s) (slB l' n X s) u k j with
          | false =>
            rw [if_pos (show bI false = (0 : Int32) by decide), if_pos (show bI false = (0 : Int32) by decide)]
            exact Ag_of rfl rfl
          | true =>
            obtain ⟨rfl, rfl⟩ := m2 gq
            rw [if_neg (show ¬ bI true = (0 : Int32) by decide), if_neg (show ¬ bI true = (0 : Int32) by decide)]
            by_cases x30 : x3 = 0
            · rw [if_pos x30, if_pos x30]
              exact Ag_of rfl rfl
            · rw [if_neg x30, if_neg x30]
              exact Ag_of rfl rfl
    · refine Ag_of (r := -1000000002) (a := (rn, rr, re, rq, rrows, pw, rests, dg, md, gf0, ga0, gb0)) (b := (a, b, u0, v0, rs, cs)) ?_ ?_
      · have hpw : ∃ z, f_X11_powerForGuess F (nI (prN pn)) x2 = some z := by
          rcases pow_case (show 100 ≤ F by omega) hp1.1 hp1.2 x2 with ⟨w1, w2⟩ | ⟨k, k1, k3, k2, w1, w2, w3⟩
          · exact ⟨_, w1⟩
          · exact ⟨_, w1⟩
        obtain ⟨z, hz⟩ := hpw
        unfold f_X11_guess
        refine kb1_of e1 ?_
        rw [if_neg (by decide)]
        refine kb1_of (p_c hW.2.2) ?_
        refine kb1_of hz ?_
        exact kb1_of q1 (if_neg (by decide))
      · unfold f_X12_guess
        refine kb1_of e2 ?_
        rw [if_neg (by decide)]
        exact kb1_of q2 (if_pos rfl)
  · refine Ag_of (r := -1000000001) (a := (rn, rr, re, rq, rrows, pw, rests, dg, md, gf0, ga0, gb0)) (b := (a, b, u0, v0, rs, cs)) ?_ ?_
    · unfold f_X11_guess
      exact kb1_of e1 (if_pos rfl)
    · unfold f_X12_guess
      exact kb1_of e2 (if_pos rfl)
