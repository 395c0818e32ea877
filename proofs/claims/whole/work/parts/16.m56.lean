/-! ===== class and reference, call by call: wrong, told ===== -/
theorem wrong_ag {F : Nat} (hF : 2305430425 ≤ F) {vn vp : Int32} {nums w : Nat → Int32} {n pn : Nat} {A : Nat → Nat → Int} (h : NowR vn vp nums w n pn A) {bc : Int32} {un pl va : Nat → Int32} {wr : Int32} {bo ba bi : Nat → Int32} (hB : BookR bc un pl va wr bo ba bi) (rn rr re rq : Int32) (rrows : Nat → Nat → Int64) (pw : Int64) (rests dg : Nat → Int32) (md : Nat → Int64) (a b la lb : Int64) (rs cs : Nat → Int32) :
    Ag (f_X11_firstWrong F vn vp nums rn rr re 9 rq rrows pw rests dg md bc un pl va) (f_X12_wrong F wr a b la lb w bo ba bi rs cs) := by
  have hb := bad_case (show 100 ≤ F by omega) h rn rr re rq rrows rs cs
  have hg := good h
  obtain ⟨rfl, rfl, hN, hW, hT, hZ, hE⟩ := h
  obtain ⟨c, J, K, V, hc, rfl, rfl, hB⟩ := hB
  have hn4 := hW.1.2.2.1
  have hp := Pm_pr hW.2.2
  obtain ⟨G, hG⟩ : ∃ G, F = G + 1 := ⟨F - 1, by omega⟩
  by_cases c0 : c = 0
  · subst c0
    refine Ag_of (r := -1) (a := (rn, rr, re, rq, rrows, pw, rests, dg, md)) (b := (a, b, la, lb, rs, cs)) ?_ ?_
    · unfold f_X11_firstWrong
      rw [if_pos nI_0]
    · unfold f_X12_wrong
      have : L_X12_wrong_2 F (nI 0) w bo ba bi F (0 : Int32) a b la lb rs cs = some (.inr (a, b, la, lb, rs, cs)) := by
        rw [hG, L_X12_wrong_2, if_pos (by decide)]
      rw [this]
      rfl
  · have nc : ¬ nI c = 0 := nI_ne0 (by omega) (by omega)
    rcases hb with ⟨k', ex, rows', rs', cs', b1, b2, b3⟩ | ⟨ex, σ, l, Y, rows', rs', cs', b1, b2, b3, b4, b5⟩
    · obtain ⟨⟨j1, j2, j3⟩, ⟨k1, k2, k3⟩, v1, v2⟩ := hB 0 (by omega)
      have er := isRow_n hW.1 (j := J 0) (by omega)
      have hl : ∃ rs2 cs2, L_X12_wrong_2 F (nI c) w bo ba bi F (0 : Int32) a b la lb rs cs = some (.inl (0, a, b, la, lb, rs2, cs2)) := by
        rw [hG, L_X12_wrong_2, if_neg (show ¬ nI c ≤ (0 : Int32) from nI_nle (by omega) (by omega)), if_pos (show kin (0 : Int32) 20 by decide), ← hG]
        rw [show (0 : Int32).toNatClampNeg = 0 from rfl, j2]
        by_cases c1 : J 0 < n
        · rw [if_pos c1] at er
          refine ⟨rs', cs', ?_⟩
          refine kb1_of er ?_
          simp only [kj3, kj2]
          rw [if_neg (show ¬ (1 : Int32) = 0 by decide)]
          refine kb3_of b2 ?_
          rw [if_neg (show ¬ (1 : Int32) = 0 by decide)]
          rfl
        · rw [if_neg c1] at er
          refine ⟨rs, cs, ?_⟩
          refine kb1_of er ?_
          simp only [kj3, kj2]
          rfl
      obtain ⟨rs2, cs2, hl⟩ := hl
      refine Ag_of (r := 0) (a := (nI n, nI k', nI ex, nI (prN pn), rows', pw, rests, dg, md)) (b := (a, b, la, lb, rs2, cs2)) ?_ ?_
      · unfold f_X11_firstWrong
        rw [if_neg nc]
        refine kb6_of b1 ?_
        rw [if_neg (by decide)]
      · unfold f_X12_wrong
        rw [hl]
        rfl
    · obtain ⟨ex', σ', l', X, s, cc, u, hC, hS, hu⟩ := hg b3
      obtain ⟨r0, f1, f2⟩ := fb_loop (n := n) (un := un) (J := J) hn4 hc (fun e he => ⟨(hB e he).1.1, (hB e he).1.2.2⟩) K (fun e => ¬ zI (dC (prN pn) n Y (rsK (prN pn) A n Y (K e)) (J e)) = V e) c 0 F (by omega) (by omega) (fun i hi => by omega)
      obtain ⟨rests1, md1, g1, g2⟩ := begin_ok (F := F) (by omega) hN (prN pn) hn4 Y pw rests dg md
      obtain ⟨r, pw', rests', dg', md', w1, w2⟩ := fw_loop (F := F) (by omega) hN hE hW.2.2 b4 b5 hc (un := un) (pl := pl) (va := va) (J := J) (K := K) (V := V) (fun e he => ⟨(hB e he).1.1, (hB e he).2.1.1, (hB e he).2.1.2.2, (hB e he).2.2.1⟩) 100 0 F r0 1 rests1 dg md1 (by omega) (by omega) g2 f2
      obtain ⟨r', a', b', la', lb', rs2, cs2, m1, m2⟩ := wm_loop hF hW hC hS hu b3 hc (bo := bo) (ba := ba) (bi := bi) (J := J) (K := K) (V := V) (fun e he => ⟨⟨(hB e he).1.2.1, (hB e he).1.2.2⟩, ⟨(hB e he).2.1.2.1, (hB e he).2.1.2.2⟩, (hB e he).2.2.2⟩) c 0 F a b la lb rs cs (by omega) (by omega) (fun i hi => by omega)
      have hFst : Fst n c J K (fun e => ¬ zI (dC (prN pn) n Y (rsK (prN pn) A n Y (K e)) (J e)) = V e) 100 r' := by
        obtain ⟨q1, q2, q3⟩ := m1
        refine ⟨q1, fun e he => ⟨(q2 e he).1, fun z => (q2 e he).2 ⟨z.1, ?_⟩⟩, fun z => ?_⟩
        · show ¬ _
          rw [← dgK hp hE b4 b3 hS (K e) (q2 e he).1]
          exact z.2
        · by_cases c1 : n ≤ J r'
          · exact .inl c1
          · rcases q3 z with y | y
            · exact .inl y
            · refine .inr ⟨y.1, ?_⟩
              show ¬ _
              rw [dgK hp hE b4 b3 hS (K r') (show J r' < n by omega)]
              exact y.2
      have hrr := Fst_u w2 hFst
      subst hrr
      have hrc := w2.1
      have cls : f_X11_firstWrong F (nI n) (nI pn) nums rn rr re 9 rq rrows pw rests dg md (nI c) un pl va = (if nI r = nI c then some ((-1 : Int32), nI n, nI n, nI ex, nI (prN pn), rows', pw', rests', dg', md') else some (nI r, nI n, nI n, nI ex, nI (prN pn), rows', pw', rests', dg', md')) := by
        unfold f_X11_firstWrong
        rw [if_neg nc]
        refine kb6_of b1 ?_
        rw [if_pos rfl]
        refine kb1_of (a := nI r0) (by unfold f_X0_firstBeyond; exact kb1_of f1 rfl) ?_
        refine kb3_of g1 ?_
        exact kb5_of w1 rfl
      rw [cls]
      unfold f_X12_wrong
      rw [show L_X12_wrong_2 F (nI c) w bo ba bi F (0 : Int32) a b la lb rs cs = _ from m2]
      by_cases c2 : r < c
      · rw [if_neg (fun z => by have := (nI_eq (by omega) (by omega)).mp z; omega), if_pos c2]
        exact Ag_of rfl rfl
      · rw [if_pos (by rw [show r = c by omega]), if_neg c2]
        exact Ag_of rfl rfl
theorem table_ag {F : Nat} (hF : 2305430425 ≤ F) {vn vp : Int32} {nums w : Nat → Int32} {n pn : Nat} {A : Nat → Nat → Int} (h : NowR vn vp nums w n pn A) (cn cr ce : Int32) (csc : Int64) (rows : Nat → Nat → Int64) (ld : Nat → Int32) (a b : Int64) (rs cs : Nat → Int32) :
    Ag (f_X11_toldOfTable F vn nums cn cr ce 5 csc rows ld 2) (kb3 (f_X12_determinant F w rs cs) fun r8 w9 w10 => some (((r8.toInt32) + (1000000000 : Int32)), w9, w10)) ∧ Ag (f_X11_toldOfTable F vn nums cn cr ce 5 csc rows ld 3) (f_X12_rank F w rs cs) ∧ Ag (f_X11_toldOfTable F vn nums cn cr ce 5 csc rows ld 4) (f_X12_wideRank F w rs cs (0 : Int32)) ∧ Ag (f_X11_toldOfTable F vn nums cn cr ce 5 csc rows ld 5) (f_X12_kind F w rs cs) ∧ Ag (f_X11_toldOfTable F vn nums cn cr ce 5 csc rows ld 6) (f_X12_leading F w rs cs) ∧ Ag (f_X11_toldOfTable F vn nums cn cr ce 5 csc rows ld 7) (f_X12_broken F a b w rs cs) ∧ Ag (f_X11_toldOfTable F vn nums cn cr ce 5 csc rows ld 9) (f_X12_badMany F w rs cs) := by
  obtain ⟨k, ex, σ, l, X, s, rows', ld', e, hC, hM, hl⟩ := clr (show 100 ≤ F by omega) h cn cr ce csc rows ld
  obtain ⟨rfl, rfl, hN, hW, hT, hZ, hE⟩ := h
  obtain ⟨hn4, hkn⟩ := Ck_n hC
  obtain ⟨rs2, cs2, e2⟩ := determinant_ok (show 100 ≤ F by omega) hW.1 rs cs
  obtain ⟨rs3, cs3, e3⟩ := rank_m (show 100 ≤ F by omega) hW.1 hC rs cs
  obtain ⟨rs4, cs4, e4⟩ := wideRank_m (show 100 ≤ F by omega) hW.1 hC rs cs
  obtain ⟨rs5, cs5, e5⟩ := kind_m (show 100 ≤ F by omega) hW.1 hC rs cs
  obtain ⟨rs6, cs6, e6⟩ := leading_ok (show 100 ≤ F by omega) hW.1 hC.2.2.1 rs cs
  obtain ⟨a7, b7, rs7, cs7, e7⟩ := broken_m hF hW.1 hC a b rs cs
  obtain ⟨rs9, cs9, e9⟩ := badMany_ok (show 100 ≤ F by omega) hW.1 rs cs
  have d := det_c hC
  have hD : sm (Dt A n) := sm_ab (Dt_ab hN.2 hn4)
  refine ⟨Ag_of (a := (nI n, nI k, nI ex, zJ s, rows', ld')) ?_ (kb3_of e2 rfl), Ag_of (a := (nI n, nI k, nI ex, zJ s, rows', ld')) ?_ e3, Ag_of (a := (nI n, nI k, nI ex, zJ s, rows', ld')) ?_ e4, Ag_of (a := (nI n, nI k, nI ex, zJ s, rows', ld')) ?_ e5, Ag_of (a := (nI n, nI k, nI ex, zJ s, rows', ld')) ?_ e6, Ag_of (a := (nI n, nI k, nI ex, zJ s, rows', ld')) ?_ e7, Ag_of (a := (nI n, nI k, nI ex, zJ s, rows', ld')) ?_ e9⟩
  · unfold f_X11_toldOfTable
    refine kb6_of e ?_
    rw [if_pos rfl]
    exact kb1_of d rfl
  · unfold f_X11_toldOfTable
    refine kb6_of e ?_
    rw [if_neg (by decide), if_pos rfl]
  · unfold f_X11_toldOfTable
    refine kb6_of e ?_
    rw [if_neg (by decide), if_neg (by decide), if_pos rfl]
    exact kb1_of (wideRank_c (by omega) hC hM) rfl
  · unfold f_X11_toldOfTable
    refine kb6_of e ?_
    rw [if_neg (by decide), if_neg (by decide), if_neg (by decide), if_pos rfl]
    exact kb1_of (kind_c (by omega) hC hM) rfl
  · unfold f_X11_toldOfTable
    refine kb6_of e ?_
    rw [if_neg (by decide), if_neg (by decide), if_neg (by decide), if_neg (by decide), if_pos rfl]
    exact kb1_of (leading_c (by omega) hC.2.2.1 hl) rfl
  · unfold f_X11_toldOfTable
    refine kb6_of e ?_
    rw [if_neg (by decide), if_neg (by decide), if_neg (by decide), if_neg (by decide), if_neg (by decide), if_pos rfl]
    exact kb1_of (broken_c (by omega) hC hM) rfl
  · unfold f_X11_toldOfTable
    refine kb6_of e ?_
    rw [if_neg (by decide), if_neg (by decide), if_neg (by decide), if_neg (by decide), if_neg (by decide), if_neg (by decide)]
    refine kb1_of d ?_
    exact kb1_of (badPrimes_ok (by omega) hD) rfl
theorem prime_ag {F : Nat} (hF : 2305430425 ≤ F) {vn vp : Int32} {nums w : Nat → Int32} {n pn : Nat} {A : Nat → Nat → Int} (h : NowR vn vp nums w n pn A) (rn rr re rq : Int32) (rrows : Nat → Nat → Int64) (rs cs : Nat → Int32) :
    Ag (f_X11_toldByPrime F vn vp nums rn rr re 9 rq rrows 8) (kb3 (f_X12_isBad F w rs cs) fun r2 w3 w4 => (if r2 = 0 then some ((0 : Int32), w3, w4) else some ((1 : Int32), w3, w4))) ∧ Ag (f_X11_toldByPrime F vn vp nums rn rr re 9 rq rrows 10) (kb1 (f_X12_allColumns w) fun r13 => kb1 (f_X12_p F w) fun r15 => f_X12_rankOf F w rs cs r13 r15) ∧ Ag (f_X11_toldByPrime F vn vp nums rn rr re 9 rq rrows 11) (f_X12_waysNow F w rs cs) := by
  obtain ⟨rfl, rfl, hN, hW, hT, hZ, hE⟩ := h
  have hp := Pm_pr hW.2.2
  obtain ⟨k, ex, σ, l, Y, rows', e, hR, hM⟩ := primeIsBad_ok (show 100 ≤ F by omega) hN hE hW.1.2.1 hW.1.2.2.1 hW.2.2 rn rr re rq rrows
  obtain ⟨rs', cs', e2⟩ := isBad_ok (show 100 ≤ F by omega) hW rs cs
  obtain ⟨rs3, cs3, e3⟩ := rankM_p (show 100 ≤ F by omega) hp hW.1 hR rs cs
  obtain ⟨rs4, cs4, e4⟩ := waysNow_ok (show 100 ≤ F by omega) hW hR rs cs
  refine ⟨?_, ?_, ?_⟩
  · unfold f_X11_toldByPrime
    by_cases c : (prN pn : Int) ∣ Dt A n
    · rw [if_pos c] at e e2
      exact Ag_of (kb6_of e (by rw [if_pos rfl, if_neg (by decide)])) (kb3_of e2 (by rw [if_neg (by decide)]))
    · rw [if_neg c] at e e2
      exact Ag_of (kb6_of e (by rw [if_pos rfl, if_pos rfl])) (kb3_of e2 (by rw [if_pos rfl]))
  · unfold f_X11_toldByPrime
    exact Ag_of (kb6_of e (by rw [if_neg (by decide), if_pos rfl])) (kb1_of (allColumns_ok hW.1) (kb1_of (pm_ok (by omega) hW) e3))
  · unfold f_X11_toldByPrime
    exact Ag_of (kb6_of e (by rw [if_neg (by decide), if_neg (by decide)]; exact kb1_of (ways_ok (by omega) hp hR hM) rfl)) e4
theorem guesses_ag {F : Nat} (hF : 2305430425 ≤ F) {vn vp : Int32} {nums w : Nat → Int32} {n pn : Nat} {A : Nat → Nat → Int} (h : NowR vn vp nums w n pn A) (cn cr ce : Int32) (csc : Int64) (rows : Nat → Nat → Int64) (ld : Nat → Int32) (rn rr re rq : Int32) (rrows : Nat → Nat → Int64) (we wt waf war : Int32) (wpw : Int64) (wrests wdg : Nat → Int32) (wmd : Nat → Int64) (wgf : Int32) (wga wgb : Int64) (a b u v : Int64) (rs cs : Nat → Int32) :
    Ag (f_X11_toldOfGuesses F vn vp nums cn cr ce 5 csc rows ld rn rr re 9 rq rrows we wt waf war wpw wrests wdg wmd wgf wga wgb 12) (kb3 (f_X12_isBad F w rs cs) fun r27 w28 w29 => (if r27 = 0 then kb1 (f_X12_sure F w) fun r32 => some (r32, w28, w29) else some ((-1 : Int32), w28, w29))) ∧
    Ag (f_X11_toldOfGuesses F vn vp nums cn cr ce 5 csc rows ld rn rr re 9 rq rrows we wt waf war wpw wrests wdg wmd wgf wga wgb 13) (kb3 (f_X12_isBad F w rs cs) fun r35 w36 w37 => (if r35 = 0 then f_X12_early F a b u v w w36 w37 else some ((-1 : Int32), a, b, u, v, w36, w37))) ∧
    Ag (f_X11_toldOfGuesses F vn vp nums cn cr ce 5 csc rows ld rn rr re 9 rq rrows we wt waf war wpw wrests wdg wmd wgf wga wgb 14) (kb3 (f_X12_isBad F w rs cs) fun r49 w50 w51 => (if r49 = 0 then f_X12_tooSoon F a b u v w w50 w51 else some ((-1 : Int32), a, b, u, v, w50, w51))) := by
  obtain ⟨k, ex1, σ1, l1, X, s, rows1, ld1, e, hC, hM, hl⟩ := clr (show 100 ≤ F by omega) h cn cr ce csc rows ld
  have hb := bad_case (show 100 ≤ F by omega) h rn rr re rq rrows rs cs
  obtain ⟨rfl, rfl, hN, hW, hT, hZ, hE⟩ := h
  have hn4 := hW.1.2.2.1
  have hp := Pm_pr hW.2.2
  unfold f_X11_toldOfGuesses
  rcases hb with ⟨k', ex, rows', rs', cs', b1, b2, b3⟩ | ⟨ex, σ, l, Y, rows', rs', cs', b1, b2, b3, b4, b5⟩
  · exact ⟨Ag_of (kb6_of b1 (if_neg (by decide))) (kb3_of b2 (if_neg (by decide))), Ag_of (kb6_of b1 (if_neg (by decide))) (kb3_of b2 (if_neg (by decide))), Ag_of (kb6_of b1 (if_neg (by decide))) (kb3_of b2 (if_neg (by decide)))⟩
  · have hD0 : Dt A n ≠ 0 := fun z => b3 (by rw [z]; exact Int.dvd_zero _)
    have hk : k = n := full_of_det hC.2.2.1 hW.1.2.1 hD0
    subst hk
    obtain ⟨c, y, hS, hy⟩ := Sy_of hp hC b3
    obtain ⟨K, hK⟩ := Su_ex hW.2.2 (Pn_pos hN.2 hT hn4 hD0) (Pn_e hN.2 hT hn4).2
    obtain ⟨E, hEK, hEa⟩ := Ea_ex hT hW.2.2 hC hS hK
    have s1 := sureC_ok (show 100 ≤ F by omega) hN hT hn4 hW.2.2 hK
    have s2 := sureM_ok (show 100 ≤ F by omega) hW hT hZ hK
    obtain ⟨x', y', pw', rests', dg', md', f', u', v', g1⟩ := goC_ok (show 300 ≤ F by omega) hN hE hW.2.2 hC hS hM hl b3 b4 b5 hEa hEK hK.2.1 we wt waf war wpw wrests wdg wmd wgf wga wgb
    obtain ⟨a1, c1, u1, v1, rs1, cs1, m1⟩ := earlyM_ok hF hW hC hS hy hEa a b u v rs' cs'
    obtain ⟨a2, c2, u2, v2, rs2, cs2, m2⟩ := tooSoonM_ok hF hW hC hS hy hEa a b u v rs' cs'
    refine ⟨Ag_of (kb6_of b1 (by rw [if_pos rfl]; exact kb1_of s1 (if_pos rfl))) (kb3_of b2 (by rw [if_pos rfl]; exact kb1_of s2 rfl)), Ag_of (kb6_of b1 (by rw [if_pos rfl]; exact kb1_of s1 (by rw [if_neg (by decide)]; exact kb6_of e (kb11_of g1 (if_pos rfl))))) (kb3_of b2 (by rw [if_pos rfl]; exact m1)), Ag_of (kb6_of b1 (by rw [if_pos rfl]; exact kb1_of s1 (by rw [if_neg (by decide)]; exact kb6_of e (kb11_of g1 (if_neg (by decide)))))) (kb3_of b2 (by rw [if_pos rfl]; exact m2))⟩
