/-! ===== drift, seed, write, tear, keep, goBack ===== -/
theorem drift_ag {F : Nat} (hF : 100 ≤ F) {vn vp : Int32} {nums w : Nat → Int32} {n pn : Nat} {A : Nat → Nat → Int} (h : NowR vn vp nums w n pn A) {hc hn : Int32} {store : Nat → Int32} {kn : Int32} (hH : HisR hc hn store kn w) {st : Int64} {sd : Int32} (hS : SeedR st sd) (cn cr ce : Int32) (csc : Int64) (rows : Nat → Nat → Int64) (ld rs cs : Nat → Int32) (x1 : Int32) :
    ∃ r nums' z1 z2 z3 z4 z5 z6 hc' hn' store' st' kn' sd' w' rs' cs', f_X11_drift F vn vp nums cn cr ce 5 csc rows ld hc hn store st x1 = some (r, nums', z1, z2, z3, z4, z5, z6, hc', hn', store', st') ∧ f_X12_drift F kn sd w rs cs x1 = some (r, kn', sd', w', rs', cs') ∧ Dd vn vp nums' hc' hn' store' kn' w' w ∧ SeedR st' sd' := by
  have hin := inI x1 (lo := 1) (hi := 12) ⟨by decide, by decide⟩ ⟨by decide, by decide⟩
  rw [show zJ 1 = (1 : Int64) from rfl, show zJ 12 = (12 : Int64) from rfl] at hin
  unfold f_X11_drift f_X12_drift
  by_cases c0 : x1 < (1 : Int32)
  · refine ⟨-1000000002, nums, cn, cr, ce, csc, rows, ld, hc, hn, store, st, kn, sd, w, rs, cs, by rw [if_pos c0], ?_, Dd_of h hH, hS⟩
    refine kb1_of hin ?_
    rw [if_neg (show ¬ (1 ≤ x1.toInt ∧ x1.toInt ≤ 12) by rw [Int32.lt_iff_toInt_lt, show (1 : Int32).toInt = 1 by decide] at c0; omega), if_pos rfl]
  · by_cases c1 : x1 ≤ (12 : Int32)
    · have c0' := c0
      have c1' := c1
      rw [Int32.lt_iff_toInt_lt, show (1 : Int32).toInt = 1 by decide] at c0
      rw [Int32.le_iff_toInt_le, show (12 : Int32).toInt = 12 by decide] at c1
      rw [if_pos (by omega)] at hin
      obtain ⟨m, hm, rfl⟩ := toInt_nI (n := 13) (x := x1) (by omega) (by omega)
      obtain ⟨nums', hc', hn', store', st', kn', sd', w', e1, e2, e3, e4⟩ := drift_loop hF (vn := vn) (vp := vp) (m := m) (by omega) m 0 F nums w hc hn store kn st sd (by omega) (by omega) ⟨n, pn, A, h⟩ hH hS
      obtain ⟨⟨n', pn', A', hnow⟩, e3', e3''⟩ := e3
      obtain ⟨k, ex, σ, l, X, s, rows', ld', e, hC, hM, hl⟩ := clr hF hnow cn cr ce csc rows ld
      obtain ⟨rs', cs', er⟩ := rank_m hF hnow.2.2.2.1.1 hC rs cs
      refine ⟨nI k, nums', nI n', nI k, nI ex, zJ s, rows', ld', hc', hn', store', st', kn', sd', w', rs', cs', ?_, ?_, ⟨⟨n', pn', A', hnow⟩, e3', e3''⟩, e4⟩
      · rw [if_neg c0', if_pos c1']
        refine kb5_of (show L_X11_drift_16 (nI m) vn vp F (0 : Int32) nums hc hn store st = _ from e1) ?_
        refine kb7_of (a := nI k) (b := nI n') (c := nI k) (d := nI ex) (e := zJ s) (f := rows') (g := ld') ?_ rfl
        unfold f_X11_rank
        exact kb6_of e rfl
      · refine kb1_of hin ?_
        rw [if_neg (by decide)]
        refine kb3_of (show L_X12_drift_17 F (nI m) F (0 : Int32) kn sd w = _ from e2) ?_
        exact kb3_of er rfl
    · refine ⟨-1000000002, nums, cn, cr, ce, csc, rows, ld, hc, hn, store, st, kn, sd, w, rs, cs, by rw [if_neg c0, if_neg c1], ?_, Dd_of h hH, hS⟩
      refine kb1_of hin ?_
      rw [if_neg (show ¬ (1 ≤ x1.toInt ∧ x1.toInt ≤ 12) by rw [Int32.le_iff_toInt_le, show (12 : Int32).toInt = 12 by decide] at c1; omega), if_pos rfl]
theorem seed_ag {st : Int64} {sd : Int32} (hS : SeedR st sd) (x1 : Int32) : ∃ r st' sd', f_X11_seed st x1 = some (r, st') ∧ f_X12_seed sd x1 = some (r, sd') ∧ SeedR st' sd' := by
  have hS' := hS
  obtain ⟨s, hs, rfl, rfl⟩ := hS
  unfold f_X11_seed f_X12_seed
  by_cases c : (0 : Int32) ≤ x1
  · have c' := c
    rw [Int32.le_iff_toInt_le, show (0 : Int32).toInt = 0 by decide] at c
    have hb := Int32.toInt_lt x1
    refine ⟨zI (s : Int), zJ x1.toInt, x1, ?_, by rw [if_pos c'], x1.toInt.toNat, by omega, ?_, ?_⟩
    · rw [if_pos c']
      refine kl_of (zJ_I _) ?_
      refine kl_of (w := zJ x1.toInt) ?_ rfl
      conv => lhs; rw [← zI_self x1]
      rw [zI_J ⟨by omega, by omega⟩]
    · congr 1; omega
    · rw [show ((x1.toInt.toNat : Nat) : Int) = x1.toInt by omega, zI_self]
  · exact ⟨-1000000002, zJ (s : Int), zI (s : Int), by rw [if_neg c], by rw [if_neg c], hS'⟩
theorem write_ag {vn vp : Int32} {nums w : Nat → Int32} {n pn : Nat} {A : Nat → Nat → Int} (h : NowR vn vp nums w n pn A) {bc : Int32} {un pl va : Nat → Int32} {wr : Int32} {bo ba bi : Nat → Int32} (hB : BookR bc un pl va wr bo ba bi) (x1 x2 x3 : Int32) :
    ∃ r bc' un' pl' va' wr' bo' ba' bi', f_X11_write vn bc un pl va x1 x2 x3 = some (r, bc', un', pl', va') ∧ f_X12_write wr w bo ba bi x1 x2 x3 = some (r, wr', bo', ba', bi') ∧ BookR bc' un' pl' va' wr' bo' ba' bi' := by
  have hB' := hB
  have hW := h.2.2.2.1
  obtain rfl : vn = nI n := h.1
  have hn4 := hW.1.2.2.1
  obtain ⟨c, J, K, V, hc, rfl, rfl, hb⟩ := hB
  unfold f_X11_write f_X12_write
  rcases row_case hW.1 x1 with ⟨j, hj, rfl, e1, e2⟩ | ⟨e1, e2⟩
  · rcases dig_case x2 with ⟨k, hk, rfl, f1, f2⟩ | ⟨f1, f2⟩
    · by_cases cc : c = 20
      · refine ⟨-1000000004, nI c, un, pl, va, nI c, bo, ba, bi, ?_, ?_, hB'⟩
        · refine kb1_of e1 ?_
          rw [if_neg (by decide)]
          refine kb1_of f1 ?_
          rw [if_pos rfl, if_neg (show ¬ nI c < (20 : Int32) by rw [cc]; decide)]
        · refine kb1_of e2 ?_
          rw [if_neg (by decide)]
          refine kb1_of f2 ?_
          rw [if_neg (by decide), if_pos (show nI c = (20 : Int32) by rw [cc]; rfl)]
      · have kc : kin (nI c) 20 := kin_nI (by decide) (by omega)
        refine ⟨nI (c + 1), nI (c + 1), upd un c (nI j), upd pl c (nI k), upd va c x3, nI (c + 1), upd bo c (nI j), upd ba c (nI k), upd bi c x3, ?_, ?_, c + 1, (fun e => if e = c then j else J e), (fun e => if e = c then k else K e), (fun e => if e = c then x3 else V e), by omega, rfl, rfl, fun e he => ?_⟩
        · refine kb1_of e1 ?_
          rw [if_neg (by decide)]
          refine kb1_of f1 ?_
          rw [if_pos rfl, if_pos (show nI c < (20 : Int32) from nI_lt (b := 20) (by omega) (by omega))]
          refine kb4_of (a := nI (c + 1)) (b := upd un c (nI j)) (c := upd pl c (nI k)) (d := upd va c x3) ?_ rfl
          unfold f_X0_append
          rw [if_pos kc, nI_clamp (n := c) (by omega)]
          refine kl_of rfl ?_
          rw [if_pos kc]
          refine kl_of rfl ?_
          rw [if_pos kc]
          refine kl_of rfl ?_
          exact kl_of (nI_1 c) rfl
        · refine kb1_of e2 ?_
          rw [if_neg (by decide)]
          refine kb1_of f2 ?_
          rw [if_neg (by decide), if_neg (show ¬ nI c = (20 : Int32) from fun z => cc ((nI_eq (b := 20) (by omega) (by omega)).mp z)), if_pos kc, nI_clamp (n := c) (by omega)]
          refine kl_of rfl ?_
          rw [if_pos kc]
          refine kl_of rfl ?_
          rw [if_pos kc]
          refine kl_of rfl ?_
          exact kl_of (nI_1 c) rfl
        · show (upd un c (nI j) e = nI (if e = c then j else J e) ∧ upd bo c (nI j) e = nI (if e = c then j else J e) ∧ (if e = c then j else J e) < 4) ∧ (upd pl c (nI k) e = nI (if e = c then k else K e) ∧ upd ba c (nI k) e = nI (if e = c then k else K e) ∧ (if e = c then k else K e) < 100) ∧ upd va c x3 e = (if e = c then x3 else V e) ∧ upd bi c x3 e = (if e = c then x3 else V e)
          by_cases ce : e = c
          · subst ce
            simp only [if_pos, pk_us]
            exact ⟨⟨trivial, trivial, by omega⟩, ⟨trivial, trivial, hk⟩, trivial, trivial⟩
          · simp only [if_neg ce, pk_un ce]
            exact hb e (by omega)
    · exact ⟨-1000000002, nI c, un, pl, va, nI c, bo, ba, bi, kb1_of e1 (by rw [if_neg (by decide)]; exact kb1_of f1 (if_neg (by decide))), kb1_of e2 (by rw [if_neg (by decide)]; exact kb1_of f2 (if_pos rfl)), hB'⟩
  · exact ⟨-1000000001, nI c, un, pl, va, nI c, bo, ba, bi, kb1_of e1 (if_pos rfl), kb1_of e2 (if_pos rfl), hB'⟩
theorem tear_ag {bc : Int32} {un pl va : Nat → Int32} {wr : Int32} {bo ba bi : Nat → Int32} (hB : BookR bc un pl va wr bo ba bi) : ∃ r bc' wr', f_X11_tear bc = some (r, bc') ∧ f_X12_tear wr = some (r, wr') ∧ BookR bc' un pl va wr' bo ba bi := by
  obtain ⟨c, J, K, V, hc, rfl, rfl, hb⟩ := hB
  exact ⟨nI c, 0, 0, rfl, rfl, 0, J, K, V, by omega, rfl, rfl, fun e he => by omega⟩
/-! ===== images ===== -/
def One (κ i : Nat) (tk : Int32) (sd : Int64) (st isd w : Nat → Int32) : Prop := tk = bI (κ.testBit i) ∧ (κ.testBit i = true → SeedR sd (isd i) ∧ (∀ k, k < 22 → st k = w (374 + 22 * i + k)) ∧ ∃ n pn A, Gd (fun k => w (374 + 22 * i + k)) n pn A)
def ImR (tk1 : Int32) (sd1 : Int64) (st1 : Nat → Int32) (tk2 : Int32) (sd2 : Int64) (st2 : Nat → Int32) (kept : Int32) (isd w : Nat → Int32) : Prop := ∃ κ, κ < 4 ∧ kept = nI κ ∧ One κ 0 tk1 sd1 st1 isd w ∧ One κ 1 tk2 sd2 st2 isd w
theorem One_congr {κ i : Nat} (hi : i < 2) {tk : Int32} {sd : Int64} {st isd w w' : Nat → Int32} (h : One κ i tk sd st isd w) (e : ∀ z, 374 ≤ z → w' z = w z) : One κ i tk sd st isd w' := by
  refine ⟨h.1, fun z => ?_⟩
  obtain ⟨a, b, n, pn, A, g⟩ := h.2 z
  refine ⟨a, fun k hk => by rw [e _ (by omega)]; exact b k hk, n, pn, A, Gd_congr g (fun k hk => e _ (by omega))⟩
theorem ImR_congr {tk1 : Int32} {sd1 : Int64} {st1 : Nat → Int32} {tk2 : Int32} {sd2 : Int64} {st2 : Nat → Int32} {kept : Int32} {isd w w' : Nat → Int32} (h : ImR tk1 sd1 st1 tk2 sd2 st2 kept isd w) (e : ∀ z, 374 ≤ z → w' z = w z) : ImR tk1 sd1 st1 tk2 sd2 st2 kept isd w' := by
  obtain ⟨κ, hκ, rfl, h1, h2⟩ := h
  exact ⟨κ, hκ, rfl, One_congr (by decide) h1 e, One_congr (by decide) h2 e⟩
theorem img_case (x : Int32) : (x = nI 0 ∧ f_X11_isNoImage x = some 0 ∧ f_X12_in x.toInt64 (0 : Int64) (1 : Int64) = some 1) ∨ (x = nI 1 ∧ f_X11_isNoImage x = some 0 ∧ f_X12_in x.toInt64 (0 : Int64) (1 : Int64) = some 1) ∨ (f_X11_isNoImage x = some 1 ∧ f_X12_in x.toInt64 (0 : Int64) (1 : Int64) = some 0) := by
  rcases part_case x with ⟨a | a, b, c⟩ | ⟨b, c⟩
  · subst a; exact .inl ⟨rfl, rfl, c⟩
  · subst a; exact .inr (.inl ⟨rfl, rfl, c⟩)
  · exact .inr (.inr ⟨b, c⟩)
theorem kep_fin : ∀ (κ : Fin 4) (i : Fin 2), (nI κ.val ||| ((1 : Int32) <<< (nI i.val &&& 31))) = nI (κ.val ||| 2 ^ i.val) ∧ κ.val ||| 2 ^ i.val < 4 ∧ (κ.val ||| 2 ^ i.val).testBit i.val = true ∧ (κ.val ||| 2 ^ i.val).testBit (1 - i.val) = κ.val.testBit (1 - i.val) := by decide +kernel
/-- what one image is, when it has just been kept -/
theorem take_ok {vn vp : Int32} {nums w : Nat → Int32} {n pn : Nat} {A : Nat → Nat → Int} (h : NowR vn vp nums w n pn A) {st : Int64} {sd : Int32} (hS : SeedR st sd) (tk : Int32) (s0 : Int64) (str : Nat → Int32) {κ i : Nat} (hi : i < 2) (hb : κ.testBit i = true) {w' isd' : Nat → Int32} (hw : ∀ k, k < 22 → w' (374 + 22 * i + k) = w k) (hs : isd' i = sd) : ∃ str', f_X6_take tk s0 str vn vp nums st = some (1, st, str') ∧ One κ i 1 st str' isd' w' := by
  obtain ⟨hG, g0, g1, g2⟩ := Gd_now h
  obtain ⟨str', e1, e2⟩ := writeTo_ok (N := 22) (f := 0) (by decide) (by omega) vn vp nums str
  refine ⟨str', ?_, by rw [hb]; rfl, fun _ => ⟨by rw [hs]; exact hS, fun k hk => ?_, n, pn, A, Gd_congr hG (fun k hk => hw k hk)⟩⟩
  · unfold f_X6_take
    exact kb1_of (show f_X3_writeTo 22 vn vp nums str (0 : Int32) = _ from e1) rfl
  · rw [hw k hk, e2]
    by_cases k0 : k = 0
    · subst k0; rw [if_pos rfl]; exact g0
    · rw [if_neg k0]
      by_cases k1 : k = 1
      · subst k1; rw [if_pos rfl]; exact g1
      · rw [if_neg (by omega), if_pos (by omega), g2 _ (by omega)]
        congr 1
        omega
theorem his_0 {hc hn : Int32} {store : Nat → Int32} {kn : Int32} {w w' : Nat → Int32} (h : HisR hc hn store kn w) : HisR 0 hn store 0 w' := by
  obtain ⟨h, t, h1, h2, rfl, rfl, rfl, h3⟩ := h
  exact ⟨0, t, by omega, h2, rfl, rfl, rfl, fun i hi => by omega⟩
theorem keep_ag {F : Nat} (hF : 100 ≤ F) {vn vp : Int32} {nums w : Nat → Int32} {n pn : Nat} {A : Nat → Nat → Int} (h : NowR vn vp nums w n pn A) {hc hn : Int32} {store : Nat → Int32} {kn : Int32} (hH : HisR hc hn store kn w) {st : Int64} {sd : Int32} (hS : SeedR st sd) {tk1 : Int32} {sd1 : Int64} {st1 : Nat → Int32} {tk2 : Int32} {sd2 : Int64} {st2 : Nat → Int32} {kept : Int32} {isd : Nat → Int32} (hI : ImR tk1 sd1 st1 tk2 sd2 st2 kept isd w) (x1 : Int32) :
    ∃ r hc' tk1' sd1' st1' tk2' sd2' st2' kn' kept' w' isd', f_X11_keep vn vp nums hc st tk1 sd1 st1 tk2 sd2 st2 x1 = some (r, hc', tk1', sd1', st1', tk2', sd2', st2') ∧ f_X12_keep F kn kept sd w isd x1 = some (r, kn', kept', w', isd') ∧ (∃ n pn A, NowR vn vp nums w' n pn A) ∧ HisR hc' hn store kn' w' ∧ ImR tk1' sd1' st1' tk2' sd2' st2' kept' isd' w' := by
  have hI' := hI
  obtain ⟨κ, hκ, rfl, o1, o2⟩ := hI
  unfold f_X11_keep f_X12_keep
  rcases img_case x1 with ⟨rfl, e1, e2⟩ | ⟨rfl, e1, e2⟩ | ⟨e1, e2⟩
  · obtain ⟨k1, k2, k3, k4⟩ := kep_fin ⟨κ, hκ⟩ 0
    obtain ⟨w', c1, c2⟩ := copyRow_ok hF (f := 0) (t := 374) (by omega) (by omega) (by omega) w
    obtain ⟨str', t1, t2⟩ := take_ok h hS tk1 sd1 st1 (κ := κ ||| 2 ^ 0) (i := 0) (by omega) k3 (w' := w') (isd' := upd isd 0 sd) (fun k hk => by rw [c2, if_pos (by omega), show 0 + (374 + 22 * 0 + k - 374) = k by omega]) pk_us
    refine ⟨1, 0, 1, st, str', tk2, sd2, st2, 0, nI (κ ||| 2 ^ 0), w', upd isd 0 sd, ?_, ?_, ⟨n, pn, A, now_congr h (fun k hk => by rw [c2, if_neg (by omega)])⟩, his_0 hH, κ ||| 2 ^ 0, k2, rfl, t2, ?_⟩
    · refine kb1_of e1 ?_
      rw [if_pos rfl, if_pos (show nI 0 = (0 : Int32) from rfl)]
      exact kb3_of t1 rfl
    · refine kb1_of e2 ?_
      rw [if_neg (by decide)]
      refine kb1_of (show f_X12_copyRow F w (0 : Int32) ((374 : Int32) + ((22 : Int32) * nI 0)) = _ from c1) ?_
      rw [if_pos (show kin (nI 0) 2 by decide), nI_clamp (n := 0) (by omega)]
      refine kl_of rfl ?_
      exact kl_of k1 rfl
    · have k4' : (κ ||| 2 ^ 0).testBit 1 = κ.testBit 1 := k4
      obtain ⟨q1, q2⟩ := o2
      refine ⟨by rw [k4']; exact q1, fun z => ?_⟩
      rw [k4'] at z
      obtain ⟨a, b, n', pn', A', g⟩ := q2 z
      refine ⟨by rw [pk_un (by omega)]; exact a, fun k hk => by rw [c2, if_neg (by omega)]; exact b k hk, n', pn', A', Gd_congr g (fun k hk => by rw [c2, if_neg (by omega)])⟩
  · obtain ⟨k1, k2, k3, k4⟩ := kep_fin ⟨κ, hκ⟩ 1
    obtain ⟨w', c1, c2⟩ := copyRow_ok hF (f := 0) (t := 396) (by omega) (by omega) (by omega) w
    obtain ⟨str', t1, t2⟩ := take_ok h hS tk2 sd2 st2 (κ := κ ||| 2 ^ 1) (i := 1) (by omega) k3 (w' := w') (isd' := upd isd 1 sd) (fun k hk => by rw [c2, if_pos (by omega), show 0 + (374 + 22 * 1 + k - 396) = k by omega]) pk_us
    refine ⟨1, 0, tk1, sd1, st1, 1, st, str', 0, nI (κ ||| 2 ^ 1), w', upd isd 1 sd, ?_, ?_, ⟨n, pn, A, now_congr h (fun k hk => by rw [c2, if_neg (by omega)])⟩, his_0 hH, κ ||| 2 ^ 1, k2, rfl, ?_, t2⟩
    · refine kb1_of e1 ?_
      rw [if_pos rfl, if_neg (show ¬ nI 1 = (0 : Int32) by decide)]
      exact kb3_of t1 rfl
    · refine kb1_of e2 ?_
      rw [if_neg (by decide)]
      refine kb1_of (show f_X12_copyRow F w (0 : Int32) ((374 : Int32) + ((22 : Int32) * nI 1)) = _ from c1) ?_
      rw [if_pos (show kin (nI 1) 2 by decide), nI_clamp (n := 1) (by omega)]
      refine kl_of rfl ?_
      exact kl_of k1 rfl
    · have k4' : (κ ||| 2 ^ 1).testBit 0 = κ.testBit 0 := k4
      obtain ⟨q1, q2⟩ := o1
      refine ⟨by rw [k4']; exact q1, fun z => ?_⟩
      rw [k4'] at z
      obtain ⟨a, b, n', pn', A', g⟩ := q2 z
      refine ⟨by rw [pk_un (by omega)]; exact a, fun k hk => by rw [c2, if_neg (by omega)]; exact b k hk, n', pn', A', Gd_congr g (fun k hk => by rw [c2, if_neg (by omega)])⟩
  · exact ⟨-1000000001, hc, tk1, sd1, st1, tk2, sd2, st2, kn, nI κ, w, isd, kb1_of e1 (if_neg (by decide)), kb1_of e2 (if_pos rfl), ⟨n, pn, A, h⟩, hH, hI'⟩
/-- an image given back -/
theorem give_ok {F : Nat} (hF : 100 ≤ F) {κ i : Nat} (hi : i < 2) {tk : Int32} {s0 : Int64} {str isd w : Nat → Int32} (h : One κ i tk s0 str isd w) (hb : κ.testBit i = true) (vn vp : Int32) (nums : Nat → Int32) (st : Int64) : ∃ vn' vp' nums' w', f_X6_give s0 str vn vp nums st = some (vn', vp', nums', s0) ∧ f_X12_copyRow F w (nI (374 + 22 * i)) (nI 0) = some w' ∧ (∃ n pn A, NowR vn' vp' nums' w' n pn A) ∧ SeedR s0 (isd i) ∧ ∀ z, 22 ≤ z → w' z = w z := by
  obtain ⟨a, b, n, pn, A, g⟩ := h.2 hb
  obtain ⟨nums', e1, e2⟩ := readFrom_ok (N := 22) (f := 0) (by decide) (by omega) vn vp nums str
  obtain ⟨w', c1, c2⟩ := copyRow_ok hF (f := 374 + 22 * i) (t := 0) (by omega) (by omega) (by omega) w
  have hw : ∀ k, k < 22 → w' k = w (374 + 22 * i + k) := fun k hk => by rw [c2, if_pos (by omega)]; congr 1
  refine ⟨str 0, str 1, nums', w', ?_, c1, ⟨n, pn, A, now_Gd (Gd_congr g hw) ?_ ?_ (fun k hk => ?_)⟩, a, fun z hz => by rw [c2, if_neg (by omega)]⟩
  · unfold f_X6_give
    exact kb3_of (show f_X3_readFrom 22 vn vp nums str (0 : Int32) = _ from e1) rfl
  · rw [b 0 (by omega), hw 0 (by omega)]
  · rw [b 1 (by omega), hw 1 (by omega)]
  · rw [e2 k hk, hw _ (by omega), ← b _ (by omega)]
theorem goBack_ag {F : Nat} (hF : 100 ≤ F) {vn vp : Int32} {nums w : Nat → Int32} {n pn : Nat} {A : Nat → Nat → Int} (h : NowR vn vp nums w n pn A) {hc hn : Int32} {store : Nat → Int32} {kn : Int32} (hH : HisR hc hn store kn w) {st : Int64} {sd : Int32} (hS : SeedR st sd) {tk1 : Int32} {sd1 : Int64} {st1 : Nat → Int32} {tk2 : Int32} {sd2 : Int64} {st2 : Nat → Int32} {kept : Int32} {isd : Nat → Int32} (hI : ImR tk1 sd1 st1 tk2 sd2 st2 kept isd w) (x1 : Int32) :
    ∃ r vn' vp' nums' hc' st' kn' sd' w', f_X11_goBack vn vp nums hc st tk1 sd1 st1 tk2 sd2 st2 x1 = some (r, vn', vp', nums', hc', st') ∧ f_X12_goBack F kn kept sd w isd x1 = some (r, kn', sd', w') ∧ (∃ n pn A, NowR vn' vp' nums' w' n pn A) ∧ HisR hc' hn store kn' w' ∧ SeedR st' sd' ∧ ImR tk1 sd1 st1 tk2 sd2 st2 kept isd w' := by
  have hI' := hI
  obtain ⟨κ, hκ, rfl, o1, o2⟩ := hI
  unfold f_X11_goBack f_X12_goBack
  rcases img_case x1 with ⟨rfl, e1, e2⟩ | ⟨rfl, e1, e2⟩ | ⟨e1, e2⟩
  · have hh := has_ok (s := κ) (k := 0) (by omega) (by omega)
    cases q : κ.testBit 0 with
    | false =>
      have t0 : tk1 = 0 := by rw [o1.1, q]; rfl
      rw [q] at hh
      refine ⟨-1000000003, vn, vp, nums, hc, st, kn, sd, w, ?_, ?_, ⟨n, pn, A, h⟩, hH, hS, hI'⟩
      · refine kb1_of e1 ?_
        rw [if_pos rfl, if_pos (show nI 0 = (0 : Int32) from rfl), if_pos t0]
      · refine kb1_of e2 ?_
        rw [if_neg (by decide)]
        exact kb1_of hh (if_pos rfl)
    | true =>
      have t0 : tk1 = 1 := by rw [o1.1, q]; rfl
      rw [q] at hh
      obtain ⟨vn', vp', nums', w', g1, g2, g3, g4, g5⟩ := give_ok hF (by decide) o1 q vn vp nums st
      refine ⟨1, vn', vp', nums', 0, sd1, 0, isd 0, w', ?_, ?_, g3, his_0 hH, g4, ImR_congr hI' (fun z hz => g5 z (by omega))⟩
      · refine kb1_of e1 ?_
        rw [if_pos rfl, if_pos (show nI 0 = (0 : Int32) from rfl), if_neg (by rw [t0]; decide)]
        exact kb4_of g1 rfl
      · refine kb1_of e2 ?_
        rw [if_neg (by decide)]
        refine kb1_of hh ?_
        rw [if_neg (by decide)]
        refine kb1_of (show f_X12_copyRow F w ((374 : Int32) + ((22 : Int32) * nI 0)) (0 : Int32) = _ from g2) ?_
        rw [if_pos (show kin (nI 0) 2 by decide), nI_clamp (n := 0) (by omega)]
        rfl
  · have hh := has_ok (s := κ) (k := 1) (by omega) (by omega)
    cases q : κ.testBit 1 with
    | false =>
      have t0 : tk2 = 0 := by rw [o2.1, q]; rfl
      rw [q] at hh
      refine ⟨-1000000003, vn, vp, nums, hc, st, kn, sd, w, ?_, ?_, ⟨n, pn, A, h⟩, hH, hS, hI'⟩
      · refine kb1_of e1 ?_
        rw [if_pos rfl, if_neg (show ¬ nI 1 = (0 : Int32) by decide), if_pos t0]
      · refine kb1_of e2 ?_
        rw [if_neg (by decide)]
        exact kb1_of hh (if_pos rfl)
    | true =>
      have t0 : tk2 = 1 := by rw [o2.1, q]; rfl
      rw [q] at hh
      obtain ⟨vn', vp', nums', w', g1, g2, g3, g4, g5⟩ := give_ok hF (by decide) o2 q vn vp nums st
      refine ⟨1, vn', vp', nums', 0, sd2, 0, isd 1, w', ?_, ?_, g3, his_0 hH, g4, ImR_congr hI' (fun z hz => g5 z (by omega))⟩
      · refine kb1_of e1 ?_
        rw [if_pos rfl, if_neg (show ¬ nI 1 = (0 : Int32) by decide), if_neg (by rw [t0]; decide)]
        exact kb4_of g1 rfl
      · refine kb1_of e2 ?_
        rw [if_neg (by decide)]
        refine kb1_of hh ?_
        rw [if_neg (by decide)]
        refine kb1_of (show f_X12_copyRow F w ((374 : Int32) + ((22 : Int32) * nI 1)) (0 : Int32) = _ from g2) ?_
        rw [if_pos (show kin (nI 1) 2 by decide), nI_clamp (n := 1) (by omega)]
        rfl
  · exact ⟨-1000000001, vn, vp, nums, hc, st, kn, sd, w, kb1_of e1 (if_neg (by decide)), kb1_of e2 (if_pos rfl), ⟨n, pn, A, h⟩, hH, hS, hI'⟩
