/-! ===== the class's walk ===== -/
theorem gr_gf {p : Nat} {a b w : Nat → Int} {k j : Nat} (h : gf p a b w k j = false) : gr p a b w k j = false := by unfold gr; rw [h]; rfl
theorem allB_gr {p : Nat} {a b w : Nat → Int} {k : Nat} : ∀ j, allB (gf p a b w k) j = false → allB (gr p a b w k) j = false := by
  intro j
  induction j with
  | zero => intro h; cases h
  | succ j ih =>
    intro h
    rw [allB] at h ⊢
    cases q : allB (gf p a b w k) j with
    | false => rw [ih q]; rfl
    | true =>
      rw [q, Bool.true_and] at h
      rw [gr_gf h, Bool.and_false]
theorem is_ok {b : Bool} {a c u v : Int} (ha : rJ a) (hc : rJ c) (hu : rJ u) (hv : rJ v) : f_X4_is (bI b) (zJ a) (zJ c) (zJ u) (zJ v) = some (bI (b && decide (a = u) && decide (c = v))) := by
  unfold f_X4_is
  cases b with
  | false => rw [if_pos (by decide)]; rfl
  | true =>
    rw [if_neg (by decide)]
    by_cases z1 : a = u
    · rw [if_pos ((zJ_eq ha hu).mpr z1), decide_eq_true z1]
      by_cases z2 : c = v
      · rw [if_pos ((zJ_eq hc hv).mpr z2), decide_eq_true z2]; rfl
      · rw [if_neg (fun z => z2 ((zJ_eq hc hv).mp z)), decide_eq_false z2]; rfl
    · rw [if_neg (fun z => z1 ((zJ_eq ha hu).mp z)), decide_eq_false z1]; rfl
theorem guC_loop {F : Nat} (hF : 300 ≤ F) {A : Nat → Nat → Int} {n pn ex : Nat} {σ l : Nat → Nat} {X : Nat → Nat → Int} {s : Int} (hpn : pn < 25) (h : Ck A n n ex σ l X s) {c w : Nat → Int} (hS : Sy (prN pn) A n s (slA l n X s) (slB l n X s) c w) {v : Nat → Nat → Int64} (hM : Mt 5 v X) {ld : Nat → Int32} (hl : ∀ i, i < n → ld i = nI (l i)) {k : Nat} (hk : prN pn ^ k ≤ 2000000000000000000) {md : Nat → Int64} (hmd : ∀ j, j < n → md j = zJ ((mdN (prN pn) (slB l n X s j) (w j) (slA l n X s j) k : Nat) : Int)) :
    ∀ (d j fu : Nat) (f0 : Int32) (a0 b0 : Int64), j + d = n → d < fu → ∃ f' u' v', L_X10_guessAll_12 F (zJ ((prN pn ^ k : Nat) : Int)) md (nI n) (nI pn) (nI n) (zJ s) v ld fu (nI j) (bI (allB (gf (prN pn) (slA l n X s) (slB l n X s) w k) j)) (bI (allB (gr (prN pn) (slA l n X s) (slB l n X s) w k) j)) f0 a0 b0 = some (bI (aF (prN pn) (slA l n X s) (slB l n X s) w n k), bI (aR (prN pn) (slA l n X s) (slB l n X s) w n k), f', u', v') := by
  have hn := (Ck_n h).1
  have hp := Pm_pr hpn
  have hp1 := hp.1
  intro d
  induction d with
  | zero =>
    intro j fu f0 a0 b0 hj hfu
    obtain ⟨fu, rfl⟩ : ∃ g, fu = g + 1 := ⟨fu - 1, by omega⟩
    refine ⟨f0, a0, b0, ?_⟩
    rw [L_X10_guessAll_12, if_pos (nI_le (by omega) (by omega)), show j = n by omega]
    rfl
  | succ d ih =>
    intro j fu f0 a0 b0 hj hfu
    obtain ⟨fu, rfl⟩ : ∃ g, fu = g + 1 := ⟨fu - 1, by omega⟩
    have hjn : j < n := by omega
    rw [L_X10_guessAll_12, if_neg (nI_ge (by omega) (by omega))]
    cases q : allB (gf (prN pn) (slA l n X s) (slB l n X s) w k) j with
    | false =>
      refine ⟨f0, a0, b0, ?_⟩
      rw [if_pos (show bI false = (0 : Int32) by decide)]
      unfold aF aR
      rw [allB_f (show j ≤ n by omega) q, allB_gr j q, allB_gr n (allB_f (show j ≤ n by omega) q)]
    | true =>
      rw [if_neg (show ¬ bI true = (0 : Int32) by decide), if_pos (show kin (nI j) 4 from kin_nI (by decide) (by omega)), nI_clamp (n := j) (by omega), hmd j hjn]
      obtain ⟨m1, m2⟩ := mdN_e hp1.1 (slB l n X s j) (w j) (slA l n X s j) k
      obtain ⟨q1, q2, q3, q4, q5⟩ := hS.1 j hjn
      obtain ⟨r1, r2⟩ := g_rg hp1.1 hk (slA l n X s) (slB l n X s) w j
      have es : f_X4_seek F f0 a0 b0 (zJ ((mdN (prN pn) (slB l n X s j) (w j) (slA l n X s j) k : Nat) : Int)) (zJ ((prN pn ^ k : Nat) : Int)) (nI (prN pn)) = some (bI (gf (prN pn) (slA l n X s) (slB l n X s) w k j), zJ (ga (prN pn) (slA l n X s) (slB l n X s) w k j), zJ (gb (prN pn) (slA l n X s) (slB l n X s) w k j)) := seek_ok hF hp m2 hk f0 a0 b0
      obtain ⟨f', u', v', e⟩ := ih (j + 1) fu (bI (gf (prN pn) (slA l n X s) (slB l n X s) w k j)) (zJ (ga (prN pn) (slA l n X s) (slB l n X s) w k j)) (zJ (gb (prN pn) (slA l n X s) (slB l n X s) w k j)) (by omega) (by omega)
      have e1 : allB (gf (prN pn) (slA l n X s) (slB l n X s) w k) (j + 1) = gf (prN pn) (slA l n X s) (slB l n X s) w k j := by rw [allB, q, Bool.true_and]
      rw [e1] at e
      refine ⟨f', u', v', ?_⟩
      refine kb1_of (p_c hpn) ?_
      refine kb3_of es ?_
      refine kt_of (bI_01 (gf (prN pn) (slA l n X s) (slB l n X s) w k j)) ?_
      cases qr : allB (gr (prN pn) (slA l n X s) (slB l n X s) w k) j with
      | false =>
        rw [if_pos (show bI false = (0 : Int32) by decide)]
        rw [allB, qr, Bool.false_and] at e
        exact kl_of (nI_1 j) e
      | true =>
        rw [if_neg (show ¬ bI true = (0 : Int32) by decide)]
        rw [allB, qr, Bool.true_and] at e
        refine kb1_of (solA_c (by omega) h hM hl (show j < 2 ^ 31 by omega)) ?_
        refine kb1_of (solB_c (by omega) h hM hl (show j < 2 ^ 31 by omega)) ?_
        refine kb1_of (is_ok (b := gf (prN pn) (slA l n X s) (slB l n X s) w k j) r1 r2 (rJ_ab q5) (rJ_ab q4)) ?_
        unfold gr at e
        cases qq : (gf (prN pn) (slA l n X s) (slB l n X s) w k j && decide (ga (prN pn) (slA l n X s) (slB l n X s) w k j = slA l n X s j) && decide (gb (prN pn) (slA l n X s) (slB l n X s) w k j = slB l n X s j)) with
        | false =>
          rw [qq] at e
          rw [if_pos (show bI false = (0 : Int32) by decide)]
          exact kl_of (nI_1 j) e
        | true =>
          rw [qq] at e
          rw [if_neg (show ¬ bI true = (0 : Int32) by decide)]
          exact kl_of (nI_1 j) e
theorem guC_ok {F : Nat} (hF : 300 ≤ F) {A : Nat → Nat → Int} {n pn ex : Nat} {σ l : Nat → Nat} {X : Nat → Nat → Int} {s : Int} (hpn : pn < 25) (h : Ck A n n ex σ l X s) {c w : Nat → Int} (hS : Sy (prN pn) A n s (slA l n X s) (slB l n X s) c w) {v : Nat → Nat → Int64} (hM : Mt 5 v X) {ld : Nat → Int32} (hl : ∀ i, i < n → ld i = nI (l i)) {k : Nat} (hk : prN pn ^ k ≤ 2000000000000000000) {md : Nat → Int64} (hmd : ∀ j, j < n → md j = zJ ((mdN (prN pn) (slB l n X s j) (w j) (slA l n X s j) k : Nat) : Int)) (x y f0 : Int32) (a0 b0 : Int64) :
    ∃ f' u' v', f_X10_guessAll F x y (zJ ((prN pn ^ k : Nat) : Int)) md f0 a0 b0 (nI n) (nI pn) (nI n) (zJ s) v ld = some (bI (aF (prN pn) (slA l n X s) (slB l n X s) w n k), bI (aR (prN pn) (slA l n X s) (slB l n X s) w n k), f', u', v') := by
  have hn := (Ck_n h).1
  obtain ⟨f', u', v', e⟩ := guC_loop hF hpn h hS hM hl hk hmd n 0 F f0 a0 b0 (by omega) (by omega)
  refine ⟨f', u', v', ?_⟩
  unfold f_X10_guessAll
  exact kb5_of e rfl
/-- what the class's digits make is what the solution's digits make -/
theorem made_eq {p : Nat} (hp : Pm p) {A : Nat → Nat → Int} (hE : Ext A) {n : Nat} {σ' l' : Nat → Nat} {Y : Nat → Nat → Int} (hR : InR p A n n n σ' l' Y) (hD : ¬ (p : Int) ∣ Dt A n) {s : Int} {a b c w : Nat → Int} (hS : Sy p A n s a b c w) (k : Nat) {j : Nat} (hj : j < n) : sumN (fun t => dC p n Y (rsK p A n Y t) j * (p : Int) ^ t) k = ((mdN p (b j) (w j) (a j) k : Nat) : Int) := by
  rw [← (mdN_e hp.1.1 (b j) (w j) (a j) k).1]
  unfold mdS
  exact sumN_congr (fun t _ => by rw [dgK hp hE hR hD hS t hj])
theorem goC_loop {F : Nat} (hF : 300 ≤ F) {nums : Nat → Int32} {A : Nat → Nat → Int} (hN : Nc nums A) (hE : Ext A) {n pn ex E K : Nat} {σ l : Nat → Nat} {X : Nat → Nat → Int} {s : Int} (hpn : pn < 25) (h : Ck A n n ex σ l X s) {c w : Nat → Int} (hS : Sy (prN pn) A n s (slA l n X s) (slB l n X s) c w) {v : Nat → Nat → Int64} (hM : Mt 5 v X) {ld : Nat → Int32} (hl : ∀ i, i < n → ld i = nI (l i)) (hD : ¬ (prN pn : Int) ∣ Dt A n) {σ' l' : Nat → Nat} {Y : Nat → Nat → Int} (hR : InR (prN pn) A n n n σ' l' Y) {rows : Nat → Nat → Int64} (hMR : Mt 9 rows Y) (hEa : Ea (prN pn) (slA l n X s) (slB l n X s) w n E) (hEK : E ≤ K) (hK : K ≤ 60) :
    ∀ (d k fu m : Nat) (x y : Int32) (pw : Int64) (rests dg : Nat → Int32) (md : Nat → Int64) (f0 : Int32) (a0 b0 : Int64), k + d = E → 1 ≤ k → d + 1 < fu → LfK (prN pn) A n Y (k - 1) pw rests dg md →
      ∃ x' y' pw' rests' dg' md' f' u' v', L_X10_go_21 F (nI K) (nI n) (nI pn) nums rows (nI n) (zJ s) v ld fu (nI k) (-1 : Int32) (nI m) x y pw rests dg md f0 a0 b0 = some (nI E, nI (m + tsC (aF (prN pn) (slA l n X s) (slB l n X s) w n) d k), x', y', pw', rests', dg', md', f', u', v') := by
  have hn := (Ck_n h).1
  have hp := Pm_pr hpn
  have hp1 := hp.1
  obtain ⟨h1, h2, h3, h4, h5⟩ := hEa
  have onestep : ∀ (k : Nat) (pw : Int64) (rests dg : Nat → Int32) (md : Nat → Int64) (x y f0 : Int32) (a0 b0 : Int64), 1 ≤ k → k ≤ E → LfK (prN pn) A n Y (k - 1) pw rests dg md → ∃ pw' rests' dg' md' f' u' v', f_X7_step F pw rests dg md (nI n) (nI pn) nums rows = some (pw', rests', dg', md') ∧ f_X10_guessAll F x y pw' md' f0 a0 b0 (nI n) (nI pn) (nI n) (zJ s) v ld = some (bI (aF (prN pn) (slA l n X s) (slB l n X s) w n k), bI (aR (prN pn) (slA l n X s) (slB l n X s) w n k), f', u', v') ∧ LfK (prN pn) A n Y k pw' rests' dg' md' := by
    intro k pw rests dg md x y f0 a0 b0 hk1 hkE hL
    obtain ⟨pw', rests', dg', md', e1, e2⟩ := step_ok (F := F) (by omega) hN hE hpn hR hMR hL
    rw [show k - 1 + 1 = k by omega] at e2
    obtain ⟨l1, l2, l3, l4⟩ := e2
    obtain ⟨f', u', v', e3⟩ := guC_ok hF hpn h hS hM hl (k := k) (md := md') (Nat.le_trans (pw_mono hp1.1 hkE) h3) (fun j hj => by rw [l3 j hj, made_eq hp hE hR hD hS k hj]) x y f0 a0 b0
    refine ⟨pw', rests', dg', md', f', u', v', e1, ?_, l1, l2, l3, l4⟩
    rw [l1, ← powZ]
    exact e3
  intro d
  induction d with
  | zero =>
    intro k fu m x y pw rests dg md f0 a0 b0 hk hk1 hfu hL
    obtain ⟨fu, rfl⟩ : ∃ g, fu = g + 2 := ⟨fu - 2, by omega⟩
    have hkE : k = E := by omega
    subst hkE
    obtain ⟨pw', rests', dg', md', f', u', v', e1, e2, e3⟩ := onestep k pw rests dg md x y f0 a0 b0 hk1 (Nat.le_refl _) hL
    refine ⟨bI (aF (prN pn) (slA l n X s) (slB l n X s) w n k), bI true, pw', rests', dg', md', f', u', v', ?_⟩
    rw [L_X10_go_21, if_neg (nI_nlt (by omega) (by omega)), if_pos rfl]
    refine kb4_of e1 ?_
    refine kb5_of e2 ?_
    rw [h4, if_neg (show ¬ bI true = (0 : Int32) by decide)]
    refine kl_of (nI_1 k) ?_
    rw [L_X10_go_21]
    by_cases cc : nI K < nI (k + 1)
    · rw [if_pos cc]; rfl
    · rw [if_neg cc, if_neg (show ¬ nI k = (-1 : Int32) by
        intro e
        have e' : (nI k).toInt = (-1 : Int32).toInt := by rw [e]
        rw [nI_toInt (show k < 2 ^ 31 by omega)] at e'
        have : (-1 : Int32).toInt = -1 := by decide
        omega)]
      rfl
  | succ d ih =>
    intro k fu m x y pw rests dg md f0 a0 b0 hk hk1 hfu hL
    obtain ⟨fu, rfl⟩ : ∃ g, fu = g + 1 := ⟨fu - 1, by omega⟩
    obtain ⟨pw1, rests1, dg1, md1, f1, u1, v1, e1, e2, e3⟩ := onestep k pw rests dg md x y f0 a0 b0 hk1 (by omega) hL
    have hr := h5 k hk1 (by omega)
    rw [L_X10_go_21, if_neg (nI_nlt (by omega) (by omega)), if_pos rfl]
    cases q : aF (prN pn) (slA l n X s) (slB l n X s) w n k with
    | false =>
      obtain ⟨x', y', pw', rests', dg', md', f', u', v', e⟩ := ih (k + 1) fu m (bI false) (bI false) pw1 rests1 dg1 md1 f1 u1 v1 (by omega) (by omega) (by omega) e3
      refine ⟨x', y', pw', rests', dg', md', f', u', v', ?_⟩
      refine kb4_of e1 ?_
      refine kb5_of e2 ?_
      rw [hr, if_pos (show bI false = (0 : Int32) by decide), q, if_pos (show bI false = (0 : Int32) by decide), tsC, q, if_neg (by decide), Nat.zero_add]
      exact kl_of (nI_1 k) e
    | true =>
      obtain ⟨x', y', pw', rests', dg', md', f', u', v', e⟩ := ih (k + 1) fu (m + 1) (bI true) (bI false) pw1 rests1 dg1 md1 f1 u1 v1 (by omega) (by omega) (by omega) e3
      refine ⟨x', y', pw', rests', dg', md', f', u', v', ?_⟩
      refine kb4_of e1 ?_
      refine kb5_of e2 ?_
      rw [hr, if_pos (show bI false = (0 : Int32) by decide), q, if_neg (show ¬ bI true = (0 : Int32) by decide), tsC, q, if_pos rfl, ← Nat.add_assoc]
      refine kl_of (nI_1 m) ?_
      exact kl_of (nI_1 k) e
theorem goC_ok {F : Nat} (hF : 300 ≤ F) {nums : Nat → Int32} {A : Nat → Nat → Int} (hN : Nc nums A) (hE : Ext A) {n pn ex E K : Nat} {σ l : Nat → Nat} {X : Nat → Nat → Int} {s : Int} (hpn : pn < 25) (h : Ck A n n ex σ l X s) {c w : Nat → Int} (hS : Sy (prN pn) A n s (slA l n X s) (slB l n X s) c w) {v : Nat → Nat → Int64} (hM : Mt 5 v X) {ld : Nat → Int32} (hl : ∀ i, i < n → ld i = nI (l i)) (hD : ¬ (prN pn : Int) ∣ Dt A n) {σ' l' : Nat → Nat} {Y : Nat → Nat → Int} (hR : InR (prN pn) A n n n σ' l' Y) {rows : Nat → Nat → Int64} (hMR : Mt 9 rows Y) (hEa : Ea (prN pn) (slA l n X s) (slB l n X s) w n E) (hEK : E ≤ K) (hK : K ≤ 60) (q1 q2 x y : Int32) (pw : Int64) (rests dg : Nat → Int32) (md : Nat → Int64) (f0 : Int32) (a0 b0 : Int64) :
    ∃ x' y' pw' rests' dg' md' f' u' v', f_X10_go F q1 q2 x y pw rests dg md f0 a0 b0 (nI n) (nI pn) nums rows (nI n) (zJ s) v ld (nI K) = some (nI E, nI (tsC (aF (prN pn) (slA l n X s) (slB l n X s) w n) (E - 1) 1), x', y', pw', rests', dg', md', f', u', v') := by
  have hn := (Ck_n h).1
  obtain ⟨rests1, md1, e1, e2⟩ := begin_ok (F := F) (by omega) hN (prN pn) hn Y pw rests dg md
  have hE1 := hEa.1
  have hE2 := hEa.2.1
  obtain ⟨x', y', pw', rests', dg', md', f', u', v', e⟩ := goC_loop hF hN hE hpn h hS hM hl hD hR hMR hEa hEK hK (E - 1) 1 F 0 x y 1 rests1 dg md1 f0 a0 b0 (by omega) (by omega) (by omega) e2
  rw [Nat.zero_add] at e
  refine ⟨x', y', pw', rests', dg', md', f', u', v', ?_⟩
  unfold f_X10_go
  refine kb3_of e1 ?_
  rw [show L_X10_go_21 F (nI K) (nI n) (nI pn) nums rows (nI n) (zJ s) v ld F (1 : Int32) (-1 : Int32) (0 : Int32) x y 1 rests1 dg md1 f0 a0 b0 = _ from e]
  rfl
