/-! ===== the reference's digits, and its rests ===== -/
theorem fr_c {x s : Int} (hs : s ≠ 0) : ∃ c, c * frB x s = s ∧ frA x s * c = x := by
  obtain ⟨⟨u, hu⟩, v, hv⟩ := fr_dvd x s
  have hg : (Int.gcd x s : Nat) ≠ 0 := fun z => hs (Int.gcd_eq_zero_iff.mp z).2
  generalize hG : ((Int.gcd x s : Nat) : Int) = g at hu hv
  have g0 : 0 < g := by omega
  unfold frA frB
  rw [hG]
  by_cases c : s < 0
  · refine ⟨-g, ?_, ?_⟩
    · rw [show ((s.natAbs : Nat) : Int) = g * (-v) by rw [Int.mul_neg, ← hv]; omega, Int.mul_ediv_cancel_left _ (by omega), Int.neg_mul, Int.mul_neg, Int.neg_neg, ← hv]
    · rw [if_pos c, show -x = g * (-u) by rw [Int.mul_neg, ← hu], Int.mul_ediv_cancel_left _ (by omega), Int.neg_mul, Int.mul_neg, Int.neg_neg, Int.mul_comm, ← hu]
  · refine ⟨g, ?_, ?_⟩
    · rw [show ((s.natAbs : Nat) : Int) = g * v by rw [← hv]; omega, Int.mul_ediv_cancel_left _ (by omega), ← hv]
    · rw [if_neg c]
      conv => lhs; arg 1; arg 1; rw [hu]
      rw [Int.mul_ediv_cancel_left _ (by omega), Int.mul_comm, ← hu]
theorem fr_co {x s : Int} (hs : s ≠ 0) : Int.gcd (frA x s) (frB x s) = 1 := by
  have hg : (Int.gcd x s : Nat) ≠ 0 := fun z => hs (Int.gcd_eq_zero_iff.mp z).2
  obtain ⟨d1, d2⟩ := fr_dvd x s
  have e := Int.gcd_ediv_gcd_ediv_gcd (i := x) (j := s) (by omega)
  unfold frA frB
  by_cases c : s < 0
  · rw [if_pos c, show ((s.natAbs : Nat) : Int) = -s by omega, Int.neg_ediv_of_dvd d1, Int.neg_ediv_of_dvd d2, Int.gcd_neg, Int.neg_gcd]
    exact e
  · rw [if_neg c, show ((s.natAbs : Nat) : Int) = s by omega]
    exact e
theorem led_n {A : Nat → Nat → Int} {n ex : Nat} {σ l : Nat → Nat} {X : Nat → Nat → Int} {s : Int} (h : Ck A n n ex σ l X s) {j : Nat} (hj : j < n) : ledBy l j n = some j := by
  have hl := Inc_id (Inv_inc h.2.2.1)
  cases q : ledBy l j n with
  | none => exact absurd (hl j hj) (ledBy_none q j hj)
  | some r =>
    obtain ⟨r1, r2⟩ := ledBy_some q
    rw [hl r r1] at r2
    rw [r2]
theorem sl_n {A : Nat → Nat → Int} {n ex : Nat} {σ l : Nat → Nat} {X : Nat → Nat → Int} {s : Int} (h : Ck A n n ex σ l X s) {j : Nat} (hj : j < n) : slA l n X s j = frA (X j 4) s ∧ slB l n X s j = frB (X j 4) s := by
  unfold slA slB
  rw [led_n h hj]
  exact ⟨rfl, rfl⟩
theorem sc_D {A : Nat → Nat → Int} {n ex : Nat} {σ l : Nat → Nat} {X : Nat → Nat → Int} {s : Int} (h : Ck A n n ex σ l X s) : s = Dt A n ∨ s = -Dt A n := by
  have := det_scale h
  unfold sgn at this
  by_cases c : ex % 2 = 0
  · rw [if_pos c, Int.one_mul] at this; exact Or.inl this
  · rw [if_neg c, Int.neg_mul, Int.one_mul] at this; exact Or.inr this
theorem Sy_of {p : Nat} (hp : Pm p) {A : Nat → Nat → Int} {n ex : Nat} {σ l : Nat → Nat} {X : Nat → Nat → Int} {s : Int} (h : Ck A n n ex σ l X s) (hD : ¬ (p : Int) ∣ Dt A n) : ∃ c w, Sy p A n s (slA l n X s) (slB l n X s) c w ∧ ∀ j, j < n → rp p (w j) := by
  obtain ⟨s1, s2, s3⟩ := Ck_s h
  have hn := (Ck_n h).1
  have hps : ¬ (p : Int) ∣ s := by
    rcases sc_D h with e | e
    · rw [e]; exact hD
    · rw [e, Int.dvd_neg]; exact hD
  have ex1 : ∀ j, ∃ cw : Int × Int, j < n → cw.1 * slB l n X s j = s ∧ slA l n X s j * cw.1 = X j 4 ∧ (p : Int) ∣ slB l n X s j * cw.2 - 1 ∧ rp p cw.2 := by
    intro j
    by_cases hj : j < n
    · obtain ⟨e1, e2⟩ := sl_n h hj
      obtain ⟨c, c1, c2⟩ := fr_c (x := X j 4) s1
      obtain ⟨f1, f2, f3⟩ := frB_pos (a := X j 4) s1
      obtain ⟨w, w0, w1, w2⟩ := Pm_inv hp (x := slB l n X s j) (fun z => hps (by rw [e2] at z; exact Int.dvd_trans z f3))
      exact ⟨(c, (w : Int)), fun _ => ⟨by rw [e2]; exact c1, by rw [e1]; exact c2, w2, by omega, by omega⟩⟩
    · exact ⟨(0, 0), fun z => absurd z hj⟩
  obtain ⟨f, hf⟩ := Classical.axiomOfChoice ex1
  refine ⟨fun j => (f j).1, fun j => (f j).2, ⟨fun j hj => ?_, fun i hi => ?_, hps⟩, fun j hj => (hf j hj).2.2.2⟩
  · obtain ⟨q1, q2, q3, q4⟩ := hf j hj
    obtain ⟨e1, e2⟩ := sl_n h hj
    obtain ⟨f1, f2, f3⟩ := frB_pos (a := X j 4) s1
    have f4 := frA_le (a := X j 4) s1
    have f5 := (Ck_x h (i := j) (c := 4) (by omega) (by omega)).1
    exact ⟨q1, q3, by rw [e2]; exact f1, by rw [e2]; omega, by rw [e1]; omega⟩
  · rw [Lin h.2.2.1 (c := 4) (by omega) (fun i a b => by omega) hi]
    exact sumN_congr (fun t ht => by
      rw [Inc_id (Inv_inc h.2.2.1) t ht, ← (hf t ht).2.1, Int.mul_comm])
theorem iw_uniq {p : Nat} (hp : Pm p) {b u v : Int} (h1 : (p : Int) ∣ b * u - 1) (h2 : (p : Int) ∣ b * v - 1) (r1 : rp p u) (r2 : rp p v) : u = v := by
  refine rp_eq r1 r2 ?_
  have a : (p : Int) ∣ b * (u - v) := by rw [Int.mul_sub]; exact dv_trans h1 (dv_symm h2)
  refine ((Pm_q hp).1 _ _ a).resolve_left (fun z => Pm_1 hp ?_)
  rw [show (1 : Int) = b * u - (b * u - 1) by omega]
  exact Int.dvd_sub (Int.dvd_mul_of_dvd_left z) h1
theorem emw (p : Nat) (x w : Int) : (x % p * w) % p = (x * w) % p := by
  rw [Int.mul_emod, Int.emod_emod_of_dvd _ (Int.dvd_refl _), ← Int.mul_emod]
/-- a digit, and what is left, as the reference makes them -/
theorem dm_step {p : Nat} (hp : Pm p) {b w x : Int} (hw : rp p w) (hd : (p : Int) ∣ b * w - 1) (hb : b.natAbs ≤ 2305430424) (hx : x.natAbs ≤ 2305430424) :
    f_X12_leftOver (zJ x) (zJ p) = some (zJ (x % p)) ∧ (zJ (x % p) * zJ w) - (zJ (x % p) * zJ w) / zJ (p : Int) * zJ (p : Int) = zJ ((x * w) % p) ∧ (zJ x - zJ ((x * w) % p) * zJ b) / zJ (p : Int) = zJ (lfS p b w x) := by
  have hp1 := hp.1
  have hr := rp_mod (show 0 < p by omega) x
  have hb1 := ab_rp hp1.2 hr hw
  refine ⟨loM_ok (sm_ab hx) (by omega) hp1.2, ?_, ?_⟩
  · rw [zJ_mul, remp_ok (by unfold sm; omega) hb1.1 (by omega) hp1.2, emw]
  · have hr2 := rp_mod (show 0 < p by omega) (x * w)
    have h1 : ((x * w) % p * b).natAbs ≤ 97 * 2305430424 := ab_mul (by have h1 := hr2.1; have h2 := hr2.2; omega) hb
    rw [zJ_mul, zJ_sub, zJ_div (rJ_sm (by unfold sm; omega)) (rJ_sm (sm_nat (by omega))) (by omega), tdiv_of_dvd (lfS_dvd hd)]
    rfl
theorem dm_loop {p : Nat} (hp : Pm p) {b w a : Int} (hw : rp p w) (hd : (p : Int) ∣ b * w - 1) (hb : b.natAbs ≤ 2305430424) (ha : a.natAbs ≤ 2305430424) {k : Nat} (hk : k < 1000) :
    ∀ (d t fu : Nat) (x7 : Int64), t + d = k + 1 → d < fu → (d = 0 → x7 = zJ (dgt p b w a k)) → L_X12_digitOf_43 (nI k) (zJ p) (zJ w) (zJ b) fu x7 (nI t) (zJ (lft p b w a t)) = some (zJ (dgt p b w a k), zJ (lft p b w a (k + 1))) := by
  have hp1 := hp.1
  intro d
  induction d with
  | zero =>
    intro t fu x7 ht hfu hx
    obtain ⟨fu, rfl⟩ : ∃ g, fu = g + 1 := ⟨fu - 1, by omega⟩
    rw [L_X12_digitOf_43, if_pos (nI_lt (by omega) (by omega)), hx rfl, show t = k + 1 by omega]
  | succ d ih =>
    intro t fu x7 ht hfu hx
    obtain ⟨fu, rfl⟩ : ∃ g, fu = g + 1 := ⟨fu - 1, by omega⟩
    obtain ⟨e1, e2, e3⟩ := dm_step hp hw hd hb (lft_ab hp1.1 hd hb ha t)
    rw [L_X12_digitOf_43, if_neg (nI_nlt (by omega) (by omega)), e1]
    simp only [kb1, Option.bind_some]
    rw [if_pos (nz_p (by omega) hp1.2)]
    simp only [kl]
    rw [if_pos (nz_p (by omega) hp1.2), e2, e3, nI_1]
    exact ih (t + 1) fu _ (by omega) (by omega) (fun z => by rw [show t = k by omega]; rfl)
theorem fd_loop {p : Nat} (hp : Pm p) {b w a : Int} (hw : rp p w) (hd : (p : Int) ∣ b * w - 1) (hb : b.natAbs ≤ 2305430424) (ha : a.natAbs ≤ 2305430424) {k : Nat} (hk : k < 1000) :
    ∀ (d t fu : Nat), t + d = k → d < fu → L_X12_firstDigits_36 (nI k) (zJ p) (zJ w) (zJ b) fu (zJ (lft p b w a t)) (zJ (sumN (fun t => dgt p b w a t * (p : Int) ^ t) t)) (zJ ((p : Int) ^ t)) (nI t) = some (zJ (sumN (fun t => dgt p b w a t * (p : Int) ^ t) k)) := by
  have hp1 := hp.1
  intro d
  induction d with
  | zero =>
    intro t fu ht hfu
    obtain ⟨fu, rfl⟩ : ∃ g, fu = g + 1 := ⟨fu - 1, by omega⟩
    rw [L_X12_firstDigits_36, if_pos (nI_le (by omega) (by omega)), show t = k by omega]
  | succ d ih =>
    intro t fu ht hfu
    obtain ⟨fu, rfl⟩ : ∃ g, fu = g + 1 := ⟨fu - 1, by omega⟩
    obtain ⟨e1, e2, e3⟩ := dm_step hp hw hd hb (lft_ab hp1.1 hd hb ha t)
    rw [L_X12_firstDigits_36, if_neg (nI_ge (by omega) (by omega)), e1]
    simp only [kb1, Option.bind_some]
    rw [if_pos (nz_p (by omega) hp1.2)]
    simp only [kl]
    rw [if_pos (nz_p (by omega) hp1.2), e2, e3, nI_1, zJ_mul, zJ_mul, zJ_add, ← Int.pow_succ]
    exact ih (t + 1) fu (by omega) (by omega)
theorem fit_n {n : Nat} {X : Nat → Nat → Int} : fitB n n X = true := fitB_iff.mpr (fun z a b => by omega)
theorem digitM_ok {F : Nat} (hF : 2305430425 ≤ F) {wd : Nat → Int32} {A : Nat → Nat → Int} {n pn ex : Nat} {σ l : Nat → Nat} {X : Nat → Nat → Int} {s : Int} (hW : Wp wd n pn A) (h : Ck A n n ex σ l X s) {c w : Nat → Int} (hS : Sy (prN pn) A n s (slA l n X s) (slB l n X s) c w) (hw : ∀ j, j < n → rp (prN pn) (w j)) {j k : Nat} (hj : j < n) (hk : k < 1000) (a b la lb : Int64) (rs cs : Nat → Int32) :
    ∃ rs' cs', f_X12_digitOf F a b la lb wd rs cs (nI j) (nI k) = some (zI (dgt (prN pn) (slB l n X s j) (w j) (slA l n X s j) k), zJ (slA l n X s j), zJ (slB l n X s j), zJ (lft (prN pn) (slB l n X s j) (w j) (slA l n X s j) (k + 1)), zJ (slB l n X s j), rs', cs') := by
  have hp := Pm_pr hW.2.2
  have hp1 := hp.1
  have hn := (Ck_n h).1
  obtain ⟨s1, s2, s3⟩ := Ck_s h
  obtain ⟨q1, q2, q3, q4, q5⟩ := hS.1 j hj
  obtain ⟨rs1, cs1, e1⟩ := sol_m hF hW.1 h fit_n (show j < 4 by omega) a b rs cs
  obtain ⟨u, e2, u1, u2⟩ := inverse_ok (F := F) (by omega) hp (sm_ab q4) (fun z => hS.2.2 (by rw [← q1]; exact Int.dvd_mul_of_dvd_right z))
  have hu := iw_uniq hp u2 q2 u1 (hw j hj)
  subst hu
  refine ⟨rs1, cs1, ?_⟩
  unfold f_X12_digitOf
  refine kb1_of (pm_ok (by omega) hW) ?_
  refine kl_of (nIJ hp1.2) ?_
  rw [e1]
  simp only [kb4, Option.bind_some]
  refine kb1_of e2 ?_
  refine kb2_of (show L_X12_digitOf_43 (nI k) (zJ (prN pn)) (zJ (w j)) (zJ (slB l n X s j)) F (0 : Int64) (0 : Int32) (zJ (slA l n X s j)) = _ from dm_loop hp u1 u2 q4 q5 hk (k + 1) 0 F 0 (by omega) (by omega) (fun z => by omega)) ?_
  rw [zJ_I]
theorem fdM_ok {F : Nat} (hF : 2305430425 ≤ F) {wd : Nat → Int32} {A : Nat → Nat → Int} {n pn ex : Nat} {σ l : Nat → Nat} {X : Nat → Nat → Int} {s : Int} (hW : Wp wd n pn A) (h : Ck A n n ex σ l X s) {c w : Nat → Int} (hS : Sy (prN pn) A n s (slA l n X s) (slB l n X s) c w) (hw : ∀ j, j < n → rp (prN pn) (w j)) {j k : Nat} (hj : j < n) (hk : k < 1000) (a b : Int64) (rs cs : Nat → Int32) :
    ∃ rs' cs', f_X12_firstDigits F a b wd rs cs (nI j) (nI k) = some (zJ (sumN (fun t => dgt (prN pn) (slB l n X s j) (w j) (slA l n X s j) t * (prN pn : Int) ^ t) k), zJ (slA l n X s j), zJ (slB l n X s j), rs', cs') := by
  have hp := Pm_pr hW.2.2
  have hp1 := hp.1
  have hn := (Ck_n h).1
  obtain ⟨s1, s2, s3⟩ := Ck_s h
  obtain ⟨q1, q2, q3, q4, q5⟩ := hS.1 j hj
  obtain ⟨rs1, cs1, e1⟩ := sol_m hF hW.1 h fit_n (show j < 4 by omega) a b rs cs
  obtain ⟨u, e2, u1, u2⟩ := inverse_ok (F := F) (by omega) hp (sm_ab q4) (fun z => hS.2.2 (by rw [← q1]; exact Int.dvd_mul_of_dvd_right z))
  have hu := iw_uniq hp u2 q2 u1 (hw j hj)
  subst hu
  refine ⟨rs1, cs1, ?_⟩
  unfold f_X12_firstDigits
  refine kb1_of (pm_ok (by omega) hW) ?_
  refine kl_of (nIJ hp1.2) ?_
  rw [e1]
  simp only [kb4, Option.bind_some]
  refine kb1_of e2 ?_
  refine kb1_of (show L_X12_firstDigits_36 (nI k) (zJ (prN pn)) (zJ (w j)) (zJ (slB l n X s j)) F (zJ (slA l n X s j)) (0 : Int64) (1 : Int64) (0 : Int32) = _ from fd_loop hp u1 u2 q4 q5 hk k 0 F (by omega) (by omega)) ?_
  rfl
/-- the reference's rest of a row -/
theorem rm_loop {F : Nat} (hF : 2305430425 ≤ F) {wd : Nat → Int32} {A : Nat → Nat → Int} {n pn ex : Nat} {σ l : Nat → Nat} {X : Nat → Nat → Int} {s : Int} (hW : Wp wd n pn A) (h : Ck A n n ex σ l X s) {c w : Nat → Int} (hS : Sy (prN pn) A n s (slA l n X s) (slB l n X s) c w) (hw : ∀ j, j < n → rp (prN pn) (w j)) {i k : Nat} (hi : i < n) (hk : k < 1000) {D : Int} (hD : D = s ∨ D = -s) (sg : Int) (hsg : D = sg * s) :
    ∀ (d j fu : Nat) (a b la lb : Int64) (rs cs : Nat → Int32), j + d = n → d < fu → ∃ a' b' la' lb' rs' cs', L_X12_restOf_22 F (nI i) (nI (k + 1)) (zJ D) wd fu (zJ (sg * sumN (fun j => A i j * (lft (prN pn) (slB l n X s j) (w j) (slA l n X s j) (k + 1) * c j)) j)) (nI j) a b la lb rs cs = some (zJ (sg * sumN (fun j => A i j * (lft (prN pn) (slB l n X s j) (w j) (slA l n X s j) (k + 1) * c j)) n), a', b', la', lb', rs', cs') := by
  have hn := (Ck_n h).1
  have hp := Pm_pr hW.2.2
  have hp1 := hp.1
  obtain ⟨s1, s2, s3⟩ := Ck_s h
  intro d
  induction d with
  | zero =>
    intro j fu a b la lb rs cs hj hfu
    obtain ⟨fu, rfl⟩ : ∃ g, fu = g + 1 := ⟨fu - 1, by omega⟩
    refine ⟨a, b, la, lb, rs, cs, ?_⟩
    rw [L_X12_restOf_22]
    refine kb1_of (n_ok hW.1) ?_
    rw [if_pos (nI_le (by omega) (by omega)), show j = n by omega]
  | succ d ih =>
    intro j fu a b la lb rs cs hj hfu
    obtain ⟨fu, rfl⟩ : ∃ g, fu = g + 1 := ⟨fu - 1, by omega⟩
    obtain ⟨rs1, cs1, e1⟩ := digitM_ok hF hW h hS hw (j := j) (k := k) (by omega) hk a b la lb rs cs
    obtain ⟨q1, q2, q3, q4, q5⟩ := hS.1 j (by omega)
    obtain ⟨a', b', la', lb', rs', cs', e2⟩ := ih (j + 1) fu (zJ (slA l n X s j)) (zJ (slB l n X s j)) (zJ (lft (prN pn) (slB l n X s j) (w j) (slA l n X s j) (k + 1))) (zJ (slB l n X s j)) rs1 cs1 (by omega) (by omega)
    refine ⟨a', b', la', lb', rs', cs', ?_⟩
    rw [L_X12_restOf_22]
    refine kb1_of (n_ok hW.1) ?_
    have ek : nI (k + 1) - (1 : Int32) = nI k := nI_pred k
    have hr := rp_mod (show 0 < prN pn by omega) (lft (prN pn) (slB l n X s j) (w j) (slA l n X s j) k * w j)
    rw [if_neg (nI_ge (by omega) (by omega)), ek, e1]
    simp only [kb7, Option.bind_some]
    rw [if_pos (by
      rw [show (0 : Int32) = zI 0 from rfl]
      exact (zI_le ⟨by omega, by omega⟩ ⟨by have := hr.1; unfold dgt; omega, by have := hr.2; unfold dgt; omega⟩).mpr hr.1)]
    refine kb1_of (cell_ok hW.1.2.2.2 (show i < 4 by omega) (show j < 5 by omega)) ?_
    have hne : ¬ zJ (slB l n X s j) = 0 := by
      rw [show (0 : Int64) = zJ 0 from rfl, zJ_eq (rJ_ab q4) ⟨by omega, by omega⟩]
      omega
    have hdv : (D.tdiv (slB l n X s j)) = sg * c j := by
      rw [hsg, show sg * s = sg * c j * slB l n X s j by rw [Int.mul_assoc, q1], Int.mul_tdiv_cancel _ (by omega)]
    rw [if_pos hne, zJ_div (rJ_ab (by rcases hD with e | e <;> rw [e] <;> omega)) (rJ_ab q4) (by rcases hD with e | e <;> rw [e] <;> omega), hdv, zJ_mul, zJ_mul, zJ_add, nI_1]
    simp only [kl]
    rw [sumN, Int.mul_add, show sg * (A i j * (lft (prN pn) (slB l n X s j) (w j) (slA l n X s j) (k + 1) * c j)) = A i j * lft (prN pn) (slB l n X s j) (w j) (slA l n X s j) (k + 1) * (sg * c j) by grind] at e2
    exact e2
theorem restM_ok {F : Nat} (hF : 2305430425 ≤ F) {wd : Nat → Int32} {A : Nat → Nat → Int} {n pn ex : Nat} {σ l : Nat → Nat} {X : Nat → Nat → Int} {s : Int} (hW : Wp wd n pn A) (hE : Ext A) (h : Ck A n n ex σ l X s) {c w : Nat → Int} (hS : Sy (prN pn) A n s (slA l n X s) (slB l n X s) c w) (hw : ∀ j, j < n → rp (prN pn) (w j)) (hD : ¬ (prN pn : Int) ∣ Dt A n) {σ' l' : Nat → Nat} {Y : Nat → Nat → Int} (hR : InR (prN pn) A n n n σ' l' Y) {i k : Nat} (hi : i < n) (hk : k < 1000) (a b la lb : Int64) (rs cs : Nat → Int32) :
    ∃ a' b' la' lb' rs' cs', f_X12_restOf F a b la lb wd rs cs (nI i) (nI k) = some (zJ (rsK (prN pn) A n Y k i), a', b', la', lb', rs', cs') := by
  have hn := (Ck_n h).1
  have hp := Pm_pr hW.2.2
  have hp1 := hp.1
  obtain ⟨s1, s2, s3⟩ := Ck_s h
  unfold f_X12_restOf
  by_cases k0 : k = 0
  · subst k0
    rw [if_pos (by rfl)]
    exact ⟨a, b, la, lb, rs, cs, kb1_of (show f_X12_cell wd (nI i) (4 : Int32) = _ from cell_ok hW.1.2.2.2 (show i < 4 by omega) (show 4 < 5 by omega)) rfl⟩
  · obtain ⟨k, rfl⟩ : ∃ m, k = m + 1 := ⟨k - 1, by omega⟩
    obtain ⟨rs1, cs1, e1⟩ := determinant_ok (F := F) (by omega) hW.1 rs cs
    obtain ⟨sg, g1, g2⟩ : ∃ sg, Dt A n = sg * s ∧ (Dt A n = s ∨ Dt A n = -s) := by
      rcases sc_D h with e | e
      · exact ⟨1, by omega, Or.inl (by omega)⟩
      · exact ⟨-1, by omega, Or.inr (by omega)⟩
    obtain ⟨a', b', la', lb', rs', cs', e2⟩ := rm_loop hF hW h hS hw hi (k := k) (by omega) g2 sg g1 n 0 F a b la lb rs1 cs1 (by omega) (by omega)
    refine ⟨a', b', la', lb', rs', cs', ?_⟩
    rw [if_neg (fun z => by have := (nI_eq (a := k + 1) (b := 0) (by omega) (by omega)).mp z; omega)]
    refine kb3_of e1 ?_
    rw [sumN, Int.mul_zero] at e2
    rw [show L_X12_restOf_22 F (nI i) (nI (k + 1)) (zJ (Mn A (2 ^ n - 1) (2 ^ n - 1))) wd F (0 : Int64) (0 : Int32) a b la lb rs1 cs1 = _ from e2]
    simp only [kb7, Option.bind_some]
    have hab := Dt_ab hW.1.2.2.2.2 hn
    have hD0 : Dt A n ≠ 0 := fun z => hD (by rw [z]; exact Int.dvd_zero _)
    have e3 := rsK_R hp hE hR hD hS (k + 1) i hi
    have hra := rsK_ab hp hW.1.2.2.2.2 hE hR (k + 1) i hi
    rw [← e3, ← Int.mul_assoc, ← g1]
    have hm : (Dt A n * rsK (prN pn) A n Y (k + 1) i).natAbs ≤ 2305430424 * 50000 := ab_mul hab hra
    rw [if_pos (fun z => hD0 ((zJ_zero hab).mp z)), zJ_div (rJ_sm (by unfold sm; omega)) (rJ_ab hab) (by omega), Int.mul_tdiv_cancel_left _ hD0]
