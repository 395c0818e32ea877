/-! ===== rows remembered, brought back, kept ===== -/
theorem iM (a b : Nat) : nI a * nI b = nI (a * b) := by rw [nI_z, nI_z, zI_mul, nI_z, Int.natCast_mul]
theorem iS {a b : Nat} (h : b ≤ a) : nI a - nI b = nI (a - b) := by
  rw [nI_z, nI_z, zI_sub, nI_z]
  congr 1
  omega
theorem iD {a : Nat} (h : 1 ≤ a) : nI a + (-1 : Int32) = nI (a - 1) := by
  rw [nI_z, nI_z, dec_I]
  congr 1
  omega
theorem cp_loop {f t : Nat} (hf : f + 22 ≤ 418) (ht : t + 22 ≤ 418) (hd : f + 22 ≤ t ∨ t + 22 ≤ f) :
    ∀ (d k fu : Nat) (w : Nat → Int32), k + d = 22 → d < fu → ∃ w', L_X12_copyRow_2 (nI f) (nI t) fu (nI k) w = some w' ∧ ∀ i, w' i = if t + k ≤ i ∧ i < t + 22 then w (f + (i - t)) else w i := by
  intro d
  induction d with
  | zero =>
    intro k fu w hk hfu
    obtain ⟨fu, rfl⟩ : ∃ g, fu = g + 1 := ⟨fu - 1, by omega⟩
    refine ⟨w, ?_, fun i => by rw [if_neg (by omega)]⟩
    rw [L_X12_copyRow_2, if_pos (show (22 : Int32) ≤ nI k from nI_le (a := 22) (by omega) (by omega))]
  | succ d ih =>
    intro k fu w hk hfu
    obtain ⟨fu, rfl⟩ : ∃ g, fu = g + 1 := ⟨fu - 1, by omega⟩
    obtain ⟨w', e1, e2⟩ := ih (k + 1) fu (upd w (t + k) (w (f + k))) (by omega) (by omega)
    refine ⟨w', ?_, fun i => ?_⟩
    · rw [L_X12_copyRow_2, if_neg (show ¬ (22 : Int32) ≤ nI k from nI_ge (b := 22) (by omega) (by omega)), nI_add, nI_add, if_pos (show kin (nI (f + k)) 418 from kin_nI (by decide) (by omega)), if_pos (show kin (nI (t + k)) 418 from kin_nI (by decide) (by omega)), nI_clamp (n := f + k) (by omega), nI_clamp (n := t + k) (by omega)]
      refine kl_of rfl ?_
      exact kl_of (nI_1 k) e1
    · rw [e2 i]
      by_cases c : i = t + k
      · subst c
        rw [if_neg (by omega), if_pos (by omega), pk_us, show t + k - t = k by omega]
      · by_cases c2 : t + (k + 1) ≤ i ∧ i < t + 22
        · rw [if_pos c2, if_pos (by omega), pk_un (by omega)]
        · rw [if_neg c2, if_neg (by omega), pk_un c]
theorem copyRow_ok {F : Nat} (hF : 100 ≤ F) {f t : Nat} (hf : f + 22 ≤ 418) (ht : t + 22 ≤ 418) (hd : f + 22 ≤ t ∨ t + 22 ≤ f) (w : Nat → Int32) : ∃ w', f_X12_copyRow F w (nI f) (nI t) = some w' ∧ ∀ i, w' i = if t ≤ i ∧ i < t + 22 then w (f + (i - t)) else w i := by
  obtain ⟨w', e1, e2⟩ := cp_loop hf ht hd 22 0 F w (by omega) (by omega)
  refine ⟨w', ?_, e2⟩
  unfold f_X12_copyRow
  exact kb1_of e1 rfl
theorem rem_loop {F : Nat} (hF : 100 ≤ F) : ∀ (k fu : Nat) (w : Nat → Int32), k ≤ 16 → k < fu → ∃ w', L_X12_remember_3 F fu (nI k) w = some w' ∧ ∀ i, w' i = if 22 ≤ i ∧ i < 22 * (k + 1) then w (i - 22) else w i := by
  intro k
  induction k with
  | zero =>
    intro fu w hk hfu
    obtain ⟨fu, rfl⟩ : ∃ g, fu = g + 1 := ⟨fu - 1, by omega⟩
    refine ⟨w, ?_, fun i => by rw [if_neg (by omega)]⟩
    rw [L_X12_remember_3, if_pos (by decide)]
  | succ k ih =>
    intro fu w hk hfu
    obtain ⟨fu, rfl⟩ : ∃ g, fu = g + 1 := ⟨fu - 1, by omega⟩
    obtain ⟨w1, e1, e2⟩ := copyRow_ok hF (f := 22 * k) (t := 22 * (k + 1)) (by omega) (by omega) (by omega) w
    obtain ⟨w', e3, e4⟩ := ih fu w1 (by omega) (by omega)
    refine ⟨w', ?_, fun i => ?_⟩
    · rw [L_X12_remember_3, if_neg (show ¬ nI (k + 1) ≤ 0 from nI_nle (by omega) (by omega))]
      refine kb1_of (a := w1) ?_ ?_
      · rw [show (1 : Int32) = nI 1 from rfl, iS (by omega), show (22 : Int32) = nI 22 from rfl, iM, iM]
        exact e1
      · exact kl_of (iD (by omega)) e3
    · rw [e4 i]
      by_cases c : 22 ≤ i ∧ i < 22 * (k + 1)
      · rw [if_pos c, if_pos (by omega), e2, if_neg (by omega)]
      · rw [if_neg c, e2]
        by_cases c2 : 22 * (k + 1) ≤ i ∧ i < 22 * (k + 1) + 22
        · rw [if_pos c2, if_pos (by omega)]
          congr 1
          omega
        · rw [if_neg c2, if_neg (by omega)]
theorem remM_ok {F : Nat} (hF : 100 ≤ F) {h : Nat} (hh : h ≤ 16) (w : Nat → Int32) : ∃ w', f_X12_remember F (nI h) w = some (nI (min (h + 1) 16), w') ∧ ∀ i, w' i = if 22 ≤ i ∧ i < 374 then w (i - 22) else w i := by
  obtain ⟨w', e1, e2⟩ := rem_loop hF 16 F w (by omega) (by omega)
  refine ⟨w', ?_, e2⟩
  unfold f_X12_remember
  refine kb1_of e1 ?_
  by_cases c : h = 16
  · subst c; rfl
  · rw [if_neg (show ¬ (16 : Int32) ≤ nI h from nI_ge (b := 16) (by omega) (by omega))]
    refine kl_of (nI_1 h) ?_
    rw [show min (h + 1) 16 = h + 1 by omega]
/-- a record of twenty-two words -/
def Gd (g : Nat → Int32) (n pn : Nat) (A : Nat → Nat → Int) : Prop := (g 0 = nI n ∧ 1 ≤ n ∧ n ≤ 4) ∧ (g 1 = nI pn ∧ pn < 25) ∧ (∀ i j, i < 4 → j < 5 → g (2 + 5 * i + j) = zI (A i j)) ∧ Bd A ∧ Bt A ∧ Zr A n ∧ Ext A
theorem Gd_now {vn vp : Int32} {nums w : Nat → Int32} {n pn : Nat} {A : Nat → Nat → Int} (h : NowR vn vp nums w n pn A) : Gd w n pn A ∧ vn = w 0 ∧ vp = w 1 ∧ ∀ k, k < 20 → nums k = w (2 + k) := by
  obtain ⟨rfl, rfl, hN, ⟨⟨h0, h1, h4, hC⟩, hp, hpn⟩, hT, hZ, hE⟩ := h
  refine ⟨⟨⟨h0, h1, h4⟩, ⟨hp, hpn⟩, hC.1, hN.2, hT, hZ, hE⟩, h0.symm, hp.symm, fun k hk => ?_⟩
  have e1 := hN.1 (k / 5) (k % 5) (by omega) (by omega)
  have e2 := hC.1 (k / 5) (k % 5) (by omega) (by omega)
  rw [show 5 * (k / 5) + k % 5 = k by omega] at e1
  rw [show 2 + 5 * (k / 5) + k % 5 = 2 + k by omega] at e2
  rw [e1, e2]
theorem now_Gd {vn vp : Int32} {nums w : Nat → Int32} {n pn : Nat} {A : Nat → Nat → Int} (h : Gd w n pn A) (h1 : vn = w 0) (h2 : vp = w 1) (h3 : ∀ k, k < 20 → nums k = w (2 + k)) : NowR vn vp nums w n pn A := by
  obtain ⟨⟨g0, g1, g4⟩, ⟨gp, gpn⟩, hc, hB, hT, hZ, hE⟩ := h
  refine ⟨by rw [h1, g0], by rw [h2, gp], ⟨fun i j hi hj => ?_, hB⟩, ⟨⟨g0, g1, g4, hc, hB⟩, gp, gpn⟩, hT, hZ, hE⟩
  rw [h3 _ (by omega), ← hc i j hi hj]
  congr 1
  omega
theorem Gd_congr {g g' : Nat → Int32} {n pn : Nat} {A : Nat → Nat → Int} (h : Gd g n pn A) (e : ∀ k, k < 22 → g' k = g k) : Gd g' n pn A := by
  obtain ⟨⟨g0, g1, g4⟩, ⟨gp, gpn⟩, hc, hB, hT, hZ, hE⟩ := h
  refine ⟨⟨by rw [e 0 (by omega), g0], g1, g4⟩, ⟨by rw [e 1 (by omega), gp], gpn⟩, fun i j hi hj => ?_, hB, hT, hZ, hE⟩
  rw [e _ (by omega)]
  exact hc i j hi hj
/-- what can be undone -/
def HisR (hc hn : Int32) (store : Nat → Int32) (kn : Int32) (w : Nat → Int32) : Prop := ∃ h t : Nat, h ≤ 16 ∧ t < 16 ∧ hc = nI h ∧ kn = nI h ∧ hn = nI t ∧ ∀ i, i < h → (∀ k, k < 22 → store (22 * ((t + 15 - i) % 16) + k) = w (22 * (i + 1) + k)) ∧ ∃ n pn A, Gd (fun k => w (22 * (i + 1) + k)) n pn A
theorem HisR_congr {hc hn : Int32} {store : Nat → Int32} {kn : Int32} {w w' : Nat → Int32} (h : HisR hc hn store kn w) (e : ∀ i, 22 ≤ i → i < 374 → w' i = w i) : HisR hc hn store kn w' := by
  obtain ⟨h, t, h1, h2, rfl, rfl, rfl, h3⟩ := h
  refine ⟨h, t, h1, h2, rfl, rfl, rfl, fun i hi => ?_⟩
  obtain ⟨a, n, pn, A, b⟩ := h3 i hi
  refine ⟨fun k hk => ?_, n, pn, A, Gd_congr b (fun k hk => ?_)⟩
  · rw [e _ (by omega) (by omega)]; exact a k hk
  · exact e _ (by omega) (by omega)
theorem writeTo_ok {N f : Nat} (hN : N < 2 ^ 31) (hf : f + 22 ≤ N) (vn vp : Int32) (nums st : Nat → Int32) : ∃ st', f_X3_writeTo N vn vp nums st (nI f) = some st' ∧ ∀ i, st' i = if i = f then vn else if i = f + 1 then vp else if f + 2 ≤ i ∧ i < f + 22 then nums (i - (f + 2)) else st i := by
  refine ⟨va_cpy nums (upd (upd st f vn) (f + 1) vp) 0 (f + 2) 20, ?_, fun i => ?_⟩
  · unfold f_X3_writeTo
    rw [if_pos (show kin (nI f) N from kin_nI hN (by omega)), nI_clamp (n := f) (by omega)]
    refine kl_of rfl ?_
    rw [nI_1, if_pos (show kin (nI (f + 1)) N from kin_nI hN (by omega)), nI_clamp (n := f + 1) (by omega)]
    refine kl_of rfl ?_
    rw [show nI f + (2 : Int32) = nI (f + 2) from nI_add f 2, nI_clamp (n := f + 2) (by omega), show (0 : Int32).toNatClampNeg = 0 from rfl, show (20 : Int32).toNatClampNeg = 20 from rfl]
    rw [if_pos ⟨by decide, by rw [lt0_toInt, nI_toInt (by omega)]; omega, by decide, by omega, by omega⟩]
    rfl
  · unfold va_cpy
    by_cases c1 : i = f
    · subst c1
      rw [if_pos rfl, if_neg (by omega), pk_un (by omega), pk_us]
    · rw [if_neg c1]
      by_cases c2 : i = f + 1
      · subst c2
        rw [if_pos rfl, if_neg (by omega), pk_us]
      · rw [if_neg c2]
        by_cases c3 : f + 2 ≤ i ∧ i < f + 22
        · rw [if_pos c3, if_pos (by omega), Nat.zero_add]
        · rw [if_neg c3, if_neg (by omega), pk_un c2, pk_un c1]
theorem readFrom_ok {N f : Nat} (hN : N < 2 ^ 31) (hf : f + 22 ≤ N) (vn vp : Int32) (nums st : Nat → Int32) : ∃ nums', f_X3_readFrom N vn vp nums st (nI f) = some (st f, st (f + 1), nums') ∧ ∀ k, k < 20 → nums' k = st (f + 2 + k) := by
  refine ⟨va_cpy st nums (f + 2) 0 20, ?_, fun k hk => ?_⟩
  · unfold f_X3_readFrom
    rw [if_pos (show kin (nI f) N from kin_nI hN (by omega)), nI_clamp (n := f) (by omega)]
    refine kl_of rfl ?_
    rw [nI_1, if_pos (show kin (nI (f + 1)) N from kin_nI hN (by omega)), nI_clamp (n := f + 1) (by omega)]
    refine kl_of rfl ?_
    rw [show nI f + (2 : Int32) = nI (f + 2) from nI_add f 2, nI_clamp (n := f + 2) (by omega), show (0 : Int32).toNatClampNeg = 0 from rfl, show (20 : Int32).toNatClampNeg = 20 from rfl]
    rw [if_pos ⟨by rw [lt0_toInt, nI_toInt (by omega)]; omega, by decide, by decide, by omega, by omega⟩]
    rfl
  · unfold va_cpy
    rw [if_pos (by omega)]
    rfl
theorem next_fin : ∀ t : Fin 16, ((nI t.val + (1 : Int32)) - (nI t.val + (1 : Int32)) / (16 : Int32) * (16 : Int32)) = nI ((t.val + 1) % 16) := by decide +kernel
theorem cnt_fin : ∀ h : Fin 17, (if (16 : Int32) < (nI h.val + (1 : Int32)) then (16 : Int32) else (nI h.val + (1 : Int32))) = nI (min (h.val + 1) 16) := by decide +kernel
/-- both remember -/
theorem remember_ag {F : Nat} (hF : 100 ≤ F) {vn vp : Int32} {nums w : Nat → Int32} {n pn : Nat} {A : Nat → Nat → Int} (h : NowR vn vp nums w n pn A) {hc hn : Int32} {store : Nat → Int32} {kn : Int32} (hH : HisR hc hn store kn w) :
    ∃ hc' hn' store' kn' w', f_X5_remember hc hn store vn vp nums = some (hc', hn', store') ∧ f_X12_remember F kn w = some (kn', w') ∧ HisR hc' hn' store' kn' w' ∧ (∀ i, i < 22 → w' i = w i) ∧ ∀ i, 374 ≤ i → w' i = w i := by
  obtain ⟨hG, g0, g1, g2⟩ := Gd_now h
  obtain ⟨h, t, h1, h2, rfl, rfl, rfl, h3⟩ := hH
  obtain ⟨st', s1, s2⟩ := writeTo_ok (N := 352) (f := t * 22) (by decide) (by omega) vn vp nums store
  obtain ⟨w', w1, w2⟩ := remM_ok hF h1 w
  refine ⟨nI (min (h + 1) 16), nI ((t + 1) % 16), st', nI (min (h + 1) 16), w', ?_, w1, ⟨min (h + 1) 16, (t + 1) % 16, by omega, by omega, rfl, rfl, rfl, fun i hi => ?_⟩, fun i hi => by rw [w2, if_neg (by omega)], fun i hi => by rw [w2, if_neg (by omega)]⟩
  · unfold f_X5_remember
    refine kb1_of (a := st') ?_ ?_
    · rw [show (22 : Int32) = nI 22 from rfl, iM]; exact s1
    · refine kl_of (next_fin ⟨t, h2⟩) ?_
      refine kl_of (cnt_fin ⟨h, by omega⟩) ?_
      rfl
  · cases i with
    | zero =>
      refine ⟨fun k hk => ?_, n, pn, A, Gd_congr hG (fun k hk => ?_)⟩
      · have e : w' (22 * (0 + 1) + k) = w k := by rw [w2, if_pos (by omega), show 22 * (0 + 1) + k - 22 = k by omega]
        rw [show ((t + 1) % 16 + 15 - 0) % 16 = t by omega, e, s2]
        by_cases k0 : k = 0
        · subst k0; rw [if_pos (by omega)]; exact g0
        · rw [if_neg (by omega)]
          by_cases k1 : k = 1
          · subst k1; rw [if_pos (by omega)]; exact g1
          · rw [if_neg (by omega), if_pos (by omega), show 22 * t + k - (t * 22 + 2) = k - 2 by omega, g2 _ (by omega), show 2 + (k - 2) = k by omega]
      · rw [w2, if_pos (by omega), show 22 * (0 + 1) + k - 22 = k by omega]
    | succ i =>
      obtain ⟨a, n', pn', A', b⟩ := h3 i (by omega)
      refine ⟨fun k hk => ?_, n', pn', A', Gd_congr b (fun k hk => ?_)⟩
      · have e : w' (22 * (i + 1 + 1) + k) = w (22 * (i + 1) + k) := by rw [w2, if_pos (by omega), show 22 * (i + 1 + 1) + k - 22 = 22 * (i + 1) + k by omega]
        rw [show ((t + 1) % 16 + 15 - (i + 1)) % 16 = (t + 15 - i) % 16 by omega, e, ← a k hk, s2, if_neg (by omega), if_neg (by omega), if_neg (by omega)]
      · rw [w2, if_pos (by omega), show 22 * (i + 1 + 1) + k - 22 = 22 * (i + 1) + k by omega]
