/-! ===== the reference: leading columns, rows for them, shares ===== -/
theorem sh2_fin : ∀ j : Fin 4, (((2 : Int32) <<< (nI j.val &&& 31)) - (1 : Int32)) = nI (2 ^ (j.val + 1) - 1) := by decide +kernel
theorem or_fin : ∀ j : Fin 4, ∀ s : Fin 16, s.val < 2 ^ j.val → (nI s.val ||| ((1 : Int32) <<< (nI j.val &&& 31))) = nI (s.val + 2 ^ j.val) := by decide +kernel
theorem or0_fin : ∀ s : Fin 16, (nI s.val ||| (0 : Int32)) = nI s.val := by decide +kernel
theorem tb_pk : ∀ (t : Fin 32) (j : Fin 5), t.val.testBit j.val = true ↔ ∃ r : Fin 5, r.val < onesN t.val ∧ pkN t.val r.val = j.val := by decide +kernel
theorem ones_below : ∀ (t : Fin 32) (r : Fin 5), r.val < onesN t.val → onesN (t.val &&& (2 ^ pkN t.val r.val - 1)) = r.val := by decide +kernel
/-- the set of the leading columns ahead of j -/
theorem St_next {l : Nat → Nat} {k : Nat} (h : ∀ a b, a < b → b < k → l a < l b) (j : Nat) : St l (nb l (j + 1) k) = St l (nb l j k) + if nb l j k < nb l (j + 1) k then 2 ^ j else 0 := by
  obtain ⟨a1, a2⟩ := nb_spec h j
  obtain ⟨b1, b2⟩ := nb_spec h (j + 1)
  have c1 := nb_le l j k
  have c2 := nb_le l (j + 1) k
  by_cases e : nb l j k < nb l (j + 1) k
  · rw [if_pos e]
    have e1 : nb l (j + 1) k = nb l j k + 1 := by
      refine Classical.byContradiction fun hne => ?_
      have q1 := a2 (nb l j k) (Nat.le_refl _) (by omega)
      have q2 := b1 (nb l j k + 1) (by omega)
      have q3 := h (nb l j k) (nb l j k + 1) (by omega) (by omega)
      omega
    have e2 : l (nb l j k) = j := by
      have q1 := a2 (nb l j k) (Nat.le_refl _) (by omega)
      have q2 := b1 (nb l j k) (by omega)
      omega
    rw [e1, St, e2]
  · rw [if_neg e]
    have : nb l (j + 1) k = nb l j k := by
      refine Classical.byContradiction fun hne => ?_
      have q1 := b2 (nb l (j + 1) k) (Nat.le_refl _) (by omega)
      have q2 := a1 (nb l (j + 1) k) (by omega)
      omega
    rw [this]; rfl
theorem nb_mono {l : Nat → Nat} {k : Nat} (h : ∀ a b, a < b → b < k → l a < l b) (j : Nat) : nb l j k ≤ nb l (j + 1) k := by
  obtain ⟨a1, a2⟩ := nb_spec h j
  obtain ⟨b1, b2⟩ := nb_spec h (j + 1)
  refine Classical.byContradiction fun hne => ?_
  have c1 := nb_le l j k
  have q1 := a1 (nb l (j + 1) k) (by omega)
  have q2 := b2 (nb l (j + 1) k) (Nat.le_refl _) (by omega)
  omega
theorem nb_0 (l : Nat → Nat) (k : Nat) : nb l 0 k = 0 := by
  induction k with
  | zero => rfl
  | succ k ih => rw [nb, ih, if_neg (by omega)]
theorem Inv_inc {A : Nat → Nat → Int} {n k : Nat} {σ l : Nat → Nat} {X : Nat → Nat → Int} {s : Int} (h : Inv A n n k σ l X s) : Inc l k n := ⟨h.2.2.1.1, h.2.2.1.2⟩
theorem Inc_nb {l : Nat → Nat} {k n : Nat} (h : Inc l k n) (j : Nat) : Inc l (nb l j k) j := ⟨(nb_spec h.2 j).1, fun a b c d => h.2 a b c (by have := nb_le l j k; omega)⟩
theorem lead_loop {F : Nat} (hF : 100 ≤ F) {w : Nat → Int32} {n : Nat} {A : Nat → Nat → Int} (h : Wn w n A) {k : Nat} {σ l : Nat → Nat} {X : Nat → Nat → Int} {s : Int} (hI : Inv A n n k σ l X s) :
    ∀ (d j fu : Nat) (rs cs : Nat → Int32), j + d = n → d < fu → ∃ rs' cs', L_X12_leading_18 F w fu (nI (St l (nb l j k))) (nI j) rs cs = some (nI (St l k), rs', cs') := by
  have hn := h.2.2.1
  have hi := Inv_inc hI
  intro d
  induction d with
  | zero =>
    intro j fu rs cs hj hfu
    obtain ⟨fu, rfl⟩ : ∃ g, fu = g + 1 := ⟨fu - 1, by omega⟩
    refine ⟨rs, cs, ?_⟩
    rw [L_X12_leading_18, n_ok h]
    simp only [kb1, Option.bind_some]
    rw [if_pos (nI_le (by omega) (by omega)), show j = n by omega, nb_all hi.1]
  | succ d ih =>
    intro j fu rs cs hj hfu
    obtain ⟨fu, rfl⟩ : ∃ g, fu = g + 1 := ⟨fu - 1, by omega⟩
    have hp := pow_n (show j + 1 ≤ 4 by omega)
    have hp2 := pow_n (show j ≤ 4 by omega)
    obtain ⟨r1, rs1, cs1, e1, e2, e3⟩ := rankOf_ok hF h (T := 2 ^ (j + 1) - 1) (q := 0) (by omega) (Or.inl rfl) rs cs
    obtain ⟨r2, rs2, cs2, f1, f2, f3⟩ := rankOf_ok hF h (T := 2 ^ j - 1) (q := 0) (by omega) (Or.inl rfl) rs1 cs1
    have g1 := Rk_unique e3 (Rk_pre hI (show j + 1 ≤ n by omega))
    have g2 := Rk_unique f3 (Rk_pre hI (show j ≤ n by omega))
    subst g1 g2
    rw [L_X12_leading_18, n_ok h]
    simp only [kb1, Option.bind_some]
    rw [if_neg (nI_ge (by omega) (by omega)), sh2_fin ⟨j, by omega⟩, (allc_fin ⟨j, by omega⟩).2]
    simp only
    rw [show (0 : Int32) = nI 0 from rfl, e1]
    simp only [kb3, Option.bind_some]
    rw [f1]
    simp only [Option.bind_some]
    have hs := St_next hi.2 j
    have hm := nb_mono hi.2 j
    have hlt : St l (nb l j k) < 2 ^ j := St_lt (Inc_nb hi j)
    by_cases c : nb l j k < nb l (j + 1) k
    · rw [if_neg (nI_ge c (by omega))]
      rw [if_pos c] at hs
      simp only [kl]
      rw [or_fin ⟨j, by omega⟩ ⟨St l (nb l j k), by omega⟩ hlt, nI_1]
      simp only
      rw [← hs]
      exact ih (j + 1) fu rs2 cs2 (by omega) (by omega)
    · rw [if_pos (nI_le (by omega) (by omega))]
      have hs : St l (nb l (j + 1) k) = St l (nb l j k) := by rw [hs, if_neg c]; rfl
      simp only [kl]
      rw [show nI 0 = (0 : Int32) from rfl, or0_fin ⟨St l (nb l j k), by omega⟩, nI_1]
      simp only
      rw [← hs]
      exact ih (j + 1) fu rs2 cs2 (by omega) (by omega)
/-- a determinant that is not 0: all columns lead -/
theorem full_of_det {A : Nat → Nat → Int} {n k : Nat} {σ l : Nat → Nat} {X : Nat → Nat → Int} {s : Int} (hI : Inv A n n k σ l X s) (h1 : 1 ≤ n) (hd : Mn A (2 ^ n - 1) (2 ^ n - 1) ≠ 0) : k = n := by
  have hn : n ≤ 4 := hI.1.2.2.2
  exact Rk_unique (Rk_full0 hI) (Rk_full h1 hn (fun z => hd (Int.zero_dvd.mp z)))
theorem det_of_full {A : Nat → Nat → Int} {n k : Nat} {σ l : Nat → Nat} {X : Nat → Nat → Int} {s : Int} (hI : Inv A n n k σ l X s) (hk : k < n) : Mn A (2 ^ n - 1) (2 ^ n - 1) = 0 := by
  have hn : n ≤ 4 := hI.1.2.2.2
  have hp := pow_n hn
  have ho := ones_full ⟨n, by omega⟩
  simp only at ho
  have hp1 : 2 ≤ 2 ^ n := by
    have : 2 ^ 1 ≤ 2 ^ n := Nat.pow_le_pow_right (by decide) (show 1 ≤ n by omega)
    omega
  exact Int.zero_dvd.mp ((Rk_full0 hI).2 (2 ^ n - 1) (2 ^ n - 1) (by omega) (by omega) (by omega) (by omega) (sub_self _) rfl (by omega))
theorem St_full : ∀ n : Fin 5, St (fun i => i) n.val = 2 ^ n.val - 1 := by decide +kernel
theorem Inc_id {l : Nat → Nat} {n : Nat} (h : Inc l n n) : ∀ i, i < n → l i = i := by
  have lo : ∀ i, i < n → i ≤ l i := by
    intro i
    induction i with
    | zero => intro _; omega
    | succ i ih => intro hi; have := ih (by omega); have := h.2 i (i + 1) (by omega) hi; omega
  have hi : ∀ d i, i + d + 1 = n → l i ≤ i := by
    intro d
    induction d with
    | zero => intro i hi; have := h.1 i (by omega); omega
    | succ d ih => intro i hi; have := ih (i + 1) (by omega); have := h.2 i (i + 1) (by omega) (by omega); omega
  intro i hi'
  have := lo i hi'
  have := hi (n - i - 1) i (by omega)
  omega
theorem leading_ok {F : Nat} (hF : 100 ≤ F) {w : Nat → Int32} {n : Nat} {A : Nat → Nat → Int} (h : Wn w n A) {k : Nat} {σ l : Nat → Nat} {X : Nat → Nat → Int} {s : Int} (hI : Inv A n n k σ l X s) (rs cs : Nat → Int32) : ∃ rs' cs', f_X12_leading F w rs cs = some (nI (St l k), rs', cs') := by
  have hn := h.2.2.1
  have hp := pow_n hn
  have hp0 : 0 < 2 ^ n := Nat.pow_pos (by decide)
  obtain ⟨rs1, cs1, e1⟩ := determinant_ok hF h rs cs
  have hab := Mn_ab h.2.2.2.2 (s := 2 ^ n - 1) (t := 2 ^ n - 1) (by omega) (by omega)
  unfold f_X12_leading
  rw [e1]
  simp only [kb3, Option.bind_some]
  by_cases c : Mn A (2 ^ n - 1) (2 ^ n - 1) = 0
  · rw [if_pos ((zJ_zero hab).mpr c)]
    obtain ⟨rs2, cs2, e2⟩ := lead_loop hF h hI n 0 F rs1 cs1 (by omega) (by omega)
    rw [nb_0] at e2
    rw [show L_X12_leading_18 F w F (0 : Int32) (0 : Int32) rs1 cs1 = some (nI (St l k), rs2, cs2) from e2]
    exact ⟨rs2, cs2, rfl⟩
  · rw [if_neg (fun z => c ((zJ_zero hab).mp z)), allColumns_ok h]
    have hk := full_of_det hI h.2.1 c
    subst hk
    have e3 : St l k = 2 ^ k - 1 := by
      rw [St_congr (Inc_id (Inv_inc hI))]
      exact St_full ⟨k, by omega⟩
    rw [e3]
    exact ⟨rs1, cs1, rfl⟩
