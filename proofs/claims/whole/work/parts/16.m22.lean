theorem rows_loop {F : Nat} (hF : 100 ≤ F) {w : Nat → Int32} {n : Nat} {A : Nat → Nat → Int} (h : Wn w n A) {T : Nat} (hT : T < 32) :
    ∀ (d s g fu : Nat) (rs cs : Nat → Int32), s + d = 2 ^ n → d < fu → g < 16 → ((∃ s', s' < s ∧ onesN s' = onesN T ∧ Mn A s' T ≠ 0) → g < 2 ^ n ∧ onesN g = onesN T ∧ Mn A g T ≠ 0) →
      ∃ g' rs' cs', L_X12_rowsFor_14 F (nI T) w fu (nI g) (nI s) rs cs = some (nI g', rs', cs') ∧ g' < 16 ∧ ((∃ s', s' < 2 ^ n ∧ onesN s' = onesN T ∧ Mn A s' T ≠ 0) → g' < 2 ^ n ∧ onesN g' = onesN T ∧ Mn A g' T ≠ 0) := by
  have hp := pow_n h.2.2.1
  have hn := h.2.2.1
  have hoT := onesN_le5 ⟨T, hT⟩
  simp only at hoT
  intro d
  induction d with
  | zero =>
    intro s g fu rs cs hs hfu hg hv
    obtain ⟨fu, rfl⟩ : ∃ g, fu = g + 1 := ⟨fu - 1, by omega⟩
    refine ⟨g, rs, cs, ?_, hg, fun z => hv (by rw [show s = 2 ^ n by omega]; exact z)⟩
    rw [L_X12_rowsFor_14, n_ok h]
    simp only [kb1, Option.bind_some]
    rw [shl_fin ⟨n, by omega⟩, if_pos (nI_le (by show 2 ^ n ≤ s; omega) (by omega))]
  | succ d ih =>
    intro s g fu rs cs hs hfu hg hv
    obtain ⟨fu, rfl⟩ : ∃ g, fu = g + 1 := ⟨fu - 1, by omega⟩
    have ho := onesN_le ⟨s, by omega⟩
    simp only at ho
    rw [L_X12_rowsFor_14, n_ok h]
    simp only [kb1, Option.bind_some]
    rw [shl_fin ⟨n, by omega⟩, if_neg (nI_ge (by show s < 2 ^ n; omega) (by show 2 ^ n < 2 ^ 31; omega)), ones_ok (s := s) (by omega), ones_ok (s := T) hT]
    simp only [Option.bind_some]
    by_cases c : onesN s = onesN T
    · rw [if_pos ((nI_eq (by omega) (by omega)).mpr c)]
      obtain ⟨rs1, cs1, h1⟩ := minor_ok hF h.2.2.2 rs cs (s := s) (t := T) (by omega) hT
      rw [h1]
      simp only [kb3, Option.bind_some, kl]
      have hab := Mn_ab h.2.2.2.2 (s := s) (t := T) (by omega) hT
      by_cases c2 : Mn A s T = 0
      · rw [if_pos ((zJ_zero hab).mpr c2), nI_1]
        refine ih (s + 1) g fu rs1 cs1 (by omega) (by omega) hg (fun ⟨s', q1, q2, q3⟩ => hv ⟨s', ?_, q2, q3⟩)
        by_cases e : s' = s
        · subst e; exact absurd c2 q3
        · omega
      · rw [if_neg (fun z => c2 ((zJ_zero hab).mp z)), nI_1]
        exact ih (s + 1) s fu rs1 cs1 (by omega) (by omega) (by omega) (fun _ => ⟨by omega, c, c2⟩)
    · rw [if_neg (fun z => c ((nI_eq (by omega) (by omega)).mp z))]
      simp only [kl, nI_1]
      refine ih (s + 1) g fu rs cs (by omega) (by omega) hg (fun ⟨s', q1, q2, q3⟩ => hv ⟨s', ?_, q2, q3⟩)
      by_cases e : s' = s
      · subst e; exact absurd q2 c
      · omega
theorem St_of_inv {A : Nat → Nat → Int} {n k : Nat} {σ l : Nat → Nat} {X : Nat → Nat → Int} {s : Int} (hI : Inv A n n k σ l X s) : St l k < 2 ^ n ∧ onesN (St l k) = k ∧ ∀ i, i < k → pkN (St l k) i = l i := by
  have hi := Inv_inc hI
  have hk : k ≤ n := hI.1.2.1
  have hn : n ≤ 4 := hI.1.2.2.2
  exact ⟨St_lt hi, Inc_St (by omega) ⟨fun i hi' => by have := hi.1 i hi'; omega, hi.2⟩⟩
theorem rowsFor_ok {F : Nat} (hF : 100 ≤ F) {w : Nat → Int32} {n : Nat} {A : Nat → Nat → Int} (h : Wn w n A) {k : Nat} {σ l : Nat → Nat} {X : Nat → Nat → Int} {s : Int} (hI : Inv A n n k σ l X s) (rs cs : Nat → Int32) : ∃ g rs' cs', f_X12_rowsFor F w rs cs (nI (St l k)) = some (nI g, rs', cs') ∧ g < 16 ∧ g < 2 ^ n ∧ onesN g = k ∧ Mn A g (St l k) ≠ 0 := by
  have hn := h.2.2.1
  have hp := pow_n hn
  have hp0 : 0 < 2 ^ n := Nat.pow_pos (by decide)
  have hkn : k ≤ n := hI.1.2.1
  obtain ⟨s1, s2, s3⟩ := St_of_inv hI
  have hs0 : Dm A σ l k ≠ 0 := hI.2.2.2.2.2.2.2.2.2 k (Nat.le_refl _)
  obtain ⟨τ, t1, t2⟩ := rsort hn (by omega : k ≤ 4) _ σ (Int.self_le_toNat _) (fun i hi => hI.2.1.1 i (by omega)) (fun a b ha hb => hI.2.1.2 a b (by omega) (by omega))
  obtain ⟨a1, a2⟩ := Inc_St (by omega) (show Inc τ k 5 from ⟨fun i hi => by have := t1.1 i hi; omega, t1.2⟩)
  have hw : Mn A (St τ k) (St l k) ≠ 0 := by
    unfold Mn
    rw [a1, Dm_congr (by omega) a2 s3]
    rcases t2 A l with q | q <;> rw [q] <;> omega
  have hτ := St_lt t1
  unfold f_X12_rowsFor
  rw [allColumns_ok h]
  simp only [kb1, Option.bind_some]
  by_cases c : St l k = 2 ^ n - 1
  · rw [if_pos (by rw [c])]
    refine ⟨St l k, rs, cs, rfl, by omega, s1, s2, ?_⟩
    have hk : k = n := by
      have := ones_full ⟨n, by omega⟩
      simp only at this
      rw [← s2, c, this]
    subst hk
    have e : ∀ i, i < k → τ i = i := Inc_id t1
    have e2 : ∀ i, i < k → l i = i := Inc_id (Inv_inc hI)
    rw [show St τ k = St l k by rw [St_congr e, St_congr e2]] at hw
    exact hw
  · rw [if_neg (fun z => c ((nI_eq (by omega) (by omega)).mp z))]
    obtain ⟨g, rs', cs', e1, e2, e3⟩ := rows_loop hF h (T := St l k) (by omega) (2 ^ n) 0 0 F rs cs (by omega) (by omega) (by omega) (fun ⟨s', q, _⟩ => by omega)
    rw [show L_X12_rowsFor_14 F (nI (St l k)) w F (0 : Int32) (0 : Int32) rs cs = some (nI g, rs', cs') from e1]
    obtain ⟨f1, f2, f3⟩ := e3 ⟨St τ k, hτ, by rw [a1, s2], hw⟩
    exact ⟨g, rs', cs', rfl, e2, f1, by rw [f2, s2], f3⟩
theorem share_loop {F g t m r c : Nat} (hF : 100 ≤ F) (hg : g < 32) (ht : t < 32) (hm : m ≤ 4) (hr : r < 2 ^ 31) (x5 : Int64) : ∀ (d k fu : Nat) (rs cs : Nat → Int32), k + d = m → d < fu → ∃ rs' cs', L_X12_layShare_31 F (nI r) (nI c) (nI t) (nI g) x5 (nI m) fu (nI k) rs cs = some (rs', cs') ∧ (∀ j, rs' j = if k ≤ j ∧ j < m then nI (pkN g j) else rs j) ∧ (∀ j, cs' j = if k ≤ j ∧ j < m then nI (up (pkN t) r c j) else cs j) := by
  intro d
  induction d with
  | zero =>
    intro k fu rs cs hk hfu
    obtain ⟨fu, rfl⟩ : ∃ g, fu = g + 1 := ⟨fu - 1, by omega⟩
    refine ⟨rs, cs, ?_, fun j => by rw [if_neg (by omega)], fun j => by rw [if_neg (by omega)]⟩
    rw [L_X12_layShare_31, if_pos (nI_le (by omega) (by omega))]
  | succ d ih =>
    intro k fu rs cs hk hfu
    obtain ⟨fu, rfl⟩ : ∃ g, fu = g + 1 := ⟨fu - 1, by omega⟩
    obtain ⟨rs', cs', h1, h2, h3⟩ := ih (k + 1) fu (upd rs k (nI (pkN g k))) (upd cs k (nI (up (pkN t) r c k))) (by omega) (by omega)
    refine ⟨rs', cs', ?_, fun j => ?_, fun j => ?_⟩
    · rw [L_X12_layShare_31, if_neg (nI_ge (by omega) (by omega)), pick_ok (by omega) hg (by omega)]
      simp only [kb1, Option.bind_some, kl]
      rw [if_pos (kin_nI (k := k) (n := 4) (by decide) (by omega)), nI_clamp (n := k) (by omega)]
      by_cases e : k = r
      · rw [if_pos ((nI_eq (by omega) (by omega)).mpr e), if_pos (kin_nI (k := k) (n := 4) (by decide) (by omega)), nI_1]
        rw [show up (pkN t) r c k = c by rw [e, up_eq]] at h1
        exact h1
      · rw [if_neg (fun z => e ((nI_eq (by omega) (by omega)).mp z)), pick_ok (by omega) ht (by omega)]
        simp only [Option.bind_some]
        rw [if_pos (kin_nI (k := k) (n := 4) (by decide) (by omega)), nI_1]
        rw [show up (pkN t) r c k = pkN t k from up_ne _ e] at h1
        exact h1
    · rw [h2 j]
      by_cases e : j = k
      · subst e; rw [if_neg (by omega), if_pos (by omega)]; simp [upd]
      · by_cases c : k ≤ j ∧ j < m
        · rw [if_pos (by omega), if_pos c]
        · rw [if_neg (by omega), if_neg c]; simp [upd, e]
    · rw [h3 j]
      by_cases e : j = k
      · subst e; rw [if_neg (by omega), if_pos (by omega)]; simp [upd]
      · by_cases c : k ≤ j ∧ j < m
        · rw [if_pos (by omega), if_pos c]
        · rw [if_neg (by omega), if_neg c]; simp [upd, e]
/-- how often the r-th leading column stands in column c -/
theorem layShare_ok {F : Nat} (hF : 2305430425 ≤ F) {w : Nat → Int32} {n : Nat} {A : Nat → Nat → Int} (h : Wn w n A) {k : Nat} {σ l : Nat → Nat} {X : Nat → Nat → Int} {s : Int} (hI : Inv A n n k σ l X s) {r c : Nat} (hr : r < k) (hc : c < 5) (hz : ∀ i, k ≤ i → i < n → X i c = 0) (a b : Int64) (rs cs : Nat → Int32) :
    ∃ rs' cs', f_X12_layShare F a b w rs cs (nI r) (nI c) = some (zJ (frA (X r c) s), zJ (frB (X r c) s), rs', cs') := by
  have hn := h.2.2.1
  have hp := pow_n hn
  have hkn : k ≤ n := hI.1.2.1
  obtain ⟨s1, s2, s3⟩ := St_of_inv hI
  obtain ⟨rs1, cs1, e1⟩ := leading_ok (F := F) (by omega) h hI rs cs
  obtain ⟨g, rs2, cs2, e2, g1, g2, g3, g4⟩ := rowsFor_ok (F := F) (by omega) h hI rs1 cs1
  obtain ⟨rs3, cs3, e3⟩ := minor_ok (F := F) (by omega) h.2.2.2 rs2 cs2 (s := g) (t := St l k) g1 (by omega)
  obtain ⟨rs4, cs4, e4, e5, e6⟩ := share_loop (F := F) (g := g) (t := St l k) (m := k) (r := r) (c := c) (by omega) (by omega) (by omega) (by omega) (by omega) (zJ (Mn A g (St l k))) k 0 F rs3 cs3 (by omega) (by omega)
  have hR : ∀ i, i < k → pkN g i < n := fun i hi => pk_n ⟨n, by omega⟩ ⟨g, g1⟩ ⟨i, by omega⟩ g2 (by simp only; omega)
  have e7 := det_ok h.2.2.2 (m := k) (R := pkN g) (C := up (pkN (St l k)) r c) (by omega) (rs := rs4) (cs := cs4) (fun i hi => ⟨by rw [e5 i, if_pos (by omega)], by have := hR i hi; omega⟩) (fun i hi => ⟨by rw [e6 i, if_pos (by omega)], by
    by_cases q : i = r
    · rw [q, up_eq]; exact hc
    · rw [up_ne _ q]; exact pkN_lt5 ⟨St l k, by omega⟩ ⟨i, by omega⟩⟩)
  have hab := Mn_ab h.2.2.2.2 (s := g) (t := St l k) g1 (by omega)
  have hab2 := Dm_ab h.2.2.2.2 (m := k) (R := pkN g) (C := up (pkN (St l k)) r c) (by omega) (fun i hi => by have := hR i hi; omega) (fun i hi => by
    by_cases q : i = r
    · rw [q, up_eq]; exact hc
    · rw [up_ne _ q]; exact pkN_lt5 ⟨St l k, by omega⟩ ⟨i, by omega⟩)
  have hs0 : s ≠ 0 := hI.2.2.2.1.2
  refine ⟨rs4, cs4, ?_⟩
  unfold f_X12_layShare
  rw [e1]
  simp only [kb3, kb1, kb2, Option.bind_some]
  rw [e2]
  simp only [Option.bind_some]
  rw [e3]
  simp only [Option.bind_some]
  rw [ones_ok (s := g) (by omega), g3]
  simp only [Option.bind_some]
  rw [show L_X12_layShare_31 F (nI r) (nI c) (nI (St l k)) (nI g) (zJ (Mn A g (St l k))) (nI k) F (0 : Int32) rs3 cs3 = some (rs4, cs4) from e4]
  simp only [Option.bind_some]
  rw [e7]
  simp only [Option.bind_some]
  rw [layFraction_ok (sm_ab hab2) (sm_ab hab) g4 (by omega)]
  simp only [Option.bind_some]
  have key : s * Dm A (pkN g) (up (pkN (St l k)) r c) k = X r c * Mn A g (St l k) := by
    have q := colR (q := 0) (A := A) (R := pkN g) (C := l) (y := fun t => X t c) (s := s) (c := c) (k := k) (r := r) (by omega) hr (fun t ht => by have := hI.2.2.1.1 t ht; omega) (fun i hi => by
      rw [Int.zero_dvd, Lin hI hc hz (hR i hi), Int.sub_self])
    rw [Int.zero_dvd] at q
    have q1 : Dm A (pkN g) (up (pkN (St l k)) r c) k = Dm A (pkN g) (up l r c) k := Dm_congr (by omega) (fun _ _ => rfl) (fun i hi => by
      by_cases z : i = r
      · rw [z, up_eq, up_eq]
      · rw [up_ne _ z, up_ne _ z, s3 i hi])
    have q2 : Mn A g (St l k) = Dm A (pkN g) l k := by
      unfold Mn
      rw [g3]
      exact Dm_congr (by omega) (fun _ _ => rfl) s3
    rw [q1, q2]
    omega
  obtain ⟨k1, k2⟩ := fr_eq (a := Dm A (pkN g) (up (pkN (St l k)) r c) k) (b := Mn A g (St l k)) (c := X r c) (d := s) g4 hs0 (by rw [Int.mul_comm, key])
  rw [k1, k2]
