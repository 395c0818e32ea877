/-! ===== the class clears all columns ===== -/
def Bm : Nat → Nat
  | 0 => 1
  | 1 => 99
  | 2 => 19602
  | 3 => 5821794
  | _ => 2305430424
theorem Dm_abm {A : Nat → Nat → Int} (h : Bd A) {R C : Nat → Nat} {m : Nat} (hm : m ≤ 4) (hR : ∀ k, k < m → R k < 4) (hC : ∀ k, k < m → C k < 5) : (Dm A R C m).natAbs ≤ Bm m := by
  match m, hm with
  | 0, _ => simp [Dm, Bm]
  | 1, _ => have := h _ _ (hR 0 (by omega)) (hC 0 (by omega)); simp only [Dm, Bm]; omega
  | 2, _ => have := D2_ab h (hR 0 (by omega)) (hR 1 (by omega)) (hC 0 (by omega)) (hC 1 (by omega)); simp only [Dm, Bm]; omega
  | 3, _ => have := D3_ab h (hR 0 (by omega)) (hR 1 (by omega)) (hR 2 (by omega)) (hC 0 (by omega)) (hC 1 (by omega)) (hC 2 (by omega)); simp only [Dm, Bm]; omega
  | 4, _ => have := D4_ab h (hR 0 (by omega)) (hR 1 (by omega)) (hR 2 (by omega)) (hR 3 (by omega)) (hC 0 (by omega)) (hC 1 (by omega)) (hC 2 (by omega)) (hC 3 (by omega)); simp only [Dm, Bm]; omega
theorem Inv_ab {A : Nat → Nat → Int} (hB : Bd A) {n j k : Nat} {σ l : Nat → Nat} {X : Nat → Nat → Int} {s : Int} (h : Inv A n j k σ l X s) :
    (∀ i c, i < k → c < 5 → (X i c).natAbs ≤ Bm k) ∧ (∀ i c, k ≤ i → i < n → c < 5 → (X i c).natAbs ≤ Bm (k + 1)) ∧ s.natAbs ≤ Bm k ∧ (∀ i c, i < 4 → c < 5 → (X i c).natAbs ≤ 2305430424) := by
  obtain ⟨⟨h1, h2, h3, h4⟩, ⟨h5, h5'⟩, ⟨h6, h7⟩, ⟨h8, h8'⟩, h9, h10, h11, h12, h13, h14⟩ := h
  have rσ : ∀ z, z < k → σ z < 4 := fun z hz => by have := h5 z (by omega); omega
  have rl : ∀ z, z < k → l z < 5 := fun z hz => by have := h6 z hz; omega
  have a1 : ∀ i c, i < k → c < 5 → (X i c).natAbs ≤ Bm k := fun i c hi hc => by
    rw [h9 i c hi hc]
    refine Dm_abm hB (by omega) rσ (fun z hz => ?_)
    by_cases e : z = i
    · subst e; rw [up_eq]; exact hc
    · rw [up_ne _ e]; exact rl z hz
  have a2 : ∀ i c, k ≤ i → i < n → c < 5 → (X i c).natAbs ≤ Bm (k + 1) := fun i c hi hn hc => by
    rw [h10 i c hi hn hc]
    refine Dm_abm hB (by omega) (fun z hz => ?_) (fun z hz => ?_)
    · by_cases e : z = k
      · subst e; rw [up_eq]; have := h5 i hn; omega
      · rw [up_ne _ e]; exact rσ z (by omega)
    · by_cases e : z = k
      · subst e; rw [up_eq]; exact hc
      · rw [up_ne _ e]; exact rl z (by omega)
  have b1 : ∀ m, m ≤ 4 → Bm m ≤ 2305430424 := by
    intro m hm
    match m, hm with
    | 0, _ => decide
    | 1, _ => decide
    | 2, _ => decide
    | 3, _ => decide
    | 4, _ => decide
  refine ⟨a1, a2, by rw [h8]; exact Dm_abm hB (by omega) rσ rl, fun i c hi hc => ?_⟩
  by_cases e1 : i < k
  · exact Nat.le_trans (a1 i c e1 hc) (b1 k (by omega))
  · by_cases e2 : i < n
    · exact Nat.le_trans (a2 i c (by omega) e2 hc) (b1 _ (by omega))
    · rw [h12 i c (by omega) hi hc]; have := hB i c hi hc; omega
theorem Inv_prod {A : Nat → Nat → Int} (hB : Bd A) {n j k : Nat} {σ l : Nat → Nat} {X : Nat → Nat → Int} {s : Int} (h : Inv A n j k σ l X s) (hkn : k < n) {q : Nat} (hq : q < 5) : ∀ i c, i < n → c < 5 → sm (X k q * X i c - X i q * X k c) := by
  obtain ⟨a1, a2, -, -⟩ := Inv_ab hB h
  have h4 : n ≤ 4 := h.1.2.2.2
  intro i c hi hc
  have p1 := a2 k q (Nat.le_refl _) hkn hq
  have p2 := a2 k c (Nat.le_refl _) hkn hc
  by_cases e : i = k
  · subst e; rw [show X i q * X i c - X i q * X i c = 0 by omega]; unfold sm; decide
  · by_cases e2 : i < k
    · have m1 := ab_mul p1 (a1 i c e2 hc)
      have m2 := ab_mul (a1 i q e2 hq) p2
      have hb : Bm (k + 1) * Bm k ≤ 20000000000000000 := by
        match k, (show k ≤ 3 by omega) with
        | 0, _ => decide
        | 1, _ => decide
        | 2, _ => decide
        | 3, _ => decide
      have hb2 : Bm k * Bm (k + 1) ≤ 20000000000000000 := by rw [Nat.mul_comm]; exact hb
      unfold sm; omega
    · have m1 := ab_mul p1 (a2 i c (by omega) hi hc)
      have m2 := ab_mul (a2 i q (by omega) hi hq) p2
      have hb : Bm (k + 1) * Bm (k + 1) ≤ 40000000000000 := by
        match k, (show k ≤ 2 by omega) with
        | 0, _ => decide
        | 1, _ => decide
        | 2, _ => decide
      unfold sm; omega
/-- the sign of so many exchanges -/
def sgn (ex : Nat) : Int := if ex % 2 = 0 then 1 else -1
def Sg (A : Nat → Nat → Int) (n : Nat) (σ : Nat → Nat) (ex : Nat) : Prop := ∀ C, Dm A σ C n = sgn ex * Dm A (fun i => i) C n
theorem sg_next (ex : Nat) : sgn (ex + 1) = -sgn ex := by
  unfold sgn
  by_cases e : ex % 2 = 0
  · rw [if_pos e, if_neg (by omega)]
  · rw [if_neg e, if_pos (by omega)]; rfl
theorem Dm_swap {A : Nat → Nat → Int} {σ C : Nat → Nat} {n k y : Nat} (hn : n ≤ 4) (hk : k < y) (hy : y < n) : Dm A (fun i => if i = y then σ k else if i = k then σ y else σ i) C n = -Dm A σ C n := by
  have hc : (n = 2 ∧ k = 0 ∧ y = 1) ∨ (n = 3 ∧ k = 0 ∧ y = 1) ∨ (n = 3 ∧ k = 0 ∧ y = 2) ∨ (n = 3 ∧ k = 1 ∧ y = 2) ∨ (n = 4 ∧ k = 0 ∧ y = 1) ∨ (n = 4 ∧ k = 0 ∧ y = 2) ∨ (n = 4 ∧ k = 0 ∧ y = 3) ∨ (n = 4 ∧ k = 1 ∧ y = 2) ∨ (n = 4 ∧ k = 1 ∧ y = 3) ∨ (n = 4 ∧ k = 2 ∧ y = 3) := by omega
  rcases hc with ⟨rfl, rfl, rfl⟩ | ⟨rfl, rfl, rfl⟩ | ⟨rfl, rfl, rfl⟩ | ⟨rfl, rfl, rfl⟩ | ⟨rfl, rfl, rfl⟩ | ⟨rfl, rfl, rfl⟩ | ⟨rfl, rfl, rfl⟩ | ⟨rfl, rfl, rfl⟩ | ⟨rfl, rfl, rfl⟩ | ⟨rfl, rfl, rfl⟩
  · simp [Dm, D2]; grind
  · simp [Dm, D2, D3]; grind
  · simp [Dm, D2, D3]; grind
  · simp [Dm, D2, D3]; grind
  · simp [Dm, D2, D3, D4]; grind
  · simp [Dm, D2, D3, D4]; grind
  · simp [Dm, D2, D3, D4]; grind
  · simp [Dm, D2, D3, D4]; grind
  · simp [Dm, D2, D3, D4]; grind
  · simp [Dm, D2, D3, D4]; grind
theorem sm_ab {x : Int} (h : x.natAbs ≤ 2305430424) : sm x := by unfold sm; omega
theorem Bm_le {m : Nat} (hm : m ≤ 4) : Bm m ≤ 2305430424 := by
  match m, hm with
  | 0, _ => decide
  | 1, _ => decide
  | 2, _ => decide
  | 3, _ => decide
  | 4, _ => decide
theorem cols_loop {F : Nat} (hF : 100 ≤ F) {A : Nat → Nat → Int} (hB : Bd A) {n : Nat} (hn : n ≤ 4) :
    ∀ (d j fu k ex : Nat) (σ l : Nat → Nat) (X : Nat → Nat → Int) (s : Int) (v : Nat → Nat → Int64) (ld : Nat → Int32), j + d = n → d < fu → Inv A n j k σ l X s → Mt 5 v X → (∀ i, i < k → ld i = nI (l i)) → ex ≤ j → Sg A n σ ex →
      ∃ k' ex' σ' l' X' s' v' ld', L_X9_clearColumns_C_12 F (nI n) (5 : Int32) fu (nI j) (nI k) (nI ex) (zJ s) v ld = some (nI k', nI ex', zJ s', v', ld') ∧ Inv A n n k' σ' l' X' s' ∧ Mt 5 v' X' ∧ (∀ i, i < k' → ld' i = nI (l' i)) ∧ ex' ≤ n ∧ Sg A n σ' ex' := by
  intro d
  induction d with
  | zero =>
    intro j fu k ex σ l X s v ld hj hfu hI hM hld hex hsg
    obtain ⟨fu, rfl⟩ : ∃ g, fu = g + 1 := ⟨fu - 1, by omega⟩
    have : j = n := by omega
    subst this
    refine ⟨k, ex, σ, l, X, s, v, ld, ?_, hI, hM, hld, hex, hsg⟩
    rw [L_X9_clearColumns_C_12, if_pos (nI_le (Nat.le_refl _) (by omega))]
  | succ d ih =>
    intro j fu k ex σ l X s v ld hj hfu hI hM hld hex hsg
    obtain ⟨fu, rfl⟩ : ∃ g, fu = g + 1 := ⟨fu - 1, by omega⟩
    have hkn : k ≤ n := hI.1.2.1
    obtain ⟨-, -, b3, b4⟩ := Inv_ab hB hI
    rw [L_X9_clearColumns_C_12, if_neg (nI_ge (by omega) (by omega))]
    have go : ∀ (ex' : Nat) (σ' : Nat → Nat) (X' : Nat → Nat → Int) (v1 : Nat → Nat → Int64), k < n → Inv A n j k σ' l X' s → Mt 5 v1 X' → X' k j ≠ 0 → ex' ≤ j + 1 → Sg A n σ' ex' →
        ∃ k' ex2 σ2 l2 X2 s2 v2 ld2, (kb3 (f_X1_clearColumn F (nI n) (nI k) (zJ s) v1 ld (nI j)) fun w8 w9 w10 => kl (nI k + 1) fun t12 => kl (nI j + 1) fun t13 => L_X9_clearColumns_C_12 F (nI n) 5 fu t13 t12 (nI ex') w8 w9 w10) = some (nI k', nI ex2, zJ s2, v2, ld2) ∧ Inv A n n k' σ2 l2 X2 s2 ∧ Mt 5 v2 X2 ∧ (∀ i, i < k' → ld2 i = nI (l2 i)) ∧ ex2 ≤ n ∧ Sg A n σ2 ex2 := by
      intro ex' σ' X' v1 hk hI' hM' hx hex' hsg'
      obtain ⟨v2, e1, e2⟩ := clearColumn_ok hF hn (by omega : k < 4) (by omega : j < 5) (sm_ab (Nat.le_trans b3 (Bm_le (by omega)))) hM' (Inv_prod hB hI' hk (by omega)) ld
      rw [e1]
      simp only [kb3, Option.bind_some, kl, nI_1]
      exact ih (j + 1) fu (k + 1) ex' σ' (up l k j) _ _ v2 _ (by omega) (by omega) (Inv_step hI' (by omega) hk hx) e2 (fun i hi => by
        by_cases e : i = k
        · subst e; rw [up_eq]; simp [upd]
        · rw [up_ne _ e]; simp [upd, e]; exact hld i (by omega)) hex' hsg'
    rcases raise_ok hF (n := n) (j := j) (k := k) (ex := ex) hn hkn (by omega) (by omega) hM (fun i c hi hc => sm_ab (b4 i c hi hc)) with ⟨e1, e2⟩ | ⟨c1, e1, e2⟩ | ⟨y, v1, c1, c2, e1, e2, e3⟩
    · rw [e1]
      simp only [kb3, Option.bind_some]
      rw [if_pos trivial]
      simp only [kl, nI_1]
      exact ih (j + 1) fu k ex σ l X s v ld (by omega) (by omega) (Inv_skip hI (by omega) e2) hM hld (by omega) hsg
    · rw [e1]
      simp only [kb3, Option.bind_some]
      rw [if_neg (by decide)]
      exact go ex σ X v c1 hI hM e2 (by omega) hsg
    · rw [e1]
      simp only [kb3, Option.bind_some]
      rw [if_neg (by decide)]
      refine go (ex + 1) _ _ v1 (by omega) (Inv_swap hI c1 c2) e2 (by simp [swX]; by_cases q : k = y <;> simp [q]; omega; exact e3) (by omega) (fun C => ?_)
      rw [Dm_swap hn c1 c2, hsg C, sg_next, Int.neg_mul]
