/-! ===== the rank by a witness ===== -/
theorem Rk_of {q : Nat} (hq : Pq q) {A : Nat → Nat → Int} {n T u : Nat} (hn : n ≤ 4) (hu : u ≤ n) (hT : T < 32) {σ l : Nat → Nat} (hσ : ∀ i, i < u → σ i < n) (hi : ∀ a b, a < u → b < u → σ a = σ b → a = b) (hl : Inc l u 5) (hlT : ∀ i, i < u → T.testBit (l i) = true) (hw : ¬ (q : Int) ∣ Dm A σ l u) {s : Int} (hs : ¬ (q : Int) ∣ s) {Y a : Nat → Nat → Int} (hv : ∀ ρ c, ρ < n → c < 5 → T.testBit c = true → (q : Int) ∣ s * A ρ c - sumN (fun t => Y t c * a t ρ) u) : Rk A n T q u := by
  have hp := pow_n hn
  refine ⟨?_, fun s' t hs0 hsn ht0 ht hsub hst hlt => ?_⟩
  · by_cases hu0 : u = 0
    · exact Or.inl hu0
    · right
      obtain ⟨τ, t1, t2⟩ := rsort hn (by omega : u ≤ 4) _ σ (Int.self_le_toNat _) hσ hi
      have t1' : Inc τ u 5 := ⟨fun i hi => by have := t1.1 i hi; omega, t1.2⟩
      obtain ⟨a1, a2⟩ := Inc_St (by omega) t1'
      obtain ⟨b1, b2⟩ := Inc_St (by omega) hl
      refine ⟨St τ u, St l u, St_pos (by omega), St_lt t1, by have := St_lt hl; omega, ?_, b1, a1, fun z => hw ?_⟩
      · refine (sub_fin2 ⟨St l u, by have := St_lt hl; omega⟩ ⟨T, hT⟩).mp (fun z hz => ?_)
        simp only at hz ⊢
        rw [b1] at hz
        rw [b2 _ hz]
        exact hlT _ hz
      · have e : Mn A (St τ u) (St l u) = Dm A τ l u := by
          unfold Mn
          rw [a1]
          exact Dm_congr (by omega) a2 b2
        rw [e] at z
        rcases t2 A l with h | h
        · rwa [h] at z
        · rw [h, Int.dvd_neg] at z; exact z
  · have ho := onesN_le ⟨s', by omega⟩
    simp only at ho
    unfold Mn
    refine vanq hq (n := n) (u := u) hs (Y := Y) (a := a) (P := fun c => c < 5 ∧ T.testBit c = true) (fun c hc => by omega) (fun ρ c hρ hc => hv ρ c hρ hc.1 hc.2) hlt ho (fun z hz => pk_n ⟨n, by omega⟩ ⟨s', by omega⟩ ⟨z, by omega⟩ hsn hz) (fun z hz => ?_)
    exact ⟨pkN_lt5 ⟨t, ht⟩ ⟨z, by omega⟩, (sub_fin2 ⟨t, ht⟩ ⟨T, hT⟩).mpr hsub ⟨z, by omega⟩ (by simp only; omega)⟩
theorem tb_low : ∀ (j c : Fin 5), (2 ^ j.val - 1).testBit c.val = true ↔ c.val < j.val := by decide +kernel
theorem tb_wide : ∀ (n c : Fin 5), (2 ^ n.val + 15).testBit c.val = true ↔ (c.val < n.val ∨ c.val = 4) := by decide +kernel
/-- how many leading columns stand ahead of j -/
def nb (l : Nat → Nat) (j : Nat) : Nat → Nat
  | 0 => 0
  | k + 1 => nb l j k + if l k < j then 1 else 0
theorem nb_le (l : Nat → Nat) (j k : Nat) : nb l j k ≤ k := by
  induction k with
  | zero => exact Nat.le_refl _
  | succ k ih => rw [nb]; by_cases e : l k < j <;> simp [e] <;> omega
theorem nb_all {l : Nat → Nat} {j k : Nat} (h : ∀ i, i < k → l i < j) : nb l j k = k := by
  induction k with
  | zero => rfl
  | succ k ih => rw [nb, ih (fun i hi => h i (by omega)), if_pos (h k (by omega))]
theorem nb_spec {l : Nat → Nat} {k : Nat} (h : ∀ a b, a < b → b < k → l a < l b) (j : Nat) : (∀ t, t < nb l j k → l t < j) ∧ ∀ t, nb l j k ≤ t → t < k → j ≤ l t := by
  induction k with
  | zero => exact ⟨fun t ht => by simp [nb] at ht, fun t _ ht => by omega⟩
  | succ k ih =>
    obtain ⟨h1, h2⟩ := ih (fun a b c d => h a b c (by omega))
    have hle := nb_le l j k
    rw [nb]
    by_cases e : l k < j
    · rw [if_pos e]
      have hk : nb l j k = k := nb_all (fun i hi => by have := h i k hi (by omega); omega)
      refine ⟨fun t ht => ?_, fun t a b => by omega⟩
      by_cases q : t = k
      · rw [q]; exact e
      · exact h1 t (by omega)
    · rw [if_neg e]
      refine ⟨fun t ht => h1 t (by omega), fun t a b => ?_⟩
      by_cases q : t = k
      · rw [q]; omega
      · exact h2 t (by omega) (by omega)
theorem Rk_pre {A : Nat → Nat → Int} {n k : Nat} {σ l : Nat → Nat} {X : Nat → Nat → Int} {s : Int} (h : Inv A n n k σ l X s) {j : Nat} (hj : j ≤ n) : Rk A n (2 ^ j - 1) 0 (nb l j k) := by
  have hL := fun c hc hz ρ hρ => Lin h (c := c) hc hz (ρ := ρ) hρ
  obtain ⟨⟨h1, h2, h3, h4⟩, ⟨h5, h5'⟩, ⟨h6, h7⟩, ⟨h8, h8'⟩, h9, h10, h11, h12, h13, h14⟩ := h
  have hb := nb_le l j k
  obtain ⟨q1, q2⟩ := nb_spec h7 j
  have hp := pow_n (show j ≤ 4 by omega)
  have d0 : ∀ x : Int, ((0 : Nat) : Int) ∣ x ↔ x = 0 := fun x => Int.zero_dvd
  refine Rk_of Pq_0 h4 (by omega) (by omega) (σ := σ) (l := l) (fun i hi => h5 i (by omega)) (fun a b ha hb => h5' a b (by omega) (by omega)) ⟨fun i hi => by have := h6 i (by omega); omega, fun i m a b => h7 i m a (by omega)⟩ (fun i hi => (tb_low ⟨j, by omega⟩ ⟨l i, by have := h6 i (by omega); omega⟩).mpr (q1 i hi)) (fun z => h14 _ hb ((d0 _).mp z)) (s := s) (fun z => h8' ((d0 _).mp z)) (Y := X) (a := fun t ρ => A ρ (l t)) (fun ρ c hρ hc hT => ?_)
  have hcj := (tb_low ⟨j, by omega⟩ ⟨c, hc⟩).mp hT
  simp only at hcj
  rw [d0, hL c hc (fun i a b => h11 i c a b (by omega)) ρ hρ, sumN_zero hb (fun t a b => by rw [h13 t c b (by have := q2 t a b; omega), Int.zero_mul]), Int.sub_self]
theorem Rk_full0 {A : Nat → Nat → Int} {n k : Nat} {σ l : Nat → Nat} {X : Nat → Nat → Int} {s : Int} (h : Inv A n n k σ l X s) : Rk A n (2 ^ n - 1) 0 k := by
  have := Rk_pre h (Nat.le_refl n)
  rwa [nb_all h.2.2.1.1] at this
theorem Rk_wide {A : Nat → Nat → Int} {n k : Nat} {σ l : Nat → Nat} {X : Nat → Nat → Int} {s : Int} (h : Inv A n n k σ l X s) : ((∀ i, k ≤ i → i < n → X i 4 = 0) → Rk A n (2 ^ n + 15) 0 k) ∧ (¬ (∀ i, k ≤ i → i < n → X i 4 = 0) → Rk A n (2 ^ n + 15) 0 (k + 1)) := by
  have hL := fun c hc hz ρ hρ => Lin h (c := c) hc hz (ρ := ρ) hρ
  obtain ⟨⟨h1, h2, h3, h4⟩, ⟨h5, h5'⟩, ⟨h6, h7⟩, ⟨h8, h8'⟩, h9, h10, h11, h12, h13, h14⟩ := h
  have hp := pow_n h4
  have d0 : ∀ x : Int, ((0 : Nat) : Int) ∣ x ↔ x = 0 := fun x => Int.zero_dvd
  have hc4 : ∀ c, c < 5 → (2 ^ n + 15).testBit c = true → c < n ∨ c = 4 := fun c hc hT => (tb_wide ⟨n, by omega⟩ ⟨c, hc⟩).mp hT
  constructor
  · intro hz
    refine Rk_of Pq_0 h4 h2 (by omega) (σ := σ) (l := l) (fun i hi => h5 i (by omega)) (fun a b ha hb => h5' a b (by omega) (by omega)) ⟨fun i hi => by have := h6 i (by omega); omega, fun i m a b => h7 i m a (by omega)⟩ (fun i hi => (tb_wide ⟨n, by omega⟩ ⟨l i, by have := h6 i (by omega); omega⟩).mpr (Or.inl (h6 i hi))) (fun z => h14 _ (Nat.le_refl _) ((d0 _).mp z)) (s := s) (fun z => h8' ((d0 _).mp z)) (Y := X) (a := fun t ρ => A ρ (l t)) (fun ρ c hρ hc hT => ?_)
    rw [d0, hL c hc (fun i a b => ?_) ρ hρ, Int.sub_self]
    rcases hc4 c hc hT with q | q
    · exact h11 i c a b q
    · rw [q]; exact hz i a b
  · intro hz
    obtain ⟨i, hi⟩ := Classical.not_forall.mp hz
    obtain ⟨hki, hi⟩ := Classical.not_forall.mp hi
    obtain ⟨hin, hx⟩ := Classical.not_forall.mp hi
    rw [h10 i 4 hki hin (by omega)] at hx
    have hlow : ∀ z, z < k → up l k 4 z = l z := fun z hz => up_ne l (by omega)
    refine Rk_of Pq_0 h4 (by omega) (by omega) (σ := up σ k (σ i)) (l := up l k 4) (fun z hz => ?_) (fun a b ha hb e => ?_) ⟨fun z hz => ?_, fun z m a b => ?_⟩ (fun z hz => ?_) (fun z => hx ((d0 _).mp z)) (s := s) (fun z => h8' ((d0 _).mp z)) (Y := fun t c => if c = 4 then (if t = k then s else 0) else if t = k then 0 else X t c) (a := fun t ρ => A ρ (up l k 4 t)) (fun ρ c hρ hc hT => ?_)
    · by_cases e : z = k
      · rw [e, up_eq]; exact h5 i hin
      · rw [up_ne _ e]; exact h5 z (by omega)
    · by_cases a1 : a = k
      · by_cases b1 : b = k
        · omega
        · rw [a1, up_eq, up_ne _ b1] at e; have := h5' i b hin (by omega) e; omega
      · by_cases b1 : b = k
        · rw [b1, up_eq, up_ne _ a1] at e; have := h5' a i (by omega) hin e; omega
        · rw [up_ne _ a1, up_ne _ b1] at e; exact h5' a b (by omega) (by omega) e
    · by_cases e : z = k
      · rw [e, up_eq]; omega
      · rw [up_ne _ e]; have := h6 z (by omega); omega
    · by_cases e : m = k
      · rw [e, up_eq, up_ne _ (by omega)]; have := h6 z (by omega); omega
      · rw [up_ne _ e, up_ne _ (by omega)]; exact h7 z m a (by omega)
    · by_cases e : z = k
      · rw [e, up_eq]; exact (tb_wide ⟨n, by omega⟩ ⟨4, by omega⟩).mpr (Or.inr rfl)
      · rw [up_ne _ e]; exact (tb_wide ⟨n, by omega⟩ ⟨l z, by have := h6 z (by omega); omega⟩).mpr (Or.inl (h6 z (by omega)))
    · rw [d0, sumN]
      by_cases e : c = 4
      · subst e
        simp only [if_true]
        rw [sumN_zero (Nat.zero_le k) (fun t _ b => by rw [if_neg (by omega), Int.zero_mul]), sumN, up_eq]
        omega
      · simp only [if_neg e]
        have e2 : sumN (fun t => (if t = k then 0 else X t c) * A ρ (up l k 4 t)) k = sumN (fun t => X t c * A ρ (l t)) k := sumN_congr (fun t ht => by rw [if_neg (by omega), up_ne _ (by omega)])
        rw [if_pos trivial, Int.zero_mul, e2, hL c hc (fun i a b => h11 i c a b ((hc4 c hc hT).resolve_right e)) ρ hρ]
        omega
