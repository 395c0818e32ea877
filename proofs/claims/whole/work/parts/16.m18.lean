/-! ===== rows put in order; minors by a modulus ===== -/
theorem rsort {n : Nat} (hn : n ≤ 4) {u : Nat} (hu : u ≤ 4) : ∀ (m : Nat) (σ : Nat → Nat), sumN (fun i => (4 - i) * σ i) u ≤ m → (∀ i, i < u → σ i < n) → (∀ a b, a < u → b < u → σ a = σ b → a = b) →
    ∃ τ : Nat → Nat, Inc τ u n ∧ ∀ A C, Dm A τ C u = Dm A σ C u ∨ Dm A τ C u = -Dm A σ C u := by
  intro m
  induction m with
  | zero =>
    intro σ hm h1 h2
    refine ⟨σ, ⟨h1, fun i j hij hj => ?_⟩, fun _ _ => Or.inl rfl⟩
    have ne : ∀ a b, a < b → b < u → σ a ≠ σ b := fun a b hab hb e => by have := h2 a b (by omega) hb e; omega
    match u, hu with
    | 0, _ => omega
    | 1, _ => omega
    | 2, _ => simp [sumN] at hm; have := ne 0 1 (by omega) (by omega); omega
    | 3, _ => simp [sumN] at hm; have := ne 0 1 (by omega) (by omega); omega
    | 4, _ => simp [sumN] at hm; have := ne 0 1 (by omega) (by omega); omega
  | succ m ih =>
    intro σ hm h1 h2
    have ne : ∀ a b, a < b → b < u → σ a ≠ σ b := fun a b hab hb e => by have := h2 a b (by omega) hb e; omega
    by_cases hs : ∃ k, k + 1 < u ∧ σ (k + 1) < σ k
    · obtain ⟨k, hk, hlt⟩ := hs
      have hi : ∀ a b, a < u → b < u → (if a = k + 1 then σ k else if a = k then σ (k + 1) else σ a) = (if b = k + 1 then σ k else if b = k then σ (k + 1) else σ b) → a = b := by
        intro a b ha hb e
        by_cases a1 : a = k + 1
        · by_cases b1 : b = k + 1
          · omega
          · by_cases b2 : b = k
            · rw [if_pos a1, if_neg b1, if_pos b2] at e; omega
            · rw [if_pos a1, if_neg b1, if_neg b2] at e; have := h2 k b (by omega) hb e; omega
        · by_cases a2 : a = k
          · by_cases b1 : b = k + 1
            · rw [if_neg a1, if_pos a2, if_pos b1] at e; omega
            · by_cases b2 : b = k
              · omega
              · rw [if_neg a1, if_pos a2, if_neg b1, if_neg b2] at e; have := h2 (k + 1) b (by omega) hb e; omega
          · by_cases b1 : b = k + 1
            · rw [if_neg a1, if_neg a2, if_pos b1] at e; have := h2 a k ha (by omega) e; omega
            · by_cases b2 : b = k
              · rw [if_neg a1, if_neg a2, if_neg b1, if_pos b2] at e; have := h2 a (k + 1) ha (by omega) e; omega
              · rw [if_neg a1, if_neg a2, if_neg b1, if_neg b2] at e; exact h2 a b ha hb e
      obtain ⟨τ, t1, t2⟩ := ih (fun i => if i = k + 1 then σ k else if i = k then σ (k + 1) else σ i) (by
        have hc : (u = 2 ∧ k = 0) ∨ (u = 3 ∧ k = 0) ∨ (u = 3 ∧ k = 1) ∨ (u = 4 ∧ k = 0) ∨ (u = 4 ∧ k = 1) ∨ (u = 4 ∧ k = 2) := by omega
        rcases hc with ⟨rfl, rfl⟩ | ⟨rfl, rfl⟩ | ⟨rfl, rfl⟩ | ⟨rfl, rfl⟩ | ⟨rfl, rfl⟩ | ⟨rfl, rfl⟩ <;> simp [sumN] at hm hlt ⊢ <;> omega) (fun i hi => by
          by_cases e1 : i = k + 1
          · simp only [e1, if_true]; exact h1 k (by omega)
          · by_cases e2 : i = k
            · simp only [e2, if_neg (show ¬ k = k + 1 by omega), if_true]; exact h1 (k + 1) hk
            · simp only [e1, e2, if_false]; exact h1 i hi) hi
      refine ⟨τ, t1, fun A C => ?_⟩
      have e := Dm_swap (A := A) (σ := σ) (C := C) (n := u) (k := k) (y := k + 1) hu (by omega) hk
      have := t2 A C
      rw [e] at this
      rcases this with q | q
      · exact Or.inr q
      · exact Or.inl (by rw [q]; omega)
    · refine ⟨σ, ⟨h1, fun i j hij hj => ?_⟩, fun _ _ => Or.inl rfl⟩
      have adj : ∀ k, k + 1 < u → σ k < σ (k + 1) := fun k hk => by
        have a := ne k (k + 1) (by omega) hk
        have b : ¬ σ (k + 1) < σ k := fun z => hs ⟨k, hk, z⟩
        omega
      clear hm ih
      have key : ∀ d i, i + d + 1 < u → σ i < σ (i + d + 1) := by
        intro d
        induction d with
        | zero => intro i hi; exact adj i hi
        | succ d ihd => intro i hi; have a := ihd i (by omega); have b := adj (i + d + 1) (by omega); rw [show i + (d + 1) + 1 = i + d + 1 + 1 by omega]; omega
      have := key (j - i - 1) i (by omega)
      rwa [show i + (j - i - 1) + 1 = j by omega] at this
/-- congruent tables have congruent determinants -/
theorem dv_mul {q a b c d : Int} (h1 : q ∣ a - c) (h2 : q ∣ b - d) : q ∣ a * b - c * d := by
  have e : a * b - c * d = (a - c) * b + c * (b - d) := by rw [Int.sub_mul, Int.mul_sub]; omega
  rw [e]
  exact Int.dvd_add (Int.dvd_mul_of_dvd_left h1) (Int.dvd_mul_of_dvd_right h2)
theorem dv_sub {q a b c d : Int} (h1 : q ∣ a - c) (h2 : q ∣ b - d) : q ∣ (a - b) - (c - d) := by
  rw [show (a - b) - (c - d) = (a - c) - (b - d) by omega]; exact Int.dvd_sub h1 h2
theorem dv_add {q a b c d : Int} (h1 : q ∣ a - c) (h2 : q ∣ b - d) : q ∣ (a + b) - (c + d) := by
  rw [show (a + b) - (c + d) = (a - c) + (b - d) by omega]; exact Int.dvd_add h1 h2
theorem dv_refl (q a : Int) : q ∣ a - a := by rw [Int.sub_self]; exact Int.dvd_zero q
theorem dv_symm {q a b : Int} (h : q ∣ a - b) : q ∣ b - a := by rw [show b - a = -(a - b) by omega]; exact Int.dvd_neg.mpr h
theorem dv_trans {q a b c : Int} (h1 : q ∣ a - b) (h2 : q ∣ b - c) : q ∣ a - c := by rw [show a - c = (a - b) + (b - c) by omega]; exact Int.dvd_add h1 h2
theorem dv_iff {q a b : Int} (h : q ∣ a - b) : q ∣ a ↔ q ∣ b := ⟨fun z => by rw [show b = a - (a - b) by omega]; exact Int.dvd_sub z h, fun z => by rw [show a = (a - b) + b by omega]; exact Int.dvd_add h z⟩
theorem Dm_mod {q : Int} {A B : Nat → Nat → Int} {R C : Nat → Nat} {m : Nat} (hm : m ≤ 4) (h : ∀ i j, i < m → j < m → q ∣ A (R i) (C j) - B (R i) (C j)) : q ∣ Dm A R C m - Dm B R C m := by
  have d2 : ∀ a b c d, a < m → b < m → c < m → d < m → q ∣ D2 A (R a) (R b) (C c) (C d) - D2 B (R a) (R b) (C c) (C d) := fun a b c d ha hb hc hd => by
    unfold D2; exact dv_sub (dv_mul (h a c ha hc) (h b d hb hd)) (dv_mul (h a d ha hd) (h b c hb hc))
  have d3 : ∀ a b t c d e, a < m → b < m → t < m → c < m → d < m → e < m → q ∣ D3 A (R a) (R b) (R t) (C c) (C d) (C e) - D3 B (R a) (R b) (R t) (C c) (C d) (C e) := fun a b t c d e ha hb ht hc hd he => by
    unfold D3; exact dv_add (dv_sub (dv_mul (h a c ha hc) (d2 b t d e hb ht hd he)) (dv_mul (h a d ha hd) (d2 b t c e hb ht hc he))) (dv_mul (h a e ha he) (d2 b t c d hb ht hc hd))
  match m, hm with
  | 0, _ => exact dv_refl _ _
  | 1, _ => exact h 0 0 (by omega) (by omega)
  | 2, _ => exact d2 0 1 0 1 (by omega) (by omega) (by omega) (by omega)
  | 3, _ => exact d3 0 1 2 0 1 2 (by omega) (by omega) (by omega) (by omega) (by omega) (by omega)
  | 4, _ =>
    show q ∣ D4 A _ _ _ _ _ _ _ _ - D4 B _ _ _ _ _ _ _ _
    unfold D4
    exact dv_sub (dv_add (dv_sub (dv_mul (h 0 0 (by omega) (by omega)) (d3 1 2 3 1 2 3 (by omega) (by omega) (by omega) (by omega) (by omega) (by omega))) (dv_mul (h 0 1 (by omega) (by omega)) (d3 1 2 3 0 2 3 (by omega) (by omega) (by omega) (by omega) (by omega) (by omega)))) (dv_mul (h 0 2 (by omega) (by omega)) (d3 1 2 3 0 1 3 (by omega) (by omega) (by omega) (by omega) (by omega) (by omega)))) (dv_mul (h 0 3 (by omega) (by omega)) (d3 1 2 3 0 1 2 (by omega) (by omega) (by omega) (by omega) (by omega) (by omega)))
theorem Dm_s (A : Nat → Nat → Int) (s : Int) (R C : Nat → Nat) {m : Nat} (hm : m ≤ 4) : Dm (fun i j => s * A i j) R C m = s ^ m * Dm A R C m := by
  match m, hm with
  | 0, _ => simp [Dm]
  | 1, _ => simp [Dm, Int.pow_succ]
  | 2, _ => simp only [Dm, D2_s]; congr 1; simp [Int.pow_succ]
  | 3, _ => simp only [Dm, D3_s]; congr 1; simp [Int.pow_succ]
  | 4, _ => simp only [Dm, D4_s]; congr 1; simp [Int.pow_succ]
/-- a modulus that divides a product only with a factor; 0, too -/
def Pq (q : Int) : Prop := (∀ x y, q ∣ x * y → q ∣ x ∨ q ∣ y) ∧ ¬ q ∣ 1
theorem Pq_pow {q s : Int} (hq : Pq q) (hs : ¬ q ∣ s) : ∀ m : Nat, ¬ q ∣ s ^ m := by
  intro m
  induction m with
  | zero => simpa using hq.2
  | succ m ih => intro z; rw [Int.pow_succ] at z; rcases hq.1 _ _ z with z | z; exact ih z; exact hs z
theorem Pq_0 : Pq 0 := ⟨fun x y h => by rw [Int.zero_dvd] at h ⊢; rw [Int.zero_dvd]; exact Int.mul_eq_zero.mp h, by decide⟩
theorem vanq {q : Int} (hq : Pq q) {A : Nat → Nat → Int} {n u m : Nat} {s : Int} (hs : ¬ q ∣ s) {Y a : Nat → Nat → Int} {P : Nat → Prop} (hP : ∀ c, P c → c < 100) (h : ∀ ρ c, ρ < n → P c → q ∣ s * A ρ c - sumN (fun t => Y t c * a t ρ) u) (hum : u < m) (hm : m ≤ 4) {R C : Nat → Nat} (hR : ∀ z, z < m → R z < n) (hC : ∀ z, z < m → P (C z)) : q ∣ Dm A R C m := by
  have e0 := spm (A := fun i j => if j < 100 then sumN (fun t => Y t j * a t i) u else a (j - 100) i) (n := n) (u := u) (m := m) (s := 1) (by decide) (l := fun t => 100 + t) (Y := Y) (P := P) (fun ρ c hρ hc => by
    show 1 * (if c < 100 then _ else _) = _
    rw [if_pos (hP c hc), Int.one_mul]
    refine sumN_congr (fun t ht => ?_)
    show _ = Y t c * (if 100 + t < 100 then _ else _)
    rw [if_neg (by omega), show 100 + t - 100 = t by omega]) hum hm hR hC
  have e1 := Dm_mod (q := q) (A := fun i j => s * A i j) (B := fun i j => if j < 100 then sumN (fun t => Y t j * a t i) u else a (j - 100) i) (R := R) (C := C) hm (fun i j hi hj => by
    show q ∣ s * A (R i) (C j) - (if C j < 100 then _ else _)
    rw [if_pos (hP _ (hC j hj))]
    exact h _ _ (hR i hi) (hC j hj))
  rw [e0, Dm_s _ _ _ _ hm, Int.sub_zero] at e1
  exact (hq.1 _ _ e1).resolve_left (Pq_pow hq hs m)
