/-! ===== the solution is small; near, short and cut of class and reference ===== -/
theorem D2_cb {A : Nat → Nat → Int} {c d bc bd : Nat} (hc : ∀ i, i < 4 → (A i c).natAbs ≤ bc) (hd : ∀ i, i < 4 → (A i d).natAbs ≤ bd) {r s : Nat} (hr : r < 4) (hs : s < 4) : (D2 A r s c d).natAbs ≤ bc * bd + bd * bc := by
  unfold D2
  have h1 := ab_mul (hc r hr) (hd s hs)
  have h2 := ab_mul (hd r hr) (hc s hs)
  generalize bc * bd = u at h1 ⊢
  generalize bd * bc = v at h2 ⊢
  omega
theorem D3_cb {A : Nat → Nat → Int} {c d e bc bd be : Nat} (hc : ∀ i, i < 4 → (A i c).natAbs ≤ bc) (hd : ∀ i, i < 4 → (A i d).natAbs ≤ bd) (he : ∀ i, i < 4 → (A i e).natAbs ≤ be) {r s t : Nat} (hr : r < 4) (hs : s < 4) (ht : t < 4) : (D3 A r s t c d e).natAbs ≤ bc * (bd * be + be * bd) + bd * (bc * be + be * bc) + be * (bc * bd + bd * bc) := by
  unfold D3
  have h1 := ab_mul (hc r hr) (D2_cb hd he hs ht)
  have h2 := ab_mul (hd r hr) (D2_cb hc he hs ht)
  have h3 := ab_mul (he r hr) (D2_cb hc hd hs ht)
  generalize bc * (bd * be + be * bd) = u at h1 ⊢
  generalize bd * (bc * be + be * bc) = v at h2 ⊢
  generalize be * (bc * bd + bd * bc) = w at h3 ⊢
  omega
theorem D4_cb {A : Nat → Nat → Int} {c d e f bc bd be bf : Nat} (hc : ∀ i, i < 4 → (A i c).natAbs ≤ bc) (hd : ∀ i, i < 4 → (A i d).natAbs ≤ bd) (he : ∀ i, i < 4 → (A i e).natAbs ≤ be) (hf : ∀ i, i < 4 → (A i f).natAbs ≤ bf) {r s t u : Nat} (hr : r < 4) (hs : s < 4) (ht : t < 4) (hu : u < 4) :
    (D4 A r s t u c d e f).natAbs ≤ bc * (bd * (be * bf + bf * be) + be * (bd * bf + bf * bd) + bf * (bd * be + be * bd)) + bd * (bc * (be * bf + bf * be) + be * (bc * bf + bf * bc) + bf * (bc * be + be * bc)) + be * (bc * (bd * bf + bf * bd) + bd * (bc * bf + bf * bc) + bf * (bc * bd + bd * bc)) + bf * (bc * (bd * be + be * bd) + bd * (bc * be + be * bc) + be * (bc * bd + bd * bc)) := by
  unfold D4
  have h1 := ab_mul (hc r hr) (D3_cb hd he hf hs ht hu)
  have h2 := ab_mul (hd r hr) (D3_cb hc he hf hs ht hu)
  have h3 := ab_mul (he r hr) (D3_cb hc hd hf hs ht hu)
  have h4 := ab_mul (hf r hr) (D3_cb hc hd he hs ht hu)
  generalize bc * (bd * (be * bf + bf * be) + be * (bd * bf + bf * bd) + bf * (bd * be + be * bd)) = p1 at h1 ⊢
  generalize bd * (bc * (be * bf + bf * be) + be * (bc * bf + bf * bc) + bf * (bc * be + be * bc)) = p2 at h2 ⊢
  generalize be * (bc * (bd * bf + bf * bd) + bd * (bc * bf + bf * bc) + bf * (bc * bd + bd * bc)) = p3 at h3 ⊢
  generalize bf * (bc * (bd * be + be * bd) + bd * (bc * be + be * bc) + be * (bc * bd + bd * bc)) = p4 at h4 ⊢
  omega
/-- the side in the place of one column -/
theorem side_b {A : Nat → Nat → Int} (hB : Bd A) (hT : Bt A) {σ l : Nat → Nat} {k r : Nat} (hk : k ≤ 4) (hr : r < k) (hσ : ∀ i, i < k → σ i < 4) (hl : ∀ i, i < k → l i < 4) : (Dm A σ (up l r 4) k).natAbs ≤ 1732104 := by
  have h9 : ∀ c, c < 4 → ∀ i, i < 4 → (A i c).natAbs ≤ 9 := fun c hc i hi => by have := hT i c hi hc; omega
  have h99 : ∀ i, i < 4 → (A i 4).natAbs ≤ 99 := fun i hi => by have := hB i 4 hi (by omega); omega
  have e1 : ∀ i, i ≠ r → up l r 4 i = l i := fun i hi => up_ne l hi
  have e2 : up l r 4 r = 4 := up_eq l r 4
  match k, hk, hr with
  | 0, _, hr => omega
  | 1, _, hr =>
    have : r = 0 := by omega
    subst this
    show (A (σ 0) (up l 0 4 0)).natAbs ≤ _
    rw [e2]
    have := h99 (σ 0) (hσ 0 (by omega))
    omega
  | 2, _, hr =>
    show (D2 A (σ 0) (σ 1) (up l r 4 0) (up l r 4 1)).natAbs ≤ _
    have s0 := hσ 0 (by omega)
    have s1 := hσ 1 (by omega)
    match r, hr with
    | 0, _ => rw [e2, e1 1 (by omega)]; exact Nat.le_trans (D2_cb h99 (h9 _ (hl 1 (by omega))) s0 s1) (by decide)
    | 1, _ => rw [e2, e1 0 (by omega)]; exact Nat.le_trans (D2_cb (h9 _ (hl 0 (by omega))) h99 s0 s1) (by decide)
  | 3, _, hr =>
    show (D3 A (σ 0) (σ 1) (σ 2) (up l r 4 0) (up l r 4 1) (up l r 4 2)).natAbs ≤ _
    have s0 := hσ 0 (by omega)
    have s1 := hσ 1 (by omega)
    have s2 := hσ 2 (by omega)
    match r, hr with
    | 0, _ => rw [e2, e1 1 (by omega), e1 2 (by omega)]; exact Nat.le_trans (D3_cb h99 (h9 _ (hl 1 (by omega))) (h9 _ (hl 2 (by omega))) s0 s1 s2) (by decide)
    | 1, _ => rw [e2, e1 0 (by omega), e1 2 (by omega)]; exact Nat.le_trans (D3_cb (h9 _ (hl 0 (by omega))) h99 (h9 _ (hl 2 (by omega))) s0 s1 s2) (by decide)
    | 2, _ => rw [e2, e1 0 (by omega), e1 1 (by omega)]; exact Nat.le_trans (D3_cb (h9 _ (hl 0 (by omega))) (h9 _ (hl 1 (by omega))) h99 s0 s1 s2) (by decide)
  | 4, _, hr =>
    show (D4 A (σ 0) (σ 1) (σ 2) (σ 3) (up l r 4 0) (up l r 4 1) (up l r 4 2) (up l r 4 3)).natAbs ≤ _
    have s0 := hσ 0 (by omega)
    have s1 := hσ 1 (by omega)
    have s2 := hσ 2 (by omega)
    have s3 := hσ 3 (by omega)
    match r, hr with
    | 0, _ => rw [e2, e1 1 (by omega), e1 2 (by omega), e1 3 (by omega)]; exact Nat.le_trans (D4_cb h99 (h9 _ (hl 1 (by omega))) (h9 _ (hl 2 (by omega))) (h9 _ (hl 3 (by omega))) s0 s1 s2 s3) (by decide)
    | 1, _ => rw [e2, e1 0 (by omega), e1 2 (by omega), e1 3 (by omega)]; exact Nat.le_trans (D4_cb (h9 _ (hl 0 (by omega))) h99 (h9 _ (hl 2 (by omega))) (h9 _ (hl 3 (by omega))) s0 s1 s2 s3) (by decide)
    | 2, _ => rw [e2, e1 0 (by omega), e1 1 (by omega), e1 3 (by omega)]; exact Nat.le_trans (D4_cb (h9 _ (hl 0 (by omega))) (h9 _ (hl 1 (by omega))) h99 (h9 _ (hl 3 (by omega))) s0 s1 s2 s3) (by decide)
    | 3, _ => rw [e2, e1 0 (by omega), e1 1 (by omega), e1 2 (by omega)]; exact Nat.le_trans (D4_cb (h9 _ (hl 0 (by omega))) (h9 _ (hl 1 (by omega))) (h9 _ (hl 2 (by omega))) h99 s0 s1 s2 s3) (by decide)
theorem sl_b {A : Nat → Nat → Int} (hT : Bt A) {n k ex : Nat} {σ l : Nat → Nat} {X : Nat → Nat → Int} {s : Int} (h : Ck A n k ex σ l X s) (j : Nat) : (slA l k X s j).natAbs < 2 ^ 21 ∧ 1 ≤ slB l k X s j ∧ (slB l k X s j).natAbs < 2 ^ 32 := by
  obtain ⟨hB, h1, hI, hx⟩ := h
  obtain ⟨s1, s2, s3⟩ := Ck_s ⟨hB, h1, hI, hx⟩
  unfold slA slB
  cases q : ledBy l j k with
  | none =>
    show (0 : Int).natAbs < 2 ^ 21 ∧ (1 : Int) ≤ 1 ∧ (1 : Int).natAbs < 2 ^ 32
    exact ⟨by decide, by decide, by decide⟩
  | some r =>
    obtain ⟨hr, -⟩ := ledBy_some q
    obtain ⟨⟨i1, i2, i3, i4⟩, ⟨p1, p2⟩, ⟨l1, l2⟩, -, xl, -⟩ := hI
    have hb := side_b hB hT (σ := σ) (l := l) (k := k) (r := r) (by omega) hr (fun i hi => by have := p1 i (by omega); omega) (fun i hi => by have := l1 i hi; omega)
    rw [← xl r 4 hr (by omega)] at hb
    have hf := frA_le (a := X r 4) s1
    obtain ⟨b1, b2, b3⟩ := frB_pos (a := X r 4) s1
    show (frA (X r 4) s).natAbs < 2 ^ 21 ∧ 1 ≤ frB (X r 4) s ∧ (frB (X r 4) s).natAbs < 2 ^ 32
    exact ⟨by omega, b1, by omega⟩
/-- the nearest double of class -/
theorem whole_div {a b : Int} (ha : a.natAbs < 2 ^ 53) (hb : 1 ≤ b) (hb2 : b.natAbs < 2 ^ 53) : FP.Core.val64 (FP.ddiv (FP.l2d (zJ a)) (FP.l2d (zJ b))) = FP.Core.roundRatio FP.Core.b64 (decide (a < 0)) a.natAbs b.natAbs 0 := by
  show FP.Core.val64 (FP.Core.ddiv (FP.Core.l2d (zJ a)) (FP.Core.l2d (zJ b))) = _
  rw [FP.Core.val64_ddiv]
  obtain ⟨c, q, e1⟩ := FP.Core.l2d_shape (zJ a)
  obtain ⟨d, r, e2⟩ := FP.Core.l2d_shape (zJ b)
  have w1 : FP.Core.Whole a (FP.Core.val64 (FP.Core.l2d (zJ a))) := by
    have := FP.Core.l2d_int (a := zJ a) (by rw [zJ_toInt ⟨by omega, by omega⟩]; omega)
    rw [zJ_toInt ⟨by omega, by omega⟩] at this
    exact this
  have w2 : FP.Core.Whole b (FP.Core.val64 (FP.Core.l2d (zJ b))) := by
    have := FP.Core.l2d_int (a := zJ b) (by rw [zJ_toInt ⟨by omega, by omega⟩]; omega)
    rw [zJ_toInt ⟨by omega, by omega⟩] at this
    exact this
  rw [e1] at w1 ⊢
  rw [e2] at w2 ⊢
  rw [zJ_toInt ⟨by omega, by omega⟩] at w1 w2 ⊢
  rw [zJ_toInt ⟨by omega, by omega⟩]
  have hd : ¬ d = 0 := fun z => by have := (FP.Core.whole_zero w2).mp z; omega
  show (if d = 0 then _ else FP.Core.roundRatio FP.Core.b64 (decide (a < 0) != decide (b < 0)) c d (q - r)) = _
  rw [if_neg hd, show (decide (a < 0) != decide (b < 0)) = decide (a < 0) by rw [decide_eq_false (show ¬ b < 0 by omega)]; cases decide (a < 0) <;> rfl]
  refine FP.Core.roundRatio_congr (by omega) (by omega) ?_
  have n1 := FP.Core.whole_natAbs w1
  have n2 := FP.Core.whole_natAbs w2
  rw [show (q - r - 0).toNat = (q - r).toNat by omega, show (0 - (q - r)).toNat = (r - q).toNat by omega]
  refine Nat.eq_of_mul_eq_mul_right (Nat.two_pow_pos (q.toNat + r.toNat + (-q).toNat + (-r).toNat)) ?_
  have ex : (q - r).toNat + (-q).toNat + r.toNat = (r - q).toNat + q.toNat + (-r).toNat := by omega
  calc c * b.natAbs * 2 ^ (q - r).toNat * 2 ^ (q.toNat + r.toNat + (-q).toNat + (-r).toNat)
      = (c * 2 ^ q.toNat) * (b.natAbs * 2 ^ (-r).toNat) * 2 ^ ((q - r).toNat + (-q).toNat + r.toNat) := by simp only [Nat.pow_add]; ac_rfl
    _ = (a.natAbs * 2 ^ (-q).toNat) * (d * 2 ^ r.toNat) * 2 ^ ((r - q).toNat + q.toNat + (-r).toNat) := by rw [n1, ← n2, ex]
    _ = a.natAbs * d * 2 ^ (r - q).toNat * 2 ^ (q.toNat + r.toNat + (-q).toNat + (-r).toNat) := by simp only [Nat.pow_add]; ac_rfl
theorem l2d_pos {b : Int} (hb : 1 ≤ b) (hb2 : b.natAbs < 2 ^ 53) : FP.dcmp (FP.l2d (zJ b)) FP.dconst0 = some .gt := by
  have w2 : FP.Core.DInt b (FP.Core.l2d (zJ b)) := by
    have := FP.Core.l2d_int (a := zJ b) (by rw [zJ_toInt ⟨by omega, by omega⟩]; omega)
    rw [zJ_toInt ⟨by omega, by omega⟩] at this
    exact this
  have w0 : FP.Core.DInt 0 FP.Core.dconst0 := by
    unfold FP.Core.DInt
    rw [FP.Core.val64_dconst0]
    show FP.Core.signed false (0 * 2 ^ _) = 0 * _
    rw [Nat.zero_mul, Int.zero_mul]
    rfl
  show FP.Core.dcmp (FP.Core.l2d (zJ b)) FP.Core.dconst0 = _
  rw [FP.Core.dcmp_int w2 w0, FP.Core.compare_ite, if_neg (by omega), if_neg (by omega)]
