/-! ===== each column is a sum of multiples of the leading ones ===== -/
def sumN (f : Nat → Int) : Nat → Int
  | 0 => 0
  | k + 1 => sumN f k + f k
theorem sumN_congr {f g : Nat → Int} {k : Nat} (h : ∀ t, t < k → f t = g t) : sumN f k = sumN g k := by
  induction k with
  | zero => rfl
  | succ k ih => rw [sumN, sumN, ih (fun t ht => h t (by omega)), h k (by omega)]
theorem sumN_zero {f : Nat → Int} {u k : Nat} (hu : u ≤ k) (h : ∀ t, u ≤ t → t < k → f t = 0) : sumN f k = sumN f u := by
  induction k with
  | zero => rw [show u = 0 by omega]
  | succ k ih =>
    by_cases e : u = k + 1
    · rw [e]
    · rw [sumN, h k (by omega) (by omega), Int.add_zero, ih (by omega) (fun t a b => h t a (by omega))]
theorem lapm {A : Nat → Nat → Int} {σ l : Nat → Nat} {k ρ c : Nat} (hk : k ≤ 3) : Dm A (up σ k ρ) (up l k c) (k + 1) = Dm A σ l k * A ρ c - sumN (fun t => Dm A σ (up l t c) k * A ρ (l t)) k := by
  match k, hk with
  | 0, _ => simp [Dm, up, sumN]
  | 1, _ => have := lap1 A (σ 0) ρ (l 0) c; simp [Dm, up, sumN]; omega
  | 2, _ => have := lap2 A (σ 0) (σ 1) ρ (l 0) (l 1) c; simp [Dm, up, sumN]; omega
  | 3, _ => have := lap3 A (σ 0) (σ 1) (σ 2) ρ (l 0) (l 1) (l 2) c; simp [Dm, up, sumN]; omega
theorem repm {A : Nat → Nat → Int} {σ C : Nat → Nat} {k i : Nat} (hk : k ≤ 3) (hi : i < k) : Dm A (up σ k (σ i)) C (k + 1) = 0 := by
  match k, i, hk, hi with
  | 1, 0, _, _ => simp [Dm, up, D2]; grind
  | 2, 0, _, _ => simp [Dm, up, D2, D3]; grind
  | 2, 1, _, _ => simp [Dm, up, D2, D3]; grind
  | 3, 0, _, _ => simp [Dm, up, D2, D3, D4]; grind
  | 3, 1, _, _ => simp [Dm, up, D2, D3, D4]; grind
  | 3, 2, _, _ => simp [Dm, up, D2, D3, D4]; grind
theorem surj4 {n : Nat} (hn : n ≤ 4) {σ : Nat → Nat} (h1 : ∀ i, i < n → σ i < n) (h2 : ∀ a b, a < n → b < n → σ a = σ b → a = b) {ρ : Nat} (hρ : ρ < n) : ∃ i, i < n ∧ σ i = ρ := by
  refine Classical.byContradiction fun hno => ?_
  have hne : ∀ i, i < n → σ i ≠ ρ := fun i hi e => hno ⟨i, hi, e⟩
  have ne : ∀ a b, a < b → b < n → σ a ≠ σ b := fun a b hab hb e => by have := h2 a b (by omega) hb e; omega
  match n, hn with
  | 1, _ => have := h1 0 (by omega); have := hne 0 (by omega); omega
  | 2, _ => have := h1 0 (by omega); have := h1 1 (by omega); have := hne 0 (by omega); have := hne 1 (by omega); have := ne 0 1 (by omega) (by omega); omega
  | 3, _ => have := h1 0 (by omega); have := h1 1 (by omega); have := h1 2 (by omega); have := hne 0 (by omega); have := hne 1 (by omega); have := hne 2 (by omega); have := ne 0 1 (by omega) (by omega); have := ne 0 2 (by omega) (by omega); have := ne 1 2 (by omega) (by omega); omega
  | 4, _ => have := h1 0 (by omega); have := h1 1 (by omega); have := h1 2 (by omega); have := h1 3 (by omega); have := hne 0 (by omega); have := hne 1 (by omega); have := hne 2 (by omega); have := hne 3 (by omega); have := ne 0 1 (by omega) (by omega); have := ne 0 2 (by omega) (by omega); have := ne 0 3 (by omega) (by omega); have := ne 1 2 (by omega) (by omega); have := ne 1 3 (by omega) (by omega); have := ne 2 3 (by omega) (by omega); omega
/-- the relation of a column to the leading ones -/
theorem Lin {A : Nat → Nat → Int} {n j k : Nat} {σ l : Nat → Nat} {X : Nat → Nat → Int} {s : Int} (h : Inv A n j k σ l X s) {c : Nat} (hc : c < 5) (hz : ∀ i, k ≤ i → i < n → X i c = 0) {ρ : Nat} (hρ : ρ < n) : s * A ρ c = sumN (fun t => X t c * A ρ (l t)) k := by
  obtain ⟨⟨h1, h2, h3, h4⟩, ⟨h5, h5'⟩, ⟨h6, h7⟩, ⟨h8, h8'⟩, h9, h10, h11, h12, h13, h14⟩ := h
  obtain ⟨i, hi, rfl⟩ := surj4 h4 h5 h5' hρ
  have e0 : sumN (fun t => X t c * A (σ i) (l t)) k = sumN (fun t => Dm A σ (up l t c) k * A (σ i) (l t)) k := sumN_congr (fun t ht => by rw [h9 t c ht hc])
  rw [e0, h8]
  by_cases e3 : k ≤ 3
  · have e1 : Dm A (up σ k (σ i)) (up l k c) (k + 1) = 0 := by
      by_cases e : i < k
      · exact repm e3 e
      · rw [← h10 i c (by omega) hi hc]; exact hz i (by omega) hi
    have e2 := lapm (A := A) (σ := σ) (l := l) (ρ := σ i) (c := c) e3
    omega
  · have hk : k = 4 := by omega
    subst hk
    have hn : n = 4 := by omega
    subst hn
    match i, hi with
    | 0, _ => have := cra A (σ 0) (σ 1) (σ 2) (σ 3) (l 0) (l 1) (l 2) (l 3) c; simp [Dm, up, sumN]; omega
    | 1, _ => have := crb A (σ 0) (σ 1) (σ 2) (σ 3) (l 0) (l 1) (l 2) (l 3) c; simp [Dm, up, sumN]; omega
    | 2, _ => have := crc A (σ 0) (σ 1) (σ 2) (σ 3) (l 0) (l 1) (l 2) (l 3) c; simp [Dm, up, sumN]; omega
    | 3, _ => have := crd A (σ 0) (σ 1) (σ 2) (σ 3) (l 0) (l 1) (l 2) (l 3) c; simp [Dm, up, sumN]; omega
/-- columns among which each comes of u of them: greater minors are 0 -/
def Sp (A : Nat → Nat → Int) (n u : Nat) (s : Int) (l : Nat → Nat) (Y : Nat → Nat → Int) (P : Nat → Prop) : Prop := ∀ ρ c, ρ < n → P c → s * A ρ c = sumN (fun t => Y t c * A ρ (l t)) u
theorem sp0 {A : Nat → Nat → Int} {n : Nat} {s : Int} (hs : s ≠ 0) {l : Nat → Nat} {Y : Nat → Nat → Int} {P : Nat → Prop} (h : Sp A n 0 s l Y P) : ∀ r c, r < n → P c → A r c = 0 := fun r c hr hc => by
  have := h r c hr hc
  rw [sumN] at this
  exact (Int.mul_eq_zero.mp this).resolve_left hs
theorem up2 {A : Nat → Nat → Int} {n : Nat} {P : Nat → Prop} (h : ∀ r c, r < n → P c → A r c = 0) : ∀ r q c d, r < n → q < n → P c → P d → D2 A r q c d = 0 := fun r q c d hr hq hc hd => by
  unfold D2; rw [h r c hr hc, h r d hr hd]; simp
theorem up3 {A : Nat → Nat → Int} {n : Nat} {P : Nat → Prop} (h : ∀ r q c d, r < n → q < n → P c → P d → D2 A r q c d = 0) : ∀ r q t c d e, r < n → q < n → t < n → P c → P d → P e → D3 A r q t c d e = 0 := fun r q t c d e hr hq ht hc hd he => by
  unfold D3; rw [h q t d e hq ht hd he, h q t c e hq ht hc he, h q t c d hq ht hc hd]; simp
theorem up4 {A : Nat → Nat → Int} {n : Nat} {P : Nat → Prop} (h : ∀ r q t c d e, r < n → q < n → t < n → P c → P d → P e → D3 A r q t c d e = 0) : ∀ r q t u c d e f, r < n → q < n → t < n → u < n → P c → P d → P e → P f → D4 A r q t u c d e f = 0 := fun r q t u c d e f hr hq ht hu hc hd he hf => by
  unfold D4; rw [h q t u d e f hq ht hu hd he hf, h q t u c e f hq ht hu hc he hf, h q t u c d f hq ht hu hc hd hf, h q t u c d e hq ht hu hc hd he]; simp
theorem D2_s (A : Nat → Nat → Int) (s : Int) (r q c d : Nat) : D2 (fun i j => s * A i j) r q c d = s * s * D2 A r q c d := by simp only [D2]; grind
theorem D3_s (A : Nat → Nat → Int) (s : Int) (r q t c d e : Nat) : D3 (fun i j => s * A i j) r q t c d e = s * s * s * D3 A r q t c d e := by simp only [D3, D2]; grind
theorem D4_s (A : Nat → Nat → Int) (s : Int) (r q t u c d e f : Nat) : D4 (fun i j => s * A i j) r q t u c d e f = s * s * s * s * D4 A r q t u c d e f := by simp only [D4, D3, D2]; grind
theorem pr1 (a y : Nat → Int) (r s c d : Nat) : D2 (fun i j => y j * a i) r s c d = 0 := by simp only [D2]; grind
theorem sp1 {A : Nat → Nat → Int} {n : Nat} {s : Int} (hs : s ≠ 0) {l : Nat → Nat} {Y : Nat → Nat → Int} {P : Nat → Prop} (h : Sp A n 1 s l Y P) : ∀ r q c d, r < n → q < n → P c → P d → D2 A r q c d = 0 := fun r q c d hr hq hc hd => by
  have e := D2_s A s r q c d
  have e2 := pr1 (fun i => A i (l 0)) (fun j => Y 0 j) r q c d
  have g : ∀ i j, i < n → P j → s * A i j = Y 0 j * A i (l 0) := fun i j hi hj => by have := h i j hi hj; simpa [sumN] using this
  have e3 : D2 (fun i j => s * A i j) r q c d = D2 (fun i j => Y 0 j * A i (l 0)) r q c d := by
    simp only [D2, g r c hr hc, g r d hr hd, g q c hq hc, g q d hq hd]
  rw [e3, e2] at e
  exact (Int.mul_eq_zero.mp e.symm).resolve_left (Int.mul_ne_zero hs hs)
theorem sp2 {A : Nat → Nat → Int} {n : Nat} {s : Int} (hs : s ≠ 0) {l : Nat → Nat} {Y : Nat → Nat → Int} {P : Nat → Prop} (h : Sp A n 2 s l Y P) : ∀ r q t c d e, r < n → q < n → t < n → P c → P d → P e → D3 A r q t c d e = 0 := fun r q t c d f hr hq ht hc hd hf => by
  have e := D3_s A s r q t c d f
  have e2 := pr2 (fun i => A i (l 0)) (fun i => A i (l 1)) (fun j => Y 0 j) (fun j => Y 1 j) r q t c d f
  have g : ∀ i j, i < n → P j → s * A i j = Y 0 j * A i (l 0) + Y 1 j * A i (l 1) := fun i j hi hj => by have := h i j hi hj; simpa [sumN] using this
  have e3 : D3 (fun i j => s * A i j) r q t c d f = D3 (fun i j => Y 0 j * A i (l 0) + Y 1 j * A i (l 1)) r q t c d f := by
    simp only [D3, D2, g r c hr hc, g r d hr hd, g r f hr hf, g q c hq hc, g q d hq hd, g q f hq hf, g t c ht hc, g t d ht hd, g t f ht hf]
  rw [e3, e2] at e
  exact (Int.mul_eq_zero.mp e.symm).resolve_left (Int.mul_ne_zero (Int.mul_ne_zero hs hs) hs)
theorem sp3 {A : Nat → Nat → Int} {n : Nat} {s : Int} (hs : s ≠ 0) {l : Nat → Nat} {Y : Nat → Nat → Int} {P : Nat → Prop} (h : Sp A n 3 s l Y P) : ∀ r q t u c d e f, r < n → q < n → t < n → u < n → P c → P d → P e → P f → D4 A r q t u c d e f = 0 := fun r q t u c d f b hr hq ht hu hc hd hf hb => by
  have e := D4_s A s r q t u c d f b
  have e2 := pr3 (fun i => A i (l 0)) (fun i => A i (l 1)) (fun i => A i (l 2)) (fun j => Y 0 j) (fun j => Y 1 j) (fun j => Y 2 j) r q t u c d f b
  have g : ∀ i j, i < n → P j → s * A i j = Y 0 j * A i (l 0) + Y 1 j * A i (l 1) + Y 2 j * A i (l 2) := fun i j hi hj => by have := h i j hi hj; simpa [sumN] using this
  have e3 : D4 (fun i j => s * A i j) r q t u c d f b = D4 (fun i j => Y 0 j * A i (l 0) + Y 1 j * A i (l 1) + Y 2 j * A i (l 2)) r q t u c d f b := by
    simp only [D4, D3, D2, g r c hr hc, g r d hr hd, g r f hr hf, g r b hr hb, g q c hq hc, g q d hq hd, g q f hq hf, g q b hq hb, g t c ht hc, g t d ht hd, g t f ht hf, g t b ht hb, g u c hu hc, g u d hu hd, g u f hu hf, g u b hu hb]
  rw [e3, e2] at e
  exact (Int.mul_eq_zero.mp e.symm).resolve_left (Int.mul_ne_zero (Int.mul_ne_zero (Int.mul_ne_zero hs hs) hs) hs)
theorem spm {A : Nat → Nat → Int} {n u m : Nat} {s : Int} (hs : s ≠ 0) {l : Nat → Nat} {Y : Nat → Nat → Int} {P : Nat → Prop} (h : Sp A n u s l Y P) (hum : u < m) (hm : m ≤ 4) {R C : Nat → Nat} (hR : ∀ z, z < m → R z < n) (hC : ∀ z, z < m → P (C z)) : Dm A R C m = 0 := by
  match u, m, hum, hm with
  | 0, 1, _, _ => exact sp0 hs h _ _ (hR 0 (by omega)) (hC 0 (by omega))
  | 0, 2, _, _ => exact up2 (sp0 hs h) _ _ _ _ (hR 0 (by omega)) (hR 1 (by omega)) (hC 0 (by omega)) (hC 1 (by omega))
  | 0, 3, _, _ => exact up3 (up2 (sp0 hs h)) _ _ _ _ _ _ (hR 0 (by omega)) (hR 1 (by omega)) (hR 2 (by omega)) (hC 0 (by omega)) (hC 1 (by omega)) (hC 2 (by omega))
  | 0, 4, _, _ => exact up4 (up3 (up2 (sp0 hs h))) _ _ _ _ _ _ _ _ (hR 0 (by omega)) (hR 1 (by omega)) (hR 2 (by omega)) (hR 3 (by omega)) (hC 0 (by omega)) (hC 1 (by omega)) (hC 2 (by omega)) (hC 3 (by omega))
  | 1, 2, _, _ => exact sp1 hs h _ _ _ _ (hR 0 (by omega)) (hR 1 (by omega)) (hC 0 (by omega)) (hC 1 (by omega))
  | 1, 3, _, _ => exact up3 (sp1 hs h) _ _ _ _ _ _ (hR 0 (by omega)) (hR 1 (by omega)) (hR 2 (by omega)) (hC 0 (by omega)) (hC 1 (by omega)) (hC 2 (by omega))
  | 1, 4, _, _ => exact up4 (up3 (sp1 hs h)) _ _ _ _ _ _ _ _ (hR 0 (by omega)) (hR 1 (by omega)) (hR 2 (by omega)) (hR 3 (by omega)) (hC 0 (by omega)) (hC 1 (by omega)) (hC 2 (by omega)) (hC 3 (by omega))
  | 2, 3, _, _ => exact sp2 hs h _ _ _ _ _ _ (hR 0 (by omega)) (hR 1 (by omega)) (hR 2 (by omega)) (hC 0 (by omega)) (hC 1 (by omega)) (hC 2 (by omega))
  | 2, 4, _, _ => exact up4 (sp2 hs h) _ _ _ _ _ _ _ _ (hR 0 (by omega)) (hR 1 (by omega)) (hR 2 (by omega)) (hR 3 (by omega)) (hC 0 (by omega)) (hC 1 (by omega)) (hC 2 (by omega)) (hC 3 (by omega))
  | 3, 4, _, _ => exact sp3 hs h _ _ _ _ _ _ _ _ (hR 0 (by omega)) (hR 1 (by omega)) (hR 2 (by omega)) (hR 3 (by omega)) (hC 0 (by omega)) (hC 1 (by omega)) (hC 2 (by omega)) (hC 3 (by omega))
  | u + 4, m, h1, h2 => exact absurd h1 (by omega)
