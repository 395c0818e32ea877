/-! ===== leading columns, broken rows, the solution ===== -/
theorem leadc_loop {A : Nat → Nat → Int} {n k : Nat} {σ l : Nat → Nat} {X : Nat → Nat → Int} {s : Int} (hI : Inv A n n k σ l X s) {ld : Nat → Int32} (hl : ∀ i, i < k → ld i = nI (l i)) : ∀ (d r fu : Nat), r + d = k → d < fu → L_X1_leading_4 (nI k) ld fu (nI (St l r)) (nI r) = some (nI (St l k)) := by
  have hn : n ≤ 4 := hI.1.2.2.2
  have hk : k ≤ n := hI.1.2.1
  have hi := Inv_inc hI
  intro d
  induction d with
  | zero =>
    intro r fu hr hfu
    obtain ⟨fu, rfl⟩ : ∃ g, fu = g + 1 := ⟨fu - 1, by omega⟩
    rw [L_X1_leading_4, if_pos (nI_le (by omega) (by omega)), show r = k by omega]
  | succ d ih =>
    intro r fu hr hfu
    obtain ⟨fu, rfl⟩ : ∃ g, fu = g + 1 := ⟨fu - 1, by omega⟩
    have h1 := hi.1 r (by omega)
    have hp := pow_n (show l r ≤ 4 by omega)
    have hlt : St l r < 2 ^ l r := St_lt ⟨fun i hi' => hi.2 i r hi' (by omega), fun a b c e => hi.2 a b c (by omega)⟩
    rw [L_X1_leading_4, if_neg (nI_ge (by omega) (by omega)), if_pos (kin_nI (by decide) (by omega)), nI_clamp (n := r) (by omega), hl r (by omega)]
    simp only [kl]
    rw [or_fin ⟨l r, by omega⟩ ⟨St l r, by omega⟩ hlt, nI_1]
    exact ih (r + 1) fu (by omega) (by omega)
theorem leading_c {F : Nat} (hF : 100 ≤ F) {A : Nat → Nat → Int} {n k : Nat} {σ l : Nat → Nat} {X : Nat → Nat → Int} {s : Int} (hI : Inv A n n k σ l X s) {ld : Nat → Int32} (hl : ∀ i, i < k → ld i = nI (l i)) : f_X1_leading F (nI k) ld = some (nI (St l k)) := by
  have hn : n ≤ 4 := hI.1.2.2.2
  have hk : k ≤ n := hI.1.2.1
  unfold f_X1_leading
  rw [show L_X1_leading_4 (nI k) ld F (0 : Int32) (0 : Int32) = some (nI (St l k)) from leadc_loop hI hl k 0 F (by omega) (by omega)]
  rfl
/-- some number among the first ones is not 1 -/
def brk (f : Nat → Int) : Nat → Bool
  | 0 => false
  | m + 1 => brk f m || f m != 1
def cntB (f : Nat → Bool) : Nat → Nat
  | 0 => 0
  | m + 1 => cntB f m + if f m = true then 1 else 0
theorem brk_iff {f : Nat → Int} {m : Nat} : brk f m = true ↔ ∃ j, j < m ∧ f j ≠ 1 := by
  induction m with
  | zero => simp [brk]
  | succ m ih =>
    simp only [brk, Bool.or_eq_true, ih, bne_iff_ne]
    constructor
    · rintro (⟨j, a, b⟩ | h)
      · exact ⟨j, by omega, b⟩
      · exact ⟨m, by omega, h⟩
    · rintro ⟨j, a, b⟩
      by_cases e : j = m
      · subst e; exact Or.inr b
      · exact Or.inl ⟨j, by omega, b⟩
theorem zJ_one {x : Int} (h : sm x) : zJ x = (1 : Int64) ↔ x = 1 := by
  rw [show (1 : Int64) = zJ 1 from rfl, zJ_eq (rJ_sm h) ⟨by omega, by omega⟩]
theorem frB_sm {a b : Int} (hb : b ≠ 0) (hs : sm b) : sm (frB a b) := by
  have := frB_pos (a := a) hb
  unfold sm at *; omega
theorem isB_loop {F : Nat} (hF : 200 ≤ F) {A : Nat → Nat → Int} {n k ex : Nat} {σ l : Nat → Nat} {X : Nat → Nat → Int} {s : Int} (h : Ck A n k ex σ l X s) {v : Nat → Nat → Int64} (hM : Mt 5 v X) {r : Nat} (hr : r < 4) : ∀ (d j fu : Nat), j + d = n → d < fu → brk (fun c => frB (X r c) s) j = false → L_X1_isBroken_2 F (nI r) (nI n) (zJ s) v fu (nI j) = some (if brk (fun c => frB (X r c) s) n = true then .inl () else .inr ()) := by
  obtain ⟨h1, h2⟩ := Ck_n h
  obtain ⟨s1, s2, s3⟩ := Ck_s h
  intro d
  induction d with
  | zero =>
    intro j fu hj hfu hb
    obtain ⟨fu, rfl⟩ : ∃ g, fu = g + 1 := ⟨fu - 1, by omega⟩
    rw [L_X1_isBroken_2, if_pos (nI_le (by omega) (by omega)), show n = j by omega, hb]
    rfl
  | succ d ih =>
    intro j fu hj hfu hb
    obtain ⟨fu, rfl⟩ : ∃ g, fu = g + 1 := ⟨fu - 1, by omega⟩
    rw [L_X1_isBroken_2, if_neg (nI_ge (by omega) (by omega)), below_ok hF hM s3 s1 hr (by omega) (Ck_x h hr (by omega)).2]
    simp only [kb1, Option.bind_some]
    by_cases c : frB (X r j) s = 1
    · rw [if_pos ((zJ_one (frB_sm s1 s3)).mpr c)]
      simp only [kl, nI_1]
      exact ih (j + 1) fu (by omega) (by omega) (by simp [brk, hb, c])
    · rw [if_neg (fun z => c ((zJ_one (frB_sm s1 s3)).mp z)), if_pos (brk_iff.mpr ⟨j, by omega, c⟩)]
theorem isBroken_c {F : Nat} (hF : 200 ≤ F) {A : Nat → Nat → Int} {n k ex : Nat} {σ l : Nat → Nat} {X : Nat → Nat → Int} {s : Int} (h : Ck A n k ex σ l X s) {v : Nat → Nat → Int64} (hM : Mt 5 v X) {r : Nat} (hr : r < 4) : f_X1_isBroken F (nI n) (zJ s) v (nI r) = some (if brk (fun c => frB (X r c) s) n = true then 1 else 0) := by
  obtain ⟨h1, h2⟩ := Ck_n h
  unfold f_X1_isBroken
  rw [show L_X1_isBroken_2 F (nI r) (nI n) (zJ s) v F (0 : Int32) = _ from isB_loop hF h hM hr n 0 F (by omega) (by omega) rfl]
  by_cases c : brk (fun c => frB (X r c) s) n = true
  · rw [if_pos c, if_pos c]; rfl
  · rw [if_neg c, if_neg c]; rfl
theorem brokenc_loop {F : Nat} (hF : 200 ≤ F) {A : Nat → Nat → Int} {n k ex : Nat} {σ l : Nat → Nat} {X : Nat → Nat → Int} {s : Int} (h : Ck A n k ex σ l X s) {v : Nat → Nat → Int64} (hM : Mt 5 v X) : ∀ (d r fu : Nat), r + d = k → d < fu → L_X1_broken_4 F (nI n) (nI k) (zJ s) v fu (nI (cntB (fun r => brk (fun c => frB (X r c) s) n) r)) (nI r) = some (nI (cntB (fun r => brk (fun c => frB (X r c) s) n) k)) := by
  obtain ⟨h1, h2⟩ := Ck_n h
  intro d
  induction d with
  | zero =>
    intro r fu hr hfu
    obtain ⟨fu, rfl⟩ : ∃ g, fu = g + 1 := ⟨fu - 1, by omega⟩
    rw [L_X1_broken_4, if_pos (nI_le (by omega) (by omega)), show r = k by omega]
  | succ d ih =>
    intro r fu hr hfu
    obtain ⟨fu, rfl⟩ : ∃ g, fu = g + 1 := ⟨fu - 1, by omega⟩
    rw [L_X1_broken_4, if_neg (nI_ge (by omega) (by omega)), isBroken_c hF h hM (by omega)]
    simp only [kb1, Option.bind_some]
    have hi := ih (r + 1) fu (by omega) (by omega)
    rw [cntB] at hi
    by_cases c : brk (fun c => frB (X r c) s) n = true
    · rw [if_pos c] at hi ⊢
      rw [if_neg (by decide)]
      simp only [kl, nI_1]
      exact hi
    · rw [if_neg c] at hi ⊢
      rw [if_pos (by first | rfl | trivial)]
      simp only [kl, nI_1]
      exact hi
theorem broken_c {F : Nat} (hF : 200 ≤ F) {A : Nat → Nat → Int} {n k ex : Nat} {σ l : Nat → Nat} {X : Nat → Nat → Int} {s : Int} (h : Ck A n k ex σ l X s) {v : Nat → Nat → Int64} (hM : Mt 5 v X) : f_X1_broken F (nI n) (nI k) (zJ s) v = some (nI (cntB (fun r => brk (fun c => frB (X r c) s) n) k)) := by
  obtain ⟨h1, h2⟩ := Ck_n h
  unfold f_X1_broken
  rw [show L_X1_broken_4 F (nI n) (nI k) (zJ s) v F (0 : Int32) (0 : Int32) = _ from brokenc_loop hF h hM k 0 F (by omega) (by omega)]
  rfl
theorem brm_in {F : Nat} (hF : 2305430425 ≤ F) {w : Nat → Int32} {A : Nat → Nat → Int} {n k ex : Nat} {σ l : Nat → Nat} {X : Nat → Nat → Int} {s : Int} (hW : Wn w n A) (h : Ck A n k ex σ l X s) {r : Nat} (hr : r < k) (x1 : Int32) : ∀ (d j fu : Nat) (a b : Int64) (rs cs : Nat → Int32), j + d = n → d < fu → ∃ a' b' rs' cs', L_X12_broken_17 F x1 (nI r) w fu (if brk (fun c => frB (X r c) s) j = true then 1 else 0) (nI j) a b rs cs = some (if brk (fun c => frB (X r c) s) n = true then 1 else 0, a', b', rs', cs') := by
  obtain ⟨h1, h2⟩ := Ck_n h
  obtain ⟨s1, s2, s3⟩ := Ck_s h
  intro d
  induction d with
  | zero =>
    intro j fu a b rs cs hj hfu
    obtain ⟨fu, rfl⟩ : ∃ g, fu = g + 1 := ⟨fu - 1, by omega⟩
    refine ⟨a, b, rs, cs, ?_⟩
    rw [L_X12_broken_17, n_ok hW]
    simp only [kb1, Option.bind_some]
    rw [if_pos (nI_le (by omega) (by omega)), show j = n by omega]
  | succ d ih =>
    intro j fu a b rs cs hj hfu
    obtain ⟨fu, rfl⟩ : ∃ g, fu = g + 1 := ⟨fu - 1, by omega⟩
    obtain ⟨rs1, cs1, e1⟩ := layShare_ok hF hW h.2.2.1 hr (show j < 5 by omega) (fun i p q => h.2.2.1.2.2.2.2.2.2.1 i j p q (by omega)) a b rs cs
    obtain ⟨a', b', rs', cs', e2⟩ := ih (j + 1) fu (zJ (frA (X r j) s)) (zJ (frB (X r j) s)) rs1 cs1 (by omega) (by omega)
    refine ⟨a', b', rs', cs', ?_⟩
    rw [L_X12_broken_17, n_ok hW]
    simp only [kb1, Option.bind_some]
    rw [if_neg (nI_ge (by omega) (by omega)), e1]
    simp only [kb4, Option.bind_some, kl, nI_1]
    by_cases c : brk (fun c => frB (X r c) s) j = true
    · rw [if_pos c]
      rw [show brk (fun c => frB (X r c) s) (j + 1) = true by simp [brk, c], if_pos rfl] at e2
      rw [if_neg (by decide)]
      exact e2
    · rw [if_neg c, if_pos (by first | rfl | trivial)]
      by_cases c2 : frB (X r j) s = 1
      · rw [if_pos ((zJ_one (frB_sm s1 s3)).mpr c2)]
        rw [show brk (fun c => frB (X r c) s) (j + 1) = false by simp [brk, c2]; simpa using c, if_neg (by decide)] at e2
        exact e2
      · rw [if_neg (fun z => c2 ((zJ_one (frB_sm s1 s3)).mp z))]
        rw [show brk (fun c => frB (X r c) s) (j + 1) = true by simp [brk, c2], if_pos rfl] at e2
        exact e2
theorem brm_out {F : Nat} (hF : 2305430425 ≤ F) {w : Nat → Int32} {A : Nat → Nat → Int} {n k ex : Nat} {σ l : Nat → Nat} {X : Nat → Nat → Int} {s : Int} (hW : Wn w n A) (h : Ck A n k ex σ l X s) : ∀ (d r fu : Nat) (a b : Int64) (rs cs : Nat → Int32), r + d = k → d < fu → ∃ a' b' rs' cs', L_X12_broken_4 F w fu (nI (cntB (fun r => brk (fun c => frB (X r c) s) n) r)) (nI r) a b rs cs = some (nI (cntB (fun r => brk (fun c => frB (X r c) s) n) k), a', b', rs', cs') := by
  obtain ⟨h1, h2⟩ := Ck_n h
  intro d
  induction d with
  | zero =>
    intro r fu a b rs cs hr hfu
    obtain ⟨fu, rfl⟩ : ∃ g, fu = g + 1 := ⟨fu - 1, by omega⟩
    obtain ⟨rs1, cs1, e1⟩ := rank_m (F := F) (by omega) hW h rs cs
    refine ⟨a, b, rs1, cs1, ?_⟩
    rw [L_X12_broken_4, e1]
    simp only [kb3, Option.bind_some]
    rw [if_pos (nI_le (by omega) (by omega)), show r = k by omega]
  | succ d ih =>
    intro r fu a b rs cs hr hfu
    obtain ⟨fu, rfl⟩ : ∃ g, fu = g + 1 := ⟨fu - 1, by omega⟩
    obtain ⟨rs1, cs1, e1⟩ := rank_m (F := F) (by omega) hW h rs cs
    obtain ⟨a2, b2, rs2, cs2, e2⟩ := brm_in hF hW h (show r < k by omega) (nI (cntB (fun r => brk (fun c => frB (X r c) s) n) r)) n 0 F a b rs1 cs1 (by omega) (by omega)
    obtain ⟨a3, b3, rs3, cs3, e3⟩ := ih (r + 1) fu a2 b2 rs2 cs2 (by omega) (by omega)
    refine ⟨a3, b3, rs3, cs3, ?_⟩
    rw [L_X12_broken_4, e1]
    simp only [kb3, Option.bind_some]
    rw [if_neg (nI_ge (by omega) (by omega)), show L_X12_broken_17 F (nI (cntB (fun r => brk (fun c => frB (X r c) s) n) r)) (nI r) w F (0 : Int32) (0 : Int32) a b rs1 cs1 = _ from e2]
    simp only [kb5, Option.bind_some, kl, nI_1]
    rw [cntB] at e3
    by_cases c : brk (fun c => frB (X r c) s) n = true
    · rw [if_pos c] at e3 ⊢
      rw [if_neg (by decide)]
      exact e3
    · rw [if_neg c] at e3 ⊢
      rw [if_pos (by first | rfl | trivial), Int32.add_zero]
      exact e3
theorem broken_m {F : Nat} (hF : 2305430425 ≤ F) {w : Nat → Int32} {A : Nat → Nat → Int} {n k ex : Nat} {σ l : Nat → Nat} {X : Nat → Nat → Int} {s : Int} (hW : Wn w n A) (h : Ck A n k ex σ l X s) (a b : Int64) (rs cs : Nat → Int32) : ∃ a' b' rs' cs', f_X12_broken F a b w rs cs = some (nI (cntB (fun r => brk (fun c => frB (X r c) s) n) k), a', b', rs', cs') := by
  obtain ⟨h1, h2⟩ := Ck_n h
  obtain ⟨a', b', rs', cs', e⟩ := brm_out hF hW h k 0 F a b rs cs (by omega) (by omega)
  refine ⟨a', b', rs', cs', ?_⟩
  unfold f_X12_broken
  rw [show L_X12_broken_4 F w F (0 : Int32) (0 : Int32) a b rs cs = _ from e]
  rfl
/-- the row that a column leads -/
def ledBy (l : Nat → Nat) (j : Nat) : Nat → Option Nat
  | 0 => none
  | m + 1 => match ledBy l j m with
    | some r => some r
    | none => if l m = j then some m else none
theorem ledBy_some {l : Nat → Nat} {j m r : Nat} (h : ledBy l j m = some r) : r < m ∧ l r = j := by
  induction m with
  | zero => simp [ledBy] at h
  | succ m ih =>
    rw [ledBy] at h
    cases q : ledBy l j m with
    | some r' => rw [q] at h; simp at h; subst h; have := ih q; exact ⟨by omega, this.2⟩
    | none => rw [q] at h; simp at h; exact ⟨by omega, by rw [← h.2]; exact h.1⟩
theorem ledBy_none {l : Nat → Nat} {j m : Nat} (h : ledBy l j m = none) : ∀ r, r < m → l r ≠ j := by
  induction m with
  | zero => intro r hr; omega
  | succ m ih =>
    rw [ledBy] at h
    cases q : ledBy l j m with
    | some r' => rw [q] at h; simp at h
    | none =>
      rw [q] at h; simp at h
      intro r hr
      by_cases e : r = m
      · subst e; exact h
      · exact ih q r (by omega)
theorem ledBy_mono {l : Nat → Nat} {j m r : Nat} (h : ledBy l j m = some r) : ∀ d, ledBy l j (m + d) = some r := by
  intro d
  induction d with
  | zero => exact h
  | succ d ih => rw [show m + (d + 1) = (m + d) + 1 by omega, ledBy, ih]
theorem rlb_loop {k : Nat} (hk : k ≤ 4) {l : Nat → Nat} (hl4 : ∀ i, i < k → l i < 2 ^ 31) {ld : Nat → Int32} (hl : ∀ i, i < k → ld i = nI (l i)) {j : Nat} (hj : j < 2 ^ 31) : ∀ (d r fu : Nat), r + d = k → d < fu → ledBy l j r = none → L_X1_rowLedBy_2 (nI j) (nI k) ld fu (nI r) = some (match ledBy l j k with | some r => .inl (nI r) | none => .inr ()) := by
  intro d
  induction d with
  | zero =>
    intro r fu hr hfu hb
    obtain ⟨fu, rfl⟩ : ∃ g, fu = g + 1 := ⟨fu - 1, by omega⟩
    rw [L_X1_rowLedBy_2, if_pos (nI_le (by omega) (by omega)), show k = r by omega, hb]
  | succ d ih =>
    intro r fu hr hfu hb
    obtain ⟨fu, rfl⟩ : ∃ g, fu = g + 1 := ⟨fu - 1, by omega⟩
    rw [L_X1_rowLedBy_2, if_neg (nI_ge (by omega) (by omega)), if_pos (kin_nI (by decide) (by omega)), nI_clamp (n := r) (by omega), hl r (by omega)]
    have hlr := hl4 r (by omega)
    by_cases c : l r = j
    · rw [if_pos (by rw [c])]
      have : ledBy l j (r + 1) = some r := by rw [ledBy, hb]; simp [c]
      have e := ledBy_mono this (k - (r + 1))
      rw [show r + 1 + (k - (r + 1)) = k by omega] at e
      rw [e]
    · rw [if_neg (fun z => c ((nI_eq hlr hj).mp z))]
      simp only [kl, nI_1]
      exact ih (r + 1) fu (by omega) (by omega) (by rw [ledBy, hb]; simp [c])
theorem rowLedBy_ok {F : Nat} (hF : 100 ≤ F) {k : Nat} (hk : k ≤ 4) {l : Nat → Nat} (hl4 : ∀ i, i < k → l i < 2 ^ 31) {ld : Nat → Int32} (hl : ∀ i, i < k → ld i = nI (l i)) {j : Nat} (hj : j < 2 ^ 31) : f_X1_rowLedBy F (nI k) ld (nI j) = some (match ledBy l j k with | some r => nI r | none => -1) := by
  unfold f_X1_rowLedBy
  rw [show L_X1_rowLedBy_2 (nI j) (nI k) ld F (0 : Int32) = _ from rlb_loop hk hl4 hl hj k 0 F (by omega) (by omega) rfl]
  cases ledBy l j k with
  | some r => rfl
  | none => rfl
/-- the solution's X j: above and below -/
def slA (l : Nat → Nat) (k : Nat) (X : Nat → Nat → Int) (s : Int) (j : Nat) : Int := match ledBy l j k with | some r => frA (X r 4) s | none => 0
def slB (l : Nat → Nat) (k : Nat) (X : Nat → Nat → Int) (s : Int) (j : Nat) : Int := match ledBy l j k with | some r => frB (X r 4) s | none => 1
theorem Ck_l {A : Nat → Nat → Int} {n k ex : Nat} {σ l : Nat → Nat} {X : Nat → Nat → Int} {s : Int} (h : Ck A n k ex σ l X s) : ∀ i, i < k → l i < 2 ^ 31 := fun i hi => by
  have := (Inv_inc h.2.2.1).1 i hi; have := (Ck_n h).1; omega
theorem solA_c {F : Nat} (hF : 200 ≤ F) {A : Nat → Nat → Int} {n k ex : Nat} {σ l : Nat → Nat} {X : Nat → Nat → Int} {s : Int} (h : Ck A n k ex σ l X s) {v : Nat → Nat → Int64} (hM : Mt 5 v X) {ld : Nat → Int32} (hl : ∀ i, i < k → ld i = nI (l i)) {j : Nat} (hj : j < 2 ^ 31) : f_X1_solutionAbove F (nI k) (zJ s) v ld (nI j) = some (zJ (slA l k X s j)) := by
  obtain ⟨h1, h2⟩ := Ck_n h
  obtain ⟨s1, s2, s3⟩ := Ck_s h
  unfold f_X1_solutionAbove
  rw [rowLedBy_ok (by omega) (by omega) (Ck_l h) hl hj]
  simp only [kb1, Option.bind_some]
  unfold slA
  cases q : ledBy l j k with
  | some r =>
    have := (ledBy_some q).1
    simp only
    rw [if_neg (by have : ∀ r : Fin 4, ¬ nI r.val = (-1 : Int32) := by decide
                   exact this ⟨r, by omega⟩), show (4 : Int32) = nI 4 from rfl, above_ok hF hM s3 s1 (by omega) (by omega) (Ck_x h (by omega) (by omega)).2]
    rfl
  | none => rfl
theorem solB_c {F : Nat} (hF : 200 ≤ F) {A : Nat → Nat → Int} {n k ex : Nat} {σ l : Nat → Nat} {X : Nat → Nat → Int} {s : Int} (h : Ck A n k ex σ l X s) {v : Nat → Nat → Int64} (hM : Mt 5 v X) {ld : Nat → Int32} (hl : ∀ i, i < k → ld i = nI (l i)) {j : Nat} (hj : j < 2 ^ 31) : f_X1_solutionBelow F (nI k) (zJ s) v ld (nI j) = some (zJ (slB l k X s j)) := by
  obtain ⟨h1, h2⟩ := Ck_n h
  obtain ⟨s1, s2, s3⟩ := Ck_s h
  unfold f_X1_solutionBelow
  rw [rowLedBy_ok (by omega) (by omega) (Ck_l h) hl hj]
  simp only [kb1, Option.bind_some]
  unfold slB
  cases q : ledBy l j k with
  | some r =>
    have := (ledBy_some q).1
    simp only
    rw [if_neg (by have : ∀ r : Fin 4, ¬ nI r.val = (-1 : Int32) := by decide
                   exact this ⟨r, by omega⟩), show (4 : Int32) = nI 4 from rfl, below_ok hF hM s3 s1 (by omega) (by omega) (Ck_x h (by omega) (by omega)).2]
    rfl
  | none => rfl
theorem and_fin : ∀ (t : Fin 16) (j : Fin 4), (nI t.val &&& (((1 : Int32) <<< (nI j.val &&& 31)) - (1 : Int32))) = nI (t.val &&& (2 ^ j.val - 1)) := by decide +kernel
theorem and_lt : ∀ (t : Fin 16) (j : Fin 4), t.val &&& (2 ^ j.val - 1) < 16 := by decide +kernel
theorem sol_m {F : Nat} (hF : 2305430425 ≤ F) {w : Nat → Int32} {A : Nat → Nat → Int} {n k ex : Nat} {σ l : Nat → Nat} {X : Nat → Nat → Int} {s : Int} (hW : Wn w n A) (h : Ck A n k ex σ l X s) (hz : fitB n k X = true) {j : Nat} (hj : j < 4) (a b : Int64) (rs cs : Nat → Int32) : ∃ rs' cs', f_X12_laySolution F a b w rs cs (nI j) = some (zJ (slA l k X s j), zJ (slB l k X s j), rs', cs') := by
  obtain ⟨h1, h2⟩ := Ck_n h
  obtain ⟨s1, s2, s3⟩ := Ck_s h
  obtain ⟨t1, t2, t3⟩ := St_of_inv h.2.2.1
  have hp := pow_n h1
  obtain ⟨rs1, cs1, e1⟩ := leading_ok (F := F) (by omega) hW h.2.2.1 rs cs
  unfold f_X12_laySolution
  rw [e1]
  simp only [kb3, kb1, Option.bind_some]
  rw [has_ok (s := St l k) (k := j) (by omega) (by omega)]
  simp only [Option.bind_some]
  have tb := tb_pk ⟨St l k, by omega⟩ ⟨j, by omega⟩
  simp only at tb
  unfold slA slB
  cases q : ledBy l j k with
  | some r =>
    obtain ⟨r1, r2⟩ := ledBy_some q
    have : (St l k).testBit j = true := tb.mpr ⟨⟨r, by omega⟩, by simp only; omega, by simp only; rw [t3 r r1, r2]⟩
    rw [if_pos this, if_neg (by decide), and_fin ⟨St l k, by omega⟩ ⟨j, hj⟩, ones_ok (s := St l k &&& (2 ^ j - 1)) (by have := and_lt ⟨St l k, by omega⟩ ⟨j, hj⟩; simp only at this; omega)]
    have ob := ones_below ⟨St l k, by omega⟩ ⟨r, by omega⟩ (by simp only; omega)
    simp only at ob
    rw [t3 r r1, r2] at ob
    simp only [Option.bind_some]
    rw [ob]
    obtain ⟨rs2, cs2, e2⟩ := layShare_ok hF hW h.2.2.1 r1 (show 4 < 5 by omega) (fitB_iff.mp hz) a b rs1 cs1
    rw [show (4 : Int32) = nI 4 from rfl, e2]
    exact ⟨rs2, cs2, rfl⟩
  | none =>
    have : ¬ (St l k).testBit j = true := fun z => by
      obtain ⟨r, p1, p2⟩ := tb.mp z
      rw [t3 r.val (by omega)] at p2
      exact ledBy_none q r.val (by omega) p2
    rw [if_neg this, if_pos (by first | rfl | trivial), show (0 : Int64) = zJ 0 from rfl, show (1 : Int64) = zJ 1 from rfl, layFraction_ok (a := 0) (b := 1) (by unfold sm; decide) (by unfold sm; decide) (by decide) (by simp; omega)]
    exact ⟨rs1, cs1, rfl⟩
