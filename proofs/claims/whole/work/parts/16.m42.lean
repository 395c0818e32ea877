/-! ===== all guesses by so many digits ===== -/
theorem kb4_of {α β γ ζ δ : Type} {x : Option (α × β × γ × ζ)} {a : α} {b : β} {c : γ} {d : ζ} {k : α → β → γ → ζ → Option δ} {y : Option δ} (h : x = some (a, b, c, d)) (hk : k a b c d = y) : kb4 x k = y := by subst h; exact hk
theorem kb5_of {α β γ ζ η δ : Type} {x : Option (α × β × γ × ζ × η)} {a : α} {b : β} {c : γ} {d : ζ} {e : η} {k : α → β → γ → ζ → η → Option δ} {y : Option δ} (h : x = some (a, b, c, d, e)) (hk : k a b c d e = y) : kb5 x k = y := by subst h; exact hk
theorem kb6_of {α β γ ζ η θ δ : Type} {x : Option (α × β × γ × ζ × η × θ)} {a : α} {b : β} {c : γ} {d : ζ} {e : η} {f : θ} {k : α → β → γ → ζ → η → θ → Option δ} {y : Option δ} (h : x = some (a, b, c, d, e, f)) (hk : k a b c d e f = y) : kb6 x k = y := by subst h; exact hk
theorem kb7_of {α β γ ζ η θ ι δ : Type} {x : Option (α × β × γ × ζ × η × θ × ι)} {a : α} {b : β} {c : γ} {d : ζ} {e : η} {f : θ} {g : ι} {k : α → β → γ → ζ → η → θ → ι → Option δ} {y : Option δ} (h : x = some (a, b, c, d, e, f, g)) (hk : k a b c d e f g = y) : kb7 x k = y := by subst h; exact hk
def bI (b : Bool) : Int32 := if b = true then 1 else 0
theorem bI_0 {b : Bool} : bI b = 0 ↔ b = false := by cases b <;> decide
theorem bI_01 (b : Bool) : bI b = 0 ∨ bI b = 1 := by cases b <;> decide
def allB (f : Nat → Bool) : Nat → Bool
  | 0 => true
  | k + 1 => allB f k && f k
theorem allB_iff {f : Nat → Bool} {k : Nat} : allB f k = true ↔ ∀ t, t < k → f t = true := by
  induction k with
  | zero => exact ⟨fun _ t ht => by omega, fun _ => rfl⟩
  | succ k ih =>
    rw [allB, Bool.and_eq_true, ih]
    constructor
    · rintro ⟨a, b⟩ t ht
      by_cases e : t = k
      · rw [e]; exact b
      · exact a t (by omega)
    · exact fun h => ⟨fun t ht => h t (by omega), h k (by omega)⟩
theorem allB_f {f : Nat → Bool} {j k : Nat} (h : j ≤ k) (hf : allB f j = false) : allB f k = false := by
  cases e : allB f k with
  | false => rfl
  | true =>
    have : allB f j = true := allB_iff.mpr (fun t ht => allB_iff.mp e t (by omega))
    rw [this] at hf
    exact hf
/-- a guess of X j by k digits; whether it's right -/
def gf (p : Nat) (a b w : Nat → Int) (k j : Nat) : Bool := gF p (p ^ k) (mdN p (b j) (w j) (a j) k)
def ga (p : Nat) (a b w : Nat → Int) (k j : Nat) : Int := gA (p ^ k) (mdN p (b j) (w j) (a j) k)
def gb (p : Nat) (a b w : Nat → Int) (k j : Nat) : Int := ((gB (p ^ k) (mdN p (b j) (w j) (a j) k) : Nat) : Int)
def gr (p : Nat) (a b w : Nat → Int) (k j : Nat) : Bool := gf p a b w k j && decide (ga p a b w k j = a j) && decide (gb p a b w k j = b j)
theorem g_rg {p k : Nat} (hp : 2 ≤ p) (hk : p ^ k ≤ 2000000000000000000) (a b w : Nat → Int) (j : Nat) : rJ (ga p a b w k j) ∧ rJ (gb p a b w k j) := by
  obtain ⟨e1, e2⟩ := mdN_e hp (b j) (w j) (a j) k
  obtain ⟨y, v', hE, hy, hx⟩ := euR_spec e2 hk
  obtain ⟨v1, v2, v3⟩ := Eu_v hE
  have hε := hE.1
  unfold ga gb gA gB
  refine ⟨?_, ⟨by omega, by omega⟩⟩
  rcases hε with e | e <;> rw [e] <;> exact ⟨by omega, by omega⟩
theorem lgM_ok {F : Nat} (hF : 2305430425 ≤ F) {wd : Nat → Int32} {A : Nat → Nat → Int} {n pn ex : Nat} {σ l : Nat → Nat} {X : Nat → Nat → Int} {s : Int} (hW : Wp wd n pn A) (h : Ck A n n ex σ l X s) {c w : Nat → Int} (hS : Sy (prN pn) A n s (slA l n X s) (slB l n X s) c w) (hw : ∀ j, j < n → rp (prN pn) (w j)) {j k : Nat} (hj : j < n) (hk : prN pn ^ k ≤ 2000000000000000000) (a b u v : Int64) (rs cs : Nat → Int32) :
    ∃ u' v' rs' cs', f_X12_layGuess F a b u v wd rs cs (nI j) (nI k) = some (bI (gf (prN pn) (slA l n X s) (slB l n X s) w k j), zJ (slA l n X s j), zJ (slB l n X s j), u', v', rs', cs') ∧ (gf (prN pn) (slA l n X s) (slB l n X s) w k j = true → u' = zJ (ga (prN pn) (slA l n X s) (slB l n X s) w k j) ∧ v' = zJ (gb (prN pn) (slA l n X s) (slB l n X s) w k j)) := by
  have hp := Pm_pr hW.2.2
  have hp1 := hp.1
  have hk60 := pw_le hp1.1 hk
  obtain ⟨rs1, cs1, e1⟩ := fdM_ok hF hW h hS hw hj (k := k) (by omega) a b rs cs
  obtain ⟨m1, m2⟩ := mdN_e hp1.1 (slB l n X s j) (w j) (slA l n X s j) k
  unfold mdS at m1
  rw [m1] at e1
  obtain ⟨u', v', e2, e3⟩ := lgR_ok (F := F) (by omega) hp m2 hk u v
  refine ⟨u', v', rs1, cs1, ?_, e3⟩
  unfold f_X12_layGuess
  refine kb1_of (pm_ok (by omega) hW) ?_
  refine kl_of (nIJ hp1.2) ?_
  refine kb1_of (powerM_ok (by omega) hp1.1 hp1.2 (show k < 2 ^ 31 by omega)) ?_
  rw [if_pos hk]
  refine kb1_of (halfRoot_ok (by omega) hk) ?_
  refine kb5_of e1 ?_
  refine kl_of rfl ?_
  refine kb3_of e2 ?_
  exact if_pos (bI_01 (gf (prN pn) (slA l n X s) (slB l n X s) w k j))
/-- the body of the reference's loop behind the guess -/
theorem ag_loop {F : Nat} (hF : 2305430425 ≤ F) {wd : Nat → Int32} {A : Nat → Nat → Int} {n pn ex : Nat} {σ l : Nat → Nat} {X : Nat → Nat → Int} {s : Int} (hW : Wp wd n pn A) (h : Ck A n n ex σ l X s) {c w : Nat → Int} (hS : Sy (prN pn) A n s (slA l n X s) (slB l n X s) c w) (hw : ∀ j, j < n → rp (prN pn) (w j)) {k : Nat} (hk : prN pn ^ k ≤ 2000000000000000000) (r : Bool) :
    ∀ (d j fu : Nat) (a b u v : Int64) (rs cs : Nat → Int32), j + d = n → d < fu → ∃ a' b' u' v' rs' cs', L_X12_allGuessed_5 F (nI k) (bI r) wd fu (bI (allB (fun j => if r = true then gr (prN pn) (slA l n X s) (slB l n X s) w k j else gf (prN pn) (slA l n X s) (slB l n X s) w k j) j)) (nI j) a b u v rs cs = some (bI (allB (fun j => if r = true then gr (prN pn) (slA l n X s) (slB l n X s) w k j else gf (prN pn) (slA l n X s) (slB l n X s) w k j) n), a', b', u', v', rs', cs') := by
  have hn := (Ck_n h).1
  have hp1 := (Pm_pr hW.2.2).1
  intro d
  induction d with
  | zero =>
    intro j fu a b u v rs cs hj hfu
    obtain ⟨fu, rfl⟩ : ∃ g, fu = g + 1 := ⟨fu - 1, by omega⟩
    refine ⟨a, b, u, v, rs, cs, ?_⟩
    rw [L_X12_allGuessed_5]
    refine kb1_of (n_ok hW.1) ?_
    rw [if_pos (nI_le (by omega) (by omega)), show j = n by omega]
  | succ d ih =>
    intro j fu a b u v rs cs hj hfu
    obtain ⟨fu, rfl⟩ : ∃ g, fu = g + 1 := ⟨fu - 1, by omega⟩
    have hjn : j < n := by omega
    -- where a guess before was none
    have low : allB (fun j => if r = true then gr (prN pn) (slA l n X s) (slB l n X s) w k j else gf (prN pn) (slA l n X s) (slB l n X s) w k j) (j + 1) = false → ∀ (a b u v : Int64) (rs cs : Nat → Int32), ∃ a' b' u' v' rs' cs', (kb4 (f_X12_laySolution F a b wd rs cs (nI j)) fun w12 w13 w14 w15 => kl (nI j + (1 : Int32)) fun t18 => L_X12_allGuessed_5 F (nI k) (bI r) wd fu (0 : Int32) t18 w12 w13 u v w14 w15) = some (bI (allB (fun j => if r = true then gr (prN pn) (slA l n X s) (slB l n X s) w k j else gf (prN pn) (slA l n X s) (slB l n X s) w k j) n), a', b', u', v', rs', cs') := by
      intro hf a b u v rs cs
      obtain ⟨rs1, cs1, e1⟩ := sol_m hF hW.1 h fit_n (show j < 4 by omega) a b rs cs
      obtain ⟨a', b', u', v', rs', cs', e2⟩ := ih (j + 1) fu (zJ (slA l n X s j)) (zJ (slB l n X s j)) u v rs1 cs1 (by omega) (by omega)
      rw [hf] at e2
      refine ⟨a', b', u', v', rs', cs', ?_⟩
      refine kb4_of e1 ?_
      exact kl_of (nI_1 j) e2
    rw [L_X12_allGuessed_5]
    by_cases c0 : allB (fun j => if r = true then gr (prN pn) (slA l n X s) (slB l n X s) w k j else gf (prN pn) (slA l n X s) (slB l n X s) w k j) j = false
    · obtain ⟨a', b', u', v', rs', cs', e⟩ := low (allB_f (Nat.le_succ j) c0) a b u v rs cs
      refine ⟨a', b', u', v', rs', cs', ?_⟩
      refine kb1_of (n_ok hW.1) ?_
      rw [if_neg (nI_ge (by omega) (by omega)), c0]
      exact e
    · have c1 : allB (fun j => if r = true then gr (prN pn) (slA l n X s) (slB l n X s) w k j else gf (prN pn) (slA l n X s) (slB l n X s) w k j) j = true := by
        cases q : allB (fun j => if r = true then gr (prN pn) (slA l n X s) (slB l n X s) w k j else gf (prN pn) (slA l n X s) (slB l n X s) w k j) j with
        | false => exact absurd q c0
        | true => rfl
      have cs1 : allB (fun j => if r = true then gr (prN pn) (slA l n X s) (slB l n X s) w k j else gf (prN pn) (slA l n X s) (slB l n X s) w k j) (j + 1) = (if r = true then gr (prN pn) (slA l n X s) (slB l n X s) w k j else gf (prN pn) (slA l n X s) (slB l n X s) w k j) := by rw [allB, c1, Bool.true_and]
      obtain ⟨u1, v1, rs2, cs2, g1, g2⟩ := lgM_ok hF hW h hS hw hjn hk a b u v rs cs
      cases gq : gf (prN pn) (slA l n X s) (slB l n X s) w k j with
      | false =>
        have cz : (if r = true then gr (prN pn) (slA l n X s) (slB l n X s) w k j else gf (prN pn) (slA l n X s) (slB l n X s) w k j) = false := by
          cases r with
          | false => exact gq
          | true => show gr _ _ _ _ _ _ = false; unfold gr; rw [gq]; rfl
        obtain ⟨a', b', u', v', rs', cs', e⟩ := low (by rw [cs1, cz]) (zJ (slA l n X s j)) (zJ (slB l n X s j)) u1 v1 rs2 cs2
        refine ⟨a', b', u', v', rs', cs', ?_⟩
        refine kb1_of (n_ok hW.1) ?_
        rw [if_neg (nI_ge (by omega) (by omega)), c1]
        rw [gq] at g1
        simp only [kj7, kj6]
        rw [if_neg (show ¬ bI true = (0 : Int32) by decide)]
        refine kb7_of g1 ?_
        exact e
      | true =>
        obtain ⟨rs3, cs3, e1⟩ := sol_m hF hW.1 h fit_n (show j < 4 by omega) (zJ (slA l n X s j)) (zJ (slB l n X s j)) rs2 cs2
        obtain ⟨a', b', u', v', rs', cs', e2⟩ := ih (j + 1) fu (zJ (slA l n X s j)) (zJ (slB l n X s j)) u1 v1 rs3 cs3 (by omega) (by omega)
        obtain ⟨g3, g4⟩ := g2 gq
        refine ⟨a', b', u', v', rs', cs', ?_⟩
        refine kb1_of (n_ok hW.1) ?_
        rw [if_neg (nI_ge (by omega) (by omega)), c1]
        rw [gq] at g1
        simp only [kj7, kj6]
        rw [if_neg (show ¬ bI true = (0 : Int32) by decide)]
        refine kb7_of g1 ?_
        rw [if_neg (show ¬ bI true = (0 : Int32) by decide)]
        refine kb4_of e1 ?_
        rw [if_neg (by decide)]
        rw [cs1] at e2
        cases r with
        | false =>
          rw [if_pos (by decide)]
          rw [if_neg (by decide), gq] at e2
          exact kl_of (nI_1 j) e2
        | true =>
          rw [if_neg (by decide), g3, g4]
          rw [if_pos rfl] at e2
          obtain ⟨q1, q2, q3, q4, q5⟩ := hS.1 j hjn
          obtain ⟨r1, r2⟩ := g_rg hp1.1 hk (slA l n X s) (slB l n X s) w j
          have f1 := zJ_eq r1 (rJ_ab q5)
          have f2 := zJ_eq r2 (rJ_ab q4)
          rw [g3, g4] at e2
          unfold gr at e2
          rw [gq, Bool.true_and] at e2
          by_cases z1 : ga (prN pn) (slA l n X s) (slB l n X s) w k j = slA l n X s j
          · rw [if_pos (f1.mpr z1)]
            rw [decide_eq_true z1, Bool.true_and] at e2
            by_cases z2 : gb (prN pn) (slA l n X s) (slB l n X s) w k j = slB l n X s j
            · rw [if_pos (f2.mpr z2)]
              rw [decide_eq_true z2] at e2
              exact kl_of (nI_1 j) e2
            · rw [if_neg (fun z => z2 (f2.mp z))]
              rw [decide_eq_false z2] at e2
              exact kl_of (nI_1 j) e2
          · rw [if_neg (fun z => z1 (f1.mp z))]
            rw [decide_eq_false z1, Bool.false_and] at e2
            exact kl_of (nI_1 j) e2
