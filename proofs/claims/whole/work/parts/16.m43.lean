/-! ===== from how many digits on, and where too soon ===== -/
def aF (p : Nat) (a b w : Nat → Int) (n k : Nat) : Bool := allB (gf p a b w k) n
def aR (p : Nat) (a b w : Nat → Int) (n k : Nat) : Bool := allB (gr p a b w k) n
theorem agM_ok {F : Nat} (hF : 2305430425 ≤ F) {wd : Nat → Int32} {A : Nat → Nat → Int} {n pn ex : Nat} {σ l : Nat → Nat} {X : Nat → Nat → Int} {s : Int} (hW : Wp wd n pn A) (h : Ck A n n ex σ l X s) {c w : Nat → Int} (hS : Sy (prN pn) A n s (slA l n X s) (slB l n X s) c w) (hw : ∀ j, j < n → rp (prN pn) (w j)) {k : Nat} (hk : prN pn ^ k ≤ 2000000000000000000) (a b u v : Int64) (rs cs : Nat → Int32) :
    (∃ a' b' u' v' rs' cs', f_X12_allGuessed F a b u v wd rs cs (nI k) (1 : Int32) = some (bI (aR (prN pn) (slA l n X s) (slB l n X s) w n k), a', b', u', v', rs', cs')) ∧ (∃ a' b' u' v' rs' cs', f_X12_allGuessed F a b u v wd rs cs (nI k) (0 : Int32) = some (bI (aF (prN pn) (slA l n X s) (slB l n X s) w n k), a', b', u', v', rs', cs')) := by
  have hn := (Ck_n h).1
  constructor
  · obtain ⟨a', b', u', v', rs', cs', e⟩ := ag_loop hF hW h hS hw hk true n 0 F a b u v rs cs (by omega) (by omega)
    refine ⟨a', b', u', v', rs', cs', ?_⟩
    unfold f_X12_allGuessed
    refine kb7_of e ?_
    exact if_pos (bI_01 _)
  · obtain ⟨a', b', u', v', rs', cs', e⟩ := ag_loop hF hW h hS hw hk false n 0 F a b u v rs cs (by omega) (by omega)
    refine ⟨a', b', u', v', rs', cs', ?_⟩
    unfold f_X12_allGuessed
    refine kb7_of e ?_
    exact if_pos (bI_01 _)
/-- E digits are the first that do -/
def Ea (p : Nat) (a b w : Nat → Int) (n E : Nat) : Prop := 1 ≤ E ∧ E ≤ 60 ∧ p ^ E ≤ 2000000000000000000 ∧ aR p a b w n E = true ∧ ∀ i, 1 ≤ i → i < E → aR p a b w n i = false
theorem Ea_ex {A : Nat → Nat → Int} (hT : Bt A) {n pn ex K : Nat} {σ l : Nat → Nat} {X : Nat → Nat → Int} {s : Int} (hpn : pn < 25) (h : Ck A n n ex σ l X s) {c w : Nat → Int} (hS : Sy (prN pn) A n s (slA l n X s) (slB l n X s) c w) (hK : Su (prN pn) (Pn A n) K) : ∃ E, E ≤ K ∧ Ea (prN pn) (slA l n X s) (slB l n X s) w n E := by
  obtain ⟨E, e1, ⟨e2, e3⟩, e4⟩ := least (Q := fun k => 1 ≤ k ∧ aR (prN pn) (slA l n X s) (slB l n X s) w n k = true) K ⟨hK.1, allB_iff.mpr (fun j hj => by
    obtain ⟨g1, g2, g3⟩ := sure_right hT hpn h hS hK hj
    unfold gr gf ga gb
    rw [g1, g2, g3]
    simp)⟩
  refine ⟨E, e1, e2, by have := hK.2.1; omega, Nat.le_trans (pw_mono (Pm_pr hpn).1.1 e1) hK.2.2.2.2, e3, fun i a b => ?_⟩
  cases q : aR (prN pn) (slA l n X s) (slB l n X s) w n i with
  | false => rfl
  | true => exact absurd ⟨a, q⟩ (e4 i b)
theorem ea_loop {F : Nat} (hF : 2305430425 ≤ F) {wd : Nat → Int32} {A : Nat → Nat → Int} {n pn ex E : Nat} {σ l : Nat → Nat} {X : Nat → Nat → Int} {s : Int} (hW : Wp wd n pn A) (h : Ck A n n ex σ l X s) {c w : Nat → Int} (hS : Sy (prN pn) A n s (slA l n X s) (slB l n X s) c w) (hw : ∀ j, j < n → rp (prN pn) (w j)) (hE : Ea (prN pn) (slA l n X s) (slB l n X s) w n E) :
    ∀ (d k fu : Nat) (a b u v : Int64) (rs cs : Nat → Int32), k + d = E → 1 ≤ k → d < fu → ∃ a' b' u' v' rs' cs', L_X12_early_2 F wd fu (nI k) a b u v rs cs = some (nI E, a', b', u', v', rs', cs') := by
  obtain ⟨h1, h2, h3, h4, h5⟩ := hE
  intro d
  induction d with
  | zero =>
    intro k fu a b u v rs cs hk hk1 hfu
    obtain ⟨fu, rfl⟩ : ∃ g, fu = g + 1 := ⟨fu - 1, by omega⟩
    have : k = E := by omega
    subst this
    obtain ⟨⟨a', b', u', v', rs', cs', e⟩, -⟩ := agM_ok hF hW h hS hw h3 a b u v rs cs
    refine ⟨a', b', u', v', rs', cs', ?_⟩
    rw [L_X12_early_2]
    refine kb7_of e ?_
    rw [h4]
    exact if_neg (show ¬ bI true = (0 : Int32) by decide)
  | succ d ih =>
    intro k fu a b u v rs cs hk hk1 hfu
    obtain ⟨fu, rfl⟩ : ∃ g, fu = g + 1 := ⟨fu - 1, by omega⟩
    obtain ⟨⟨a1, b1, u1, v1, rs1, cs1, e⟩, -⟩ := agM_ok hF hW h hS hw (Nat.le_trans (pw_mono (Pm_pr hW.2.2).1.1 (show k ≤ E by omega)) h3) a b u v rs cs
    obtain ⟨a', b', u', v', rs', cs', e2⟩ := ih (k + 1) fu a1 b1 u1 v1 rs1 cs1 (by omega) (by omega) (by omega)
    refine ⟨a', b', u', v', rs', cs', ?_⟩
    rw [L_X12_early_2]
    refine kb7_of e ?_
    rw [h5 k hk1 (by omega), if_pos (show bI false = (0 : Int32) by decide)]
    exact kl_of (nI_1 k) e2
theorem earlyM_ok {F : Nat} (hF : 2305430425 ≤ F) {wd : Nat → Int32} {A : Nat → Nat → Int} {n pn ex E : Nat} {σ l : Nat → Nat} {X : Nat → Nat → Int} {s : Int} (hW : Wp wd n pn A) (h : Ck A n n ex σ l X s) {c w : Nat → Int} (hS : Sy (prN pn) A n s (slA l n X s) (slB l n X s) c w) (hw : ∀ j, j < n → rp (prN pn) (w j)) (hE : Ea (prN pn) (slA l n X s) (slB l n X s) w n E) (a b u v : Int64) (rs cs : Nat → Int32) : ∃ a' b' u' v' rs' cs', f_X12_early F a b u v wd rs cs = some (nI E, a', b', u', v', rs', cs') := by
  obtain ⟨a', b', u', v', rs', cs', e⟩ := ea_loop hF hW h hS hw hE (E - 1) 1 F a b u v rs cs (by have := hE.1; omega) (by omega) (by have := hE.2.1; omega)
  refine ⟨a', b', u', v', rs', cs', ?_⟩
  unfold f_X12_early
  exact kb7_of (show L_X12_early_2 F wd F (1 : Int32) a b u v rs cs = _ from e) rfl
def tsC (f : Nat → Bool) : Nat → Nat → Nat
  | 0, _ => 0
  | d + 1, k => (if f k = true then 1 else 0) + tsC f d (k + 1)
theorem ts_loop {F : Nat} (hF : 2305430425 ≤ F) {wd : Nat → Int32} {A : Nat → Nat → Int} {n pn ex E : Nat} {σ l : Nat → Nat} {X : Nat → Nat → Int} {s : Int} (hW : Wp wd n pn A) (h : Ck A n n ex σ l X s) {c w : Nat → Int} (hS : Sy (prN pn) A n s (slA l n X s) (slB l n X s) c w) (hw : ∀ j, j < n → rp (prN pn) (w j)) (hE : Ea (prN pn) (slA l n X s) (slB l n X s) w n E) :
    ∀ (d k fu m : Nat) (a b u v : Int64) (rs cs : Nat → Int32), k + d = E → 1 ≤ k → d < fu → ∃ a' b' u' v' rs' cs', L_X12_tooSoon_9 F (nI E) wd fu (nI m) (nI k) a b u v rs cs = some (nI (m + tsC (aF (prN pn) (slA l n X s) (slB l n X s) w n) d k), a', b', u', v', rs', cs') := by
  obtain ⟨h1, h2, h3, h4, h5⟩ := hE
  intro d
  induction d with
  | zero =>
    intro k fu m a b u v rs cs hk hk1 hfu
    obtain ⟨fu, rfl⟩ : ∃ g, fu = g + 1 := ⟨fu - 1, by omega⟩
    refine ⟨a, b, u, v, rs, cs, ?_⟩
    rw [L_X12_tooSoon_9, if_pos (nI_le (by omega) (by omega))]
    rfl
  | succ d ih =>
    intro k fu m a b u v rs cs hk hk1 hfu
    obtain ⟨fu, rfl⟩ : ∃ g, fu = g + 1 := ⟨fu - 1, by omega⟩
    obtain ⟨-, a1, b1, u1, v1, rs1, cs1, e⟩ := agM_ok hF hW h hS hw (Nat.le_trans (pw_mono (Pm_pr hW.2.2).1.1 (show k ≤ E by omega)) h3) a b u v rs cs
    cases q : aF (prN pn) (slA l n X s) (slB l n X s) w n k with
    | false =>
      obtain ⟨a', b', u', v', rs', cs', e2⟩ := ih (k + 1) fu m a1 b1 u1 v1 rs1 cs1 (by omega) (by omega) (by omega)
      refine ⟨a', b', u', v', rs', cs', ?_⟩
      rw [L_X12_tooSoon_9, if_neg (nI_ge (by omega) (by omega))]
      refine kb7_of e ?_
      rw [q, if_pos (show bI false = (0 : Int32) by decide), tsC, q, if_neg (by decide), Nat.zero_add]
      refine kl_of (show nI m + (0 : Int32) = nI m by rw [show (0 : Int32) = nI 0 from rfl, nI_add]; rfl) ?_
      exact kl_of (nI_1 k) e2
    | true =>
      obtain ⟨a', b', u', v', rs', cs', e2⟩ := ih (k + 1) fu (m + 1) a1 b1 u1 v1 rs1 cs1 (by omega) (by omega) (by omega)
      refine ⟨a', b', u', v', rs', cs', ?_⟩
      rw [L_X12_tooSoon_9, if_neg (nI_ge (by omega) (by omega))]
      refine kb7_of e ?_
      rw [q, if_neg (show ¬ bI true = (0 : Int32) by decide), tsC, q, if_pos rfl, ← Nat.add_assoc]
      refine kl_of (nI_1 m) ?_
      exact kl_of (nI_1 k) e2
theorem tooSoonM_ok {F : Nat} (hF : 2305430425 ≤ F) {wd : Nat → Int32} {A : Nat → Nat → Int} {n pn ex E : Nat} {σ l : Nat → Nat} {X : Nat → Nat → Int} {s : Int} (hW : Wp wd n pn A) (h : Ck A n n ex σ l X s) {c w : Nat → Int} (hS : Sy (prN pn) A n s (slA l n X s) (slB l n X s) c w) (hw : ∀ j, j < n → rp (prN pn) (w j)) (hE : Ea (prN pn) (slA l n X s) (slB l n X s) w n E) (a b u v : Int64) (rs cs : Nat → Int32) : ∃ a' b' u' v' rs' cs', f_X12_tooSoon F a b u v wd rs cs = some (nI (tsC (aF (prN pn) (slA l n X s) (slB l n X s) w n) (E - 1) 1), a', b', u', v', rs', cs') := by
  obtain ⟨a1, b1, u1, v1, rs1, cs1, e1⟩ := earlyM_ok hF hW h hS hw hE a b u v rs cs
  obtain ⟨a', b', u', v', rs', cs', e⟩ := ts_loop hF hW h hS hw hE (E - 1) 1 F 0 a1 b1 u1 v1 rs1 cs1 (by have := hE.1; omega) (by omega) (by have := hE.2.1; omega)
  rw [Nat.zero_add] at e
  refine ⟨a', b', u', v', rs', cs', ?_⟩
  unfold f_X12_tooSoon
  refine kb7_of e1 ?_
  exact kb7_of (show L_X12_tooSoon_9 F (nI E) wd F (0 : Int32) (1 : Int32) a1 b1 u1 v1 rs1 cs1 = _ from e) rfl
