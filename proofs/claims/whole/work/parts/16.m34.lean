/-! ===== the class's lifting ===== -/
theorem st26 {n j : Nat} (hn : n ≤ 4) (hj : j < 4) {rows : Nat → Nat → Int64} {X : Nat → Nat → Int} (hM : Mt 9 rows X) {rests : Nat → Int32} {r : Nat → Int} (hr : ∀ i, i < n → rests i = zI (r i)) (x4 : Int32) :
    ∀ (d i fu : Nat), i + d = n → d < fu → L_X7_step_26 (nI n) x4 (nI j) rests rows fu (zI (sumN (fun i => X j (5 + i) * r i) i)) (nI i) = some (zI (sumN (fun i => X j (5 + i) * r i) n)) := by
  intro d
  induction d with
  | zero =>
    intro i fu hi hfu
    obtain ⟨fu, rfl⟩ : ∃ g, fu = g + 1 := ⟨fu - 1, by omega⟩
    rw [L_X7_step_26, if_pos (nI_le (by omega) (by omega)), show i = n by omega]
  | succ d ih =>
    intro i fu hi hfu
    obtain ⟨fu, rfl⟩ : ∃ g, fu = g + 1 := ⟨fu - 1, by omega⟩
    rw [L_X7_step_26, if_neg (nI_ge (by omega) (by omega)), backc_ok hM hj (show i < 4 by omega)]
    simp only [kb1, Option.bind_some]
    rw [if_pos (kin_nI (by decide) (by omega)), nI_clamp (n := i) (by omega), hr i (by omega), zI_mul, zI_add, nI_1]
    exact ih (i + 1) fu (by omega) (by omega)
theorem dsum_ab {p : Nat} (hp : Pm p) {A : Nat → Nat → Int} {n : Nat} {σ l : Nat → Nat} {X : Nat → Nat → Int} (h : InR p A n n n σ l X) {r : Nat → Int} (hr : ∀ i, i < n → (r i).natAbs ≤ 50000) {j : Nat} (hj : j < n) : (sumN (fun i => X j (5 + i) * r i) n).natAbs ≤ 20000000 := by
  have hp1 := hp.1
  have hn := h.1.2.2.2
  have h1 : (sumN (fun i => X j (5 + i) * r i) n).natAbs ≤ n * 4850000 := sumN_ab (fun i hi => by
    have h3 := h.2.2.2.2.2.2.2 j (5 + i) (by omega) (by omega)
    have h4 := h3.1
    have h5 := h3.2
    exact ab_mul (a := 97) (b := 50000) (by omega) (hr i hi))
  have h2 : n * 4850000 ≤ 4 * 4850000 := Nat.mul_le_mul_right _ hn
  omega
theorem st14 {F : Nat} (hF : 100 ≤ F) {p : Nat} (hp : Pm p) {A : Nat → Nat → Int} {n : Nat} {σ l : Nat → Nat} {X : Nat → Nat → Int} (h : InR p A n n n σ l X) {rows : Nat → Nat → Int64} (hM : Mt 9 rows X) {rests : Nat → Int32} {r : Nat → Int} (hr : ∀ i, i < n → rests i = zI (r i)) (hra : ∀ i, i < n → (r i).natAbs ≤ 50000) (P : Int) (m : Nat → Int) :
    ∀ (d j fu : Nat) (dg : Nat → Int32) (md : Nat → Int64), j + d = n → d < fu → (∀ t, j ≤ t → t < n → md t = zJ (m t)) → ∃ dg' md', L_X7_step_14 F (nI n) (nI p) (zJ P) rests rows fu (nI j) dg md = some (dg', md') ∧ (∀ t, dg' t = if j ≤ t ∧ t < n then zI (dC p n X r t) else dg t) ∧ (∀ t, md' t = if j ≤ t ∧ t < n then zJ (m t + dC p n X r t * P) else md t) := by
  have hp1 := hp.1
  have hn := h.1.2.2.2
  intro d
  induction d with
  | zero =>
    intro j fu dg md hj hfu hm
    obtain ⟨fu, rfl⟩ : ∃ g, fu = g + 1 := ⟨fu - 1, by omega⟩
    refine ⟨dg, md, ?_, fun t => by rw [if_neg (by omega)], fun t => by rw [if_neg (by omega)]⟩
    rw [L_X7_step_14, if_pos (nI_le (by omega) (by omega))]
  | succ d ih =>
    intro j fu dg md hj hfu hm
    obtain ⟨fu, rfl⟩ : ∃ g, fu = g + 1 := ⟨fu - 1, by omega⟩
    have hab := dsum_ab hp h hra (show j < n by omega)
    obtain ⟨z, q1, q2, q3⟩ := lo_ok (a := sumN (fun i => X j (5 + i) * r i) n) (by unfold sm; omega) (show 0 < p by omega) hp1.2
    have kj : kin (nI j) 4 := kin_nI (by decide) (by omega)
    obtain ⟨dg', md', e1, e2, e3⟩ := ih (j + 1) fu (upd dg j (zI (dC p n X r j))) (vp_updL md j (zJ (m j + dC p n X r j * P))) (by omega) (by omega) (fun t a b => by
      simp [vp_updL, show t ≠ j by omega]; exact hm t (by omega) b)
    refine ⟨dg', md', ?_, fun t => ?_, fun t => ?_⟩
    · rw [L_X7_step_14, if_neg (nI_ge (by omega) (by omega)), show L_X7_step_26 (nI n) (nI p) (nI j) rests rows F (0 : Int32) (0 : Int32) = _ from st26 hn (show j < 4 by omega) hM hr (nI p) n 0 F (by omega) (by omega)]
      simp only [kb1, Option.bind_some]
      rw [zI_J ⟨by omega, by omega⟩, q1]
      simp only [Option.bind_some]
      rw [if_pos kj]
      simp only [kl]
      rw [if_pos kj, if_pos kj, if_pos kj, nI_clamp (n := j) (by omega), nI_1]
      rw [show upd dg j z j = z from pk_us, q3, zJ_mul, hm j (Nat.le_refl _) (by omega), zJ_add, q2]
      exact e1
    · rw [e2 t]
      by_cases c : t = j
      · subst c; rw [if_neg (by omega), if_pos (by omega)]; exact pk_us
      · by_cases c2 : j + 1 ≤ t ∧ t < n
        · rw [if_pos c2, if_pos (by omega)]
        · rw [if_neg c2, if_neg (by omega)]; exact pk_un c
    · rw [e3 t]
      by_cases c : t = j
      · subst c; rw [if_neg (by omega), if_pos (by omega)]; exact pk_uLs
      · by_cases c2 : j + 1 ≤ t ∧ t < n
        · rw [if_pos c2, if_pos (by omega)]
        · rw [if_neg c2, if_neg (by omega)]; exact pk_uLn c
theorem st124 {nums : Nat → Int32} {A : Nat → Nat → Int} (hN : Nc nums A) {n i : Nat} (hn : n ≤ 4) (hi : i < 4) {dg : Nat → Int32} {e : Nat → Int} (hd : ∀ j, j < n → dg j = zI (e j)) (x4 : Int32) (y : Int) :
    ∀ (d j fu : Nat), j + d = n → d < fu → L_X7_step_124 (nI n) x4 (nI i) dg nums fu (zI (y - sumN (fun j => A i j * e j) j)) (nI j) = some (zI (y - sumN (fun j => A i j * e j) n)) := by
  intro d
  induction d with
  | zero =>
    intro j fu hj hfu
    obtain ⟨fu, rfl⟩ : ∃ g, fu = g + 1 := ⟨fu - 1, by omega⟩
    rw [L_X7_step_124, if_pos (nI_le (by omega) (by omega)), show j = n by omega]
  | succ d ih =>
    intro j fu hj hfu
    obtain ⟨fu, rfl⟩ : ∃ g, fu = g + 1 := ⟨fu - 1, by omega⟩
    rw [L_X7_step_124, if_neg (nI_ge (by omega) (by omega)), number_ok hN hi (show j < 5 by omega)]
    simp only [kb1, Option.bind_some]
    rw [if_pos (kin_nI (by decide) (by omega)), nI_clamp (n := j) (by omega), hd j (by omega), zI_mul, zI_sub, nI_1]
    have := ih (j + 1) fu (by omega) (by omega)
    rw [sumN, show y - (sumN (fun j => A i j * e j) j + A i j * e j) = y - sumN (fun j => A i j * e j) j - A i j * e j by omega] at this
    exact this
theorem st106 {F : Nat} (hF : 100 ≤ F) {p : Nat} (hp : Pm p) {nums : Nat → Int32} {A : Nat → Nat → Int} (hN : Nc nums A) {n : Nat} (hn : n ≤ 4) {dg : Nat → Int32} {e r : Nat → Int} (hd : ∀ j, j < n → dg j = zI (e j)) (he : ∀ j, j < n → rp p (e j)) (hra : ∀ i, i < n → (r i).natAbs ≤ 50000) (hdv : ∀ i, i < n → (p : Int) ∣ r i - sumN (fun j => A i j * e j) n) :
    ∀ (d i fu : Nat) (rests : Nat → Int32), i + d = n → d < fu → (∀ t, i ≤ t → t < n → rests t = zI (r t)) → ∃ rests', L_X7_step_106 F (nI n) (nI p) dg nums fu (nI i) rests = some rests' ∧ ∀ t, rests' t = if i ≤ t ∧ t < n then zI (rN p A n e r t) else rests t := by
  have hp1 := hp.1
  intro d
  induction d with
  | zero =>
    intro i fu rests hi hfu hm
    obtain ⟨fu, rfl⟩ : ∃ g, fu = g + 1 := ⟨fu - 1, by omega⟩
    refine ⟨rests, ?_, fun t => by rw [if_neg (by omega)]⟩
    rw [L_X7_step_106, if_pos (nI_le (by omega) (by omega))]
  | succ d ih =>
    intro i fu rests hi hfu hm
    obtain ⟨fu, rfl⟩ : ∃ g, fu = g + 1 := ⟨fu - 1, by omega⟩
    obtain ⟨b1, b2⟩ := rN_ab hp hN.2 hn he (show i < n by omega) (hdv i (by omega)) (hra i (by omega))
    have b3 := hra i (by omega)
    have ki : kin (nI i) 4 := kin_nI (by decide) (by omega)
    obtain ⟨rests', e1, e2⟩ := ih (i + 1) fu (upd rests i (zI (rN p A n e r i))) (by omega) (by omega) (fun t a b => by rw [pk_un (show t ≠ i by omega)]; exact hm t (by omega) b)
    refine ⟨rests', ?_, fun t => ?_⟩
    · rw [L_X7_step_106, if_neg (nI_ge (by omega) (by omega)), if_pos ki, nI_clamp (n := i) (by omega), hm i (Nat.le_refl _) (by omega)]
      simp only [kl]
      rw [show L_X7_step_124 (nI n) (nI p) (nI i) dg nums F (zI (r i)) (0 : Int32) = some (zI (r i - sumN (fun j => A i j * e j) n)) by
        have := st124 hN hn (show i < 4 by omega) hd (nI p) (r i) n 0 F (by omega) (by omega)
        rw [sumN, Int.sub_zero] at this
        exact this]
      simp only [kb1, Option.bind_some]
      rw [zI_J ⟨by omega, by omega⟩, nIJ hp1.2, quotient_ok (by unfold sm; omega) (sm_nat (by omega)), tdiv_of_dvd (hdv i (by omega))]
      simp only [Option.bind_some]
      rw [if_pos ki, zJ_I, nI_1]
      exact e1
    · rw [e2 t]
      by_cases c : t = i
      · subst c; rw [if_neg (by omega), if_pos (by omega)]; exact pk_us
      · by_cases c2 : i + 1 ≤ t ∧ t < n
        · rw [if_pos c2, if_pos (by omega)]
        · rw [if_neg c2, if_neg (by omega)]; exact pk_un c
/-- the lifting behind k steps -/
def LfK (p : Nat) (A : Nat → Nat → Int) (n : Nat) (X : Nat → Nat → Int) (k : Nat) (pw : Int64) (rests dg : Nat → Int32) (md : Nat → Int64) : Prop :=
  pw = zJ ((p : Int) ^ k) ∧ (∀ i, i < n → rests i = zI (rsK p A n X k i)) ∧ (∀ j, j < n → md j = zJ (sumN (fun t => dC p n X (rsK p A n X t) j * (p : Int) ^ t) k)) ∧ ∀ m, k = m + 1 → ∀ j, j < n → dg j = zI (dC p n X (rsK p A n X m) j)
theorem step_ok {F : Nat} (hF : 100 ≤ F) {nums : Nat → Int32} {A : Nat → Nat → Int} (hN : Nc nums A) (hE : Ext A) {n pn : Nat} (hpn : pn < 25) {σ l : Nat → Nat} {X : Nat → Nat → Int} (h : InR (prN pn) A n n n σ l X) {rows : Nat → Nat → Int64} (hM : Mt 9 rows X) {k : Nat} {pw : Int64} {rests dg : Nat → Int32} {md : Nat → Int64} (hL : LfK (prN pn) A n X k pw rests dg md) :
    ∃ pw' rests' dg' md', f_X7_step F pw rests dg md (nI n) (nI pn) nums rows = some (pw', rests', dg', md') ∧ LfK (prN pn) A n X (k + 1) pw' rests' dg' md' := by
  have hp := Pm_pr hpn
  have hp1 := hp.1
  have hn := h.1.2.2.2
  obtain ⟨l1, l2, l3, l4⟩ := hL
  have hra := rsK_ab hp hN.2 hE h k
  obtain ⟨dg', md', e1, e2, e3⟩ := st14 hF hp h hM l2 hra ((prN pn : Int) ^ k) _ n 0 F dg md (by omega) (by omega) (fun t _ b => l3 t b)
  obtain ⟨rests', e4, e5⟩ := st106 hF hp hN hn (dg := dg') (e := dC (prN pn) n X (rsK (prN pn) A n X k)) (fun j hj => by rw [e2 j, if_pos (by omega)]) (fun j _ => rp_mod (by omega) _) hra (fun i hi => dv_symm (dC_dvd hp hE h _ hi)) n 0 F rests (by omega) (by omega) (fun t _ b => l2 t b)
  refine ⟨pw * (nI (prN pn)).toInt64, rests', dg', md', ?_, ?_, ?_, ?_, ?_⟩
  · unfold f_X7_step
    refine kb1_of (p_c hpn) ?_
    refine kb2_of (by rw [l1]; exact e1) ?_
    refine kb1_of e4 ?_
    refine kl_of rfl ?_
    rfl
  · rw [l1, nIJ hp1.2, zJ_mul, Int.pow_succ]
  · intro i hi
    rw [e5 i, if_pos (by omega)]
    rfl
  · intro j hj
    rw [e3 j, if_pos (by omega)]
    rfl
  · intro m hm j hj
    have : m = k := by omega
    subst this
    rw [e2 j, if_pos (by omega)]
theorem bg_loop {nums : Nat → Int32} {A : Nat → Nat → Int} (hN : Nc nums A) : ∀ (d i fu : Nat) (rests : Nat → Int32) (md : Nat → Int64), i + d = 4 → d < fu → ∃ rests' md', L_X7_begin_7 nums fu (nI i) rests md = some (rests', md') ∧ (∀ t, rests' t = if i ≤ t ∧ t < 4 then zI (A t 4) else rests t) ∧ ∀ t, md' t = if i ≤ t ∧ t < 4 then 0 else md t := by
  intro d
  induction d with
  | zero =>
    intro i fu rests md hi hfu
    obtain ⟨fu, rfl⟩ : ∃ g, fu = g + 1 := ⟨fu - 1, by omega⟩
    refine ⟨rests, md, ?_, fun t => by rw [if_neg (by omega)], fun t => by rw [if_neg (by omega)]⟩
    rw [L_X7_begin_7, if_pos (show (4 : Int32) ≤ nI i from nI_le (a := 4) (by omega) (by omega))]
  | succ d ih =>
    intro i fu rests md hi hfu
    obtain ⟨fu, rfl⟩ : ∃ g, fu = g + 1 := ⟨fu - 1, by omega⟩
    have ki : kin (nI i) 4 := kin_nI (by decide) (by omega)
    obtain ⟨rests', md', e1, e2, e3⟩ := ih (i + 1) fu (upd rests i (zI (A i 4))) (vp_updL md i 0) (by omega) (by omega)
    refine ⟨rests', md', ?_, fun t => ?_, fun t => ?_⟩
    · rw [L_X7_begin_7, if_neg (show ¬ (4 : Int32) ≤ nI i from nI_ge (b := 4) (by omega) (by omega))]
      refine kb1_of (number_ok hN (show i < 4 by omega) (show 4 < 5 by omega)) ?_
      rw [if_pos ki, nI_clamp (n := i) (by omega)]
      simp only [kl]
      rw [if_pos ki, nI_1]
      exact e1
    · rw [e2 t]
      by_cases c : t = i
      · subst c; rw [if_neg (by omega), if_pos (by omega)]; exact pk_us
      · by_cases c2 : i + 1 ≤ t ∧ t < 4
        · rw [if_pos c2, if_pos (by omega)]
        · rw [if_neg c2, if_neg (by omega)]; exact pk_un c
    · rw [e3 t]
      by_cases c : t = i
      · subst c; rw [if_neg (by omega), if_pos (by omega)]; exact pk_uLs
      · by_cases c2 : i + 1 ≤ t ∧ t < 4
        · rw [if_pos c2, if_pos (by omega)]
        · rw [if_neg c2, if_neg (by omega)]; exact pk_uLn c
theorem begin_ok {F : Nat} (hF : 100 ≤ F) {nums : Nat → Int32} {A : Nat → Nat → Int} (hN : Nc nums A) (p : Nat) {n : Nat} (hn : n ≤ 4) (X : Nat → Nat → Int) (pw : Int64) (rests dg : Nat → Int32) (md : Nat → Int64) : ∃ rests' md', f_X7_begin F pw rests md nums = some (1, rests', md') ∧ LfK p A n X 0 1 rests' dg md' := by
  obtain ⟨rests', md', e1, e2, e3⟩ := bg_loop hN 4 0 F rests md (by omega) (by omega)
  refine ⟨rests', md', ?_, rfl, fun i hi => ?_, fun j hj => ?_, fun m hm => by omega⟩
  · unfold f_X7_begin
    exact kb2_of e1 rfl
  · rw [e2 i, if_pos (by omega)]; rfl
  · rw [e3 j, if_pos (by omega)]; rfl
theorem lift_loop {F : Nat} (hF : 100 ≤ F) {nums : Nat → Int32} {A : Nat → Nat → Int} (hN : Nc nums A) (hE : Ext A) {n pn : Nat} (hpn : pn < 25) {σ l : Nat → Nat} {X : Nat → Nat → Int} (h : InR (prN pn) A n n n σ l X) {rows : Nat → Nat → Int64} (hM : Mt 9 rows X) {K : Nat} (hK : K ≤ 100) :
    ∀ (d k fu : Nat) (pw : Int64) (rests dg : Nat → Int32) (md : Nat → Int64), k + d = K → d < fu → LfK (prN pn) A n X k pw rests dg md →
      ∃ pw' rests' dg' md', L_X11_lift_13 F (nI K) (nI n) (nI pn) nums rows fu (nI k) pw rests dg md = some (pw', rests', dg', md') ∧ LfK (prN pn) A n X K pw' rests' dg' md' := by
  intro d
  induction d with
  | zero =>
    intro k fu pw rests dg md hk hfu hL
    obtain ⟨fu, rfl⟩ : ∃ g, fu = g + 1 := ⟨fu - 1, by omega⟩
    have : k = K := by omega
    subst this
    refine ⟨pw, rests, dg, md, ?_, hL⟩
    rw [L_X11_lift_13, if_pos (nI_le (by omega) (by omega))]
  | succ d ih =>
    intro k fu pw rests dg md hk hfu hL
    obtain ⟨fu, rfl⟩ : ∃ g, fu = g + 1 := ⟨fu - 1, by omega⟩
    obtain ⟨pw1, rests1, dg1, md1, e1, e2⟩ := step_ok hF hN hE hpn h hM hL
    obtain ⟨pw', rests', dg', md', e3, e4⟩ := ih (k + 1) fu pw1 rests1 dg1 md1 (by omega) (by omega) e2
    refine ⟨pw', rests', dg', md', ?_, e4⟩
    rw [L_X11_lift_13, if_neg (nI_ge (by omega) (by omega)), if_neg (show ¬ (100 : Int32) ≤ nI k from nI_ge (b := 100) (by omega) (by omega)), e1]
    simp only [kb4, Option.bind_some, kl, nI_1]
    exact e3
theorem lift_ok {F : Nat} (hF : 200 ≤ F) {nums : Nat → Int32} {A : Nat → Nat → Int} (hN : Nc nums A) (hE : Ext A) {n pn : Nat} (hpn : pn < 25) {σ l : Nat → Nat} {X : Nat → Nat → Int} (h : InR (prN pn) A n n n σ l X) {rows : Nat → Nat → Int64} (hM : Mt 9 rows X) {K : Nat} (hK : K ≤ 100) (pw : Int64) (rests dg : Nat → Int32) (md : Nat → Int64) :
    ∃ pw' rests' dg' md', f_X11_lift F (nI n) (nI pn) nums rows pw rests dg md (nI K) = some (pw', rests', dg', md') ∧ LfK (prN pn) A n X K pw' rests' dg' md' := by
  obtain ⟨rests1, md1, e1, e2⟩ := begin_ok (F := F) (by omega) hN (prN pn) h.1.2.2.2 X pw rests dg md
  obtain ⟨pw', rests', dg', md', e3, e4⟩ := lift_loop (F := F) (by omega) hN hE hpn h hM hK K 0 F 1 rests1 dg md1 (by omega) (by omega) e2
  refine ⟨pw', rests', dg', md', ?_, e4⟩
  unfold f_X11_lift
  rw [e1]
  simp only [kb3, Option.bind_some]
  rw [show L_X11_lift_13 F (nI K) (nI n) (nI pn) nums rows F (0 : Int32) 1 rests1 dg md1 = _ from e3]
  rfl
