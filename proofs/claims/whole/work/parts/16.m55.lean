/-! ===== the book: the first that is otherwise ===== -/
theorem isRow_n {w : Nat → Int32} {n : Nat} {A : Nat → Nat → Int} (hW : Wn w n A) {j : Nat} (hj : j < 2 ^ 31) : f_X12_isRow w (nI j) = some (if j < n then 1 else 0) := by
  have hn := hW.2.2.1
  have hc := has_c n (by omega) (nI j)
  rw [nI_toInt hj] at hc
  rcases row_case hW (nI j) with ⟨i, hi, e, e1, e2⟩ | ⟨e1, e2⟩
  · have : j = i := (nI_eq hj (by omega)).mp e
    rw [if_pos (by omega)]; exact e2
  · by_cases c : j < n
    · rw [if_pos (by omega), e1] at hc
      cases hc
    · rw [if_neg c]; exact e2
/-- the first of so many by which something is so -/
def Fst (n c : Nat) (J : Nat → Nat) (K : Nat → Nat) (oth : Nat → Prop) (k r : Nat) : Prop := r ≤ c ∧ (∀ e, e < r → J e < n ∧ ¬ (K e < k ∧ oth e)) ∧ (r < c → n ≤ J r ∨ (K r < k ∧ oth r))
theorem Fst_u {n c : Nat} {J K : Nat → Nat} {oth : Nat → Prop} {k r r' : Nat} (h : Fst n c J K oth k r) (h' : Fst n c J K oth k r') : r = r' := by
  obtain ⟨a1, a2, a3⟩ := h
  obtain ⟨b1, b2, b3⟩ := h'
  rcases Nat.lt_trichotomy r r' with d | d | d
  · obtain ⟨u, v⟩ := b2 r d
    rcases a3 (by omega) with z | z
    · omega
    · exact absurd z v
  · exact d
  · obtain ⟨u, v⟩ := a2 r' d
    rcases b3 (by omega) with z | z
    · omega
    · exact absurd z v
/-- the book: in class and reference -/
def BookR (bc : Int32) (un pl va : Nat → Int32) (wr : Int32) (bo ba bi : Nat → Int32) : Prop := ∃ (c : Nat) (J K : Nat → Nat) (V : Nat → Int32), c ≤ 20 ∧ bc = nI c ∧ wr = nI c ∧ ∀ e, e < c → (un e = nI (J e) ∧ bo e = nI (J e) ∧ J e < 4) ∧ (pl e = nI (K e) ∧ ba e = nI (K e) ∧ K e < 100) ∧ va e = V e ∧ bi e = V e
theorem fb_loop {n c : Nat} (hn : n ≤ 4) (hc : c ≤ 20) {un : Nat → Int32} {J : Nat → Nat} (hJ : ∀ e, e < c → un e = nI (J e) ∧ J e < 4) (K : Nat → Nat) (oth : Nat → Prop) :
    ∀ (d e fu : Nat), e + d = c → d < fu → (∀ i, i < e → J i < n) → ∃ r, L_X0_firstBeyond_2 (nI n) (nI c) un fu (nI e) = some (nI r) ∧ Fst n c J K oth 0 r := by
  intro d
  induction d with
  | zero =>
    intro e fu he hfu h
    obtain ⟨fu, rfl⟩ : ∃ g, fu = g + 1 := ⟨fu - 1, by omega⟩
    refine ⟨e, ?_, by omega, fun i hi => ⟨h i hi, fun z => by omega⟩, fun z => by omega⟩
    rw [L_X0_firstBeyond_2, if_pos (nI_le (by omega) (by omega))]
  | succ d ih =>
    intro e fu he hfu h
    obtain ⟨fu, rfl⟩ : ∃ g, fu = g + 1 := ⟨fu - 1, by omega⟩
    obtain ⟨j1, j2⟩ := hJ e (by omega)
    rw [L_X0_firstBeyond_2, if_neg (nI_ge (by omega) (by omega)), if_pos (show kin (nI e) 20 from kin_nI (by decide) (by omega)), nI_clamp (n := e) (by omega), j1]
    by_cases c1 : n ≤ J e
    · refine ⟨e, ?_, by omega, fun i hi => ⟨h i hi, fun z => by omega⟩, fun _ => .inl c1⟩
      rw [if_pos (nI_le c1 (by omega))]
    · obtain ⟨r, r1, r2⟩ := ih (e + 1) fu (by omega) (by omega) (fun i hi => by
        by_cases c2 : i = e
        · subst c2; omega
        · exact h i (by omega))
      refine ⟨r, ?_, r2⟩
      rw [if_neg (nI_ge (by omega) (by omega))]
      exact kl_of (nI_1 e) r1
theorem fo_loop {n f k : Nat} (hn : n ≤ 4) (hf : f ≤ 20) (hk : k < 100) {un pl va dg : Nat → Int32} {J K : Nat → Nat} {V : Nat → Int32} {g : Nat → Int32} (hB : ∀ e, e < f → un e = nI (J e) ∧ J e < n ∧ pl e = nI (K e) ∧ K e < 100 ∧ va e = V e) (hd : ∀ j, j < n → dg j = g j) :
    ∀ (d e fu : Nat), e + d = f → d < fu → (∀ i, i < e → ¬ (K i = k ∧ ¬ g (J i) = V i)) → (L_X0_firstOtherwise_3 4 (nI k) (nI f) un pl va dg fu (nI e) = some (.inr ()) ∧ ∀ i, i < f → ¬ (K i = k ∧ ¬ g (J i) = V i)) ∨ (∃ r, r < f ∧ L_X0_firstOtherwise_3 4 (nI k) (nI f) un pl va dg fu (nI e) = some (.inl (nI r)) ∧ (∀ i, i < r → ¬ (K i = k ∧ ¬ g (J i) = V i)) ∧ K r = k ∧ ¬ g (J r) = V r) := by
  intro d
  induction d with
  | zero =>
    intro e fu he hfu h
    obtain ⟨fu, rfl⟩ : ∃ g, fu = g + 1 := ⟨fu - 1, by omega⟩
    refine .inl ⟨?_, fun i hi => h i (by omega)⟩
    rw [L_X0_firstOtherwise_3, if_pos (nI_le (by omega) (by omega))]
  | succ d ih =>
    intro e fu he hfu h
    obtain ⟨fu, rfl⟩ : ∃ g, fu = g + 1 := ⟨fu - 1, by omega⟩
    obtain ⟨j1, j2, k1, k2, v1⟩ := hB e (by omega)
    have ke : kin (nI e) 20 := kin_nI (by decide) (by omega)
    rw [L_X0_firstOtherwise_3, if_neg (nI_ge (by omega) (by omega)), if_pos ke, nI_clamp (n := e) (by omega), k1, j1, v1]
    by_cases c1 : K e = k
    · rw [if_pos (by rw [c1]), if_pos ke, if_pos (show kin (nI (J e)) 4 from kin_nI (by decide) (by omega)), if_pos ke, nI_clamp (n := J e) (by omega), hd _ j2]
      by_cases c2 : g (J e) = V e
      · rw [if_pos c2]
        have := ih (e + 1) fu (by omega) (by omega) (fun i hi => by
          by_cases c3 : i = e
          · subst c3; exact fun z => z.2 c2
          · exact h i (by omega))
        rw [← nI_1 e] at this
        exact this
      · rw [if_neg c2]
        exact .inr ⟨e, by omega, rfl, h, c1, c2⟩
    · rw [if_neg (fun z => c1 ((nI_eq (by omega) (by omega)).mp z))]
      have := ih (e + 1) fu (by omega) (by omega) (fun i hi => by
        by_cases c3 : i = e
        · subst c3; exact fun z => c1 z.1
        · exact h i (by omega))
      rw [← nI_1 e] at this
      exact this
theorem fo_ok {F : Nat} (hF : 100 ≤ F) {n c k r : Nat} (hn : n ≤ 4) (hc : c ≤ 20) (hk : k < 100) {un pl va dg : Nat → Int32} {J K : Nat → Nat} {V : Nat → Int32} {G : Nat → Nat → Int32} (hB : ∀ e, e < c → un e = nI (J e) ∧ pl e = nI (K e) ∧ K e < 100 ∧ va e = V e) (hd : ∀ j, j < n → dg j = G k j) (h : Fst n c J K (fun e => ¬ G (K e) (J e) = V e) k r) :
    ∃ r', f_X0_firstOtherwise F 4 un pl va dg (nI k) (nI r) = some (nI r') ∧ Fst n c J K (fun e => ¬ G (K e) (J e) = V e) (k + 1) r' := by
  obtain ⟨h1, h2, h3⟩ := h
  have hl := fo_loop (f := r) (g := fun j => G k j) hn (by omega) hk (fun e he => by
    obtain ⟨a, b, c', d⟩ := hB e (by omega)
    exact ⟨a, (h2 e he).1, b, c', d⟩) hd r 0 F (by omega) (by omega) (fun i hi => by omega)
  unfold f_X0_firstOtherwise
  rcases hl with ⟨e1, e2⟩ | ⟨r', hr', e1, e2, e3, e4⟩
  · refine ⟨r, ?_, h1, fun e he => ⟨(h2 e he).1, fun z => ?_⟩, fun z => ?_⟩
    · rw [show L_X0_firstOtherwise_3 4 (nI k) (nI r) un pl va dg F (0 : Int32) = _ from e1]
      rfl
    · by_cases c1 : K e = k
      · refine e2 e he ⟨c1, ?_⟩
        show ¬ G k (J e) = V e
        rw [← c1]
        exact z.2
      · exact (h2 e he).2 ⟨by omega, z.2⟩
    · rcases h3 z with y | y
      · exact .inl y
      · exact .inr ⟨by omega, y.2⟩
  · refine ⟨r', ?_, by omega, fun e he => ⟨(h2 e (by omega)).1, fun z => ?_⟩, fun z => .inr ⟨by omega, ?_⟩⟩
    · rw [show L_X0_firstOtherwise_3 4 (nI k) (nI r) un pl va dg F (0 : Int32) = _ from e1]
      rfl
    · by_cases c1 : K e = k
      · refine e2 e he ⟨c1, ?_⟩
        show ¬ G k (J e) = V e
        rw [← c1]
        exact z.2
      · exact (h2 e (by omega)).2 ⟨by omega, z.2⟩
    · show ¬ G (K r') (J r') = V r'
      rw [e3]
      exact e4
theorem fw_loop {F : Nat} (hF : 100 ≤ F) {nums : Nat → Int32} {A : Nat → Nat → Int} (hN : Nc nums A) (hE : Ext A) {n pn c : Nat} (hpn : pn < 25) {σ l : Nat → Nat} {Y : Nat → Nat → Int} (hR : InR (prN pn) A n n n σ l Y) {rows : Nat → Nat → Int64} (hM : Mt 9 rows Y) (hc : c ≤ 20) {un pl va : Nat → Int32} {J K : Nat → Nat} {V : Nat → Int32} (hB : ∀ e, e < c → un e = nI (J e) ∧ pl e = nI (K e) ∧ K e < 100 ∧ va e = V e) :
    ∀ (d k fu r : Nat) (pw : Int64) (rests dg : Nat → Int32) (md : Nat → Int64), k + d = 100 → d < fu → LfK (prN pn) A n Y k pw rests dg md → Fst n c J K (fun e => ¬ zI (dC (prN pn) n Y (rsK (prN pn) A n Y (K e)) (J e)) = V e) k r →
      ∃ r' pw' rests' dg' md', L_X11_firstWrong_49 F (nI n) (nI pn) nums rows un pl va fu (nI r) (nI k) pw rests dg md = some (nI r', pw', rests', dg', md') ∧ Fst n c J K (fun e => ¬ zI (dC (prN pn) n Y (rsK (prN pn) A n Y (K e)) (J e)) = V e) 100 r' := by
  have hn := hR.1.2.2.2
  intro d
  induction d with
  | zero =>
    intro k fu r pw rests dg md hk hfu hL hF1
    obtain ⟨fu, rfl⟩ : ∃ g, fu = g + 1 := ⟨fu - 1, by omega⟩
    have : k = 100 := by omega
    subst this
    refine ⟨r, pw, rests, dg, md, ?_, hF1⟩
    rw [L_X11_firstWrong_49, if_pos (show (100 : Int32) ≤ nI 100 from nI_le (a := 100) (by omega) (by omega))]
  | succ d ih =>
    intro k fu r pw rests dg md hk hfu hL hF1
    obtain ⟨fu, rfl⟩ : ∃ g, fu = g + 1 := ⟨fu - 1, by omega⟩
    obtain ⟨pw1, rests1, dg1, md1, e1, e2⟩ := step_ok hF hN hE hpn hR hM hL
    obtain ⟨r1, o1, o2⟩ := fo_ok hF hn hc (show k < 100 by omega) (dg := dg1) (G := fun k j => zI (dC (prN pn) n Y (rsK (prN pn) A n Y k) j)) hB (fun j hj => e2.2.2.2 k rfl j hj) hF1
    obtain ⟨r', pw', rests', dg', md', e3, e4⟩ := ih (k + 1) fu r1 pw1 rests1 dg1 md1 (by omega) (by omega) e2 o2
    refine ⟨r', pw', rests', dg', md', ?_, e4⟩
    rw [L_X11_firstWrong_49, if_neg (show ¬ (100 : Int32) ≤ nI k from nI_ge (b := 100) (by omega) (by omega))]
    refine kb4_of e1 ?_
    refine kb1_of o1 ?_
    exact kl_of (nI_1 k) e3
theorem wm_loop {F : Nat} (hF : 2305430425 ≤ F) {wd : Nat → Int32} {A : Nat → Nat → Int} {n pn ex c : Nat} {σ l : Nat → Nat} {X : Nat → Nat → Int} {s : Int} (hW : Wp wd n pn A) (h : Ck A n n ex σ l X s) {cc u : Nat → Int} (hS : Sy (prN pn) A n s (slA l n X s) (slB l n X s) cc u) (hu : ∀ j, j < n → rp (prN pn) (u j)) (hD : ¬ (prN pn : Int) ∣ Dt A n) (hc : c ≤ 20) {bo ba bi : Nat → Int32} {J K : Nat → Nat} {V : Nat → Int32} (hB : ∀ e, e < c → (bo e = nI (J e) ∧ J e < 4) ∧ (ba e = nI (K e) ∧ K e < 100) ∧ bi e = V e) :
    ∀ (d e fu : Nat) (a b la lb : Int64) (rs cs : Nat → Int32), e + d = c → d < fu → (∀ i, i < e → J i < n ∧ ¬ (K i < 100 ∧ ¬ zI (dgt (prN pn) (slB l n X s (J i)) (u (J i)) (slA l n X s (J i)) (K i)) = V i)) →
      ∃ r a' b' la' lb' rs' cs', Fst n c J K (fun e => ¬ zI (dgt (prN pn) (slB l n X s (J e)) (u (J e)) (slA l n X s (J e)) (K e)) = V e) 100 r ∧ L_X12_wrong_2 F (nI c) wd bo ba bi fu (nI e) a b la lb rs cs = some (if r < c then .inl (nI r, a', b', la', lb', rs', cs') else .inr (a', b', la', lb', rs', cs')) := by
  intro d
  induction d with
  | zero =>
    intro e fu a b la lb rs cs he hfu hp
    obtain ⟨fu, rfl⟩ : ∃ g, fu = g + 1 := ⟨fu - 1, by omega⟩
    refine ⟨c, a, b, la, lb, rs, cs, ⟨Nat.le_refl _, fun i hi => hp i (by omega), fun z => by omega⟩, ?_⟩
    rw [L_X12_wrong_2, if_pos (nI_le (by omega) (by omega)), if_neg (by omega)]
  | succ d ih =>
    intro e fu a b la lb rs cs he hfu hp
    obtain ⟨fu, rfl⟩ : ∃ g, fu = g + 1 := ⟨fu - 1, by omega⟩
    obtain ⟨⟨j1, j2⟩, ⟨k1, k2⟩, v1⟩ := hB e (by omega)
    have ke : kin (nI e) 20 := kin_nI (by decide) (by omega)
    rw [L_X12_wrong_2, if_neg (nI_ge (by omega) (by omega)), if_pos ke, nI_clamp (n := e) (by omega), j1, k1, v1]
    have er := isRow_n hW.1 (j := J e) (by omega)
    by_cases c1 : J e < n
    · rw [if_pos c1] at er
      obtain ⟨rs1, cs1, eb⟩ := isBad_ok (show 100 ≤ F by omega) hW rs cs
      rw [if_neg hD] at eb
      obtain ⟨rs2, cs2, ed⟩ := digitM_ok hF hW h hS hu c1 (k := K e) (by omega) a b la lb rs1 cs1
      by_cases c2 : zI (dgt (prN pn) (slB l n X s (J e)) (u (J e)) (slA l n X s (J e)) (K e)) = V e
      · obtain ⟨r, a', b', la', lb', rs', cs', f1, f2⟩ := ih (e + 1) fu (zJ (slA l n X s (J e))) (zJ (slB l n X s (J e))) (zJ (lft (prN pn) (slB l n X s (J e)) (u (J e)) (slA l n X s (J e)) (K e + 1))) (zJ (slB l n X s (J e))) rs2 cs2 (by omega) (by omega) (fun i hi => by
          by_cases c3 : i = e
          · subst c3; exact ⟨c1, fun z => z.2 c2⟩
          · exact hp i (by omega))
        refine ⟨r, a', b', la', lb', rs', cs', f1, ?_⟩
        refine kb1_of er ?_
        simp only [kj3, kj2]
        rw [if_neg (show ¬ (1 : Int32) = 0 by decide)]
        refine kb3_of eb ?_
        rw [if_pos rfl, if_neg (show ¬ (1 : Int32) = 0 by decide), if_pos ke, if_pos ke]
        refine kb7_of ed ?_
        rw [if_pos ke, if_pos c2]
        exact kl_of (nI_1 e) f2
      · refine ⟨e, zJ (slA l n X s (J e)), zJ (slB l n X s (J e)), zJ (lft (prN pn) (slB l n X s (J e)) (u (J e)) (slA l n X s (J e)) (K e + 1)), zJ (slB l n X s (J e)), rs2, cs2, ⟨by omega, hp, fun _ => .inr ⟨k2, c2⟩⟩, ?_⟩
        refine kb1_of er ?_
        simp only [kj3, kj2]
        rw [if_neg (show ¬ (1 : Int32) = 0 by decide), if_pos (show e < c by omega)]
        refine kb3_of eb ?_
        rw [if_pos rfl, if_neg (show ¬ (1 : Int32) = 0 by decide), if_pos ke, if_pos ke]
        refine kb7_of ed ?_
        rw [if_pos ke, if_neg c2]
    · rw [if_neg c1] at er
      refine ⟨e, a, b, la, lb, rs, cs, ⟨by omega, hp, fun _ => .inl (by omega)⟩, ?_⟩
      refine kb1_of er ?_
      simp only [kj3, kj2]
      rw [if_pos (show e < c by omega)]
      rfl
