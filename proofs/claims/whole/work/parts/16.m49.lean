/-! ===== the class's doubles and floats ===== -/
theorem ord_lt {c d : Nat} {q r : Int} (hc : c < 2 ^ 53) (hd : 2 ^ 52 ≤ d) (h : q < r) : FP.Core.order (.fin false c q) (.fin false d r) = some .lt := by
  show some (compare (FP.Core.signed false (FP.Core.inUnits c q (min q r))) (FP.Core.signed false (FP.Core.inUnits d r (min q r)))) = _
  congr 1
  rw [FP.Core.compare_ite, if_pos]
  show ((FP.Core.inUnits c q (min q r) : Nat) : Int) < ((FP.Core.inUnits d r (min q r) : Nat) : Int)
  unfold FP.Core.inUnits
  rw [show min q r = q by omega, show (q - q).toNat = 0 by omega, Nat.pow_zero, Nat.mul_one]
  have h1 : 2 ^ 1 ≤ 2 ^ (r - q).toNat := Nat.pow_le_pow_right (by decide) (by omega)
  have h2 : 2 ^ 52 * 2 ^ 1 ≤ d * 2 ^ (r - q).toNat := Nat.mul_le_mul hd h1
  omega
theorem ord_ge {c d : Nat} {q : Int} (h : d ≤ c) : ∃ o, FP.Core.order (.fin false c q) (.fin false d q) = some o ∧ o ≠ .lt := by
  refine ⟨_, rfl, ?_⟩
  rw [FP.Core.compare_ite]
  have e : ∀ z : Nat, FP.Core.signed false (FP.Core.inUnits z q (min q q)) = (z : Int) := by
    intro z
    show ((FP.Core.inUnits z q (min q q) : Nat) : Int) = _
    unfold FP.Core.inUnits
    rw [show (q - min q q).toNat = 0 by omega, Nat.pow_zero, Nat.mul_one]
  rw [e, e, if_neg (by omega)]
  split <;> intro z <;> cases z
theorem bos_loop {pl bias : Nat} (hb : pl + bias < 2 ^ 20) {first : Int64} (hf : FP.Core.val64 (FP.l2d first) = .fin false (2 ^ 52) ((pl : Int) - 52)) {c : Nat} :
    ∀ (t fu st : Nat) (x : UInt64) (E : Int), N64 x false c ((pl : Int) - 52 - t) → pl ≤ 52 → st + t < pl + bias → t < fu → ∃ y, L_X11_bitsOfSize_25 (nI pl) (nI bias) first fu x (zJ E) (nI st) = some (y, zJ (E - t)) ∧ N64 y false c ((pl : Int) - 52) := by
  intro t
  induction t with
  | zero =>
    intro fu st x E hx hp hst hfu
    obtain ⟨fu, rfl⟩ : ∃ g, fu = g + 1 := ⟨fu - 1, by omega⟩
    rw [show (pl : Int) - 52 - ((0 : Nat) : Int) = (pl : Int) - 52 by omega] at hx
    refine ⟨x, ?_, hx⟩
    obtain ⟨h1, h2, h3, h4, h5⟩ := hx
    rw [L_X11_bitsOfSize_25, nI_add, if_neg (nI_ge (by omega) (by omega))]
    obtain ⟨o, o1, o2⟩ := ord_ge (c := c) (d := 2 ^ 52) (q := (pl : Int) - 52) h2
    have ho : FP.dcmp x (FP.l2d first) = some o := by
      show FP.Core.order (FP.Core.val64 x) (FP.Core.val64 (FP.l2d first)) = _
      rw [h1, hf, o1]
    rw [ho, if_pos (show (0 : Int32) ≤ cmpValue (some o) .g by cases o <;> first | exact absurd rfl o2 | decide)]
    simp
  | succ t ih =>
    intro fu st x E hx hp hst hfu
    obtain ⟨fu, rfl⟩ : ∃ g, fu = g + 1 := ⟨fu - 1, by omega⟩
    have hd := dbl hx (by omega)
    rw [show (pl : Int) - 52 - ((t + 1 : Nat) : Int) + 1 = (pl : Int) - 52 - (t : Int) by omega] at hd
    obtain ⟨y, e1, e2⟩ := ih fu (st + 1) (FP.dmul x 4611686018427387904) (E - 1) hd hp (by omega) (by omega)
    refine ⟨y, ?_, e2⟩
    obtain ⟨h1, h2, h3, h4, h5⟩ := hx
    rw [L_X11_bitsOfSize_25, nI_add, if_neg (nI_ge (by omega) (by omega))]
    have ho : FP.dcmp x (FP.l2d first) = some .lt := by
      show FP.Core.order (FP.Core.val64 x) (FP.Core.val64 (FP.l2d first)) = _
      rw [h1, hf]
      exact ord_lt h3 (Nat.le_refl _) (by omega)
    rw [ho, if_neg (show ¬ (0 : Int32) ≤ cmpValue (some .lt) .g by decide), if_pos (N64_q hd)]
    refine kl_of rfl ?_
    refine kl_of (show zJ E - (1 : Int64) = zJ (E - 1) from zJ_sub E 1) ?_
    refine kl_of (nI_1 st) ?_
    rw [e1, show E - ((t + 1 : Nat) : Int) = E - 1 - (t : Int) by omega]
theorem d2l_n {y : UInt64} {c : Nat} {pl : Nat} (hp : pl ≤ 52) (h : N64 y false c ((pl : Int) - 52)) : FP.d2l y = zJ ((c / 2 ^ (52 - pl) : Nat) : Int) := by
  obtain ⟨h1, h2, h3, h4, h5⟩ := h
  show Int64.ofInt (FP.Core.toInt (-2 ^ 63) (2 ^ 63 - 1) (FP.Core.val64 y)) = _
  rw [h1]
  show Int64.ofInt (max (-2 ^ 63) (min (2 ^ 63 - 1) ((c * 2 ^ ((pl : Int) - 52).toNat / 2 ^ (-((pl : Int) - 52)).toNat : Nat) : Int))) = _
  rw [show ((pl : Int) - 52).toNat = 0 by omega, show (-((pl : Int) - 52)).toNat = 52 - pl by omega, Nat.pow_zero, Nat.mul_one]
  have hle := Nat.div_le_self c (2 ^ (52 - pl))
  generalize c / 2 ^ (52 - pl) = z at hle ⊢
  unfold zJ
  congr 1
  omega
theorem first52 : FP.Core.val64 (FP.l2d ((1 : Int64) <<< ((52 : Int32).toInt64 &&& 63))) = .fin false (2 ^ 52) (((52 : Nat) : Int) - 52) := by decide +kernel
theorem first23 : FP.Core.val64 (FP.l2d ((1 : Int64) <<< ((23 : Int32).toInt64 &&& 63))) = .fin false (2 ^ 52) (((23 : Nat) : Int) - 52) := by decide +kernel
/-- the bits of a double above 0 -/
theorem bos52 {F : Nat} (hF : 1000 ≤ F) {x : UInt64} {c : Nat} {P : Int} (h : N64 x false c (P - 52)) (h1 : -40 ≤ P) (h2 : P ≤ 40) : f_X11_bitsOfSize F x (52 : Int32) (1023 : Int32) = some (zJ (nV false P c)) := by
  unfold f_X11_bitsOfSize
  rw [dsgn h, if_neg (show ¬ cmpValue (some (if false = true then Ordering.lt else Ordering.gt)) .l = 0 by decide)]
  refine kl_of rfl ?_
  refine kl_of (show ((1023 : Int32) + (52 : Int32)).toInt64 = zJ 1075 by decide) ?_
  have hx : N64 x false c (((52 : Nat) : Int) - 52 - ((52 - P).toNat : Nat)) := by
    rw [show ((52 : Nat) : Int) - 52 - ((52 - P).toNat : Nat) = P - 52 by omega]; exact h
  obtain ⟨y, e1, e2⟩ := bos_loop (pl := 52) (bias := 1023) (by decide) first52 (52 - P).toNat F 0 x 1075 hx (by omega) (by omega) (by omega)
  refine kb2_of (show L_X11_bitsOfSize_25 (52 : Int32) (1023 : Int32) _ F x (zJ 1075) (0 : Int32) = _ from e1) ?_
  rw [d2l_n (pl := 52) (by omega) e2, show (1075 : Int) - ((52 - P).toNat : Nat) = P + 1023 by omega, shlD h1 h2, show ((1 : Int64) <<< ((52 : Int32).toInt64 &&& 63)) = zJ 4503599627370496 by decide, zJ_sub, zJ_add, Nat.sub_self, Nat.pow_zero, Nat.div_one]
  unfold nV
  rw [if_neg (show ¬ false = true by decide), Int.add_zero]
/-- of a float above 0, as a double -/
theorem bos23 {F : Nat} (hF : 1000 ≤ F) {x : UInt64} {c : Nat} {P : Int} (h : N64 x false (c * 2 ^ 29) (P - 23 - 29)) (h1 : -40 ≤ P) (h2 : P ≤ 22) : f_X11_bitsOfSize F x (23 : Int32) (127 : Int32) = some (zJ (sV false P c)) := by
  unfold f_X11_bitsOfSize
  rw [dsgn h, if_neg (show ¬ cmpValue (some (if false = true then Ordering.lt else Ordering.gt)) .l = 0 by decide)]
  refine kl_of rfl ?_
  refine kl_of (show ((127 : Int32) + (23 : Int32)).toInt64 = zJ 150 by decide) ?_
  have hx : N64 x false (c * 2 ^ 29) (((23 : Nat) : Int) - 52 - ((23 - P).toNat : Nat)) := by
    rw [show ((23 : Nat) : Int) - 52 - ((23 - P).toNat : Nat) = P - 23 - 29 by omega]; exact h
  obtain ⟨y, e1, e2⟩ := bos_loop (pl := 23) (bias := 127) (by decide) first23 (23 - P).toNat F 0 x 150 hx (by omega) (by omega) (by omega)
  refine kb2_of (show L_X11_bitsOfSize_25 (23 : Int32) (127 : Int32) _ F x (zJ 150) (0 : Int32) = _ from e1) ?_
  rw [d2l_n (pl := 23) (by omega) e2, show (150 : Int) - ((23 - P).toNat : Nat) = P + 127 by omega, shlF h1 (by omega), show ((1 : Int64) <<< ((23 : Int32).toInt64 &&& 63)) = zJ 8388608 by decide, zJ_sub, zJ_add, show c * 2 ^ 29 / 2 ^ (52 - 23) = c from Nat.mul_div_cancel _ (by decide)]
  unfold sV
  rw [if_neg (show ¬ false = true by decide), Int.add_zero]
theorem bod_ok {F : Nat} (hF : 1000 ≤ F) {x : UInt64} {s : Bool} {c : Nat} {P : Int} (h : N64 x s c (P - 52)) (h1 : -40 ≤ P) (h2 : P ≤ 40) : f_X11_bitsOfDouble F x = some (zJ (nV s P c)) := by
  unfold f_X11_bitsOfDouble
  cases s with
  | false =>
    rw [show FP.dcmp x FP.dconst0 = some .gt from dsgn h]
    simp only [kj1]
    rw [if_pos (show (0 : Int32) ≤ cmpValue (some .gt) .g by decide)]
    refine kb1_of (bos52 hF h h1 h2) ?_
    rw [if_pos (show (0 : Int32) ≤ cmpValue (some .gt) .g by decide)]
  | true =>
    rw [show FP.dcmp x FP.dconst0 = some .lt from dsgn h]
    have hd := dneg0 h
    simp only [kj1]
    rw [if_neg (show ¬ (0 : Int32) ≤ cmpValue (some .lt) .g by decide), if_pos (N64_q hd)]
    refine kb1_of (bos52 hF hd h1 h2) ?_
    rw [if_neg (show ¬ (0 : Int32) ≤ cmpValue (some .lt) .g by decide)]
    obtain ⟨g1, g2, g3, g4, g5⟩ := h
    congr 1
    have hv : ∃ r : Nat, nV false P c = (r : Int) ∧ r < 2 ^ 63 := ⟨(nV false P c).toNat, by unfold nV; rw [if_neg (show ¬ false = true by decide)]; omega, by unfold nV; rw [if_neg (show ¬ false = true by decide)]; omega⟩
    obtain ⟨r, r1, r2⟩ := hv
    rw [r1, show (-9223372036854775808 : Int64) = zJ ((2 ^ 63 : Nat) : Int) by decide +kernel, jOr (by decide) r2]
    congr 1
    unfold nV at r1 ⊢
    rw [if_neg (show ¬ false = true by decide)] at r1
    rw [if_pos rfl]
    omega
theorem bof_ok {F : Nat} (hF : 1000 ≤ F) {x : UInt32} {s : Bool} {c : Nat} {P : Int} (h : N32 x s c (P - 23)) (h1 : -40 ≤ P) (h2 : P ≤ 22) : f_X11_bitsOfFloat F x = some (zJ (sV s P c)) := by
  unfold f_X11_bitsOfFloat
  cases s with
  | false =>
    rw [show FP.fcmp x FP.fconst0 = some .gt from fsgn h]
    have hd := f2d_n h
    simp only [kj1]
    rw [if_pos (show (0 : Int32) ≤ cmpValue (some .gt) .g by decide), if_pos (N64_q hd)]
    refine kb1_of (bos23 hF hd h1 h2) ?_
    rw [if_pos (show (0 : Int32) ≤ cmpValue (some .gt) .g by decide)]
  | true =>
    rw [show FP.fcmp x FP.fconst0 = some .lt from fsgn h]
    have hn := fneg0 h
    have hd := f2d_n hn
    simp only [kj1]
    rw [if_neg (show ¬ (0 : Int32) ≤ cmpValue (some .lt) .g by decide), if_pos (N32_q hn), if_pos (N64_q hd)]
    refine kb1_of (bos23 hF hd h1 h2) ?_
    rw [if_neg (show ¬ (0 : Int32) ≤ cmpValue (some .lt) .g by decide)]
    obtain ⟨g1, g2, g3, g4, g5⟩ := h
    congr 1
    have hv : ∃ r : Nat, sV false P c = (r : Int) ∧ r < 2 ^ 31 := ⟨(sV false P c).toNat, by unfold sV; rw [if_neg (show ¬ false = true by decide)]; omega, by unfold sV; rw [if_neg (show ¬ false = true by decide)]; omega⟩
    obtain ⟨r, r1, r2⟩ := hv
    rw [r1, show (2147483648 : Int64) = zJ ((2 ^ 31 : Nat) : Int) by decide +kernel, jOr (by decide) r2]
    congr 1
    unfold sV at r1 ⊢
    rw [if_neg (show ¬ false = true by decide)] at r1
    rw [if_pos rfl]
    omega
theorem f2i_n {x : UInt32} {s : Bool} {c : Nat} {q : Int} (h : N32 x s c q) : FP.f2i x = zI (cV s (c * 2 ^ q.toNat / 2 ^ (-q).toNat)) := by
  show Int32.ofInt (FP.Core.toInt (-2 ^ 31) (2 ^ 31 - 1) (FP.Core.val32 x)) = _
  rw [h.1]
  show Int32.ofInt (max (-2 ^ 31) (min (2 ^ 31 - 1) (FP.Core.signed s (c * 2 ^ q.toNat / 2 ^ (-q).toNat)))) = _
  unfold zI cV FP.Core.signed
  rfl
