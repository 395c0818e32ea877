def f_X12_in (x0 : Int64) (x2 : Int64) (x4 : Int64) : Option Int32 :=
  (if x0 < x2 then
  some (0 : Int32)
  else
  (if x4 < x0 then
  some (0 : Int32)
  else
  some (1 : Int32)))

def f_X12_has (x0 : Int32) (x1 : Int32) : Option Int32 :=
  (if ((x0 >>> (x1 &&& 31)) &&& (1 : Int32)) = (1 : Int32) then
  some (1 : Int32)
  else
  some (0 : Int32))

def f_X12_ones (x0 : Int32) : Option Int32 :=
  some (((((x0 &&& (1 : Int32)) + ((x0 >>> ((1 : Int32) &&& 31)) &&& (1 : Int32))) + ((x0 >>> ((2 : Int32) &&& 31)) &&& (1 : Int32))) + ((x0 >>> ((3 : Int32) &&& 31)) &&& (1 : Int32))) + ((x0 >>> ((4 : Int32) &&& 31)) &&& (1 : Int32)))

def L_X12_layOnes_9 (x1 : Int32) : Nat → Int32 → (Nat → Int32) → Option (Nat → Int32)
  | 0, _, _ => none
  | fu + 1, x2, v_w =>
    (if (20 : Int32) ≤ x2 then
    some v_w
    else
    (if (x2 - x2 / (5 : Int32) * (5 : Int32)) = (x2 / (5 : Int32)) then
    (if x1 ≤ (x2 / (5 : Int32)) then
    if kin ((2 : Int32) + x2) 418 then
    kl (upd v_w ((2 : Int32) + x2).toNatClampNeg (0 : Int32)) fun w10 =>
    kl (x2 + (1 : Int32)) fun t11 =>
    L_X12_layOnes_9 x1 fu t11 w10
    else none
    else
    if kin ((2 : Int32) + x2) 418 then
    kl (upd v_w ((2 : Int32) + x2).toNatClampNeg (1 : Int32)) fun w13 =>
    kl (x2 + (1 : Int32)) fun t14 =>
    L_X12_layOnes_9 x1 fu t14 w13
    else none)
    else
    if kin ((2 : Int32) + x2) 418 then
    kl (upd v_w ((2 : Int32) + x2).toNatClampNeg (0 : Int32)) fun w6 =>
    kl (x2 + (1 : Int32)) fun t7 =>
    L_X12_layOnes_9 x1 fu t7 w6
    else none))

def f_X12_layOnes (F : Nat) (v_w : (Nat → Int32)) (x1 : Int32) : Option (Nat → Int32) :=
  kl (upd v_w (0 : Int32).toNatClampNeg x1) fun w2 =>
  kb1 (L_X12_layOnes_9 x1 F (0 : Int32) w2) fun w15 =>
  some w15

def L_X12_copyRow_2 (x1 : Int32) (x2 : Int32) : Nat → Int32 → (Nat → Int32) → Option (Nat → Int32)
  | 0, _, _ => none
  | fu + 1, x3, v_w =>
    (if (22 : Int32) ≤ x3 then
    some v_w
    else
    if kin (x1 + x3) 418 then
    if kin (x2 + x3) 418 then
    kl (upd v_w (x2 + x3).toNatClampNeg (v_w (x1 + x3).toNatClampNeg)) fun w4 =>
    kl (x3 + (1 : Int32)) fun t5 =>
    L_X12_copyRow_2 x1 x2 fu t5 w4
    else none
    else none)

def f_X12_copyRow (F : Nat) (v_w : (Nat → Int32)) (x1 : Int32) (x2 : Int32) : Option (Nat → Int32) :=
  kb1 (L_X12_copyRow_2 x1 x2 F (0 : Int32) v_w) fun w6 =>
  some w6

def L_X12_remember_3 (F : Nat) : Nat → Int32 → (Nat → Int32) → Option (Nat → Int32)
  | 0, _, _ => none
  | fu + 1, x1, v_w =>
    (if x1 ≤ 0 then
    some v_w
    else
    kb1 (f_X12_copyRow F v_w ((22 : Int32) * (x1 - (1 : Int32))) ((22 : Int32) * x1)) fun w2 =>
    kl (x1 + (-1 : Int32)) fun t4 =>
    L_X12_remember_3 F fu t4 w2)

def f_X12_remember (F : Nat) (v_known : Int32) (v_w : (Nat → Int32)) : Option (Int32 × (Nat → Int32)) :=
  kb1 (L_X12_remember_3 F F (16 : Int32) v_w) fun w5 =>
  (if (16 : Int32) ≤ v_known then
  some ((16 : Int32), w5)
  else
  kl (v_known + (1 : Int32)) fun t7 =>
  some (t7, w5))

def f_X12_n (v_w : (Nat → Int32)) : Option Int32 :=
  some (v_w (0 : Int32).toNatClampNeg)

def f_X12_cell (v_w : (Nat → Int32)) (x1 : Int32) (x2 : Int32) : Option Int64 :=
  if kin (((2 : Int32) + ((5 : Int32) * x1)) + x2) 418 then
  some ((v_w (((2 : Int32) + ((5 : Int32) * x1)) + x2).toNatClampNeg).toInt64)
  else none

def f_X12_set (v_w : (Nat → Int32)) (x1 : Int32) (x2 : Int32) (x3 : Int32) : Option (Nat → Int32) :=
  if kin (((2 : Int32) + ((5 : Int32) * x1)) + x2) 418 then
  kl (upd v_w (((2 : Int32) + ((5 : Int32) * x1)) + x2).toNatClampNeg x3) fun w2 =>
  some w2
  else none

def L_X12_isPrime_4 (x0 : Int32) : Nat → Int32 → Int32 → Option Int32
  | 0, _, _ => none
  | fu + 1, x1, x2 =>
    (if x0 ≤ x2 then
    some x1
    else
    (if x1 = 0 then
    kl (x2 + (1 : Int32)) fun t3 =>
    L_X12_isPrime_4 x0 fu (0 : Int32) t3
    else
    if ¬ x2 = 0 then
    (if (x0 - x0 / x2 * x2) = 0 then
    kl (x2 + (1 : Int32)) fun t6 =>
    L_X12_isPrime_4 x0 fu (0 : Int32) t6
    else
    kl (x2 + (1 : Int32)) fun t7 =>
    L_X12_isPrime_4 x0 fu (1 : Int32) t7)
    else none))

def f_X12_isPrime (F : Nat) (x0 : Int32) : Option Int32 :=
  kb1 (L_X12_isPrime_4 x0 F (1 : Int32) (2 : Int32)) fun y8 =>
  if y8 = 0 ∨ y8 = 1 then
  some y8
  else none

def L_X12_p_17 (F : Nat) (x2 : Int32) : Nat → Int32 → Option Int32
  | 0, _ => none
  | fu + 1, x1 =>
    kb1 (f_X12_isPrime F x1) fun r4 =>
    (if r4 = 0 then
    kl (x1 + (1 : Int32)) fun t7 =>
    L_X12_p_17 F x2 fu t7
    else
    some x1)

def L_X12_p_4 (F : Nat) (v_w : (Nat → Int32)) : Nat → Int32 → Int32 → Option Int32
  | 0, _, _ => none
  | fu + 1, x1, x2 =>
    (if (v_w (1 : Int32).toNatClampNeg) < x2 then
    some x1
    else
    kl (x1 + (1 : Int32)) fun t3 =>
    kb1 (L_X12_p_17 F x2 F t3) fun y8 =>
    kl (x2 + (1 : Int32)) fun t9 =>
    L_X12_p_4 F v_w fu y8 t9)

def f_X12_p (F : Nat) (v_w : (Nat → Int32)) : Option Int32 :=
  kb1 (L_X12_p_4 F v_w F (1 : Int32) (0 : Int32)) fun y10 =>
  some y10

def f_X12_e (v_w : (Nat → Int32)) (v_rs : (Nat → Int32)) (v_cs : (Nat → Int32)) (x1 : Int32) (x2 : Int32) : Option Int64 :=
  if kin x1 4 then
  if kin x2 4 then
  kb1 (f_X12_cell v_w (v_rs x1.toNatClampNeg) (v_cs x2.toNatClampNeg)) fun r3 =>
  some r3
  else none
  else none

def f_X12_two (v_w : (Nat → Int32)) (v_rs : (Nat → Int32)) (v_cs : (Nat → Int32)) (x1 : Int32) (x2 : Int32) (x3 : Int32) (x4 : Int32) : Option Int64 :=
  kb1 (f_X12_e v_w v_rs v_cs x1 x3) fun r1 =>
  kb1 (f_X12_e v_w v_rs v_cs x2 x4) fun r3 =>
  kb1 (f_X12_e v_w v_rs v_cs x1 x4) fun r5 =>
  kb1 (f_X12_e v_w v_rs v_cs x2 x3) fun r7 =>
  some ((r1 * r3) - (r5 * r7))

def f_X12_three (v_w : (Nat → Int32)) (v_rs : (Nat → Int32)) (v_cs : (Nat → Int32)) (x1 : Int32) (x2 : Int32) (x3 : Int32) (x4 : Int32) : Option Int64 :=
  kb1 (f_X12_e v_w v_rs v_cs x1 x2) fun r1 =>
  kb1 (f_X12_two v_w v_rs v_cs (x1 + (1 : Int32)) (x1 + (2 : Int32)) x3 x4) fun r3 =>
  kb1 (f_X12_e v_w v_rs v_cs x1 x3) fun r5 =>
  kb1 (f_X12_two v_w v_rs v_cs (x1 + (1 : Int32)) (x1 + (2 : Int32)) x2 x4) fun r7 =>
  kb1 (f_X12_e v_w v_rs v_cs x1 x4) fun r9 =>
  kb1 (f_X12_two v_w v_rs v_cs (x1 + (1 : Int32)) (x1 + (2 : Int32)) x2 x3) fun r11 =>
  some (((r1 * r3) - (r5 * r7)) + (r9 * r11))

def f_X12_det (v_w : (Nat → Int32)) (v_rs : (Nat → Int32)) (v_cs : (Nat → Int32)) (x1 : Int32) : Option Int64 :=
  (if x1 = 0 then
  some (1 : Int64)
  else
  (if x1 = 1 then
  kb1 (f_X12_e v_w v_rs v_cs (0 : Int32) (0 : Int32)) fun r3 =>
  some r3
  else
  (if x1 = 2 then
  kb1 (f_X12_two v_w v_rs v_cs (0 : Int32) (1 : Int32) (0 : Int32) (1 : Int32)) fun r6 =>
  some r6
  else
  (if x1 = 3 then
  kb1 (f_X12_three v_w v_rs v_cs (0 : Int32) (0 : Int32) (1 : Int32) (2 : Int32)) fun r9 =>
  some r9
  else
  kb1 (f_X12_e v_w v_rs v_cs (0 : Int32) (0 : Int32)) fun r11 =>
  kb1 (f_X12_three v_w v_rs v_cs (1 : Int32) (1 : Int32) (2 : Int32) (3 : Int32)) fun r13 =>
  kb1 (f_X12_e v_w v_rs v_cs (0 : Int32) (1 : Int32)) fun r15 =>
  kb1 (f_X12_three v_w v_rs v_cs (1 : Int32) (0 : Int32) (2 : Int32) (3 : Int32)) fun r17 =>
  kb1 (f_X12_e v_w v_rs v_cs (0 : Int32) (2 : Int32)) fun r19 =>
  kb1 (f_X12_three v_w v_rs v_cs (1 : Int32) (0 : Int32) (1 : Int32) (3 : Int32)) fun r21 =>
  kb1 (f_X12_e v_w v_rs v_cs (0 : Int32) (3 : Int32)) fun r23 =>
  kb1 (f_X12_three v_w v_rs v_cs (1 : Int32) (0 : Int32) (1 : Int32) (2 : Int32)) fun r25 =>
  some ((((r11 * r13) - (r15 * r17)) + (r19 * r21)) - (r23 * r25))))))

def L_X12_pick_4 (x0 : Int32) : Nat → Int32 → Int32 → Option (Int32 ⊕ Unit)
  | 0, _, _ => none
  | fu + 1, x2, x3 =>
    (if (5 : Int32) ≤ x3 then
    some (.inr ())
    else
    kb1 (f_X12_has x0 x3) fun r2 =>
    (if r2 = 0 then
    kl (x3 + (1 : Int32)) fun t5 =>
    L_X12_pick_4 x0 fu x2 t5
    else
    (if x2 = 0 then
    some (.inl x3)
    else
    kl (x2 + (-1 : Int32)) fun t7 =>
    kl (x3 + (1 : Int32)) fun t8 =>
    L_X12_pick_4 x0 fu t7 t8)))

def f_X12_pick (F : Nat) (x0 : Int32) (x1 : Int32) : Option Int32 :=
  ks (L_X12_pick_4 x0 F x1 (0 : Int32))
  (kf1 fun y9 =>
  some y9)
  (fun _ =>
  some (0 : Int32))

def L_X12_minor_8 (F : Nat) (x1 : Int32) (x2 : Int32) (x3 : Int32) : Nat → Int32 → (Nat → Int32) → (Nat → Int32) → Option ((Nat → Int32) × (Nat → Int32))
  | 0, _, _, _ => none
  | fu + 1, x4, v_rs, v_cs =>
    (if x3 ≤ x4 then
    some (v_rs, v_cs)
    else
    kb1 (f_X12_pick F x1 x4) fun r4 =>
    if kin x4 4 then
    kl (upd v_rs x4.toNatClampNeg r4) fun w7 =>
    kb1 (f_X12_pick F x2 x4) fun r8 =>
    if kin x4 4 then
    kl (upd v_cs x4.toNatClampNeg r8) fun w11 =>
    kl (x4 + (1 : Int32)) fun t12 =>
    L_X12_minor_8 F x1 x2 x3 fu t12 w7 w11
    else none
    else none)

def f_X12_minor (F : Nat) (v_w : (Nat → Int32)) (v_rs : (Nat → Int32)) (v_cs : (Nat → Int32)) (x1 : Int32) (x2 : Int32) : Option (Int64 × (Nat → Int32) × (Nat → Int32)) :=
  kb1 (f_X12_ones x1) fun r1 =>
  kb2 (L_X12_minor_8 F x1 x2 r1 F (0 : Int32) v_rs v_cs) fun w13 w14 =>
  kb1 (f_X12_det v_w w13 w14 r1) fun r15 =>
  some (r15, w13, w14)

def f_X12_allColumns (v_w : (Nat → Int32)) : Option Int32 :=
  kb1 (f_X12_n v_w) fun r1 =>
  some (((1 : Int32) <<< (r1 &&& 31)) - (1 : Int32))

def f_X12_determinant (F : Nat) (v_w : (Nat → Int32)) (v_rs : (Nat → Int32)) (v_cs : (Nat → Int32)) : Option (Int64 × (Nat → Int32) × (Nat → Int32)) :=
  kb1 (f_X12_allColumns v_w) fun r1 =>
  kb1 (f_X12_allColumns v_w) fun r3 =>
  kb3 (f_X12_minor F v_w v_rs v_cs r1 r3) fun r5 w6 w7 =>
  some (r5, w6, w7)

def L_X12_rankOf_19 (F : Nat) (x1 : Int32) (x2 : Int32) (x4 : Int32) (v_w : (Nat → Int32)) : Nat → Int32 → Int32 → (Nat → Int32) → (Nat → Int32) → Option (Int32 × (Nat → Int32) × (Nat → Int32))
  | 0, _, _, _, _ => none
  | fu + 1, x3, x5, v_rs, v_cs =>
    (if (32 : Int32) ≤ x5 then
    some (x3, v_rs, v_cs)
    else
    kb1 (f_X12_ones x4) fun r5 =>
    (if r5 ≤ x3 then
    some (x3, v_rs, v_cs)
    else
    (if (x5 &&& (x1 ^^^ (-1 : Int32))) = 0 then
    kb1 (f_X12_ones x5) fun r10 =>
    kb1 (f_X12_ones x4) fun r12 =>
    (if r10 = r12 then
    kb3 (f_X12_minor F v_w v_rs v_cs x4 x5) fun r16 w17 w18 =>
    (if x2 = 0 then
    (if r16 = (0 : Int64) then
    kl (x5 + (1 : Int32)) fun t28 =>
    L_X12_rankOf_19 F x1 x2 x4 v_w fu x3 t28 w17 w18
    else
    kb1 (f_X12_ones x4) fun r29 =>
    kl (x5 + (1 : Int32)) fun t31 =>
    L_X12_rankOf_19 F x1 x2 x4 v_w fu r29 t31 w17 w18)
    else
    if ¬ (x2.toInt64) = 0 then
    (if (r16 - r16 / (x2.toInt64) * (x2.toInt64)) = (0 : Int64) then
    kl (x5 + (1 : Int32)) fun t23 =>
    L_X12_rankOf_19 F x1 x2 x4 v_w fu x3 t23 w17 w18
    else
    kb1 (f_X12_ones x4) fun r24 =>
    kl (x5 + (1 : Int32)) fun t26 =>
    L_X12_rankOf_19 F x1 x2 x4 v_w fu r24 t26 w17 w18)
    else none)
    else
    kl (x5 + (1 : Int32)) fun t15 =>
    L_X12_rankOf_19 F x1 x2 x4 v_w fu x3 t15 v_rs v_cs)
    else
    kl (x5 + (1 : Int32)) fun t9 =>
    L_X12_rankOf_19 F x1 x2 x4 v_w fu x3 t9 v_rs v_cs)))

def L_X12_rankOf_5 (F : Nat) (x1 : Int32) (x2 : Int32) (v_w : (Nat → Int32)) : Nat → Int32 → Int32 → (Nat → Int32) → (Nat → Int32) → Option (Int32 × (Nat → Int32) × (Nat → Int32))
  | 0, _, _, _, _ => none
  | fu + 1, x3, x4, v_rs, v_cs =>
    kb1 (f_X12_n v_w) fun r1 =>
    (if ((1 : Int32) <<< (r1 &&& 31)) ≤ x4 then
    some (x3, v_rs, v_cs)
    else
    kb3 (L_X12_rankOf_19 F x1 x2 x4 v_w F x3 (1 : Int32) v_rs v_cs) fun y32 w33 w34 =>
    kl (x4 + (1 : Int32)) fun t35 =>
    L_X12_rankOf_5 F x1 x2 v_w fu y32 t35 w33 w34)

def f_X12_rankOf (F : Nat) (v_w : (Nat → Int32)) (v_rs : (Nat → Int32)) (v_cs : (Nat → Int32)) (x1 : Int32) (x2 : Int32) : Option (Int32 × (Nat → Int32) × (Nat → Int32)) :=
  kb3 (L_X12_rankOf_5 F x1 x2 v_w F (0 : Int32) (1 : Int32) v_rs v_cs) fun y36 w37 w38 =>
  some (y36, w37, w38)

def f_X12_rank (F : Nat) (v_w : (Nat → Int32)) (v_rs : (Nat → Int32)) (v_cs : (Nat → Int32)) : Option (Int32 × (Nat → Int32) × (Nat → Int32)) :=
  kb3 (f_X12_determinant F v_w v_rs v_cs) fun r1 w2 w3 =>
  (if r1 = (0 : Int64) then
  kb1 (f_X12_allColumns v_w) fun r6 =>
  kb3 (f_X12_rankOf F v_w w2 w3 r6 (0 : Int32)) fun r8 w9 w10 =>
  some (r8, w9, w10)
  else
  kb1 (f_X12_n v_w) fun r12 =>
  some (r12, w2, w3))

def f_X12_wideRank (F : Nat) (v_w : (Nat → Int32)) (v_rs : (Nat → Int32)) (v_cs : (Nat → Int32)) (x1 : Int32) : Option (Int32 × (Nat → Int32) × (Nat → Int32)) :=
  kb1 (f_X12_allColumns v_w) fun r1 =>
  kb3 (f_X12_rankOf F v_w v_rs v_cs (r1 ||| (16 : Int32)) x1) fun r3 w4 w5 =>
  some (r3, w4, w5)

def L_X12_leading_18 (F : Nat) (v_w : (Nat → Int32)) : Nat → Int32 → Int32 → (Nat → Int32) → (Nat → Int32) → Option (Int32 × (Nat → Int32) × (Nat → Int32))
  | 0, _, _, _, _ => none
  | fu + 1, x1, x2, v_rs, v_cs =>
    kb1 (f_X12_n v_w) fun r6 =>
    (if r6 ≤ x2 then
    some (x1, v_rs, v_cs)
    else
    kb3 (f_X12_rankOf F v_w v_rs v_cs (((2 : Int32) <<< (x2 &&& 31)) - (1 : Int32)) (0 : Int32)) fun r9 w10 w11 =>
    kb3 (f_X12_rankOf F v_w w10 w11 (((1 : Int32) <<< (x2 &&& 31)) - (1 : Int32)) (0 : Int32)) fun r13 w14 w15 =>
    (if r9 ≤ r13 then
    kl (x1 ||| (0 : Int32)) fun t18 =>
    kl (x2 + (1 : Int32)) fun t19 =>
    L_X12_leading_18 F v_w fu t18 t19 w14 w15
    else
    kl (x1 ||| ((1 : Int32) <<< (x2 &&& 31))) fun t20 =>
    kl (x2 + (1 : Int32)) fun t21 =>
    L_X12_leading_18 F v_w fu t20 t21 w14 w15))

def f_X12_leading (F : Nat) (v_w : (Nat → Int32)) (v_rs : (Nat → Int32)) (v_cs : (Nat → Int32)) : Option (Int32 × (Nat → Int32) × (Nat → Int32)) :=
  kb3 (f_X12_determinant F v_w v_rs v_cs) fun r1 w2 w3 =>
  (if r1 = (0 : Int64) then
  kb3 (L_X12_leading_18 F v_w F (0 : Int32) (0 : Int32) w2 w3) fun y22 w23 w24 =>
  some (y22, w23, w24)
  else
  kb1 (f_X12_allColumns v_w) fun r25 =>
  some (r25, w2, w3))

def L_X12_rowsFor_14 (F : Nat) (x1 : Int32) (v_w : (Nat → Int32)) : Nat → Int32 → Int32 → (Nat → Int32) → (Nat → Int32) → Option (Int32 × (Nat → Int32) × (Nat → Int32))
  | 0, _, _, _, _ => none
  | fu + 1, x2, x3, v_rs, v_cs =>
    kb1 (f_X12_n v_w) fun r4 =>
    (if ((1 : Int32) <<< (r4 &&& 31)) ≤ x3 then
    some (x2, v_rs, v_cs)
    else
    kb1 (f_X12_ones x3) fun r7 =>
    kb1 (f_X12_ones x1) fun r9 =>
    (if r7 = r9 then
    kb3 (f_X12_minor F v_w v_rs v_cs x3 x1) fun r13 w14 w15 =>
    (if r13 = (0 : Int64) then
    kl (x3 + (1 : Int32)) fun t18 =>
    L_X12_rowsFor_14 F x1 v_w fu x2 t18 w14 w15
    else
    kl (x3 + (1 : Int32)) fun t19 =>
    L_X12_rowsFor_14 F x1 v_w fu x3 t19 w14 w15)
    else
    kl (x3 + (1 : Int32)) fun t12 =>
    L_X12_rowsFor_14 F x1 v_w fu x2 t12 v_rs v_cs))

def f_X12_rowsFor (F : Nat) (v_w : (Nat → Int32)) (v_rs : (Nat → Int32)) (v_cs : (Nat → Int32)) (x1 : Int32) : Option (Int32 × (Nat → Int32) × (Nat → Int32)) :=
  kb1 (f_X12_allColumns v_w) fun r1 =>
  (if x1 = r1 then
  some (x1, v_rs, v_cs)
  else
  kb3 (L_X12_rowsFor_14 F x1 v_w F (0 : Int32) (0 : Int32) v_rs v_cs) fun y20 w21 w22 =>
  some (y20, w21, w22))

def L_X12_divisor_28  : Nat → Int64 → Int64 → Option Int64
  | 0, _, _ => none
  | fu + 1, x4, x6 =>
    (if x6 = (0 : Int64) then
    some x4
    else
    if ¬ x6 = 0 then
    kl (x4 - x4 / x6 * x6) fun t6 =>
    L_X12_divisor_28 fu x6 t6
    else none)

def f_X12_divisor (F : Nat) (x0 : Int64) (x2 : Int64) : Option Int64 :=
  kj1 (fun (t1 : Int64) =>
  (if (0 : Int64) ≤ x2 then
  kb1 (L_X12_divisor_28 F t1 x2) fun y7 =>
  some y7
  else
  kl (-x2) fun t8 =>
  kb1 (L_X12_divisor_28 F t1 t8) fun y9 =>
  some y9)) fun J2 =>
  (if (0 : Int64) ≤ x0 then
  J2 x0
  else
  J2 (-x0))

def f_X12_layFraction (F : Nat) (v_above : Int64) (v_below : Int64) (x1 : Int64) (x3 : Int64) : Option (Int64 × Int64) :=
  kb1 (f_X12_divisor F x1 x3) fun r1 =>
  (if (0 : Int64) ≤ x3 then
  if ¬ r1 = 0 then
  kl (x1 / r1) fun t5 =>
  if ¬ r1 = 0 then
  kl (x3 / r1) fun t7 =>
  some (t5, t7)
  else none
  else none
  else
  kl (-r1) fun t8 =>
  if ¬ t8 = 0 then
  kl (x1 / t8) fun t10 =>
  if ¬ t8 = 0 then
  kl (x3 / t8) fun t12 =>
  some (t10, t12)
  else none
  else none)

def L_X12_layShare_31 (F : Nat) (x1 : Int32) (x2 : Int32) (x3 : Int32) (x4 : Int32) (x5 : Int64) (x7 : Int32) : Nat → Int32 → (Nat → Int32) → (Nat → Int32) → Option ((Nat → Int32) × (Nat → Int32))
  | 0, _, _, _ => none
  | fu + 1, x8, v_rs, v_cs =>
    (if x7 ≤ x8 then
    some (v_rs, v_cs)
    else
    kb1 (f_X12_pick F x4 x8) fun r16 =>
    if kin x8 4 then
    kl (upd v_rs x8.toNatClampNeg r16) fun w19 =>
    (if x8 = x1 then
    if kin x8 4 then
    kl (upd v_cs x8.toNatClampNeg x2) fun w27 =>
    kl (x8 + (1 : Int32)) fun t28 =>
    L_X12_layShare_31 F x1 x2 x3 x4 x5 x7 fu t28 w19 w27
    else none
    else
    kb1 (f_X12_pick F x3 x8) fun r21 =>
    if kin x8 4 then
    kl (upd v_cs x8.toNatClampNeg r21) fun w24 =>
    kl (x8 + (1 : Int32)) fun t25 =>
    L_X12_layShare_31 F x1 x2 x3 x4 x5 x7 fu t25 w19 w24
    else none)
    else none)

def f_X12_layShare (F : Nat) (v_above : Int64) (v_below : Int64) (v_w : (Nat → Int32)) (v_rs : (Nat → Int32)) (v_cs : (Nat → Int32)) (x1 : Int32) (x2 : Int32) : Option (Int64 × Int64 × (Nat → Int32) × (Nat → Int32)) :=
  kb3 (f_X12_leading F v_w v_rs v_cs) fun r1 w2 w3 =>
  kb3 (f_X12_rowsFor F v_w w2 w3 r1) fun r5 w6 w7 =>
  kb3 (f_X12_minor F v_w w6 w7 r5 r1) fun r9 w10 w11 =>
  kb1 (f_X12_ones r5) fun r13 =>
  kb2 (L_X12_layShare_31 F x1 x2 r1 r5 r9 r13 F (0 : Int32) w10 w11) fun w29 w30 =>
  kb1 (f_X12_det v_w w29 w30 r13) fun r31 =>
  kb2 (f_X12_layFraction F v_above v_below r31 r9) fun w33 w34 =>
  some (w33, w34, w29, w30)

def L_X12_broken_17 (F : Nat) (x1 : Int32) (x2 : Int32) (v_w : (Nat → Int32)) : Nat → Int32 → Int32 → Int64 → Int64 → (Nat → Int32) → (Nat → Int32) → Option (Int32 × Int64 × Int64 × (Nat → Int32) × (Nat → Int32))
  | 0, _, _, _, _, _, _ => none
  | fu + 1, x3, x4, v_above, v_below, v_rs, v_cs =>
    kb1 (f_X12_n v_w) fun r6 =>
    (if r6 ≤ x4 then
    some (x3, v_above, v_below, v_rs, v_cs)
    else
    kb4 (f_X12_layShare F v_above v_below v_w v_rs v_cs x2 x4) fun w9 w10 w11 w12 =>
    (if x3 = 0 then
    (if w10 = (1 : Int64) then
    kl (x4 + (1 : Int32)) fun t17 =>
    L_X12_broken_17 F x1 x2 v_w fu (0 : Int32) t17 w9 w10 w11 w12
    else
    kl (x4 + (1 : Int32)) fun t18 =>
    L_X12_broken_17 F x1 x2 v_w fu (1 : Int32) t18 w9 w10 w11 w12)
    else
    kl (x4 + (1 : Int32)) fun t15 =>
    L_X12_broken_17 F x1 x2 v_w fu (1 : Int32) t15 w9 w10 w11 w12))

def L_X12_broken_4 (F : Nat) (v_w : (Nat → Int32)) : Nat → Int32 → Int32 → Int64 → Int64 → (Nat → Int32) → (Nat → Int32) → Option (Int32 × Int64 × Int64 × (Nat → Int32) × (Nat → Int32))
  | 0, _, _, _, _, _, _ => none
  | fu + 1, x1, x2, v_above, v_below, v_rs, v_cs =>
    kb3 (f_X12_rank F v_w v_rs v_cs) fun r1 w2 w3 =>
    (if r1 ≤ x2 then
    some (x1, v_above, v_below, w2, w3)
    else
    kb5 (L_X12_broken_17 F x1 x2 v_w F (0 : Int32) (0 : Int32) v_above v_below w2 w3) fun y19 w20 w21 w22 w23 =>
    (if y19 = 0 then
    kl (x1 + (0 : Int32)) fun t25 =>
    kl (x2 + (1 : Int32)) fun t26 =>
    L_X12_broken_4 F v_w fu t25 t26 w20 w21 w22 w23
    else
    kl (x1 + (1 : Int32)) fun t27 =>
    kl (x2 + (1 : Int32)) fun t28 =>
    L_X12_broken_4 F v_w fu t27 t28 w20 w21 w22 w23))

def f_X12_broken (F : Nat) (v_above : Int64) (v_below : Int64) (v_w : (Nat → Int32)) (v_rs : (Nat → Int32)) (v_cs : (Nat → Int32)) : Option (Int32 × Int64 × Int64 × (Nat → Int32) × (Nat → Int32)) :=
  kb5 (L_X12_broken_4 F v_w F (0 : Int32) (0 : Int32) v_above v_below v_rs v_cs) fun y29 w30 w31 w32 w33 =>
  some (y29, w30, w31, w32, w33)

def f_X12_kind (F : Nat) (v_w : (Nat → Int32)) (v_rs : (Nat → Int32)) (v_cs : (Nat → Int32)) : Option (Int32 × (Nat → Int32) × (Nat → Int32)) :=
  kb3 (f_X12_rank F v_w v_rs v_cs) fun r1 w2 w3 =>
  kb3 (f_X12_wideRank F v_w w2 w3 (0 : Int32)) fun r5 w6 w7 =>
  (if r5 ≤ r1 then
  kb1 (f_X12_n v_w) fun r10 =>
  (if r1 = r10 then
  some ((1 : Int32), w6, w7)
  else
  some ((2 : Int32), w6, w7))
  else
  some ((0 : Int32), w6, w7))

def f_X12_laySolution (F : Nat) (v_above : Int64) (v_below : Int64) (v_w : (Nat → Int32)) (v_rs : (Nat → Int32)) (v_cs : (Nat → Int32)) (x1 : Int32) : Option (Int64 × Int64 × (Nat → Int32) × (Nat → Int32)) :=
  kb3 (f_X12_leading F v_w v_rs v_cs) fun r1 w2 w3 =>
  kb1 (f_X12_has r1 x1) fun r5 =>
  (if r5 = 0 then
  kb2 (f_X12_layFraction F v_above v_below (0 : Int64) (1 : Int64)) fun w8 w9 =>
  some (w8, w9, w2, w3)
  else
  kb1 (f_X12_ones (r1 &&& (((1 : Int32) <<< (x1 &&& 31)) - (1 : Int32)))) fun r11 =>
  kb4 (f_X12_layShare F v_above v_below v_w w2 w3 r11 (4 : Int32)) fun w13 w14 w15 w16 =>
  some (w13, w14, w15, w16))

def L_X12_layNothing_7 (x1 : Int32) : Nat → Int32 → Option Int32
  | 0, _ => none
  | fu + 1, x2 =>
    kb1 (f_X12_has x1 x2) fun r5 =>
    (if r5 = 0 then
    some x2
    else
    kl (x2 + (1 : Int32)) fun t8 =>
    L_X12_layNothing_7 x1 fu t8)

def L_X12_layNothing_26 (F : Nat) (x1 : Int32) (x2 : Int32) (v_w : (Nat → Int32)) : Nat → Int64 → Int32 → Int64 → Int64 → (Nat → Int32) → (Nat → Int32) → Option (Int64 × Int64 × Int64 × (Nat → Int32) × (Nat → Int32))
  | 0, _, _, _, _, _, _ => none
  | fu + 1, x3, x5, v_above, v_below, v_rs, v_cs =>
    kb1 (f_X12_ones x1) fun r10 =>
    (if r10 ≤ x5 then
    some (x3, v_above, v_below, v_rs, v_cs)
    else
    kb4 (f_X12_layShare F v_above v_below v_w v_rs v_cs x5 x2) fun w13 w14 w15 w16 =>
    kb1 (f_X12_divisor F x3 w14) fun r18 =>
    if ¬ r18 = 0 then
    kl ((x3 / r18) * w14) fun t21 =>
    kl (x5 + (1 : Int32)) fun t22 =>
    L_X12_layNothing_26 F x1 x2 v_w fu t21 t22 w13 w14 w15 w16
    else none)

def L_X12_layNothing_67 (x1 : Int32) (x2 : Int32) (x3 : Int64) (v_w : (Nat → Int32)) : Nat → Int32 → (Nat → Int64) → Option (Nat → Int64)
  | 0, _, _ => none
  | fu + 1, x5, v_zs =>
    kb1 (f_X12_n v_w) fun r28 =>
    (if r28 ≤ x5 then
    some v_zs
    else
    (if x5 = x2 then
    if kin x5 4 then
    kl (vp_updL v_zs x5.toNatClampNeg x3) fun w36 =>
    kl (x5 + (1 : Int32)) fun t37 =>
    L_X12_layNothing_67 x1 x2 x3 v_w fu t37 w36
    else none
    else
    if kin x5 4 then
    kl (vp_updL v_zs x5.toNatClampNeg (0 : Int64)) fun w33 =>
    kl (x5 + (1 : Int32)) fun t34 =>
    L_X12_layNothing_67 x1 x2 x3 v_w fu t34 w33
    else none))

def L_X12_layNothing_103 (F : Nat) (x1 : Int32) (x2 : Int32) (x3 : Int64) (v_w : (Nat → Int32)) : Nat → Int32 → Int64 → Int64 → (Nat → Int32) → (Nat → Int32) → (Nat → Int64) → Option (Int64 × Int64 × (Nat → Int32) × (Nat → Int32) × (Nat → Int64))
  | 0, _, _, _, _, _, _ => none
  | fu + 1, x5, v_above, v_below, v_rs, v_cs, v_zs =>
    kb1 (f_X12_ones x1) fun r39 =>
    (if r39 ≤ x5 then
    some (v_above, v_below, v_rs, v_cs, v_zs)
    else
    kb4 (f_X12_layShare F v_above v_below v_w v_rs v_cs x5 x2) fun w42 w43 w44 w45 =>
    kb1 (f_X12_pick F x1 x5) fun r47 =>
    if ¬ w43 = 0 then
    if kin r47 4 then
    kl (vp_updL v_zs r47.toNatClampNeg ((-w42) * (x3 / w43))) fun w51 =>
    kl (x5 + (1 : Int32)) fun t52 =>
    L_X12_layNothing_103 F x1 x2 x3 v_w fu t52 w42 w43 w44 w45 w51
    else none
    else none)

def f_X12_layNothing (F : Nat) (v_above : Int64) (v_below : Int64) (v_w : (Nat → Int32)) (v_rs : (Nat → Int32)) (v_cs : (Nat → Int32)) (v_zs : (Nat → Int64)) : Option (Int64 × Int64 × (Nat → Int32) × (Nat → Int32) × (Nat → Int64)) :=
  kb3 (f_X12_leading F v_w v_rs v_cs) fun r1 w2 w3 =>
  kb1 (L_X12_layNothing_7 r1 F (0 : Int32)) fun y9 =>
  kb5 (L_X12_layNothing_26 F r1 y9 v_w F (1 : Int64) (0 : Int32) v_above v_below w2 w3) fun y23 w24 w25 w26 w27 =>
  kb1 (L_X12_layNothing_67 r1 y9 y23 v_w F (0 : Int32) v_zs) fun w38 =>
  kb5 (L_X12_layNothing_103 F r1 y9 y23 v_w F (0 : Int32) w24 w25 w26 w27 w38) fun w53 w54 w55 w56 w57 =>
  some (w53, w54, w55, w56, w57)

def f_X12_isBad (F : Nat) (v_w : (Nat → Int32)) (v_rs : (Nat → Int32)) (v_cs : (Nat → Int32)) : Option (Int32 × (Nat → Int32) × (Nat → Int32)) :=
  kb3 (f_X12_determinant F v_w v_rs v_cs) fun r1 w2 w3 =>
  kb1 (f_X12_p F v_w) fun r5 =>
  if ¬ (r5.toInt64) = 0 then
  (if (r1 - r1 / (r5.toInt64) * (r5.toInt64)) = (0 : Int64) then
  some ((1 : Int32), w2, w3)
  else
  some ((0 : Int32), w2, w3))
  else none

def L_X12_badMany_10 (F : Nat) (x2 : Int64) : Nat → Int32 → Int32 → Option Int32
  | 0, _, _ => none
  | fu + 1, x1, x4 =>
    (if (98 : Int32) ≤ x4 then
    some x1
    else
    kb1 (f_X12_isPrime F x4) fun r6 =>
    (if r6 = 0 then
    kl (x1 + (0 : Int32)) fun t9 =>
    kl (x4 + (1 : Int32)) fun t10 =>
    L_X12_badMany_10 F x2 fu t9 t10
    else
    if ¬ (x4.toInt64) = 0 then
    (if (x2 - x2 / (x4.toInt64) * (x4.toInt64)) = (0 : Int64) then
    kl (x1 + (1 : Int32)) fun t15 =>
    kl (x4 + (1 : Int32)) fun t16 =>
    L_X12_badMany_10 F x2 fu t15 t16
    else
    kl (x1 + (0 : Int32)) fun t13 =>
    kl (x4 + (1 : Int32)) fun t14 =>
    L_X12_badMany_10 F x2 fu t13 t14)
    else none))

def f_X12_badMany (F : Nat) (v_w : (Nat → Int32)) (v_rs : (Nat → Int32)) (v_cs : (Nat → Int32)) : Option (Int32 × (Nat → Int32) × (Nat → Int32)) :=
  kb3 (f_X12_determinant F v_w v_rs v_cs) fun r1 w2 w3 =>
  kb1 (L_X12_badMany_10 F r1 F (0 : Int32) (2 : Int32)) fun y17 =>
  some (y17, w2, w3)

def f_X12_leftOver (x0 : Int64) (x2 : Int64) : Option Int64 :=
  if ¬ x2 = 0 then
  if ¬ x2 = 0 then
  some (((x0 - x0 / x2 * x2) + x2) - ((x0 - x0 / x2 * x2) + x2) / x2 * x2)
  else none
  else none

def L_X12_waysNow_33 (x1 : Int32) (v_w : (Nat → Int32)) : Nat → Int32 → Int32 → Option Int32
  | 0, _, _ => none
  | fu + 1, x3, x4 =>
    kb1 (f_X12_n v_w) fun r14 =>
    (if r14 ≤ x4 then
    some x3
    else
    kl (x3 * x1) fun t17 =>
    kl (x4 + (1 : Int32)) fun t18 =>
    L_X12_waysNow_33 x1 v_w fu t17 t18)

def f_X12_waysNow (F : Nat) (v_w : (Nat → Int32)) (v_rs : (Nat → Int32)) (v_cs : (Nat → Int32)) : Option (Int32 × (Nat → Int32) × (Nat → Int32)) :=
  kb1 (f_X12_p F v_w) fun r1 =>
  kb1 (f_X12_allColumns v_w) fun r3 =>
  kb3 (f_X12_rankOf F v_w v_rs v_cs r3 r1) fun r5 w6 w7 =>
  kb3 (f_X12_wideRank F v_w w6 w7 r1) fun r9 w10 w11 =>
  (if r9 ≤ r5 then
  kb1 (L_X12_waysNow_33 r1 v_w F (1 : Int32) r5) fun y19 =>
  some (y19, w10, w11)
  else
  kb1 (L_X12_waysNow_33 r1 v_w F (0 : Int32) r5) fun y20 =>
  some (y20, w10, w11))

def L_X12_inverse_6 (x0 : Int64) (x2 : Int64) : Nat → Int64 → Int64 → Option Int64
  | 0, _, _ => none
  | fu + 1, x4, x6 =>
    (if x2 ≤ x6 then
    some x4
    else
    kb1 (f_X12_leftOver x0 x2) fun r2 =>
    if ¬ x2 = 0 then
    (if ((r2 * x6) - (r2 * x6) / x2 * x2) = (1 : Int64) then
    kl (x6 + (1 : Int64)) fun t7 =>
    L_X12_inverse_6 x0 x2 fu x6 t7
    else
    kl (x6 + (1 : Int64)) fun t6 =>
    L_X12_inverse_6 x0 x2 fu x4 t6)
    else none)

def f_X12_inverse (F : Nat) (x0 : Int64) (x2 : Int64) : Option Int64 :=
  kb1 (L_X12_inverse_6 x0 x2 F (1 : Int64) (1 : Int64)) fun y8 =>
  some y8

def f_X12_backOf (F : Nat) (v_w : (Nat → Int32)) (v_rs : (Nat → Int32)) (v_cs : (Nat → Int32)) (x1 : Int32) (x2 : Int32) : Option (Int64 × (Nat → Int32) × (Nat → Int32)) :=
  kb1 (f_X12_p F v_w) fun r1 =>
  kl (r1.toInt64) fun t3 =>
  kb1 (f_X12_allColumns v_w) fun r4 =>
  kb1 (f_X12_allColumns v_w) fun r6 =>
  kb3 (f_X12_minor F v_w v_rs v_cs (r4 &&& (((1 : Int32) <<< (x2 &&& 31)) ^^^ (-1 : Int32))) (r6 &&& (((1 : Int32) <<< (x1 &&& 31)) ^^^ (-1 : Int32)))) fun r8 w9 w10 =>
  kj1 (fun (t12 : Int64) =>
  kb1 (f_X12_leftOver t12 t3) fun r14 =>
  kb3 (f_X12_determinant F v_w w9 w10) fun r16 w17 w18 =>
  kb1 (f_X12_inverse F r16 t3) fun r20 =>
  if ¬ t3 = 0 then
  some (((r14 * r20) - (r14 * r20) / t3 * t3), w17, w18)
  else none) fun J13 =>
  (if ((x1 + x2) - (x1 + x2) / (2 : Int32) * (2 : Int32)) = 0 then
  J13 r8
  else
  J13 (-r8))

def L_X12_digitOf_43 (x2 : Int32) (x3 : Int64) (x5 : Int64) (v_leftBelow : Int64) : Nat → Int64 → Int32 → Int64 → Option (Int64 × Int64)
  | 0, _, _, _ => none
  | fu + 1, x7, x9, v_leftAbove =>
    (if x2 < x9 then
    some (x7, v_leftAbove)
    else
    kb1 (f_X12_leftOver v_leftAbove x3) fun r12 =>
    if ¬ x3 = 0 then
    kl ((r12 * x5) - (r12 * x5) / x3 * x3) fun t15 =>
    if ¬ x3 = 0 then
    kl ((v_leftAbove - (t15 * v_leftBelow)) / x3) fun t17 =>
    kl (x9 + (1 : Int32)) fun t18 =>
    L_X12_digitOf_43 x2 x3 x5 v_leftBelow fu t15 t18 t17
    else none
    else none)

def f_X12_digitOf (F : Nat) (v_above : Int64) (v_below : Int64) (v_leftAbove : Int64) (v_leftBelow : Int64) (v_w : (Nat → Int32)) (v_rs : (Nat → Int32)) (v_cs : (Nat → Int32)) (x1 : Int32) (x2 : Int32) : Option (Int32 × Int64 × Int64 × Int64 × Int64 × (Nat → Int32) × (Nat → Int32)) :=
  kb1 (f_X12_p F v_w) fun r1 =>
  kl (r1.toInt64) fun t3 =>
  kb4 (f_X12_laySolution F v_above v_below v_w v_rs v_cs x1) fun w4 w5 w6 w7 =>
  kb1 (f_X12_inverse F w5 t3) fun r9 =>
  kb2 (L_X12_digitOf_43 x2 t3 r9 w5 F (0 : Int64) (0 : Int32) w4) fun y19 w20 =>
  some ((y19.toInt32), w4, w5, w20, w5, w6, w7)

def L_X12_restOf_22 (F : Nat) (x1 : Int32) (x2 : Int32) (x3 : Int64) (v_w : (Nat → Int32)) : Nat → Int64 → Int32 → Int64 → Int64 → Int64 → Int64 → (Nat → Int32) → (Nat → Int32) → Option (Int64 × Int64 × Int64 × Int64 × Int64 × (Nat → Int32) × (Nat → Int32))
  | 0, _, _, _, _, _, _, _, _ => none
  | fu + 1, x5, x7, v_above, v_below, v_leftAbove, v_leftBelow, v_rs, v_cs =>
    kb1 (f_X12_n v_w) fun r6 =>
    (if r6 ≤ x7 then
    some (x5, v_above, v_below, v_leftAbove, v_leftBelow, v_rs, v_cs)
    else
    kb7 (f_X12_digitOf F v_above v_below v_leftAbove v_leftBelow v_w v_rs v_cs x7 (x2 - (1 : Int32))) fun r9 w10 w11 w12 w13 w14 w15 =>
    (if 0 ≤ r9 then
    kb1 (f_X12_cell v_w x1 x7) fun r18 =>
    if ¬ w13 = 0 then
    kl (x5 + ((r18 * w12) * (x3 / w13))) fun t21 =>
    kl (x7 + (1 : Int32)) fun t22 =>
    L_X12_restOf_22 F x1 x2 x3 v_w fu t21 t22 w10 w11 w12 w13 w14 w15
    else none
    else
    kl (x5 + (0 : Int64)) fun t23 =>
    kl (x7 + (1 : Int32)) fun t24 =>
    L_X12_restOf_22 F x1 x2 x3 v_w fu t23 t24 w10 w11 w12 w13 w14 w15))

def f_X12_restOf (F : Nat) (v_above : Int64) (v_below : Int64) (v_leftAbove : Int64) (v_leftBelow : Int64) (v_w : (Nat → Int32)) (v_rs : (Nat → Int32)) (v_cs : (Nat → Int32)) (x1 : Int32) (x2 : Int32) : Option (Int64 × Int64 × Int64 × Int64 × Int64 × (Nat → Int32) × (Nat → Int32)) :=
  (if x2 = 0 then
  kb1 (f_X12_cell v_w x1 (4 : Int32)) fun r33 =>
  some (r33, v_above, v_below, v_leftAbove, v_leftBelow, v_rs, v_cs)
  else
  kb3 (f_X12_determinant F v_w v_rs v_cs) fun r2 w3 w4 =>
  kb7 (L_X12_restOf_22 F x1 x2 r2 v_w F (0 : Int64) (0 : Int32) v_above v_below v_leftAbove v_leftBelow w3 w4) fun y25 w26 w27 w28 w29 w30 w31 =>
  if ¬ r2 = 0 then
  some ((y25 / r2), w26, w27, w28, w29, w30, w31)
  else none)

def L_X12_power_5 (x0 : Int64) (x2 : Int32) : Nat → Int64 → Int32 → Option Int64
  | 0, _, _ => none
  | fu + 1, x3, x5 =>
    (if x2 ≤ x5 then
    some x3
    else
    (if x3 ≤ (0 : Int64) then
    some x3
    else
    if ¬ x0 = 0 then
    (if x3 ≤ ((2000000000000000000 : Int64) / x0) then
    kl (x3 * x0) fun t5 =>
    kl (x5 + (1 : Int32)) fun t6 =>
    L_X12_power_5 x0 x2 fu t5 t6
    else
    kl (x5 + (1 : Int32)) fun t7 =>
    L_X12_power_5 x0 x2 fu (0 : Int64) t7)
    else none))

def f_X12_power (F : Nat) (x0 : Int64) (x2 : Int32) : Option Int64 :=
  kb1 (L_X12_power_5 x0 x2 F (1 : Int64) (0 : Int32)) fun y8 =>
  some y8

def L_X12_halfRoot_6 (x0 : Int64) : Nat → Int64 → Int32 → Option Int64
  | 0, _, _ => none
  | fu + 1, x2, x4 =>
    (if x4 < 0 then
    some x2
    else
    kl (x2 + ((1 : Int64) <<< (x4.toInt64 &&& 63))) fun t2 =>
    (if x0 ≤ (((2 : Int64) * t2) * t2) then
    kl (x4 + (-1 : Int32)) fun t4 =>
    L_X12_halfRoot_6 x0 fu x2 t4
    else
    kl (x4 + (-1 : Int32)) fun t5 =>
    L_X12_halfRoot_6 x0 fu t2 t5))

def f_X12_halfRoot (F : Nat) (x0 : Int64) : Option Int64 :=
  kb1 (L_X12_halfRoot_6 x0 F (0 : Int64) (30 : Int32)) fun y6 =>
  some y6

def L_X12_firstDigits_36 (x2 : Int32) (x3 : Int64) (x5 : Int64) (v_below : Int64) : Nat → Int64 → Int64 → Int64 → Int32 → Option Int64
  | 0, _, _, _, _ => none
  | fu + 1, x7, x9, x11, x13 =>
    (if x2 ≤ x13 then
    some x9
    else
    kb1 (f_X12_leftOver x7 x3) fun r12 =>
    if ¬ x3 = 0 then
    kl ((r12 * x5) - (r12 * x5) / x3 * x3) fun t15 =>
    if ¬ x3 = 0 then
    kl ((x7 - (t15 * v_below)) / x3) fun t17 =>
    kl (x9 + (t15 * x11)) fun t18 =>
    kl (x11 * x3) fun t19 =>
    kl (x13 + (1 : Int32)) fun t20 =>
    L_X12_firstDigits_36 x2 x3 x5 v_below fu t17 t18 t19 t20
    else none
    else none)

def f_X12_firstDigits (F : Nat) (v_above : Int64) (v_below : Int64) (v_w : (Nat → Int32)) (v_rs : (Nat → Int32)) (v_cs : (Nat → Int32)) (x1 : Int32) (x2 : Int32) : Option (Int64 × Int64 × Int64 × (Nat → Int32) × (Nat → Int32)) :=
  kb1 (f_X12_p F v_w) fun r1 =>
  kl (r1.toInt64) fun t3 =>
  kb4 (f_X12_laySolution F v_above v_below v_w v_rs v_cs x1) fun w4 w5 w6 w7 =>
  kb1 (f_X12_inverse F w5 t3) fun r9 =>
  kb1 (L_X12_firstDigits_36 x2 t3 r9 w5 F w4 (0 : Int64) (1 : Int64) (0 : Int32)) fun y21 =>
  some (y21, w4, w5, w6, w7)

def L_X12_layGuess_54 (x3 : Int64) (x7 : Int64) : Nat → Int64 → Int64 → Int64 → Int64 → Int64 → Int64 → Int32 → Int64 → Int64 → Option (Int32 × Int64 × Int64)
  | 0, _, _, _, _, _, _, _, _, _ => none
  | fu + 1, x11, x13, x15, x17, x19, x21, x23, v_guessAbove, v_guessBelow =>
    (if x7 < x15 then
    some (x23, v_guessAbove, v_guessBelow)
    else
    (if x23 = 0 then
    kb1 (f_X12_in x19 (-x7) x7) fun r17 =>
    kj1 (fun (t19 : Int32) =>
    (if x11 = (0 : Int64) then
    kl (x7 + (1 : Int64)) fun t32 =>
    L_X12_layGuess_54 x3 x7 fu x11 x13 t32 x17 x19 x21 t19 x19 x15
    else
    if ¬ x11 = 0 then
    kl (x13 / x11) fun t23 =>
    if ¬ x11 = 0 then
    kl (x13 - x13 / x11 * x11) fun t25 =>
    if ¬ x15 = 0 then
    (if t23 ≤ ((x7 - x17) / x15) then
    kl ((t23 * x15) + x17) fun t28 =>
    kl ((t23 * x19) + x21) fun t29 =>
    L_X12_layGuess_54 x3 x7 fu t25 x11 t28 x15 t29 x19 t19 x19 x15
    else
    kl (x7 + (1 : Int64)) fun t30 =>
    kl ((t23 * x19) + x21) fun t31 =>
    L_X12_layGuess_54 x3 x7 fu t25 x11 t30 x15 t31 x19 t19 x19 x15)
    else none
    else none
    else none)) fun J20 =>
    kj0 (
    J20 (0 : Int32)) fun J33 =>
    (if r17 = 0 then
    J33
    else
    if ¬ x3 = 0 then
    (if (x15 - x15 / x3 * x3) = (0 : Int64) then
    J33
    else
    J20 (1 : Int32))
    else none)
    else
    some (x23, v_guessAbove, v_guessBelow)))

def f_X12_layGuess (F : Nat) (v_above : Int64) (v_below : Int64) (v_guessAbove : Int64) (v_guessBelow : Int64) (v_w : (Nat → Int32)) (v_rs : (Nat → Int32)) (v_cs : (Nat → Int32)) (x1 : Int32) (x2 : Int32) : Option (Int32 × Int64 × Int64 × Int64 × Int64 × (Nat → Int32) × (Nat → Int32)) :=
  kb1 (f_X12_p F v_w) fun r1 =>
  kl (r1.toInt64) fun t3 =>
  kb1 (f_X12_power F t3 x2) fun r4 =>
  kb1 (f_X12_halfRoot F r4) fun r6 =>
  kb5 (f_X12_firstDigits F v_above v_below v_w v_rs v_cs x1 x2) fun r8 w9 w10 w11 w12 =>
  kl (-r4) fun t14 =>
  kb3 (L_X12_layGuess_54 t3 r6 F r8 r4 (1 : Int64) (0 : Int64) r8 t14 (0 : Int32) v_guessAbove v_guessBelow) fun y37 w38 w39 =>
  if y37 = 0 ∨ y37 = 1 then
  some (y37, w9, w10, w38, w39, w11, w12)
  else none

def L_X12_sure_20 (x1 : Int64) (x3 : Int32) (v_w : (Nat → Int32)) : Nat → Int64 → Int32 → Option Int64
  | 0, _, _ => none
  | fu + 1, x4, x6 =>
    kb1 (f_X12_n v_w) fun r4 =>
    (if r4 ≤ x6 then
    some x4
    else
    kb1 (f_X12_cell v_w x3 x6) fun r7 =>
    kb1 (f_X12_cell v_w x3 x6) fun r9 =>
    kl (x4 + (r7 * r9)) fun t11 =>
    kl (x6 + (1 : Int32)) fun t12 =>
    L_X12_sure_20 x1 x3 v_w fu t11 t12)

def L_X12_sure_6 (F : Nat) (v_w : (Nat → Int32)) : Nat → Int64 → Int32 → Option Int64
  | 0, _, _ => none
  | fu + 1, x1, x3 =>
    kb1 (f_X12_n v_w) fun r1 =>
    (if r1 ≤ x3 then
    some x1
    else
    kb1 (L_X12_sure_20 x1 x3 v_w F (0 : Int64) (0 : Int32)) fun y13 =>
    kb1 (f_X12_cell v_w x3 (4 : Int32)) fun r14 =>
    kb1 (f_X12_cell v_w x3 (4 : Int32)) fun r16 =>
    kl (x1 * (y13 + (r14 * r16))) fun t18 =>
    kl (x3 + (1 : Int32)) fun t19 =>
    L_X12_sure_6 F v_w fu t18 t19)

def L_X12_sure_82 (F : Nat) (x1 : Int64) (v_w : (Nat → Int32)) : Nat → Int32 → Option Int32
  | 0, _ => none
  | fu + 1, x3 =>
    kb1 (f_X12_p F v_w) fun r21 =>
    kb1 (f_X12_power F (r21.toInt64) x3) fun r23 =>
    (if x1 < r23 then
    some x3
    else
    kl (x3 + (1 : Int32)) fun t26 =>
    L_X12_sure_82 F x1 v_w fu t26)

def f_X12_sure (F : Nat) (v_w : (Nat → Int32)) : Option Int32 :=
  kb1 (L_X12_sure_6 F v_w F (2 : Int64) (0 : Int32)) fun y20 =>
  kb1 (L_X12_sure_82 F y20 v_w F (1 : Int32)) fun y27 =>
  some y27

def L_X12_allGuessed_5 (F : Nat) (x1 : Int32) (x2 : Int32) (v_w : (Nat → Int32)) : Nat → Int32 → Int32 → Int64 → Int64 → Int64 → Int64 → (Nat → Int32) → (Nat → Int32) → Option (Int32 × Int64 × Int64 × Int64 × Int64 × (Nat → Int32) × (Nat → Int32))
  | 0, _, _, _, _, _, _, _, _ => none
  | fu + 1, x3, x4, v_above, v_below, v_guessAbove, v_guessBelow, v_rs, v_cs =>
    kb1 (f_X12_n v_w) fun r1 =>
    (if r1 ≤ x4 then
    some (x3, v_above, v_below, v_guessAbove, v_guessBelow, v_rs, v_cs)
    else
    kj7 (fun (t4 : Int32) (w5 : Int64) (w6 : Int64) (w7 : Int64) (w8 : Int64) (w9 : (Nat → Int32)) (w10 : (Nat → Int32)) =>
    kb4 (f_X12_laySolution F w5 w6 v_w w9 w10 x4) fun w12 w13 w14 w15 =>
    (if t4 = 0 then
    kl (x4 + (1 : Int32)) fun t18 =>
    L_X12_allGuessed_5 F x1 x2 v_w fu (0 : Int32) t18 w12 w13 w7 w8 w14 w15
    else
    (if x2 = 0 then
    kl (x4 + (1 : Int32)) fun t20 =>
    L_X12_allGuessed_5 F x1 x2 v_w fu (1 : Int32) t20 w12 w13 w7 w8 w14 w15
    else
    (if w7 = w12 then
    (if w8 = w13 then
    kl (x4 + (1 : Int32)) fun t25 =>
    L_X12_allGuessed_5 F x1 x2 v_w fu (1 : Int32) t25 w12 w13 w7 w8 w14 w15
    else
    kl (x4 + (1 : Int32)) fun t24 =>
    L_X12_allGuessed_5 F x1 x2 v_w fu (0 : Int32) t24 w12 w13 w7 w8 w14 w15)
    else
    kl (x4 + (1 : Int32)) fun t22 =>
    L_X12_allGuessed_5 F x1 x2 v_w fu (0 : Int32) t22 w12 w13 w7 w8 w14 w15)))) fun J11 =>
    kj6 (fun (w26 : Int64) (w27 : Int64) (w28 : Int64) (w29 : Int64) (w30 : (Nat → Int32)) (w31 : (Nat → Int32)) =>
    J11 (0 : Int32) w26 w27 w28 w29 w30 w31) fun J32 =>
    (if x3 = 0 then
    J32 v_above v_below v_guessAbove v_guessBelow v_rs v_cs
    else
    kb7 (f_X12_layGuess F v_above v_below v_guessAbove v_guessBelow v_w v_rs v_cs x4 x1) fun r34 w35 w36 w37 w38 w39 w40 =>
    (if r34 = 0 then
    J32 w35 w36 w37 w38 w39 w40
    else
    J11 (1 : Int32) w35 w36 w37 w38 w39 w40)))

def f_X12_allGuessed (F : Nat) (v_above : Int64) (v_below : Int64) (v_guessAbove : Int64) (v_guessBelow : Int64) (v_w : (Nat → Int32)) (v_rs : (Nat → Int32)) (v_cs : (Nat → Int32)) (x1 : Int32) (x2 : Int32) : Option (Int32 × Int64 × Int64 × Int64 × Int64 × (Nat → Int32) × (Nat → Int32)) :=
  kb7 (L_X12_allGuessed_5 F x1 x2 v_w F (1 : Int32) (0 : Int32) v_above v_below v_guessAbove v_guessBelow v_rs v_cs) fun y43 w44 w45 w46 w47 w48 w49 =>
  if y43 = 0 ∨ y43 = 1 then
  some (y43, w44, w45, w46, w47, w48, w49)
  else none

def L_X12_early_2 (F : Nat) (v_w : (Nat → Int32)) : Nat → Int32 → Int64 → Int64 → Int64 → Int64 → (Nat → Int32) → (Nat → Int32) → Option (Int32 × Int64 × Int64 × Int64 × Int64 × (Nat → Int32) × (Nat → Int32))
  | 0, _, _, _, _, _, _, _ => none
  | fu + 1, x1, v_above, v_below, v_guessAbove, v_guessBelow, v_rs, v_cs =>
    kb7 (f_X12_allGuessed F v_above v_below v_guessAbove v_guessBelow v_w v_rs v_cs x1 (1 : Int32)) fun r1 w2 w3 w4 w5 w6 w7 =>
    (if r1 = 0 then
    kl (x1 + (1 : Int32)) fun t10 =>
    L_X12_early_2 F v_w fu t10 w2 w3 w4 w5 w6 w7
    else
    some (x1, w2, w3, w4, w5, w6, w7))

def f_X12_early (F : Nat) (v_above : Int64) (v_below : Int64) (v_guessAbove : Int64) (v_guessBelow : Int64) (v_w : (Nat → Int32)) (v_rs : (Nat → Int32)) (v_cs : (Nat → Int32)) : Option (Int32 × Int64 × Int64 × Int64 × Int64 × (Nat → Int32) × (Nat → Int32)) :=
  kb7 (L_X12_early_2 F v_w F (1 : Int32) v_above v_below v_guessAbove v_guessBelow v_rs v_cs) fun y11 w12 w13 w14 w15 w16 w17 =>
  some (y11, w12, w13, w14, w15, w16, w17)

def L_X12_tooSoon_9 (F : Nat) (x2 : Int32) (v_w : (Nat → Int32)) : Nat → Int32 → Int32 → Int64 → Int64 → Int64 → Int64 → (Nat → Int32) → (Nat → Int32) → Option (Int32 × Int64 × Int64 × Int64 × Int64 × (Nat → Int32) × (Nat → Int32))
  | 0, _, _, _, _, _, _, _, _ => none
  | fu + 1, x1, x3, v_above, v_below, v_guessAbove, v_guessBelow, v_rs, v_cs =>
    (if x2 ≤ x3 then
    some (x1, v_above, v_below, v_guessAbove, v_guessBelow, v_rs, v_cs)
    else
    kb7 (f_X12_allGuessed F v_above v_below v_guessAbove v_guessBelow v_w v_rs v_cs x3 (0 : Int32)) fun r10 w11 w12 w13 w14 w15 w16 =>
    (if r10 = 0 then
    kl (x1 + (0 : Int32)) fun t19 =>
    kl (x3 + (1 : Int32)) fun t20 =>
    L_X12_tooSoon_9 F x2 v_w fu t19 t20 w11 w12 w13 w14 w15 w16
    else
    kl (x1 + (1 : Int32)) fun t21 =>
    kl (x3 + (1 : Int32)) fun t22 =>
    L_X12_tooSoon_9 F x2 v_w fu t21 t22 w11 w12 w13 w14 w15 w16))

def f_X12_tooSoon (F : Nat) (v_above : Int64) (v_below : Int64) (v_guessAbove : Int64) (v_guessBelow : Int64) (v_w : (Nat → Int32)) (v_rs : (Nat → Int32)) (v_cs : (Nat → Int32)) : Option (Int32 × Int64 × Int64 × Int64 × Int64 × (Nat → Int32) × (Nat → Int32)) :=
  kb7 (f_X12_early F v_above v_below v_guessAbove v_guessBelow v_w v_rs v_cs) fun r1 w2 w3 w4 w5 w6 w7 =>
  kb7 (L_X12_tooSoon_9 F r1 v_w F (0 : Int32) (1 : Int32) w2 w3 w4 w5 w6 w7) fun y23 w24 w25 w26 w27 w28 w29 =>
  some (y23, w24, w25, w26, w27, w28, w29)

def f_X12_shorten (v_power2 : Int32) (v_bits : Int64) (x1 : Int32) : Option (Int32 × Int64) :=
  (if v_bits = ((1 : Int64) <<< (x1.toInt64 &&& 63)) then
  kl (v_bits / (2 : Int64)) fun t2 =>
  kl (v_power2 + (1 : Int32)) fun t3 =>
  some (t3, t2)
  else
  some (v_power2, v_bits))

def L_X12_layNear_62 (x1 : Int64) : Nat → Int64 → Int32 → Option (Int64 × Int32)
  | 0, _, _ => none
  | fu + 1, x3, v_power2 =>
    (if x1 < ((2 : Int64) * x3) then
    some (x3, v_power2)
    else
    kl (x3 * (2 : Int64)) fun t7 =>
    kl (v_power2 + (1 : Int32)) fun t8 =>
    L_X12_layNear_62 x1 fu t7 t8)

def L_X12_layNear_91 (x3 : Int64) : Nat → Int64 → Int32 → Option (Int64 × Int32)
  | 0, _, _ => none
  | fu + 1, x1, v_power2 =>
    (if x3 ≤ x1 then
    some (x1, v_power2)
    else
    kl (x1 * (2 : Int64)) fun t12 =>
    kl (v_power2 - (1 : Int32)) fun t13 =>
    L_X12_layNear_91 x3 fu t12 t13)

def L_X12_layNear_119 (x3 : Int64) : Nat → Int64 → Int32 → Int64 → Option (Int64 × Int64)
  | 0, _, _, _ => none
  | fu + 1, x1, x5, v_bits =>
    (if (53 : Int32) ≤ x5 then
    some (x1, v_bits)
    else
    kj1 (fun (t17 : Int32) =>
    kj1 (fun (t19 : Int64) =>
    kl (((2 : Int64) * v_bits) + t19) fun t21 =>
    (if t17 = 0 then
    kl ((2 : Int64) * x1) fun t23 =>
    kl (x5 + (1 : Int32)) fun t24 =>
    L_X12_layNear_119 x3 fu t23 t24 t21
    else
    kl ((2 : Int64) * (x1 - x3)) fun t25 =>
    kl (x5 + (1 : Int32)) fun t26 =>
    L_X12_layNear_119 x3 fu t25 t26 t21)) fun J20 =>
    (if t17 = 0 then
    J20 (0 : Int64)
    else
    J20 (1 : Int64))) fun J18 =>
    (if x1 < x3 then
    J18 (0 : Int32)
    else
    J18 (1 : Int32)))

def f_X12_layNear (F : Nat) (v_above : Int64) (v_below : Int64) (v_sign : Int32) (v_power2 : Int32) (v_bits : Int64) : Option (Int32 × Int32 × Int64) :=
  kj1 (fun (t1 : Int32) =>
  kj1 (fun (t3 : Int64) =>
  (if t3 = (0 : Int64) then
  some (t1, (0 : Int32), (0 : Int64))
  else
  kb2 (L_X12_layNear_62 t3 F v_below (0 : Int32)) fun y9 w10 =>
  kb2 (L_X12_layNear_91 y9 F t3 w10) fun y14 w15 =>
  kb2 (L_X12_layNear_119 y9 F y14 (0 : Int32) (0 : Int64)) fun y29 w30 =>
  (if y9 < y29 then
  kl (w30 + (1 : Int64)) fun t32 =>
  kb2 (f_X12_shorten w15 t32 (53 : Int32)) fun w33 w34 =>
  some (t1, w33, w34)
  else
  (if y29 = y9 then
  (if (w30 - w30 / (2 : Int64) * (2 : Int64)) = (1 : Int64) then
  kl (w30 + (1 : Int64)) fun t46 =>
  kb2 (f_X12_shorten w15 t46 (53 : Int32)) fun w47 w48 =>
  some (t1, w47, w48)
  else
  kl (w30 + (0 : Int64)) fun t42 =>
  kb2 (f_X12_shorten w15 t42 (53 : Int32)) fun w43 w44 =>
  some (t1, w43, w44))
  else
  kl (w30 + (0 : Int64)) fun t37 =>
  kb2 (f_X12_shorten w15 t37 (53 : Int32)) fun w38 w39 =>
  some (t1, w38, w39))))) fun J4 =>
  (if (0 : Int64) ≤ v_above then
  J4 v_above
  else
  J4 (-v_above))) fun J2 =>
  (if (0 : Int64) ≤ v_above then
  J2 (0 : Int32)
  else
  J2 (1 : Int32))

def f_X12_round (v_power2 : Int32) (v_bits : Int64) (x1 : Int32) (x2 : Int32) : Option (Int32 × Int64) :=
  kl ((1 : Int64) <<< (x1.toInt64 &&& 63)) fun t1 =>
  if ¬ t1 = 0 then
  kl (v_bits - v_bits / t1 * t1) fun t3 =>
  if ¬ t1 = 0 then
  kl (v_bits / t1) fun t5 =>
  (if t1 < ((2 : Int64) * t3) then
  kl (t5 + (1 : Int64)) fun t7 =>
  kb2 (f_X12_shorten v_power2 t7 x2) fun w8 w9 =>
  some (w8, w9)
  else
  (if ((2 : Int64) * t3) = t1 then
  (if (t5 - t5 / (2 : Int64) * (2 : Int64)) = (1 : Int64) then
  kl (t5 + (1 : Int64)) fun t21 =>
  kb2 (f_X12_shorten v_power2 t21 x2) fun w22 w23 =>
  some (w22, w23)
  else
  kl (t5 + (0 : Int64)) fun t17 =>
  kb2 (f_X12_shorten v_power2 t17 x2) fun w18 w19 =>
  some (w18, w19))
  else
  kl (t5 + (0 : Int64)) fun t12 =>
  kb2 (f_X12_shorten v_power2 t12 x2) fun w13 w14 =>
  some (w13, w14)))
  else none
  else none

def f_X12_nearNow (F : Nat) (v_above : Int64) (v_below : Int64) (v_sign : Int32) (v_power2 : Int32) (v_bits : Int64) : Option (Int64 × Int32 × Int32 × Int64) :=
  kb3 (f_X12_layNear F v_above v_below v_sign v_power2 v_bits) fun w1 w2 w3 =>
  (if w3 = (0 : Int64) then
  some ((0 : Int64), w1, w2, w3)
  else
  kl (((((w2.toInt64) + (1023 : Int64)) <<< ((52 : Int32).toInt64 &&& 63)) + w3) - (4503599627370496 : Int64)) fun t6 =>
  (if w1 = (1 : Int32) then
  some ((t6 + (-9223372036854775808 : Int64)), w1, w2, w3)
  else
  some (t6, w1, w2, w3)))

def f_X12_layShort (F : Nat) (v_above : Int64) (v_below : Int64) (v_sign : Int32) (v_power2 : Int32) (v_bits : Int64) : Option (Int32 × Int32 × Int64) :=
  kb3 (f_X12_layNear F v_above v_below v_sign v_power2 v_bits) fun w1 w2 w3 =>
  (if w3 ≤ (0 : Int64) then
  some (w1, w2, w3)
  else
  kb2 (f_X12_round w2 w3 (29 : Int32) (24 : Int32)) fun w6 w7 =>
  some (w1, w6, w7))

def f_X12_shortNow (F : Nat) (v_above : Int64) (v_below : Int64) (v_sign : Int32) (v_power2 : Int32) (v_bits : Int64) : Option (Int64 × Int32 × Int32 × Int64) :=
  kb3 (f_X12_layShort F v_above v_below v_sign v_power2 v_bits) fun w1 w2 w3 =>
  (if w3 = (0 : Int64) then
  some ((0 : Int64), w1, w2, w3)
  else
  some ((((((w1.toInt64) <<< ((31 : Int32).toInt64 &&& 63)) + (((w2.toInt64) + (127 : Int64)) <<< ((23 : Int32).toInt64 &&& 63))) + w3) - (8388608 : Int64)), w1, w2, w3))

def L_X12_cutNow_29 (v_bits : Int64) : Nat → Int32 → Option Int32
  | 0, _ => none
  | fu + 1, x1 =>
    (if (v_bits >>> (x1.toInt64 &&& 63)) < (16777216 : Int64) then
    some x1
    else
    kl (x1 + (1 : Int32)) fun t8 =>
    L_X12_cutNow_29 v_bits fu t8)

def L_X12_cutNow_81 (x2 : Int32) : Nat → Int64 → Int32 → Option Int64
  | 0, _, _ => none
  | fu + 1, x3, x5 =>
    (if x2 ≤ x5 then
    some x3
    else
    (if (1099511627776 : Int64) ≤ x3 then
    some x3
    else
    kl (x3 * (2 : Int64)) fun t17 =>
    kl (x5 + (1 : Int32)) fun t18 =>
    L_X12_cutNow_81 x2 fu t17 t18))

def L_X12_cutNow_110  : Nat → Int64 → Int32 → Option Int64
  | 0, _, _ => none
  | fu + 1, x3, x5 =>
    (if 0 ≤ x5 then
    some x3
    else
    kl (x3 / (2 : Int64)) fun t21 =>
    kl (x5 + (1 : Int32)) fun t22 =>
    L_X12_cutNow_110 fu t21 t22)

def f_X12_cutNow (F : Nat) (v_above : Int64) (v_below : Int64) (v_sign : Int32) (v_power2 : Int32) (v_bits : Int64) : Option (Int64 × Int32 × Int32 × Int64) :=
  kb3 (f_X12_layShort F v_above v_below v_sign v_power2 v_bits) fun w1 w2 w3 =>
  (if w3 = (0 : Int64) then
  some ((0 : Int64), w1, w2, w3)
  else
  kl (w3 * (1000 : Int64)) fun t6 =>
  kb1 (L_X12_cutNow_29 t6 F (0 : Int32)) fun y9 =>
  kl (w2 + y9) fun t10 =>
  kb2 (f_X12_round t10 t6 y9 (24 : Int32)) fun w11 w12 =>
  kl (w11 - (23 : Int32)) fun t14 =>
  kb1 (L_X12_cutNow_81 t14 F w12 (0 : Int32)) fun y19 =>
  kb1 (L_X12_cutNow_110 F y19 t14) fun y23 =>
  (if w1 = (1 : Int32) then
  (if y23 ≤ (2147483648 : Int64) then
  some ((-y23), w1, w11, w12)
  else
  some ((-2147483648 : Int64), w1, w11, w12))
  else
  (if y23 ≤ (2147483647 : Int64) then
  some (y23, w1, w11, w12)
  else
  some ((2147483647 : Int64), w1, w11, w12))))

def f_X12_isRow (v_w : (Nat → Int32)) (x1 : Int32) : Option Int32 :=
  kb1 (f_X12_n v_w) fun r1 =>
  kb1 (f_X12_in (x1.toInt64) (0 : Int64) ((r1 - (1 : Int32)).toInt64)) fun r3 =>
  if r3 = 0 ∨ r3 = 1 then
  some r3
  else none

def L_X12_wrong_2 (F : Nat) (v_written : Int32) (v_w : (Nat → Int32)) (v_bookOf : (Nat → Int32)) (v_bookAt : (Nat → Int32)) (v_bookIs : (Nat → Int32)) : Nat → Int32 → Int64 → Int64 → Int64 → Int64 → (Nat → Int32) → (Nat → Int32) → Option ((Int32 × Int64 × Int64 × Int64 × Int64 × (Nat → Int32) × (Nat → Int32)) ⊕ (Int64 × Int64 × Int64 × Int64 × (Nat → Int32) × (Nat → Int32)))
  | 0, _, _, _, _, _, _, _ => none
  | fu + 1, x1, v_above, v_below, v_leftAbove, v_leftBelow, v_rs, v_cs =>
    (if v_written ≤ x1 then
    some (.inr (v_above, v_below, v_leftAbove, v_leftBelow, v_rs, v_cs))
    else
    if kin x1 20 then
    kb1 (f_X12_isRow v_w (v_bookOf x1.toNatClampNeg)) fun r3 =>
    kj3 (fun (t5 : Int32) (w6 : (Nat → Int32)) (w7 : (Nat → Int32)) =>
    (if t5 = 0 then
    some (.inl (x1, v_above, v_below, v_leftAbove, v_leftBelow, w6, w7))
    else
    if kin x1 20 then
    if kin x1 20 then
    kb7 (f_X12_digitOf F v_above v_below v_leftAbove v_leftBelow v_w w6 w7 (v_bookOf x1.toNatClampNeg) (v_bookAt x1.toNatClampNeg)) fun r12 w13 w14 w15 w16 w17 w18 =>
    if kin x1 20 then
    (if r12 = (v_bookIs x1.toNatClampNeg) then
    kl (x1 + (1 : Int32)) fun t22 =>
    L_X12_wrong_2 F v_written v_w v_bookOf v_bookAt v_bookIs fu t22 w13 w14 w15 w16 w17 w18
    else
    some (.inl (x1, w13, w14, w15, w16, w17, w18)))
    else none
    else none
    else none)) fun J8 =>
    kj2 (fun (w23 : (Nat → Int32)) (w24 : (Nat → Int32)) =>
    J8 (0 : Int32) w23 w24) fun J25 =>
    (if r3 = 0 then
    J25 v_rs v_cs
    else
    kb3 (f_X12_isBad F v_w v_rs v_cs) fun r27 w28 w29 =>
    (if r27 = 0 then
    J8 (1 : Int32) w28 w29
    else
    J25 w28 w29))
    else none)

def f_X12_wrong (F : Nat) (v_written : Int32) (v_above : Int64) (v_below : Int64) (v_leftAbove : Int64) (v_leftBelow : Int64) (v_w : (Nat → Int32)) (v_bookOf : (Nat → Int32)) (v_bookAt : (Nat → Int32)) (v_bookIs : (Nat → Int32)) (v_rs : (Nat → Int32)) (v_cs : (Nat → Int32)) : Option (Int32 × Int64 × Int64 × Int64 × Int64 × (Nat → Int32) × (Nat → Int32)) :=
  ks (L_X12_wrong_2 F v_written v_w v_bookOf v_bookAt v_bookIs F (0 : Int32) v_above v_below v_leftAbove v_leftBelow v_rs v_cs)
  (kf7 fun y32 w33 w34 w35 w36 w37 w38 =>
  some (y32, w33, w34, w35, w36, w37, w38))
  (kf6 fun w39 w40 w41 w42 w43 w44 =>
  some ((-1 : Int32), w39, w40, w41, w42, w43, w44))

def f_X12_toldOfPrime (F : Nat) (v_known : Int32) (v_written : Int32) (v_above : Int64) (v_below : Int64) (v_leftAbove : Int64) (v_leftBelow : Int64) (v_guessAbove : Int64) (v_guessBelow : Int64) (v_w : (Nat → Int32)) (v_bookOf : (Nat → Int32)) (v_bookAt : (Nat → Int32)) (v_bookIs : (Nat → Int32)) (v_rs : (Nat → Int32)) (v_cs : (Nat → Int32)) (x1 : Int32) : Option (Int32 × Int64 × Int64 × Int64 × Int64 × Int64 × Int64 × (Nat → Int32) × (Nat → Int32)) :=
  (if x1 = 8 then
  kb3 (f_X12_isBad F v_w v_rs v_cs) fun r2 w3 w4 =>
  (if r2 = 0 then
  some ((0 : Int32), v_above, v_below, v_leftAbove, v_leftBelow, v_guessAbove, v_guessBelow, w3, w4)
  else
  some ((1 : Int32), v_above, v_below, v_leftAbove, v_leftBelow, v_guessAbove, v_guessBelow, w3, w4))
  else
  (if x1 = 9 then
  kb3 (f_X12_badMany F v_w v_rs v_cs) fun r8 w9 w10 =>
  some (r8, v_above, v_below, v_leftAbove, v_leftBelow, v_guessAbove, v_guessBelow, w9, w10)
  else
  (if x1 = 10 then
  kb1 (f_X12_allColumns v_w) fun r13 =>
  kb1 (f_X12_p F v_w) fun r15 =>
  kb3 (f_X12_rankOf F v_w v_rs v_cs r13 r15) fun r17 w18 w19 =>
  some (r17, v_above, v_below, v_leftAbove, v_leftBelow, v_guessAbove, v_guessBelow, w18, w19)
  else
  (if x1 = 11 then
  kb3 (f_X12_waysNow F v_w v_rs v_cs) fun r22 w23 w24 =>
  some (r22, v_above, v_below, v_leftAbove, v_leftBelow, v_guessAbove, v_guessBelow, w23, w24)
  else
  (if x1 = 12 then
  kb3 (f_X12_isBad F v_w v_rs v_cs) fun r27 w28 w29 =>
  (if r27 = 0 then
  kb1 (f_X12_sure F v_w) fun r32 =>
  some (r32, v_above, v_below, v_leftAbove, v_leftBelow, v_guessAbove, v_guessBelow, w28, w29)
  else
  some ((-1 : Int32), v_above, v_below, v_leftAbove, v_leftBelow, v_guessAbove, v_guessBelow, w28, w29))
  else
  (if x1 = 13 then
  kb3 (f_X12_isBad F v_w v_rs v_cs) fun r35 w36 w37 =>
  (if r35 = 0 then
  kb7 (f_X12_early F v_above v_below v_guessAbove v_guessBelow v_w w36 w37) fun r40 w41 w42 w43 w44 w45 w46 =>
  some (r40, w41, w42, v_leftAbove, v_leftBelow, w43, w44, w45, w46)
  else
  some ((-1 : Int32), v_above, v_below, v_leftAbove, v_leftBelow, v_guessAbove, v_guessBelow, w36, w37))
  else
  (if x1 = 14 then
  kb3 (f_X12_isBad F v_w v_rs v_cs) fun r49 w50 w51 =>
  (if r49 = 0 then
  kb7 (f_X12_tooSoon F v_above v_below v_guessAbove v_guessBelow v_w w50 w51) fun r54 w55 w56 w57 w58 w59 w60 =>
  some (r54, w55, w56, v_leftAbove, v_leftBelow, w57, w58, w59, w60)
  else
  some ((-1 : Int32), v_above, v_below, v_leftAbove, v_leftBelow, v_guessAbove, v_guessBelow, w50, w51))
  else
  (if x1 = 15 then
  some (v_written, v_above, v_below, v_leftAbove, v_leftBelow, v_guessAbove, v_guessBelow, v_rs, v_cs)
  else
  (if x1 = 16 then
  kb7 (f_X12_wrong F v_written v_above v_below v_leftAbove v_leftBelow v_w v_bookOf v_bookAt v_bookIs v_rs v_cs) fun r64 w65 w66 w67 w68 w69 w70 =>
  some (r64, w65, w66, w67, w68, v_guessAbove, v_guessBelow, w69, w70)
  else
  (if x1 = 17 then
  some (v_known, v_above, v_below, v_leftAbove, v_leftBelow, v_guessAbove, v_guessBelow, v_rs, v_cs)
  else
  some ((-1000000002 : Int32), v_above, v_below, v_leftAbove, v_leftBelow, v_guessAbove, v_guessBelow, v_rs, v_cs)))))))))))

def f_X12_told (F : Nat) (v_known : Int32) (v_written : Int32) (v_above : Int64) (v_below : Int64) (v_leftAbove : Int64) (v_leftBelow : Int64) (v_guessAbove : Int64) (v_guessBelow : Int64) (v_w : (Nat → Int32)) (v_bookOf : (Nat → Int32)) (v_bookAt : (Nat → Int32)) (v_bookIs : (Nat → Int32)) (v_rs : (Nat → Int32)) (v_cs : (Nat → Int32)) (x1 : Int32) : Option (Int32 × Int64 × Int64 × Int64 × Int64 × Int64 × Int64 × (Nat → Int32) × (Nat → Int32)) :=
  (if x1 = 0 then
  kb1 (f_X12_n v_w) fun r2 =>
  some (r2, v_above, v_below, v_leftAbove, v_leftBelow, v_guessAbove, v_guessBelow, v_rs, v_cs)
  else
  (if x1 = 1 then
  kb1 (f_X12_p F v_w) fun r5 =>
  some (r5, v_above, v_below, v_leftAbove, v_leftBelow, v_guessAbove, v_guessBelow, v_rs, v_cs)
  else
  (if x1 = 2 then
  kb3 (f_X12_determinant F v_w v_rs v_cs) fun r8 w9 w10 =>
  some (((r8.toInt32) + (1000000000 : Int32)), v_above, v_below, v_leftAbove, v_leftBelow, v_guessAbove, v_guessBelow, w9, w10)
  else
  (if x1 = 3 then
  kb3 (f_X12_rank F v_w v_rs v_cs) fun r13 w14 w15 =>
  some (r13, v_above, v_below, v_leftAbove, v_leftBelow, v_guessAbove, v_guessBelow, w14, w15)
  else
  (if x1 = 4 then
  kb3 (f_X12_wideRank F v_w v_rs v_cs (0 : Int32)) fun r18 w19 w20 =>
  some (r18, v_above, v_below, v_leftAbove, v_leftBelow, v_guessAbove, v_guessBelow, w19, w20)
  else
  (if x1 = 5 then
  kb3 (f_X12_kind F v_w v_rs v_cs) fun r23 w24 w25 =>
  some (r23, v_above, v_below, v_leftAbove, v_leftBelow, v_guessAbove, v_guessBelow, w24, w25)
  else
  (if x1 = 6 then
  kb3 (f_X12_leading F v_w v_rs v_cs) fun r28 w29 w30 =>
  some (r28, v_above, v_below, v_leftAbove, v_leftBelow, v_guessAbove, v_guessBelow, w29, w30)
  else
  (if x1 = 7 then
  kb5 (f_X12_broken F v_above v_below v_w v_rs v_cs) fun r33 w34 w35 w36 w37 =>
  some (r33, w34, w35, v_leftAbove, v_leftBelow, v_guessAbove, v_guessBelow, w36, w37)
  else
  kb9 (f_X12_toldOfPrime F v_known v_written v_above v_below v_leftAbove v_leftBelow v_guessAbove v_guessBelow v_w v_bookOf v_bookAt v_bookIs v_rs v_cs x1) fun r39 w40 w41 w42 w43 w44 w45 w46 w47 =>
  some (r39, w40, w41, w42, w43, w44, w45, w46, w47)))))))))

def f_X12_at (v_w : (Nat → Int32)) (x1 : Int32) (x2 : Int32) : Option Int32 :=
  kb1 (f_X12_isRow v_w x1) fun r1 =>
  (if r1 = 0 then
  some (-1000000001 : Int32)
  else
  kb1 (f_X12_n v_w) fun r4 =>
  kb1 (f_X12_in (x2.toInt64) (0 : Int64) (r4.toInt64)) fun r6 =>
  (if r6 = 0 then
  some (-1000000001 : Int32)
  else
  kb1 (f_X12_n v_w) fun r9 =>
  (if x2 = r9 then
  kb1 (f_X12_cell v_w x1 (4 : Int32)) fun r14 =>
  some ((r14.toInt32) + (100 : Int32))
  else
  kb1 (f_X12_cell v_w x1 x2) fun r12 =>
  some ((r12.toInt32) + (100 : Int32)))))

def f_X12_cleared (F : Nat) (v_above : Int64) (v_below : Int64) (v_w : (Nat → Int32)) (v_rs : (Nat → Int32)) (v_cs : (Nat → Int32)) (x1 : Int32) (x2 : Int32) (x3 : Int32) : Option (Int32 × Int64 × Int64 × (Nat → Int32) × (Nat → Int32)) :=
  kb3 (f_X12_rank F v_w v_rs v_cs) fun r1 w2 w3 =>
  kb1 (f_X12_in (x1.toInt64) (0 : Int64) ((r1 - (1 : Int32)).toInt64)) fun r5 =>
  (if r5 = 0 then
  some ((-1000000001 : Int32), v_above, v_below, w2, w3)
  else
  kb1 (f_X12_isRow v_w x2) fun r8 =>
  (if r8 = 0 then
  some ((-1000000001 : Int32), v_above, v_below, w2, w3)
  else
  kb1 (f_X12_in (x3.toInt64) (0 : Int64) (1 : Int64)) fun r11 =>
  (if r11 = 0 then
  some ((-1000000002 : Int32), v_above, v_below, w2, w3)
  else
  kb4 (f_X12_layShare F v_above v_below v_w w2 w3 x1 x2) fun w14 w15 w16 w17 =>
  (if x3 = 0 then
  some (((w14.toInt32) + (1000000000 : Int32)), w14, w15, w16, w17)
  else
  some ((w15.toInt32), w14, w15, w16, w17)))))

def f_X12_solution (F : Nat) (v_above : Int64) (v_below : Int64) (v_w : (Nat → Int32)) (v_rs : (Nat → Int32)) (v_cs : (Nat → Int32)) (x1 : Int32) (x2 : Int32) : Option (Int32 × Int64 × Int64 × (Nat → Int32) × (Nat → Int32)) :=
  kb1 (f_X12_isRow v_w x1) fun r1 =>
  (if r1 = 0 then
  some ((-1000000001 : Int32), v_above, v_below, v_rs, v_cs)
  else
  kb1 (f_X12_in (x2.toInt64) (0 : Int64) (1 : Int64)) fun r4 =>
  (if r4 = 0 then
  some ((-1000000002 : Int32), v_above, v_below, v_rs, v_cs)
  else
  kb3 (f_X12_kind F v_w v_rs v_cs) fun r7 w8 w9 =>
  (if r7 = 0 then
  some ((-1 : Int32), v_above, v_below, w8, w9)
  else
  kb4 (f_X12_laySolution F v_above v_below v_w w8 w9 x1) fun w12 w13 w14 w15 =>
  (if x2 = 0 then
  some (((w12.toInt32) + (1000000000 : Int32)), w12, w13, w14, w15)
  else
  some ((w13.toInt32), w12, w13, w14, w15)))))

def f_X12_nothing (F : Nat) (v_above : Int64) (v_below : Int64) (v_w : (Nat → Int32)) (v_rs : (Nat → Int32)) (v_cs : (Nat → Int32)) (v_zs : (Nat → Int64)) (x1 : Int32) : Option (Int32 × Int64 × Int64 × (Nat → Int32) × (Nat → Int32) × (Nat → Int64)) :=
  kb1 (f_X12_isRow v_w x1) fun r1 =>
  (if r1 = 0 then
  some ((-1000000001 : Int32), v_above, v_below, v_rs, v_cs, v_zs)
  else
  kb3 (f_X12_rank F v_w v_rs v_cs) fun r4 w5 w6 =>
  kb1 (f_X12_n v_w) fun r8 =>
  (if r4 = r8 then
  some ((-1 : Int32), v_above, v_below, w5, w6, v_zs)
  else
  kb5 (f_X12_layNothing F v_above v_below v_w w5 w6 v_zs) fun w11 w12 w13 w14 w15 =>
  if kin x1 4 then
  some ((((w15 x1.toNatClampNeg).toInt32) + (1000000000 : Int32)), w11, w12, w13, w14, w15)
  else none))

def f_X12_back (F : Nat) (v_w : (Nat → Int32)) (v_rs : (Nat → Int32)) (v_cs : (Nat → Int32)) (x1 : Int32) (x2 : Int32) : Option (Int32 × (Nat → Int32) × (Nat → Int32)) :=
  kb1 (f_X12_isRow v_w x1) fun r1 =>
  (if r1 = 0 then
  some ((-1000000001 : Int32), v_rs, v_cs)
  else
  kb1 (f_X12_isRow v_w x2) fun r4 =>
  (if r4 = 0 then
  some ((-1000000001 : Int32), v_rs, v_cs)
  else
  kb3 (f_X12_isBad F v_w v_rs v_cs) fun r7 w8 w9 =>
  (if r7 = 0 then
  kb3 (f_X12_backOf F v_w w8 w9 x1 x2) fun r12 w13 w14 =>
  some ((r12.toInt32), w13, w14)
  else
  some ((-1000000003 : Int32), w8, w9))))

def f_X12_digit (F : Nat) (v_above : Int64) (v_below : Int64) (v_leftAbove : Int64) (v_leftBelow : Int64) (v_w : (Nat → Int32)) (v_rs : (Nat → Int32)) (v_cs : (Nat → Int32)) (x1 : Int32) (x2 : Int32) : Option (Int32 × Int64 × Int64 × Int64 × Int64 × (Nat → Int32) × (Nat → Int32)) :=
  kb1 (f_X12_isRow v_w x1) fun r1 =>
  (if r1 = 0 then
  some ((-1000000001 : Int32), v_above, v_below, v_leftAbove, v_leftBelow, v_rs, v_cs)
  else
  kb1 (f_X12_in (x2.toInt64) (0 : Int64) (99 : Int64)) fun r4 =>
  (if r4 = 0 then
  some ((-1000000002 : Int32), v_above, v_below, v_leftAbove, v_leftBelow, v_rs, v_cs)
  else
  kb3 (f_X12_isBad F v_w v_rs v_cs) fun r7 w8 w9 =>
  (if r7 = 0 then
  kb7 (f_X12_digitOf F v_above v_below v_leftAbove v_leftBelow v_w w8 w9 x1 x2) fun r12 w13 w14 w15 w16 w17 w18 =>
  some (r12, w13, w14, w15, w16, w17, w18)
  else
  some ((-1000000003 : Int32), v_above, v_below, v_leftAbove, v_leftBelow, w8, w9))))

def f_X12_rest (F : Nat) (v_above : Int64) (v_below : Int64) (v_leftAbove : Int64) (v_leftBelow : Int64) (v_w : (Nat → Int32)) (v_rs : (Nat → Int32)) (v_cs : (Nat → Int32)) (x1 : Int32) (x2 : Int32) : Option (Int32 × Int64 × Int64 × Int64 × Int64 × (Nat → Int32) × (Nat → Int32)) :=
  kb1 (f_X12_isRow v_w x1) fun r1 =>
  (if r1 = 0 then
  some ((-1000000001 : Int32), v_above, v_below, v_leftAbove, v_leftBelow, v_rs, v_cs)
  else
  kb1 (f_X12_in (x2.toInt64) (0 : Int64) (100 : Int64)) fun r4 =>
  (if r4 = 0 then
  some ((-1000000002 : Int32), v_above, v_below, v_leftAbove, v_leftBelow, v_rs, v_cs)
  else
  kb3 (f_X12_isBad F v_w v_rs v_cs) fun r7 w8 w9 =>
  (if r7 = 0 then
  kb7 (f_X12_restOf F v_above v_below v_leftAbove v_leftBelow v_w w8 w9 x1 x2) fun r12 w13 w14 w15 w16 w17 w18 =>
  some (((r12.toInt32) + (1000000000 : Int32)), w13, w14, w15, w16, w17, w18)
  else
  some ((-1000000003 : Int32), v_above, v_below, v_leftAbove, v_leftBelow, w8, w9))))

def f_X12_guess (F : Nat) (v_above : Int64) (v_below : Int64) (v_guessAbove : Int64) (v_guessBelow : Int64) (v_w : (Nat → Int32)) (v_rs : (Nat → Int32)) (v_cs : (Nat → Int32)) (x1 : Int32) (x2 : Int32) (x3 : Int32) : Option (Int64 × Int64 × Int64 × Int64 × Int64 × (Nat → Int32) × (Nat → Int32)) :=
  kb1 (f_X12_isRow v_w x1) fun r1 =>
  (if r1 = 0 then
  some ((-1000000001 : Int64), v_above, v_below, v_guessAbove, v_guessBelow, v_rs, v_cs)
  else
  kb1 (f_X12_in (x3.toInt64) (0 : Int64) (1 : Int64)) fun r4 =>
  (if r4 = 0 then
  some ((-1000000002 : Int64), v_above, v_below, v_guessAbove, v_guessBelow, v_rs, v_cs)
  else
  kb1 (f_X12_in (x2.toInt64) (1 : Int64) (62 : Int64)) fun r7 =>
  (if r7 = 0 then
  some ((-1000000002 : Int64), v_above, v_below, v_guessAbove, v_guessBelow, v_rs, v_cs)
  else
  kb1 (f_X12_p F v_w) fun r10 =>
  kb1 (f_X12_power F (r10.toInt64) x2) fun r12 =>
  (if r12 = (0 : Int64) then
  some ((-1000000002 : Int64), v_above, v_below, v_guessAbove, v_guessBelow, v_rs, v_cs)
  else
  kb3 (f_X12_isBad F v_w v_rs v_cs) fun r15 w16 w17 =>
  (if r15 = 0 then
  kb7 (f_X12_layGuess F v_above v_below v_guessAbove v_guessBelow v_w w16 w17 x1 x2) fun r20 w21 w22 w23 w24 w25 w26 =>
  (if r20 = 0 then
  some ((-1 : Int64), w21, w22, w23, w24, w25, w26)
  else
  (if x3 = 0 then
  some ((w23 + (4000000000 : Int64)), w21, w22, w23, w24, w25, w26)
  else
  some (w24, w21, w22, w23, w24, w25, w26)))
  else
  some ((-1000000003 : Int64), v_above, v_below, v_guessAbove, v_guessBelow, w16, w17))))))

def f_X12_near (F : Nat) (v_above : Int64) (v_below : Int64) (v_sign : Int32) (v_power2 : Int32) (v_bits : Int64) (v_w : (Nat → Int32)) (v_rs : (Nat → Int32)) (v_cs : (Nat → Int32)) (x1 : Int32) : Option (Int64 × Int64 × Int64 × Int32 × Int32 × Int64 × (Nat → Int32) × (Nat → Int32)) :=
  kb1 (f_X12_isRow v_w x1) fun r1 =>
  (if r1 = 0 then
  some ((-1000000001 : Int64), v_above, v_below, v_sign, v_power2, v_bits, v_rs, v_cs)
  else
  kb3 (f_X12_kind F v_w v_rs v_cs) fun r4 w5 w6 =>
  (if r4 = 0 then
  some ((-1 : Int64), v_above, v_below, v_sign, v_power2, v_bits, w5, w6)
  else
  kb4 (f_X12_laySolution F v_above v_below v_w w5 w6 x1) fun w9 w10 w11 w12 =>
  kb4 (f_X12_nearNow F w9 w10 v_sign v_power2 v_bits) fun r14 w15 w16 w17 =>
  some (r14, w9, w10, w15, w16, w17, w11, w12)))

def f_X12_shortly (F : Nat) (v_above : Int64) (v_below : Int64) (v_sign : Int32) (v_power2 : Int32) (v_bits : Int64) (v_w : (Nat → Int32)) (v_rs : (Nat → Int32)) (v_cs : (Nat → Int32)) (x1 : Int32) : Option (Int64 × Int64 × Int64 × Int32 × Int32 × Int64 × (Nat → Int32) × (Nat → Int32)) :=
  kb1 (f_X12_isRow v_w x1) fun r1 =>
  (if r1 = 0 then
  some ((-1000000001 : Int64), v_above, v_below, v_sign, v_power2, v_bits, v_rs, v_cs)
  else
  kb3 (f_X12_kind F v_w v_rs v_cs) fun r4 w5 w6 =>
  (if r4 = 0 then
  some ((-1 : Int64), v_above, v_below, v_sign, v_power2, v_bits, w5, w6)
  else
  kb4 (f_X12_laySolution F v_above v_below v_w w5 w6 x1) fun w9 w10 w11 w12 =>
  kb4 (f_X12_shortNow F w9 w10 v_sign v_power2 v_bits) fun r14 w15 w16 w17 =>
  some (r14, w9, w10, w15, w16, w17, w11, w12)))

def f_X12_cut (F : Nat) (v_above : Int64) (v_below : Int64) (v_sign : Int32) (v_power2 : Int32) (v_bits : Int64) (v_w : (Nat → Int32)) (v_rs : (Nat → Int32)) (v_cs : (Nat → Int32)) (x1 : Int32) : Option (Int64 × Int64 × Int64 × Int32 × Int32 × Int64 × (Nat → Int32) × (Nat → Int32)) :=
  kb1 (f_X12_isRow v_w x1) fun r1 =>
  (if r1 = 0 then
  some ((-1000000001 : Int64), v_above, v_below, v_sign, v_power2, v_bits, v_rs, v_cs)
  else
  kb3 (f_X12_kind F v_w v_rs v_cs) fun r4 w5 w6 =>
  (if r4 = 0 then
  some ((-1 : Int64), v_above, v_below, v_sign, v_power2, v_bits, w5, w6)
  else
  kb4 (f_X12_laySolution F v_above v_below v_w w5 w6 x1) fun w9 w10 w11 w12 =>
  kb4 (f_X12_cutNow F w9 w10 v_sign v_power2 v_bits) fun r14 w15 w16 w17 =>
  some ((r14 + (3000000000 : Int64)), w9, w10, w15, w16, w17, w11, w12)))

def f_X12_size (F : Nat) (v_known : Int32) (v_w : (Nat → Int32)) (x1 : Int32) : Option (Int32 × Int32 × (Nat → Int32)) :=
  kb1 (f_X12_in (x1.toInt64) (1 : Int64) (4 : Int64)) fun r1 =>
  (if r1 = 0 then
  some ((-1000000002 : Int32), v_known, v_w)
  else
  kb2 (f_X12_remember F v_known v_w) fun w4 w5 =>
  kb1 (f_X12_n w5) fun r7 =>
  kb1 (f_X12_layOnes F w5 x1) fun w9 =>
  some (r7, w4, w9))

def f_X12_put (F : Nat) (v_known : Int32) (v_w : (Nat → Int32)) (x1 : Int32) (x2 : Int32) (x3 : Int32) : Option (Int32 × Int32 × (Nat → Int32)) :=
  kb1 (f_X12_isRow v_w x1) fun r1 =>
  (if r1 = 0 then
  some ((-1000000001 : Int32), v_known, v_w)
  else
  kb1 (f_X12_isRow v_w x2) fun r4 =>
  (if r4 = 0 then
  some ((-1000000001 : Int32), v_known, v_w)
  else
  kb1 (f_X12_in (x3.toInt64) (-9 : Int64) (9 : Int64)) fun r7 =>
  (if r7 = 0 then
  some ((-1000000002 : Int32), v_known, v_w)
  else
  kb2 (f_X12_remember F v_known v_w) fun w10 w11 =>
  kb1 (f_X12_cell w11 x1 x2) fun r13 =>
  kl (r13.toInt32) fun t15 =>
  kb1 (f_X12_set w11 x1 x2 x3) fun w16 =>
  some ((t15 + (100 : Int32)), w10, w16))))

def f_X12_side (F : Nat) (v_known : Int32) (v_w : (Nat → Int32)) (x1 : Int32) (x2 : Int32) : Option (Int32 × Int32 × (Nat → Int32)) :=
  kb1 (f_X12_isRow v_w x1) fun r1 =>
  (if r1 = 0 then
  some ((-1000000001 : Int32), v_known, v_w)
  else
  kb1 (f_X12_in (x2.toInt64) (-99 : Int64) (99 : Int64)) fun r4 =>
  (if r4 = 0 then
  some ((-1000000002 : Int32), v_known, v_w)
  else
  kb2 (f_X12_remember F v_known v_w) fun w7 w8 =>
  kb1 (f_X12_cell w8 x1 (4 : Int32)) fun r10 =>
  kl (r10.toInt32) fun t12 =>
  kb1 (f_X12_set w8 x1 (4 : Int32) x2) fun w13 =>
  some ((t12 + (100 : Int32)), w7, w13)))

def L_X12_swap_31 (x1 : Int32) (x2 : Int32) : Nat → Int32 → (Nat → Int32) → Option (Nat → Int32)
  | 0, _, _ => none
  | fu + 1, x3, v_w =>
    (if (5 : Int32) ≤ x3 then
    some v_w
    else
    kb1 (f_X12_cell v_w x1 x3) fun r12 =>
    kl (r12.toInt32) fun t14 =>
    kb1 (f_X12_cell v_w x2 x3) fun r15 =>
    kb1 (f_X12_set v_w x1 x3 (r15.toInt32)) fun w17 =>
    kb1 (f_X12_set w17 x2 x3 t14) fun w19 =>
    kl (x3 + (1 : Int32)) fun t21 =>
    L_X12_swap_31 x1 x2 fu t21 w19)

def f_X12_swap (F : Nat) (v_known : Int32) (v_w : (Nat → Int32)) (x1 : Int32) (x2 : Int32) : Option (Int32 × Int32 × (Nat → Int32)) :=
  kb1 (f_X12_isRow v_w x1) fun r1 =>
  (if r1 = 0 then
  some ((-1000000001 : Int32), v_known, v_w)
  else
  kb1 (f_X12_isRow v_w x2) fun r4 =>
  (if r4 = 0 then
  some ((-1000000001 : Int32), v_known, v_w)
  else
  (if x1 = x2 then
  some ((-1000000001 : Int32), v_known, v_w)
  else
  kb2 (f_X12_remember F v_known v_w) fun w8 w9 =>
  kb1 (L_X12_swap_31 x1 x2 F (0 : Int32) w9) fun w22 =>
  some ((1 : Int32), w8, w22))))

def L_X12_mix_45 (x1 : Int32) (x2 : Int32) (x3 : Int32) (v_w : (Nat → Int32)) : Nat → Int32 → Option (Unit ⊕ Unit)
  | 0, _ => none
  | fu + 1, x4 =>
    (if (5 : Int32) ≤ x4 then
    some (.inr ())
    else
    kj1 (fun (t12 : Int32) =>
    kb1 (f_X12_cell v_w x1 x4) fun r14 =>
    kb1 (f_X12_cell v_w x2 x4) fun r16 =>
    kb1 (f_X12_in (r14 + ((x3.toInt64) * r16)) ((-t12).toInt64) (t12.toInt64)) fun r18 =>
    (if r18 = 0 then
    some (.inl ())
    else
    kl (x4 + (1 : Int32)) fun t21 =>
    L_X12_mix_45 x1 x2 x3 v_w fu t21)) fun J13 =>
    (if x4 = (4 : Int32) then
    J13 (99 : Int32)
    else
    J13 (9 : Int32)))

def L_X12_mix_114 (x1 : Int32) (x2 : Int32) (x3 : Int32) : Nat → Int32 → (Nat → Int32) → Option (Nat → Int32)
  | 0, _, _ => none
  | fu + 1, x4, v_w =>
    (if (5 : Int32) ≤ x4 then
    some v_w
    else
    kb1 (f_X12_cell v_w x1 x4) fun r27 =>
    kb1 (f_X12_cell v_w x2 x4) fun r29 =>
    kb1 (f_X12_set v_w x1 x4 ((r27 + ((x3.toInt64) * r29)).toInt32)) fun w31 =>
    kl (x4 + (1 : Int32)) fun t33 =>
    L_X12_mix_114 x1 x2 x3 fu t33 w31)

def f_X12_mix (F : Nat) (v_known : Int32) (v_w : (Nat → Int32)) (x1 : Int32) (x2 : Int32) (x3 : Int32) : Option (Int32 × Int32 × (Nat → Int32)) :=
  kb1 (f_X12_isRow v_w x1) fun r1 =>
  (if r1 = 0 then
  some ((-1000000001 : Int32), v_known, v_w)
  else
  kb1 (f_X12_isRow v_w x2) fun r4 =>
  (if r4 = 0 then
  some ((-1000000001 : Int32), v_known, v_w)
  else
  (if x1 = x2 then
  some ((-1000000001 : Int32), v_known, v_w)
  else
  kb1 (f_X12_in (x3.toInt64) (-3 : Int64) (3 : Int64)) fun r8 =>
  (if r8 = 0 then
  some ((-1000000002 : Int32), v_known, v_w)
  else
  ks (L_X12_mix_45 x1 x2 x3 v_w F (0 : Int32))
  (fun _ =>
  some ((-1000000004 : Int32), v_known, v_w))
  (fun _ =>
  kb2 (f_X12_remember F v_known v_w) fun w23 w24 =>
  kb1 (L_X12_mix_114 x1 x2 x3 F (0 : Int32) w24) fun w34 =>
  some ((1 : Int32), w23, w34))))))

def L_X12_turn_16 (x1 : Int32) : Nat → Int32 → (Nat → Int32) → Option (Nat → Int32)
  | 0, _, _ => none
  | fu + 1, x2, v_w =>
    (if x1 ≤ x2 then
    some v_w
    else
    kb1 (f_X12_cell v_w x1 x2) fun r8 =>
    kl (r8.toInt32) fun t10 =>
    kb1 (f_X12_cell v_w x2 x1) fun r11 =>
    kb1 (f_X12_set v_w x1 x2 (r11.toInt32)) fun w13 =>
    kb1 (f_X12_set w13 x2 x1 t10) fun w15 =>
    kl (x2 + (1 : Int32)) fun t17 =>
    L_X12_turn_16 x1 fu t17 w15)

def L_X12_turn_6 (F : Nat) : Nat → Int32 → (Nat → Int32) → Option (Nat → Int32)
  | 0, _, _ => none
  | fu + 1, x1, v_w =>
    kb1 (f_X12_n v_w) fun r4 =>
    (if r4 ≤ x1 then
    some v_w
    else
    kb1 (L_X12_turn_16 x1 F (0 : Int32) v_w) fun w18 =>
    kl (x1 + (1 : Int32)) fun t19 =>
    L_X12_turn_6 F fu t19 w18)

def f_X12_turn (F : Nat) (v_known : Int32) (v_w : (Nat → Int32)) (v_rs : (Nat → Int32)) (v_cs : (Nat → Int32)) : Option (Int32 × Int32 × (Nat → Int32) × (Nat → Int32) × (Nat → Int32)) :=
  kb2 (f_X12_remember F v_known v_w) fun w1 w2 =>
  kb1 (L_X12_turn_6 F F (0 : Int32) w2) fun w20 =>
  kb3 (f_X12_rank F w20 v_rs v_cs) fun r21 w22 w23 =>
  some (r21, w1, w20, w22, w23)

def f_X12_prime (F : Nat) (v_known : Int32) (v_w : (Nat → Int32)) (x1 : Int32) : Option (Int32 × Int32 × (Nat → Int32)) :=
  kb1 (f_X12_in (x1.toInt64) (0 : Int64) (24 : Int64)) fun r1 =>
  (if r1 = 0 then
  some ((-1000000002 : Int32), v_known, v_w)
  else
  kb2 (f_X12_remember F v_known v_w) fun w4 w5 =>
  kl (upd w5 (1 : Int32).toNatClampNeg x1) fun w8 =>
  kb1 (f_X12_p F w8) fun r9 =>
  some (r9, w4, w8))

def f_X12_draw (v_seed : Int32) (x1 : Int32) : Option (Int32 × Int32) :=
  kl (((((v_seed.toInt64) * (1103515245 : Int64)) + (12345 : Int64)) - (((v_seed.toInt64) * (1103515245 : Int64)) + (12345 : Int64)) / (2147483648 : Int64) * (2147483648 : Int64)).toInt32) fun t1 =>
  if ¬ x1 = 0 then
  some (((t1 / (65536 : Int32)) - (t1 / (65536 : Int32)) / x1 * x1), t1)
  else none

def L_X12_drift_17 (F : Nat) (x1 : Int32) : Nat → Int32 → Int32 → Int32 → (Nat → Int32) → Option (Int32 × Int32 × (Nat → Int32))
  | 0, _, _, _, _ => none
  | fu + 1, x2, v_known, v_seed, v_w =>
    (if x1 ≤ x2 then
    some (v_known, v_seed, v_w)
    else
    kb2 (f_X12_remember F v_known v_w) fun w5 w6 =>
    kb1 (f_X12_n w6) fun r8 =>
    kb2 (f_X12_draw v_seed r8) fun r10 w11 =>
    kb1 (f_X12_n w6) fun r13 =>
    kb2 (f_X12_draw w11 (r13 + (1 : Int32))) fun r15 w16 =>
    kb2 (f_X12_draw w16 (19 : Int32)) fun r18 w19 =>
    kb1 (f_X12_n w6) fun r21 =>
    kj1 (fun (t23 : Int32) =>
    kb1 (f_X12_n w6) fun r25 =>
    (if r15 = r25 then
    kb1 (f_X12_set w6 r10 t23 (((11 : Int32) * r18) - (99 : Int32))) fun w31 =>
    kl (x2 + (1 : Int32)) fun t33 =>
    L_X12_drift_17 F x1 fu t33 w5 w19 w31
    else
    kb1 (f_X12_set w6 r10 t23 (r18 - (9 : Int32))) fun w28 =>
    kl (x2 + (1 : Int32)) fun t30 =>
    L_X12_drift_17 F x1 fu t30 w5 w19 w28)) fun J24 =>
    (if r15 = r21 then
    J24 (4 : Int32)
    else
    J24 r15))

def f_X12_drift (F : Nat) (v_known : Int32) (v_seed : Int32) (v_w : (Nat → Int32)) (v_rs : (Nat → Int32)) (v_cs : (Nat → Int32)) (x1 : Int32) : Option (Int32 × Int32 × Int32 × (Nat → Int32) × (Nat → Int32) × (Nat → Int32)) :=
  kb1 (f_X12_in (x1.toInt64) (1 : Int64) (12 : Int64)) fun r1 =>
  (if r1 = 0 then
  some ((-1000000002 : Int32), v_known, v_seed, v_w, v_rs, v_cs)
  else
  kb3 (L_X12_drift_17 F x1 F (0 : Int32) v_known v_seed v_w) fun w35 w36 w37 =>
  kb3 (f_X12_rank F w37 v_rs v_cs) fun r38 w39 w40 =>
  some (r38, w35, w36, w37, w39, w40))

def L_X12_undo_29 (F : Nat) (x1 : Int32) : Nat → Int32 → (Nat → Int32) → Option (Nat → Int32)
  | 0, _, _ => none
  | fu + 1, x2, v_w =>
    (if (16 : Int32) < (x2 + x1) then
    some v_w
    else
    kb1 (f_X12_copyRow F v_w ((22 : Int32) * (x2 + x1)) ((22 : Int32) * x2)) fun w6 =>
    kl (x2 + (1 : Int32)) fun t8 =>
    L_X12_undo_29 F x1 fu t8 w6)

def f_X12_undo (F : Nat) (v_known : Int32) (v_w : (Nat → Int32)) (x1 : Int32) : Option (Int32 × Int32 × (Nat → Int32)) :=
  kb1 (f_X12_in (x1.toInt64) (1 : Int64) (16 : Int64)) fun r1 =>
  (if r1 = 0 then
  some ((-1000000002 : Int32), v_known, v_w)
  else
  (if x1 ≤ v_known then
  kb1 (L_X12_undo_29 F x1 F (0 : Int32) v_w) fun w9 =>
  kl (v_known - x1) fun t10 =>
  some (t10, t10, w9)
  else
  some ((-1000000003 : Int32), v_known, v_w)))

def f_X12_write (v_written : Int32) (v_w : (Nat → Int32)) (v_bookOf : (Nat → Int32)) (v_bookAt : (Nat → Int32)) (v_bookIs : (Nat → Int32)) (x1 : Int32) (x2 : Int32) (x3 : Int32) : Option (Int32 × Int32 × (Nat → Int32) × (Nat → Int32) × (Nat → Int32)) :=
  kb1 (f_X12_isRow v_w x1) fun r1 =>
  (if r1 = 0 then
  some ((-1000000001 : Int32), v_written, v_bookOf, v_bookAt, v_bookIs)
  else
  kb1 (f_X12_in (x2.toInt64) (0 : Int64) (99 : Int64)) fun r4 =>
  (if r4 = 0 then
  some ((-1000000002 : Int32), v_written, v_bookOf, v_bookAt, v_bookIs)
  else
  (if v_written = (20 : Int32) then
  some ((-1000000004 : Int32), v_written, v_bookOf, v_bookAt, v_bookIs)
  else
  if kin v_written 20 then
  kl (upd v_bookOf v_written.toNatClampNeg x1) fun w9 =>
  if kin v_written 20 then
  kl (upd v_bookAt v_written.toNatClampNeg x2) fun w11 =>
  if kin v_written 20 then
  kl (upd v_bookIs v_written.toNatClampNeg x3) fun w13 =>
  kl (v_written + (1 : Int32)) fun t14 =>
  some (t14, t14, w9, w11, w13)
  else none
  else none
  else none)))

def f_X12_tear (v_written : Int32) : Option (Int32 × Int32) :=
  some (v_written, (0 : Int32))

def f_X12_seed (v_seed : Int32) (x1 : Int32) : Option (Int32 × Int32) :=
  (if 0 ≤ x1 then
  some (v_seed, x1)
  else
  some ((-1000000002 : Int32), v_seed))

def f_X12_keep (F : Nat) (v_known : Int32) (v_kept : Int32) (v_seed : Int32) (v_w : (Nat → Int32)) (v_imageSeed : (Nat → Int32)) (x1 : Int32) : Option (Int32 × Int32 × Int32 × (Nat → Int32) × (Nat → Int32)) :=
  kb1 (f_X12_in (x1.toInt64) (0 : Int64) (1 : Int64)) fun r1 =>
  (if r1 = 0 then
  some ((-1000000001 : Int32), v_known, v_kept, v_w, v_imageSeed)
  else
  kb1 (f_X12_copyRow F v_w (0 : Int32) ((374 : Int32) + ((22 : Int32) * x1))) fun w4 =>
  if kin x1 2 then
  kl (upd v_imageSeed x1.toNatClampNeg v_seed) fun w7 =>
  kl (v_kept ||| ((1 : Int32) <<< (x1 &&& 31))) fun t8 =>
  some ((1 : Int32), (0 : Int32), t8, w4, w7)
  else none)

def f_X12_goBack (F : Nat) (v_known : Int32) (v_kept : Int32) (v_seed : Int32) (v_w : (Nat → Int32)) (v_imageSeed : (Nat → Int32)) (x1 : Int32) : Option (Int32 × Int32 × Int32 × (Nat → Int32)) :=
  kb1 (f_X12_in (x1.toInt64) (0 : Int64) (1 : Int64)) fun r1 =>
  (if r1 = 0 then
  some ((-1000000001 : Int32), v_known, v_seed, v_w)
  else
  kb1 (f_X12_has v_kept x1) fun r4 =>
  (if r4 = 0 then
  some ((-1000000003 : Int32), v_known, v_seed, v_w)
  else
  kb1 (f_X12_copyRow F v_w ((374 : Int32) + ((22 : Int32) * x1)) (0 : Int32)) fun w7 =>
  if kin x1 2 then
  kl (v_imageSeed x1.toNatClampNeg) fun t10 =>
  some ((1 : Int32), (0 : Int32), t10, w7)
  else none))

def f_X3_p (v_primeNumber : Int32) : Option Int32 :=
  (if v_primeNumber < 0 then
  some (2 : Int32)
  else
  (if (25 : Int32) ≤ v_primeNumber then
  some (2 : Int32)
  else
  if kin v_primeNumber 25 then
  some (kPr v_primeNumber.toNatClampNeg)
  else none))

def f_X3_number (v_numbers : (Nat → Int32)) (x1 : Int32) (x2 : Int32) : Option Int32 :=
  if kin ((x1 * (5 : Int32)) + x2) 20 then
  some (v_numbers ((x1 * (5 : Int32)) + x2).toNatClampNeg)
  else none

def L_X9_exchangeRows_C_2 (x1 : Int32) (x2 : Int32) (v_width : Int32) : Nat → Int32 → (Nat → Nat → Int64) → Option (Nat → Nat → Int64)
  | 0, _, _ => none
  | fu + 1, x3, v_rows =>
    (if v_width ≤ x3 then
    some v_rows
    else
    if kin x1 4 then
    if kin x3 5 then
    kl (v_rows x1.toNatClampNeg x3.toNatClampNeg) fun t4 =>
    if kin x1 4 then
    if kin x2 4 then
    if kin x3 5 then
    if kin x3 5 then
    kl (ku v_rows (x1.toNatClampNeg) (vp_updL (v_rows (x1.toNatClampNeg)) x3.toNatClampNeg (v_rows x2.toNatClampNeg x3.toNatClampNeg))) fun w9 =>
    if kin x2 4 then
    if kin x3 5 then
    kl (ku w9 (x2.toNatClampNeg) (vp_updL (w9 (x2.toNatClampNeg)) x3.toNatClampNeg t4)) fun w12 =>
    kl (x3 + (1 : Int32)) fun t13 =>
    L_X9_exchangeRows_C_2 x1 x2 v_width fu t13 w12
    else none
    else none
    else none
    else none
    else none
    else none
    else none
    else none)

def f_X9_exchangeRows_C (F : Nat) (v_width : Int32) (v_rows : (Nat → Nat → Int64)) (x1 : Int32) (x2 : Int32) : Option (Nat → Nat → Int64) :=
  kb1 (L_X9_exchangeRows_C_2 x1 x2 v_width F (0 : Int32) v_rows) fun w14 =>
  some w14

def L_X9_raise_C_5 (x1 : Int32) (v_n : Int32) (v_rows : (Nat → Nat → Int64)) : Nat → Int32 → Option Int32
  | 0, _ => none
  | fu + 1, x2 =>
    (if v_n ≤ x2 then
    some x2
    else
    if kin x2 4 then
    if kin x1 5 then
    (if (v_rows x2.toNatClampNeg x1.toNatClampNeg) = (0 : Int64) then
    kl (x2 + (1 : Int32)) fun t5 =>
    L_X9_raise_C_5 x1 v_n v_rows fu t5
    else
    some x2)
    else none
    else none)

def f_X9_raise_C (F : Nat) (v_n : Int32) (v_rank : Int32) (v_exchanges : Int32) (v_width : Int32) (v_rows : (Nat → Nat → Int64)) (x1 : Int32) : Option (Int32 × Int32 × (Nat → Nat → Int64)) :=
  kb1 (L_X9_raise_C_5 x1 v_n v_rows F v_rank) fun y6 =>
  (if y6 < v_n then
  (if y6 ≤ v_rank then
  some ((1 : Int32), v_exchanges, v_rows)
  else
  kb1 (f_X9_exchangeRows_C F v_width v_rows y6 v_rank) fun w9 =>
  kl (v_exchanges + (1 : Int32)) fun t11 =>
  some ((1 : Int32), t11, w9))
  else
  some ((0 : Int32), v_exchanges, v_rows))

def f_X11_quotient (x0 : Int64) (x2 : Int64) : Option Int64 :=
  (if x2 = (0 : Int64) then
  some (0 : Int64)
  else
  if ¬ x2 = 0 then
  some (x0 / x2)
  else none)

def L_X1_clearRow_25 (x1 : Int32) (x3 : Int64) (x5 : Int64) (v_rank : Int32) (v_scale : Int64) : Nat → Int32 → (Nat → Nat → Int64) → Option (Nat → Nat → Int64)
  | 0, _, _ => none
  | fu + 1, x7, v_rows =>
    (if (5 : Int32) ≤ x7 then
    some v_rows
    else
    if kin x1 4 then
    if kin x1 4 then
    if kin x7 5 then
    if kin v_rank 4 then
    if kin x7 5 then
    kb1 (f_X11_quotient ((x3 * (v_rows x1.toNatClampNeg x7.toNatClampNeg)) - (x5 * (v_rows v_rank.toNatClampNeg x7.toNatClampNeg))) v_scale) fun r13 =>
    if kin x7 5 then
    kl (ku v_rows (x1.toNatClampNeg) (vp_updL (v_rows (x1.toNatClampNeg)) x7.toNatClampNeg r13)) fun w16 =>
    kl (x7 + (1 : Int32)) fun t17 =>
    L_X1_clearRow_25 x1 x3 x5 v_rank v_scale fu t17 w16
    else none
    else none
    else none
    else none
    else none
    else none)

def f_X1_clearRow (F : Nat) (v_rank : Int32) (v_scale : Int64) (v_rows : (Nat → Nat → Int64)) (x1 : Int32) (x2 : Int32) : Option (Nat → Nat → Int64) :=
  if kin v_rank 4 then
  if kin x2 5 then
  kl (v_rows v_rank.toNatClampNeg x2.toNatClampNeg) fun t3 =>
  if kin x1 4 then
  if kin x2 5 then
  kl (v_rows x1.toNatClampNeg x2.toNatClampNeg) fun t6 =>
  kb1 (L_X1_clearRow_25 x1 t3 t6 v_rank v_scale F (0 : Int32) v_rows) fun w18 =>
  some w18
  else none
  else none
  else none
  else none

def L_X1_clearColumn_2 (F : Nat) (x1 : Int32) (v_n : Int32) (v_rank : Int32) (v_scale : Int64) : Nat → Int32 → (Nat → Nat → Int64) → Option (Nat → Nat → Int64)
  | 0, _, _ => none
  | fu + 1, x2, v_rows =>
    (if v_n ≤ x2 then
    some v_rows
    else
    (if x2 = v_rank then
    kl (x2 + (1 : Int32)) fun t3 =>
    L_X1_clearColumn_2 F x1 v_n v_rank v_scale fu t3 v_rows
    else
    kb1 (f_X1_clearRow F v_rank v_scale v_rows x2 x1) fun w4 =>
    kl (x2 + (1 : Int32)) fun t6 =>
    L_X1_clearColumn_2 F x1 v_n v_rank v_scale fu t6 w4))

def f_X1_clearColumn (F : Nat) (v_n : Int32) (v_rank : Int32) (v_scale : Int64) (v_rows : (Nat → Nat → Int64)) (v_leads : (Nat → Int32)) (x1 : Int32) : Option (Int64 × (Nat → Nat → Int64) × (Nat → Int32)) :=
  kb1 (L_X1_clearColumn_2 F x1 v_n v_rank v_scale F (0 : Int32) v_rows) fun w7 =>
  if kin v_rank 4 then
  if kin x1 5 then
  kl (w7 v_rank.toNatClampNeg x1.toNatClampNeg) fun t10 =>
  if kin v_rank 4 then
  kl (upd v_leads v_rank.toNatClampNeg x1) fun w12 =>
  some (t10, w7, w12)
  else none
  else none
  else none

def L_X9_clearColumns_C_12 (F : Nat) (v_n : Int32) (v_width : Int32) : Nat → Int32 → Int32 → Int32 → Int64 → (Nat → Nat → Int64) → (Nat → Int32) → Option (Int32 × Int32 × Int64 × (Nat → Nat → Int64) × (Nat → Int32))
  | 0, _, _, _, _, _, _ => none
  | fu + 1, x1, v_rank, v_exchanges, v_scale, v_rows, v_leads =>
    (if v_n ≤ x1 then
    some (v_rank, v_exchanges, v_scale, v_rows, v_leads)
    else
    kb3 (f_X9_raise_C F v_n v_rank v_exchanges v_width v_rows x1) fun r2 w3 w4 =>
    (if r2 = 0 then
    kl (x1 + (1 : Int32)) fun t7 =>
    L_X9_clearColumns_C_12 F v_n v_width fu t7 v_rank w3 v_scale w4 v_leads
    else
    kb3 (f_X1_clearColumn F v_n v_rank v_scale w4 v_leads x1) fun w8 w9 w10 =>
    kl (v_rank + (1 : Int32)) fun t12 =>
    kl (x1 + (1 : Int32)) fun t13 =>
    L_X9_clearColumns_C_12 F v_n v_width fu t13 t12 w3 w8 w9 w10))

def f_X9_clearColumns_C (F : Nat) (v_n : Int32) (v_rank : Int32) (v_exchanges : Int32) (v_width : Int32) (v_scale : Int64) (v_rows : (Nat → Nat → Int64)) (v_leads : (Nat → Int32)) : Option (Int32 × Int32 × Int64 × (Nat → Nat → Int64) × (Nat → Int32)) :=
  kb5 (L_X9_clearColumns_C_12 F v_n v_width F (0 : Int32) (0 : Int32) (0 : Int32) v_scale v_rows v_leads) fun w14 w15 w16 w17 w18 =>
  some (w14, w15, w16, w17, w18)

def L_X1_clear_22 (x2 : Int32) (va1_numbers : (Nat → Int32)) : Nat → Int32 → (Nat → Nat → Int64) → Option (Nat → Nat → Int64)
  | 0, _, _ => none
  | fu + 1, x3, v_rows =>
    (if (5 : Int32) ≤ x3 then
    some v_rows
    else
    if kin x2 4 then
    kb1 (f_X3_number va1_numbers x2 x3) fun r4 =>
    if kin x3 5 then
    kl (ku v_rows (x2.toNatClampNeg) (vp_updL (v_rows (x2.toNatClampNeg)) x3.toNatClampNeg (r4.toInt64))) fun w7 =>
    kl (x3 + (1 : Int32)) fun t8 =>
    L_X1_clear_22 x2 va1_numbers fu t8 w7
    else none
    else none)

def L_X1_clear_15 (F : Nat) (va1_numbers : (Nat → Int32)) : Nat → Int32 → (Nat → Nat → Int64) → Option (Nat → Nat → Int64)
  | 0, _, _ => none
  | fu + 1, x2, v_rows =>
    (if (4 : Int32) ≤ x2 then
    some v_rows
    else
    kb1 (L_X1_clear_22 x2 va1_numbers F (0 : Int32) v_rows) fun w9 =>
    kl (x2 + (1 : Int32)) fun t10 =>
    L_X1_clear_15 F va1_numbers fu t10 w9)

def f_X1_clear (F : Nat) (v_n : Int32) (v_rank : Int32) (v_exchanges : Int32) (v_width : Int32) (v_scale : Int64) (v_rows : (Nat → Nat → Int64)) (v_leads : (Nat → Int32)) (va1_n : Int32) (va1_numbers : (Nat → Int32)) : Option (Int32 × Int32 × Int32 × Int64 × (Nat → Nat → Int64) × (Nat → Int32)) :=
  kb1 (L_X1_clear_15 F va1_numbers F (0 : Int32) v_rows) fun w11 =>
  kb5 (f_X9_clearColumns_C F va1_n v_rank v_exchanges v_width (1 : Int64) w11 v_leads) fun w12 w13 w14 w15 w16 =>
  some (va1_n, w12, w13, w14, w15, w16)

def f_X1_determinant (v_n : Int32) (v_rank : Int32) (v_exchanges : Int32) (v_scale : Int64) : Option Int64 :=
  (if v_n ≤ v_rank then
  (if (v_exchanges - v_exchanges / (2 : Int32) * (2 : Int32)) = 0 then
  some v_scale
  else
  some (-v_scale))
  else
  some (0 : Int64))

def L_X9_fitsSide_C_5 (v_n : Int32) (v_rows : (Nat → Nat → Int64)) : Nat → Int32 → Option (Unit ⊕ Unit)
  | 0, _ => none
  | fu + 1, x1 =>
    (if v_n ≤ x1 then
    some (.inr ())
    else
    if kin x1 4 then
    if kin (4 : Int32) 5 then
    (if (v_rows x1.toNatClampNeg (4 : Int32).toNatClampNeg) = (0 : Int64) then
    kl (x1 + (1 : Int32)) fun t5 =>
    L_X9_fitsSide_C_5 v_n v_rows fu t5
    else
    some (.inl ()))
    else none
    else none)

def f_X9_fitsSide_C (F : Nat) (v_n : Int32) (v_rank : Int32) (v_rows : (Nat → Nat → Int64)) : Option Int32 :=
  ks (L_X9_fitsSide_C_5 v_n v_rows F v_rank)
  (fun _ =>
  some (0 : Int32))
  (fun _ =>
  some (1 : Int32))

def f_X1_wideRank (F : Nat) (v_n : Int32) (v_rank : Int32) (v_rows : (Nat → Nat → Int64)) : Option Int32 :=
  kb1 (f_X9_fitsSide_C F v_n v_rank v_rows) fun r1 =>
  (if r1 = 0 then
  some (v_rank + (1 : Int32))
  else
  some v_rank)

def f_X1_kind (F : Nat) (v_n : Int32) (v_rank : Int32) (v_rows : (Nat → Nat → Int64)) : Option Int32 :=
  kb1 (f_X9_fitsSide_C F v_n v_rank v_rows) fun r1 =>
  (if r1 = 0 then
  some (0 : Int32)
  else
  (if v_rank = v_n then
  some (1 : Int32)
  else
  some (2 : Int32)))

def L_X1_leading_4 (v_rank : Int32) (v_leads : (Nat → Int32)) : Nat → Int32 → Int32 → Option Int32
  | 0, _, _ => none
  | fu + 1, x1, x2 =>
    (if v_rank ≤ x2 then
    some x1
    else
    if kin x2 4 then
    kl (x1 ||| ((1 : Int32) <<< ((v_leads x2.toNatClampNeg) &&& 31))) fun t3 =>
    kl (x2 + (1 : Int32)) fun t4 =>
    L_X1_leading_4 v_rank v_leads fu t3 t4
    else none)

def f_X1_leading (F : Nat) (v_rank : Int32) (v_leads : (Nat → Int32)) : Option Int32 :=
  kb1 (L_X1_leading_4 v_rank v_leads F (0 : Int32) (0 : Int32)) fun y5 =>
  some y5

def L_X11_gcd_15  : Nat → Int64 → Int64 → Int32 → Option Int64
  | 0, _, _, _ => none
  | fu + 1, x4, x6, x8 =>
    (if (200 : Int32) ≤ x8 then
    some x4
    else
    (if x6 = (0 : Int64) then
    some x4
    else
    if ¬ x6 = 0 then
    kl (x4 - x4 / x6 * x6) fun t6 =>
    kl (x8 + (1 : Int32)) fun t7 =>
    L_X11_gcd_15 fu x6 t6 t7
    else none))

def f_X11_gcd (F : Nat) (x0 : Int64) (x2 : Int64) : Option Int64 :=
  kl (if 0 < x0 then x0 else -x0) fun t1 =>
  kl (if 0 < x2 then x2 else -x2) fun t2 =>
  kb1 (L_X11_gcd_15 F t1 t2 (0 : Int32)) fun y8 =>
  some y8

def f_X1_below (F : Nat) (v_scale : Int64) (v_rows : (Nat → Nat → Int64)) (x1 : Int32) (x2 : Int32) : Option Int64 :=
  if kin x1 4 then
  if kin x2 5 then
  kb1 (f_X11_gcd F (v_rows x1.toNatClampNeg x2.toNatClampNeg) v_scale) fun r3 =>
  kb1 (f_X11_quotient (if 0 < v_scale then v_scale else -v_scale) r3) fun r5 =>
  some r5
  else none
  else none

def L_X1_isBroken_2 (F : Nat) (x1 : Int32) (v_n : Int32) (v_scale : Int64) (v_rows : (Nat → Nat → Int64)) : Nat → Int32 → Option (Unit ⊕ Unit)
  | 0, _ => none
  | fu + 1, x2 =>
    (if v_n ≤ x2 then
    some (.inr ())
    else
    kb1 (f_X1_below F v_scale v_rows x1 x2) fun r2 =>
    (if r2 = (1 : Int64) then
    kl (x2 + (1 : Int32)) fun t5 =>
    L_X1_isBroken_2 F x1 v_n v_scale v_rows fu t5
    else
    some (.inl ())))

def f_X1_isBroken (F : Nat) (v_n : Int32) (v_scale : Int64) (v_rows : (Nat → Nat → Int64)) (x1 : Int32) : Option Int32 :=
  ks (L_X1_isBroken_2 F x1 v_n v_scale v_rows F (0 : Int32))
  (fun _ =>
  some (1 : Int32))
  (fun _ =>
  some (0 : Int32))

def L_X1_broken_4 (F : Nat) (v_n : Int32) (v_rank : Int32) (v_scale : Int64) (v_rows : (Nat → Nat → Int64)) : Nat → Int32 → Int32 → Option Int32
  | 0, _, _ => none
  | fu + 1, x1, x2 =>
    (if v_rank ≤ x2 then
    some x1
    else
    kb1 (f_X1_isBroken F v_n v_scale v_rows x2) fun r2 =>
    (if r2 = 0 then
    kl (x2 + (1 : Int32)) fun t5 =>
    L_X1_broken_4 F v_n v_rank v_scale v_rows fu x1 t5
    else
    kl (x1 + (1 : Int32)) fun t6 =>
    kl (x2 + (1 : Int32)) fun t7 =>
    L_X1_broken_4 F v_n v_rank v_scale v_rows fu t6 t7))

def f_X1_broken (F : Nat) (v_n : Int32) (v_rank : Int32) (v_scale : Int64) (v_rows : (Nat → Nat → Int64)) : Option Int32 :=
  kb1 (L_X1_broken_4 F v_n v_rank v_scale v_rows F (0 : Int32) (0 : Int32)) fun y8 =>
  some y8

def f_X11_leftOver (x0 : Int64) (x2 : Int32) : Option Int32 :=
  (if x2 = 0 then
  some (0 : Int32)
  else
  if ¬ (x2.toInt64) = 0 then
  kl (x0 - x0 / (x2.toInt64) * (x2.toInt64)) fun t3 =>
  (if (0 : Int64) ≤ t3 then
  some (t3.toInt32)
  else
  some ((t3 + (x2.toInt64)).toInt32))
  else none)

def L_X11_badPrimes_13 (x0 : Int64) (x4 : Int32) : Nat → Int32 → Int32 → Option Int32
  | 0, _, _ => none
  | fu + 1, x2, x5 =>
    (if x4 ≤ x5 then
    some x2
    else
    if kin x5 25 then
    kl (kPr x5.toNatClampNeg) fun t3 =>
    kb1 (f_X11_leftOver x0 t3) fun r4 =>
    (if r4 = 0 then
    kl (x2 + (1 : Int32)) fun t8 =>
    kl (x5 + (1 : Int32)) fun t9 =>
    L_X11_badPrimes_13 x0 x4 fu t8 t9
    else
    kl (x5 + (1 : Int32)) fun t7 =>
    L_X11_badPrimes_13 x0 x4 fu x2 t7)
    else none)

def f_X11_badPrimes (F : Nat) (x0 : Int64) : Option Int32 :=
  kb1 (L_X11_badPrimes_13 x0 (25 : Int32) F (0 : Int32) (0 : Int32)) fun y10 =>
  some y10

def f_X11_toldOfTable (F : Nat) (v_now_n : Int32) (v_now_numbers : (Nat → Int32)) (v_clearing_n : Int32) (v_clearing_rank : Int32) (v_clearing_exchanges : Int32) (v_clearing_width : Int32) (v_clearing_scale : Int64) (v_clearing_rows : (Nat → Nat → Int64)) (v_clearing_leads : (Nat → Int32)) (x1 : Int32) : Option (Int32 × Int32 × Int32 × Int32 × Int64 × (Nat → Nat → Int64) × (Nat → Int32)) :=
  kb6 (f_X1_clear F v_clearing_n v_clearing_rank v_clearing_exchanges v_clearing_width v_clearing_scale v_clearing_rows v_clearing_leads v_now_n v_now_numbers) fun w1 w2 w3 w4 w5 w6 =>
  (if x1 = 2 then
  kb1 (f_X1_determinant w1 w2 w3 w4) fun r9 =>
  some (((r9.toInt32) + (1000000000 : Int32)), w1, w2, w3, w4, w5, w6)
  else
  (if x1 = 3 then
  some (w2, w1, w2, w3, w4, w5, w6)
  else
  (if x1 = 4 then
  kb1 (f_X1_wideRank F w1 w2 w5) fun r13 =>
  some (r13, w1, w2, w3, w4, w5, w6)
  else
  (if x1 = 5 then
  kb1 (f_X1_kind F w1 w2 w5) fun r16 =>
  some (r16, w1, w2, w3, w4, w5, w6)
  else
  (if x1 = 6 then
  kb1 (f_X1_leading F w2 w6) fun r19 =>
  some (r19, w1, w2, w3, w4, w5, w6)
  else
  (if x1 = 7 then
  kb1 (f_X1_broken F w1 w2 w4 w5) fun r22 =>
  some (r22, w1, w2, w3, w4, w5, w6)
  else
  kb1 (f_X1_determinant w1 w2 w3 w4) fun r24 =>
  kb1 (f_X11_badPrimes F r24) fun r26 =>
  some (r26, w1, w2, w3, w4, w5, w6)))))))

def L_X9_exchangeRows_R_2 (x1 : Int32) (x2 : Int32) (v_width : Int32) : Nat → Int32 → (Nat → Nat → Int64) → Option (Nat → Nat → Int64)
  | 0, _, _ => none
  | fu + 1, x3, v_rows =>
    (if v_width ≤ x3 then
    some v_rows
    else
    if kin x1 4 then
    if kin x3 9 then
    kl (v_rows x1.toNatClampNeg x3.toNatClampNeg) fun t4 =>
    if kin x1 4 then
    if kin x2 4 then
    if kin x3 9 then
    if kin x3 9 then
    kl (ku v_rows (x1.toNatClampNeg) (vp_updL (v_rows (x1.toNatClampNeg)) x3.toNatClampNeg (v_rows x2.toNatClampNeg x3.toNatClampNeg))) fun w9 =>
    if kin x2 4 then
    if kin x3 9 then
    kl (ku w9 (x2.toNatClampNeg) (vp_updL (w9 (x2.toNatClampNeg)) x3.toNatClampNeg t4)) fun w12 =>
    kl (x3 + (1 : Int32)) fun t13 =>
    L_X9_exchangeRows_R_2 x1 x2 v_width fu t13 w12
    else none
    else none
    else none
    else none
    else none
    else none
    else none
    else none)

def f_X9_exchangeRows_R (F : Nat) (v_width : Int32) (v_rows : (Nat → Nat → Int64)) (x1 : Int32) (x2 : Int32) : Option (Nat → Nat → Int64) :=
  kb1 (L_X9_exchangeRows_R_2 x1 x2 v_width F (0 : Int32) v_rows) fun w14 =>
  some w14

def L_X9_raise_R_5 (x1 : Int32) (v_n : Int32) (v_rows : (Nat → Nat → Int64)) : Nat → Int32 → Option Int32
  | 0, _ => none
  | fu + 1, x2 =>
    (if v_n ≤ x2 then
    some x2
    else
    if kin x2 4 then
    if kin x1 9 then
    (if (v_rows x2.toNatClampNeg x1.toNatClampNeg) = (0 : Int64) then
    kl (x2 + (1 : Int32)) fun t5 =>
    L_X9_raise_R_5 x1 v_n v_rows fu t5
    else
    some x2)
    else none
    else none)

def f_X9_raise_R (F : Nat) (v_n : Int32) (v_rank : Int32) (v_exchanges : Int32) (v_width : Int32) (v_rows : (Nat → Nat → Int64)) (x1 : Int32) : Option (Int32 × Int32 × (Nat → Nat → Int64)) :=
  kb1 (L_X9_raise_R_5 x1 v_n v_rows F v_rank) fun y6 =>
  (if y6 < v_n then
  (if y6 ≤ v_rank then
  some ((1 : Int32), v_exchanges, v_rows)
  else
  kb1 (f_X9_exchangeRows_R F v_width v_rows y6 v_rank) fun w9 =>
  kl (v_exchanges + (1 : Int32)) fun t11 =>
  some ((1 : Int32), t11, w9))
  else
  some ((0 : Int32), v_exchanges, v_rows))

def L_X8_oneOver_2 (x1 : Int64) (v_p : Int32) : Nat → Int32 → Option (Int32 ⊕ Unit)
  | 0, _ => none
  | fu + 1, x3 =>
    (if v_p ≤ x3 then
    some (.inr ())
    else
    kb1 (f_X11_leftOver (x1 * (x3.toInt64)) v_p) fun r2 =>
    (if r2 = (1 : Int32) then
    some (.inl x3)
    else
    kl (x3 + (1 : Int32)) fun t5 =>
    L_X8_oneOver_2 x1 v_p fu t5))

def f_X8_oneOver (F : Nat) (v_p : Int32) (x1 : Int64) : Option Int32 :=
  ks (L_X8_oneOver_2 x1 v_p F (1 : Int32))
  (kf1 fun y6 =>
  some y6)
  (fun _ =>
  some (0 : Int32))

def L_X8_clearColumn_18 (x1 : Int32) (x2 : Int32) (v_rank : Int32) (v_p : Int32) : Nat → Int32 → (Nat → Nat → Int64) → Option (Nat → Nat → Int64)
  | 0, _, _ => none
  | fu + 1, x3, v_rows =>
    (if (9 : Int32) ≤ x3 then
    some v_rows
    else
    if kin v_rank 4 then
    if kin v_rank 4 then
    if kin x3 9 then
    kb1 (f_X11_leftOver ((v_rows v_rank.toNatClampNeg x3.toNatClampNeg) * (x2.toInt64)) v_p) fun r9 =>
    if kin x3 9 then
    kl (ku v_rows (v_rank.toNatClampNeg) (vp_updL (v_rows (v_rank.toNatClampNeg)) x3.toNatClampNeg (r9.toInt64))) fun w12 =>
    kl (x3 + (1 : Int32)) fun t13 =>
    L_X8_clearColumn_18 x1 x2 v_rank v_p fu t13 w12
    else none
    else none
    else none
    else none)

def L_X8_clearColumn_98 (x1 : Int32) (x3 : Int32) (x4 : Int64) (v_rank : Int32) (v_p : Int32) : Nat → Int32 → (Nat → Nat → Int64) → Option (Nat → Nat → Int64)
  | 0, _, _ => none
  | fu + 1, x6, v_rows =>
    (if (9 : Int32) ≤ x6 then
    some v_rows
    else
    if kin x3 4 then
    if kin x3 4 then
    if kin x6 9 then
    if kin v_rank 4 then
    if kin x6 9 then
    kb1 (f_X11_leftOver ((v_rows x3.toNatClampNeg x6.toNatClampNeg) - (x4 * (v_rows v_rank.toNatClampNeg x6.toNatClampNeg))) v_p) fun r26 =>
    if kin x6 9 then
    kl (ku v_rows (x3.toNatClampNeg) (vp_updL (v_rows (x3.toNatClampNeg)) x6.toNatClampNeg (r26.toInt64))) fun w29 =>
    kl (x6 + (1 : Int32)) fun t30 =>
    L_X8_clearColumn_98 x1 x3 x4 v_rank v_p fu t30 w29
    else none
    else none
    else none
    else none
    else none
    else none)

def L_X8_clearColumn_65 (F : Nat) (x1 : Int32) (v_n : Int32) (v_rank : Int32) (v_p : Int32) : Nat → Int32 → (Nat → Nat → Int64) → Option (Nat → Nat → Int64)
  | 0, _, _ => none
  | fu + 1, x3, v_rows =>
    (if v_n ≤ x3 then
    some v_rows
    else
    (if x3 = v_rank then
    kb1 (L_X8_clearColumn_98 x1 x3 (0 : Int64) v_rank v_p F (0 : Int32) v_rows) fun w33 =>
    kl (x3 + (1 : Int32)) fun t34 =>
    L_X8_clearColumn_65 F x1 v_n v_rank v_p fu t34 w33
    else
    if kin x3 4 then
    if kin x1 9 then
    kl (v_rows x3.toNatClampNeg x1.toNatClampNeg) fun t19 =>
    kb1 (L_X8_clearColumn_98 x1 x3 t19 v_rank v_p F (0 : Int32) v_rows) fun w31 =>
    kl (x3 + (1 : Int32)) fun t32 =>
    L_X8_clearColumn_65 F x1 v_n v_rank v_p fu t32 w31
    else none
    else none))

def f_X8_clearColumn (F : Nat) (v_n : Int32) (v_rank : Int32) (v_p : Int32) (v_rows : (Nat → Nat → Int64)) (x1 : Int32) : Option (Nat → Nat → Int64) :=
  if kin v_rank 4 then
  if kin x1 9 then
  kb1 (f_X8_oneOver F v_p (v_rows v_rank.toNatClampNeg x1.toNatClampNeg)) fun r3 =>
  kb1 (L_X8_clearColumn_18 x1 r3 v_rank v_p F (0 : Int32) v_rows) fun w14 =>
  kb1 (L_X8_clearColumn_65 F x1 v_n v_rank v_p F (0 : Int32) w14) fun w35 =>
  some w35
  else none
  else none

def L_X9_clearColumns_R_12 (F : Nat) (v_n : Int32) (v_width : Int32) (v_p : Int32) : Nat → Int32 → Int32 → Int32 → (Nat → Nat → Int64) → Option (Int32 × Int32 × (Nat → Nat → Int64))
  | 0, _, _, _, _ => none
  | fu + 1, x1, v_rank, v_exchanges, v_rows =>
    (if v_n ≤ x1 then
    some (v_rank, v_exchanges, v_rows)
    else
    kb3 (f_X9_raise_R F v_n v_rank v_exchanges v_width v_rows x1) fun r2 w3 w4 =>
    (if r2 = 0 then
    kl (x1 + (1 : Int32)) fun t7 =>
    L_X9_clearColumns_R_12 F v_n v_width v_p fu t7 v_rank w3 w4
    else
    kb1 (f_X8_clearColumn F v_n v_rank v_p w4 x1) fun w8 =>
    kl (v_rank + (1 : Int32)) fun t10 =>
    kl (x1 + (1 : Int32)) fun t11 =>
    L_X9_clearColumns_R_12 F v_n v_width v_p fu t11 t10 w3 w8))

def f_X9_clearColumns_R (F : Nat) (v_n : Int32) (v_rank : Int32) (v_exchanges : Int32) (v_width : Int32) (v_p : Int32) (v_rows : (Nat → Nat → Int64)) : Option (Int32 × Int32 × (Nat → Nat → Int64)) :=
  kb3 (L_X9_clearColumns_R_12 F v_n v_width v_p F (0 : Int32) (0 : Int32) (0 : Int32) v_rows) fun w12 w13 w14 =>
  some (w12, w13, w14)

def L_X8_clear_25 (x2 : Int32) (v_p : Int32) (va1_numbers : (Nat → Int32)) : Nat → Int32 → (Nat → Nat → Int64) → Option (Nat → Nat → Int64)
  | 0, _, _ => none
  | fu + 1, x3, v_rows =>
    (if (5 : Int32) ≤ x3 then
    some v_rows
    else
    if kin x2 4 then
    kb1 (f_X3_number va1_numbers x2 x3) fun r6 =>
    kb1 (f_X11_leftOver (r6.toInt64) v_p) fun r8 =>
    if kin x3 9 then
    kl (ku v_rows (x2.toNatClampNeg) (vp_updL (v_rows (x2.toNatClampNeg)) x3.toNatClampNeg (r8.toInt64))) fun w11 =>
    kl (x3 + (1 : Int32)) fun t12 =>
    L_X8_clear_25 x2 v_p va1_numbers fu t12 w11
    else none
    else none)

def L_X8_clear_61 (x2 : Int32) : Nat → Int32 → (Nat → Nat → Int64) → Option (Nat → Nat → Int64)
  | 0, _, _ => none
  | fu + 1, x3, v_rows =>
    (if (9 : Int32) ≤ x3 then
    some v_rows
    else
    if kin x2 4 then
    (if (x3 - (5 : Int32)) = x2 then
    if kin x3 9 then
    kl (ku v_rows (x2.toNatClampNeg) (vp_updL (v_rows (x2.toNatClampNeg)) x3.toNatClampNeg (1 : Int64))) fun w21 =>
    kl (x3 + (1 : Int32)) fun t22 =>
    L_X8_clear_61 x2 fu t22 w21
    else none
    else
    if kin x3 9 then
    kl (ku v_rows (x2.toNatClampNeg) (vp_updL (v_rows (x2.toNatClampNeg)) x3.toNatClampNeg (0 : Int64))) fun w18 =>
    kl (x3 + (1 : Int32)) fun t19 =>
    L_X8_clear_61 x2 fu t19 w18
    else none)
    else none)

def L_X8_clear_18 (F : Nat) (v_p : Int32) (va1_numbers : (Nat → Int32)) : Nat → Int32 → (Nat → Nat → Int64) → Option (Nat → Nat → Int64)
  | 0, _, _ => none
  | fu + 1, x2, v_rows =>
    (if (4 : Int32) ≤ x2 then
    some v_rows
    else
    kb1 (L_X8_clear_25 x2 v_p va1_numbers F (0 : Int32) v_rows) fun w13 =>
    kb1 (L_X8_clear_61 x2 F (5 : Int32) w13) fun w23 =>
    kl (x2 + (1 : Int32)) fun t24 =>
    L_X8_clear_18 F v_p va1_numbers fu t24 w23)

def f_X8_clear (F : Nat) (v_n : Int32) (v_rank : Int32) (v_exchanges : Int32) (v_width : Int32) (v_p : Int32) (v_rows : (Nat → Nat → Int64)) (va1_n : Int32) (va1_primeNumber : Int32) (va1_numbers : (Nat → Int32)) : Option (Int32 × Int32 × Int32 × Int32 × (Nat → Nat → Int64)) :=
  kb1 (f_X3_p va1_primeNumber) fun r1 =>
  kb1 (L_X8_clear_18 F r1 va1_numbers F (0 : Int32) v_rows) fun w25 =>
  kb3 (f_X9_clearColumns_R F va1_n v_rank v_exchanges v_width r1 w25) fun w26 w27 w28 =>
  some (va1_n, w26, w27, r1, w28)

def f_X11_primeIsBad (F : Nat) (v_now_n : Int32) (v_now_primeNumber : Int32) (v_now_numbers : (Nat → Int32)) (v_residues_n : Int32) (v_residues_rank : Int32) (v_residues_exchanges : Int32) (v_residues_width : Int32) (v_residues_p : Int32) (v_residues_rows : (Nat → Nat → Int64)) : Option (Int32 × Int32 × Int32 × Int32 × Int32 × (Nat → Nat → Int64)) :=
  kb5 (f_X8_clear F v_residues_n v_residues_rank v_residues_exchanges v_residues_width v_residues_p v_residues_rows v_now_n v_now_primeNumber v_now_numbers) fun w1 w2 w3 w4 w5 =>
  (if v_now_n ≤ w2 then
  some ((0 : Int32), w1, w2, w3, w4, w5)
  else
  some ((1 : Int32), w1, w2, w3, w4, w5))

def L_X9_fitsSide_R_5 (v_n : Int32) (v_rows : (Nat → Nat → Int64)) : Nat → Int32 → Option (Unit ⊕ Unit)
  | 0, _ => none
  | fu + 1, x1 =>
    (if v_n ≤ x1 then
    some (.inr ())
    else
    if kin x1 4 then
    if kin (4 : Int32) 9 then
    (if (v_rows x1.toNatClampNeg (4 : Int32).toNatClampNeg) = (0 : Int64) then
    kl (x1 + (1 : Int32)) fun t5 =>
    L_X9_fitsSide_R_5 v_n v_rows fu t5
    else
    some (.inl ()))
    else none
    else none)

def f_X9_fitsSide_R (F : Nat) (v_n : Int32) (v_rank : Int32) (v_rows : (Nat → Nat → Int64)) : Option Int32 :=
  ks (L_X9_fitsSide_R_5 v_n v_rows F v_rank)
  (fun _ =>
  some (0 : Int32))
  (fun _ =>
  some (1 : Int32))

def L_X8_ways_16 (v_n : Int32) (v_p : Int32) : Nat → Int32 → Int32 → Option Int32
  | 0, _, _ => none
  | fu + 1, x1, x2 =>
    (if v_n ≤ x2 then
    some x1
    else
    kl (x1 * v_p) fun t5 =>
    kl (x2 + (1 : Int32)) fun t6 =>
    L_X8_ways_16 v_n v_p fu t5 t6)

def f_X8_ways (F : Nat) (v_n : Int32) (v_rank : Int32) (v_p : Int32) (v_rows : (Nat → Nat → Int64)) : Option Int32 :=
  kb1 (f_X9_fitsSide_R F v_n v_rank v_rows) fun r1 =>
  (if r1 = 0 then
  some (0 : Int32)
  else
  kb1 (L_X8_ways_16 v_n v_p F (1 : Int32) v_rank) fun y7 =>
  some y7)

def f_X11_toldByPrime (F : Nat) (v_now_n : Int32) (v_now_primeNumber : Int32) (v_now_numbers : (Nat → Int32)) (v_residues_n : Int32) (v_residues_rank : Int32) (v_residues_exchanges : Int32) (v_residues_width : Int32) (v_residues_p : Int32) (v_residues_rows : (Nat → Nat → Int64)) (x1 : Int32) : Option (Int32 × Int32 × Int32 × Int32 × Int32 × (Nat → Nat → Int64)) :=
  kb6 (f_X11_primeIsBad F v_now_n v_now_primeNumber v_now_numbers v_residues_n v_residues_rank v_residues_exchanges v_residues_width v_residues_p v_residues_rows) fun r1 w2 w3 w4 w5 w6 =>
  (if x1 = 8 then
  (if r1 = 0 then
  some ((0 : Int32), w2, w3, w4, w5, w6)
  else
  some ((1 : Int32), w2, w3, w4, w5, w6))
  else
  (if x1 = 10 then
  some (w3, w2, w3, w4, w5, w6)
  else
  kb1 (f_X8_ways F w2 w3 w5 w6) fun r11 =>
  some (r11, w2, w3, w4, w5, w6)))

def L_X3_squares_5 (x1 : Int32) (v_numbers : (Nat → Int32)) : Nat → Int64 → Int32 → Option Int64
  | 0, _, _ => none
  | fu + 1, x2, x4 =>
    (if (5 : Int32) ≤ x4 then
    some x2
    else
    kb1 (f_X3_number v_numbers x1 x4) fun r2 =>
    kb1 (f_X3_number v_numbers x1 x4) fun r4 =>
    kl (x2 + ((r2 * r4).toInt64)) fun t6 =>
    kl (x4 + (1 : Int32)) fun t7 =>
    L_X3_squares_5 x1 v_numbers fu t6 t7)

def f_X3_squares (F : Nat) (v_numbers : (Nat → Int32)) (x1 : Int32) : Option Int64 :=
  kb1 (L_X3_squares_5 x1 v_numbers F (0 : Int64) (0 : Int32)) fun y8 =>
  some y8

def L_X11_sure_6 (F : Nat) (v_now_n : Int32) (v_now_numbers : (Nat → Int32)) : Nat → Int64 → Int32 → Option Int64
  | 0, _, _ => none
  | fu + 1, x1, x3 =>
    (if v_now_n ≤ x3 then
    some x1
    else
    kb1 (f_X3_squares F v_now_numbers x3) fun r2 =>
    kl (x1 * r2) fun t4 =>
    kl (x3 + (1 : Int32)) fun t5 =>
    L_X11_sure_6 F v_now_n v_now_numbers fu t4 t5)

def L_X11_sure_39 (x1 : Int64) (v_now_primeNumber : Int32) : Nat → Int32 → Int64 → Option Int32
  | 0, _, _ => none
  | fu + 1, x3, x4 =>
    (if x1 < x4 then
    some x3
    else
    (if (100 : Int32) ≤ x3 then
    some x3
    else
    kl (x3 + (1 : Int32)) fun t9 =>
    kb1 (f_X3_p v_now_primeNumber) fun r10 =>
    kl (x4 * (r10.toInt64)) fun t12 =>
    L_X11_sure_39 x1 v_now_primeNumber fu t9 t12))

def f_X11_sure (F : Nat) (v_now_n : Int32) (v_now_primeNumber : Int32) (v_now_numbers : (Nat → Int32)) : Option Int32 :=
  kb1 (L_X11_sure_6 F v_now_n v_now_numbers F (2 : Int64) (0 : Int32)) fun y6 =>
  kb1 (L_X11_sure_39 y6 v_now_primeNumber F (0 : Int32) (1 : Int64)) fun y13 =>
  some y13

def L_X7_begin_7 (va1_numbers : (Nat → Int32)) : Nat → Int32 → (Nat → Int32) → (Nat → Int64) → Option ((Nat → Int32) × (Nat → Int64))
  | 0, _, _, _ => none
  | fu + 1, x2, v_rests, v_made =>
    (if (4 : Int32) ≤ x2 then
    some (v_rests, v_made)
    else
    kb1 (f_X3_number va1_numbers x2 (4 : Int32)) fun r2 =>
    if kin x2 4 then
    kl (upd v_rests x2.toNatClampNeg r2) fun w5 =>
    if kin x2 4 then
    kl (vp_updL v_made x2.toNatClampNeg (0 : Int64)) fun w7 =>
    kl (x2 + (1 : Int32)) fun t8 =>
    L_X7_begin_7 va1_numbers fu t8 w5 w7
    else none
    else none)

def f_X7_begin (F : Nat) (v_power : Int64) (v_rests : (Nat → Int32)) (v_made : (Nat → Int64)) (va1_numbers : (Nat → Int32)) : Option (Int64 × (Nat → Int32) × (Nat → Int64)) :=
  kb2 (L_X7_begin_7 va1_numbers F (0 : Int32) v_rests v_made) fun w9 w10 =>
  some ((1 : Int64), w9, w10)

def f_X8_inverse (v_rows : (Nat → Nat → Int64)) (x1 : Int32) (x2 : Int32) : Option Int32 :=
  if kin x1 4 then
  if kin ((5 : Int32) + x2) 9 then
  some ((v_rows x1.toNatClampNeg ((5 : Int32) + x2).toNatClampNeg).toInt32)
  else none
  else none

def L_X7_step_26 (x3 : Int32) (x4 : Int32) (x5 : Int32) (v_rests : (Nat → Int32)) (va2_rows : (Nat → Nat → Int64)) : Nat → Int32 → Int32 → Option Int32
  | 0, _, _ => none
  | fu + 1, x6, x7 =>
    (if x3 ≤ x7 then
    some x6
    else
    kb1 (f_X8_inverse va2_rows x5 x7) fun r5 =>
    if kin x7 4 then
    kl (x6 + (r5 * (v_rests x7.toNatClampNeg))) fun t8 =>
    kl (x7 + (1 : Int32)) fun t9 =>
    L_X7_step_26 x3 x4 x5 v_rests va2_rows fu t8 t9
    else none)

def L_X7_step_14 (F : Nat) (x3 : Int32) (x4 : Int32) (v_power : Int64) (v_rests : (Nat → Int32)) (va2_rows : (Nat → Nat → Int64)) : Nat → Int32 → (Nat → Int32) → (Nat → Int64) → Option ((Nat → Int32) × (Nat → Int64))
  | 0, _, _, _ => none
  | fu + 1, x5, v_digits, v_made =>
    (if x3 ≤ x5 then
    some (v_digits, v_made)
    else
    kb1 (L_X7_step_26 x3 x4 x5 v_rests va2_rows F (0 : Int32) (0 : Int32)) fun y10 =>
    kb1 (f_X11_leftOver (y10.toInt64) x4) fun r11 =>
    if kin x5 4 then
    kl (upd v_digits x5.toNatClampNeg r11) fun w14 =>
    if kin x5 4 then
    if kin x5 4 then
    if kin x5 4 then
    kl (vp_updL v_made x5.toNatClampNeg ((v_made x5.toNatClampNeg) + (((w14 x5.toNatClampNeg).toInt64) * v_power))) fun w18 =>
    kl (x5 + (1 : Int32)) fun t19 =>
    L_X7_step_14 F x3 x4 v_power v_rests va2_rows fu t19 w14 w18
    else none
    else none
    else none
    else none)

def L_X7_step_124 (x3 : Int32) (x4 : Int32) (x5 : Int32) (v_digits : (Nat → Int32)) (va1_numbers : (Nat → Int32)) : Nat → Int32 → Int32 → Option Int32
  | 0, _, _ => none
  | fu + 1, x6, x7 =>
    (if x3 ≤ x7 then
    some x6
    else
    kb1 (f_X3_number va1_numbers x5 x7) fun r26 =>
    if kin x7 4 then
    kl (x6 - (r26 * (v_digits x7.toNatClampNeg))) fun t29 =>
    kl (x7 + (1 : Int32)) fun t30 =>
    L_X7_step_124 x3 x4 x5 v_digits va1_numbers fu t29 t30
    else none)

def L_X7_step_106 (F : Nat) (x3 : Int32) (x4 : Int32) (v_digits : (Nat → Int32)) (va1_numbers : (Nat → Int32)) : Nat → Int32 → (Nat → Int32) → Option (Nat → Int32)
  | 0, _, _ => none
  | fu + 1, x5, v_rests =>
    (if x3 ≤ x5 then
    some v_rests
    else
    if kin x5 4 then
    kl (v_rests x5.toNatClampNeg) fun t24 =>
    kb1 (L_X7_step_124 x3 x4 x5 v_digits va1_numbers F t24 (0 : Int32)) fun y31 =>
    kb1 (f_X11_quotient (y31.toInt64) (x4.toInt64)) fun r32 =>
    if kin x5 4 then
    kl (upd v_rests x5.toNatClampNeg (r32.toInt32)) fun w35 =>
    kl (x5 + (1 : Int32)) fun t36 =>
    L_X7_step_106 F x3 x4 v_digits va1_numbers fu t36 w35
    else none
    else none)

def f_X7_step (F : Nat) (v_power : Int64) (v_rests : (Nat → Int32)) (v_digits : (Nat → Int32)) (v_made : (Nat → Int64)) (va1_n : Int32) (va1_primeNumber : Int32) (va1_numbers : (Nat → Int32)) (va2_rows : (Nat → Nat → Int64)) : Option (Int64 × (Nat → Int32) × (Nat → Int32) × (Nat → Int64)) :=
  kb1 (f_X3_p va1_primeNumber) fun r1 =>
  kb2 (L_X7_step_14 F va1_n r1 v_power v_rests va2_rows F (0 : Int32) v_digits v_made) fun w20 w21 =>
  kb1 (L_X7_step_106 F va1_n r1 w20 va1_numbers F (0 : Int32) v_rests) fun w37 =>
  kl (v_power * (r1.toInt64)) fun t38 =>
  some (t38, w37, w20, w21)

def L_X4_boundOf_6 (x0 : Int64) : Nat → Int64 → Int32 → Option Int64
  | 0, _, _ => none
  | fu + 1, x2, x4 =>
    (if x4 < 0 then
    some x2
    else
    kl (x2 + ((1 : Int64) <<< (x4.toInt64 &&& 63))) fun t2 =>
    (if x0 ≤ (((2 : Int64) * t2) * t2) then
    kl (x4 + (-1 : Int32)) fun t4 =>
    L_X4_boundOf_6 x0 fu x2 t4
    else
    kl (x4 + (-1 : Int32)) fun t5 =>
    L_X4_boundOf_6 x0 fu t2 t5))

def f_X4_boundOf (F : Nat) (x0 : Int64) : Option Int64 :=
  kb1 (L_X4_boundOf_6 x0 F (0 : Int64) (29 : Int32)) fun y6 =>
  some y6

def L_X4_seek_21 (x5 : Int32) (x6 : Int64) : Nat → Int64 → Int64 → Int64 → Int64 → Int32 → Option (Int64 × Int64)
  | 0, _, _, _, _, _ => none
  | fu + 1, x8, x10, x12, x14, x16 =>
    (if (200 : Int32) ≤ x16 then
    some (x10, x14)
    else
    (if x10 ≤ x6 then
    some (x10, x14)
    else
    kb1 (f_X11_quotient x8 x10) fun r5 =>
    kl (x8 - (r5 * x10)) fun t7 =>
    kl (x12 - (r5 * x14)) fun t8 =>
    kl (x16 + (1 : Int32)) fun t9 =>
    L_X4_seek_21 x5 x6 fu x10 t7 x14 t8 t9))

def f_X4_seek (F : Nat) (v_found : Int32) (v_above : Int64) (v_below : Int64) (x1 : Int64) (x3 : Int64) (x5 : Int32) : Option (Int32 × Int64 × Int64) :=
  kb1 (f_X4_boundOf F x3) fun r1 =>
  kb2 (L_X4_seek_21 x5 r1 F x3 x1 (0 : Int64) (1 : Int64) (0 : Int32)) fun y10 y11 =>
  kj1 (fun (t12 : Int64) =>
  kl (if 0 < y11 then y11 else -y11) fun t14 =>
  (if r1 < t14 then
  some ((0 : Int32), t12, t14)
  else
  kb1 (f_X11_leftOver t14 x5) fun r16 =>
  (if r16 = 0 then
  some ((0 : Int32), t12, t14)
  else
  some ((1 : Int32), t12, t14)))) fun J13 =>
  (if (0 : Int64) ≤ y11 then
  J13 y10
  else
  J13 (-y10))

def L_X1_rowLedBy_2 (x1 : Int32) (v_rank : Int32) (v_leads : (Nat → Int32)) : Nat → Int32 → Option (Int32 ⊕ Unit)
  | 0, _ => none
  | fu + 1, x2 =>
    (if v_rank ≤ x2 then
    some (.inr ())
    else
    if kin x2 4 then
    (if (v_leads x2.toNatClampNeg) = x1 then
    some (.inl x2)
    else
    kl (x2 + (1 : Int32)) fun t4 =>
    L_X1_rowLedBy_2 x1 v_rank v_leads fu t4)
    else none)

def f_X1_rowLedBy (F : Nat) (v_rank : Int32) (v_leads : (Nat → Int32)) (x1 : Int32) : Option Int32 :=
  ks (L_X1_rowLedBy_2 x1 v_rank v_leads F (0 : Int32))
  (kf1 fun y5 =>
  some y5)
  (fun _ =>
  some (-1 : Int32))

def f_X1_above (F : Nat) (v_scale : Int64) (v_rows : (Nat → Nat → Int64)) (x1 : Int32) (x2 : Int32) : Option Int64 :=
  kj1 (fun (t1 : Int64) =>
  if kin x1 4 then
  if kin x2 5 then
  kb1 (f_X11_gcd F (v_rows x1.toNatClampNeg x2.toNatClampNeg) v_scale) fun r5 =>
  kb1 (f_X11_quotient t1 r5) fun r7 =>
  some r7
  else none
  else none) fun J2 =>
  (if (0 : Int64) ≤ v_scale then
  if kin x1 4 then
  if kin x2 5 then
  J2 (v_rows x1.toNatClampNeg x2.toNatClampNeg)
  else none
  else none
  else
  if kin x1 4 then
  if kin x2 5 then
  J2 (-(v_rows x1.toNatClampNeg x2.toNatClampNeg))
  else none
  else none)

def f_X1_solutionAbove (F : Nat) (v_rank : Int32) (v_scale : Int64) (v_rows : (Nat → Nat → Int64)) (v_leads : (Nat → Int32)) (x1 : Int32) : Option Int64 :=
  kb1 (f_X1_rowLedBy F v_rank v_leads x1) fun r1 =>
  (if r1 = (-1 : Int32) then
  some (0 : Int64)
  else
  kb1 (f_X1_above F v_scale v_rows r1 (4 : Int32)) fun r4 =>
  some r4)

def f_X1_solutionBelow (F : Nat) (v_rank : Int32) (v_scale : Int64) (v_rows : (Nat → Nat → Int64)) (v_leads : (Nat → Int32)) (x1 : Int32) : Option Int64 :=
  kb1 (f_X1_rowLedBy F v_rank v_leads x1) fun r1 =>
  (if r1 = (-1 : Int32) then
  some (1 : Int64)
  else
  kb1 (f_X1_below F v_scale v_rows r1 (4 : Int32)) fun r4 =>
  some r4)

def f_X4_is (v_found : Int32) (v_above : Int64) (v_below : Int64) (x1 : Int64) (x3 : Int64) : Option Int32 :=
  (if v_found = 0 then
  some (0 : Int32)
  else
  (if v_above = x1 then
  (if v_below = x3 then
  some (1 : Int32)
  else
  some (0 : Int32))
  else
  some (0 : Int32)))

def L_X10_guessAll_12 (F : Nat) (v_lifting_power : Int64) (v_lifting_made : (Nat → Int64)) (va1_n : Int32) (va1_primeNumber : Int32) (va2_rank : Int32) (va2_scale : Int64) (va2_rows : (Nat → Nat → Int64)) (va2_leads : (Nat → Int32)) : Nat → Int32 → Int32 → Int32 → Int32 → Int64 → Int64 → Option (Int32 × Int32 × Int32 × Int64 × Int64)
  | 0, _, _, _, _, _, _ => none
  | fu + 1, x3, v_allFound, v_allRight, v_guess_found, v_guess_above, v_guess_below =>
    (if va1_n ≤ x3 then
    some (v_allFound, v_allRight, v_guess_found, v_guess_above, v_guess_below)
    else
    (if v_allFound = 0 then
    some (v_allFound, v_allRight, v_guess_found, v_guess_above, v_guess_below)
    else
    if kin x3 4 then
    kb1 (f_X3_p va1_primeNumber) fun r4 =>
    kb3 (f_X4_seek F v_guess_found v_guess_above v_guess_below (v_lifting_made x3.toNatClampNeg) v_lifting_power r4) fun w6 w7 w8 =>
    if w6 = 0 ∨ w6 = 1 then
    (if v_allRight = 0 then
    kl (x3 + (1 : Int32)) fun t12 =>
    L_X10_guessAll_12 F v_lifting_power v_lifting_made va1_n va1_primeNumber va2_rank va2_scale va2_rows va2_leads fu t12 w6 (0 : Int32) w6 w7 w8
    else
    kb1 (f_X1_solutionAbove F va2_rank va2_scale va2_rows va2_leads x3) fun r13 =>
    kb1 (f_X1_solutionBelow F va2_rank va2_scale va2_rows va2_leads x3) fun r15 =>
    kb1 (f_X4_is w6 w7 w8 r13 r15) fun r17 =>
    (if r17 = 0 then
    kl (x3 + (1 : Int32)) fun t20 =>
    L_X10_guessAll_12 F v_lifting_power v_lifting_made va1_n va1_primeNumber va2_rank va2_scale va2_rows va2_leads fu t20 w6 (0 : Int32) w6 w7 w8
    else
    kl (x3 + (1 : Int32)) fun t21 =>
    L_X10_guessAll_12 F v_lifting_power v_lifting_made va1_n va1_primeNumber va2_rank va2_scale va2_rows va2_leads fu t21 w6 (1 : Int32) w6 w7 w8))
    else none
    else none))

def f_X10_guessAll (F : Nat) (v_allFound : Int32) (v_allRight : Int32) (v_lifting_power : Int64) (v_lifting_made : (Nat → Int64)) (v_guess_found : Int32) (v_guess_above : Int64) (v_guess_below : Int64) (va1_n : Int32) (va1_primeNumber : Int32) (va2_rank : Int32) (va2_scale : Int64) (va2_rows : (Nat → Nat → Int64)) (va2_leads : (Nat → Int32)) : Option (Int32 × Int32 × Int32 × Int64 × Int64) :=
  kb5 (L_X10_guessAll_12 F v_lifting_power v_lifting_made va1_n va1_primeNumber va2_rank va2_scale va2_rows va2_leads F (0 : Int32) (1 : Int32) (1 : Int32) v_guess_found v_guess_above v_guess_below) fun w22 w23 w24 w25 w26 =>
  some (w22, w23, w24, w25, w26)

def L_X10_go_21 (F : Nat) (x4 : Int32) (va1_n : Int32) (va1_primeNumber : Int32) (va1_numbers : (Nat → Int32)) (va2_rows : (Nat → Nat → Int64)) (va3_rank : Int32) (va3_scale : Int64) (va3_rows : (Nat → Nat → Int64)) (va3_leads : (Nat → Int32)) : Nat → Int32 → Int32 → Int32 → Int32 → Int32 → Int64 → (Nat → Int32) → (Nat → Int32) → (Nat → Int64) → Int32 → Int64 → Int64 → Option (Int32 × Int32 × Int32 × Int32 × Int64 × (Nat → Int32) × (Nat → Int32) × (Nat → Int64) × Int32 × Int64 × Int64)
  | 0, _, _, _, _, _, _, _, _, _, _, _, _ => none
  | fu + 1, x5, v_early, v_tooSoon, v_allFound, v_allRight, v_lifting_power, v_lifting_rests, v_lifting_digits, v_lifting_made, v_guess_found, v_guess_above, v_guess_below =>
    (if x4 < x5 then
    some (v_early, v_tooSoon, v_allFound, v_allRight, v_lifting_power, v_lifting_rests, v_lifting_digits, v_lifting_made, v_guess_found, v_guess_above, v_guess_below)
    else
    (if v_early = (-1 : Int32) then
    kb4 (f_X7_step F v_lifting_power v_lifting_rests v_lifting_digits v_lifting_made va1_n va1_primeNumber va1_numbers va2_rows) fun w7 w8 w9 w10 =>
    kb5 (f_X10_guessAll F v_allFound v_allRight w7 w10 v_guess_found v_guess_above v_guess_below va1_n va1_primeNumber va3_rank va3_scale va3_rows va3_leads) fun w12 w13 w14 w15 w16 =>
    (if w13 = 0 then
    (if w12 = 0 then
    kl (x5 + (1 : Int32)) fun t20 =>
    L_X10_go_21 F x4 va1_n va1_primeNumber va1_numbers va2_rows va3_rank va3_scale va3_rows va3_leads fu t20 v_early v_tooSoon w12 w13 w7 w8 w9 w10 w14 w15 w16
    else
    kl (v_tooSoon + (1 : Int32)) fun t21 =>
    kl (x5 + (1 : Int32)) fun t22 =>
    L_X10_go_21 F x4 va1_n va1_primeNumber va1_numbers va2_rows va3_rank va3_scale va3_rows va3_leads fu t22 v_early t21 w12 w13 w7 w8 w9 w10 w14 w15 w16)
    else
    kl (x5 + (1 : Int32)) fun t23 =>
    L_X10_go_21 F x4 va1_n va1_primeNumber va1_numbers va2_rows va3_rank va3_scale va3_rows va3_leads fu t23 x5 v_tooSoon w12 w13 w7 w8 w9 w10 w14 w15 w16)
    else
    some (v_early, v_tooSoon, v_allFound, v_allRight, v_lifting_power, v_lifting_rests, v_lifting_digits, v_lifting_made, v_guess_found, v_guess_above, v_guess_below)))

def f_X10_go (F : Nat) (v_early : Int32) (v_tooSoon : Int32) (v_allFound : Int32) (v_allRight : Int32) (v_lifting_power : Int64) (v_lifting_rests : (Nat → Int32)) (v_lifting_digits : (Nat → Int32)) (v_lifting_made : (Nat → Int64)) (v_guess_found : Int32) (v_guess_above : Int64) (v_guess_below : Int64) (va1_n : Int32) (va1_primeNumber : Int32) (va1_numbers : (Nat → Int32)) (va2_rows : (Nat → Nat → Int64)) (va3_rank : Int32) (va3_scale : Int64) (va3_rows : (Nat → Nat → Int64)) (va3_leads : (Nat → Int32)) (x4 : Int32) : Option (Int32 × Int32 × Int32 × Int32 × Int64 × (Nat → Int32) × (Nat → Int32) × (Nat → Int64) × Int32 × Int64 × Int64) :=
  kb3 (f_X7_begin F v_lifting_power v_lifting_rests v_lifting_made va1_numbers) fun w1 w2 w3 =>
  kb11 (L_X10_go_21 F x4 va1_n va1_primeNumber va1_numbers va2_rows va3_rank va3_scale va3_rows va3_leads F (1 : Int32) (-1 : Int32) (0 : Int32) v_allFound v_allRight w1 w2 v_lifting_digits w3 v_guess_found v_guess_above v_guess_below) fun w24 w25 w26 w27 w28 w29 w30 w31 w32 w33 w34 =>
  some (w24, w25, w26, w27, w28, w29, w30, w31, w32, w33, w34)

def f_X11_toldOfGuesses (F : Nat) (v_now_n : Int32) (v_now_primeNumber : Int32) (v_now_numbers : (Nat → Int32)) (v_clearing_n : Int32) (v_clearing_rank : Int32) (v_clearing_exchanges : Int32) (v_clearing_width : Int32) (v_clearing_scale : Int64) (v_clearing_rows : (Nat → Nat → Int64)) (v_clearing_leads : (Nat → Int32)) (v_residues_n : Int32) (v_residues_rank : Int32) (v_residues_exchanges : Int32) (v_residues_width : Int32) (v_residues_p : Int32) (v_residues_rows : (Nat → Nat → Int64)) (v_walk_early : Int32) (v_walk_tooSoon : Int32) (v_walk_allFound : Int32) (v_walk_allRight : Int32) (v_walk_lifting_power : Int64) (v_walk_lifting_rests : (Nat → Int32)) (v_walk_lifting_digits : (Nat → Int32)) (v_walk_lifting_made : (Nat → Int64)) (v_walk_guess_found : Int32) (v_walk_guess_above : Int64) (v_walk_guess_below : Int64) (x1 : Int32) : Option (Int32 × Int32 × Int32 × Int32 × Int64 × (Nat → Nat → Int64) × (Nat → Int32) × Int32 × Int32 × Int32 × Int32 × (Nat → Nat → Int64) × Int32 × Int32 × Int32 × Int32 × Int64 × (Nat → Int32) × (Nat → Int32) × (Nat → Int64) × Int32 × Int64 × Int64) :=
  kb6 (f_X11_primeIsBad F v_now_n v_now_primeNumber v_now_numbers v_residues_n v_residues_rank v_residues_exchanges v_residues_width v_residues_p v_residues_rows) fun r1 w2 w3 w4 w5 w6 =>
  (if r1 = 0 then
  kb1 (f_X11_sure F v_now_n v_now_primeNumber v_now_numbers) fun r9 =>
  (if x1 = (12 : Int32) then
  some (r9, v_clearing_n, v_clearing_rank, v_clearing_exchanges, v_clearing_scale, v_clearing_rows, v_clearing_leads, w2, w3, w4, w5, w6, v_walk_early, v_walk_tooSoon, v_walk_allFound, v_walk_allRight, v_walk_lifting_power, v_walk_lifting_rests, v_walk_lifting_digits, v_walk_lifting_made, v_walk_guess_found, v_walk_guess_above, v_walk_guess_below)
  else
  kb6 (f_X1_clear F v_clearing_n v_clearing_rank v_clearing_exchanges v_clearing_width v_clearing_scale v_clearing_rows v_clearing_leads v_now_n v_now_numbers) fun w12 w13 w14 w15 w16 w17 =>
  kb11 (f_X10_go F v_walk_early v_walk_tooSoon v_walk_allFound v_walk_allRight v_walk_lifting_power v_walk_lifting_rests v_walk_lifting_digits v_walk_lifting_made v_walk_guess_found v_walk_guess_above v_walk_guess_below v_now_n v_now_primeNumber v_now_numbers w6 w13 w15 w16 w17 r9) fun w19 w20 w21 w22 w23 w24 w25 w26 w27 w28 w29 =>
  (if x1 = (13 : Int32) then
  some (w19, w12, w13, w14, w15, w16, w17, w2, w3, w4, w5, w6, w19, w20, w21, w22, w23, w24, w25, w26, w27, w28, w29)
  else
  some (w20, w12, w13, w14, w15, w16, w17, w2, w3, w4, w5, w6, w19, w20, w21, w22, w23, w24, w25, w26, w27, w28, w29)))
  else
  some ((-1 : Int32), v_clearing_n, v_clearing_rank, v_clearing_exchanges, v_clearing_scale, v_clearing_rows, v_clearing_leads, w2, w3, w4, w5, w6, v_walk_early, v_walk_tooSoon, v_walk_allFound, v_walk_allRight, v_walk_lifting_power, v_walk_lifting_rests, v_walk_lifting_digits, v_walk_lifting_made, v_walk_guess_found, v_walk_guess_above, v_walk_guess_below))

def L_X0_firstBeyond_2 (x1 : Int32) (v_count : Int32) (v_unknowns : (Nat → Int32)) : Nat → Int32 → Option Int32
  | 0, _ => none
  | fu + 1, x2 =>
    (if v_count ≤ x2 then
    some x2
    else
    if kin x2 20 then
    (if x1 ≤ (v_unknowns x2.toNatClampNeg) then
    some x2
    else
    kl (x2 + (1 : Int32)) fun t4 =>
    L_X0_firstBeyond_2 x1 v_count v_unknowns fu t4)
    else none)

def f_X0_firstBeyond (F : Nat) (v_count : Int32) (v_unknowns : (Nat → Int32)) (x1 : Int32) : Option Int32 :=
  kb1 (L_X0_firstBeyond_2 x1 v_count v_unknowns F (0 : Int32)) fun y5 =>
  some y5

def L_X0_firstOtherwise_3 (na2 : Nat) (x1 : Int32) (x3 : Int32) (v_unknowns : (Nat → Int32)) (v_places : (Nat → Int32)) (v_values : (Nat → Int32)) (va2 : (Nat → Int32)) : Nat → Int32 → Option (Int32 ⊕ Unit)
  | 0, _ => none
  | fu + 1, x4 =>
    (if x3 ≤ x4 then
    some (.inr ())
    else
    if kin x4 20 then
    (if (v_places x4.toNatClampNeg) = x1 then
    if kin x4 20 then
    if kin (v_unknowns x4.toNatClampNeg) na2 then
    if kin x4 20 then
    (if (va2 (v_unknowns x4.toNatClampNeg).toNatClampNeg) = (v_values x4.toNatClampNeg) then
    kl (x4 + (1 : Int32)) fun t9 =>
    L_X0_firstOtherwise_3 na2 x1 x3 v_unknowns v_places v_values va2 fu t9
    else
    some (.inl x4))
    else none
    else none
    else none
    else
    kl (x4 + (1 : Int32)) fun t4 =>
    L_X0_firstOtherwise_3 na2 x1 x3 v_unknowns v_places v_values va2 fu t4)
    else none)

def f_X0_firstOtherwise (F : Nat) (na2 : Nat) (v_unknowns : (Nat → Int32)) (v_places : (Nat → Int32)) (v_values : (Nat → Int32)) (va2 : (Nat → Int32)) (x1 : Int32) (x3 : Int32) : Option Int32 :=
  ks (L_X0_firstOtherwise_3 na2 x1 x3 v_unknowns v_places v_values va2 F (0 : Int32))
  (kf1 fun y10 =>
  some y10)
  (fun _ =>
  some x3)

def L_X11_firstWrong_49 (F : Nat) (v_now_n : Int32) (v_now_primeNumber : Int32) (v_now_numbers : (Nat → Int32)) (v_residues_rows : (Nat → Nat → Int64)) (v_book_unknowns : (Nat → Int32)) (v_book_places : (Nat → Int32)) (v_book_values : (Nat → Int32)) : Nat → Int32 → Int32 → Int64 → (Nat → Int32) → (Nat → Int32) → (Nat → Int64) → Option (Int32 × Int64 × (Nat → Int32) × (Nat → Int32) × (Nat → Int64))
  | 0, _, _, _, _, _, _ => none
  | fu + 1, x1, x2, v_lifting_power, v_lifting_rests, v_lifting_digits, v_lifting_made =>
    (if (100 : Int32) ≤ x2 then
    some (x1, v_lifting_power, v_lifting_rests, v_lifting_digits, v_lifting_made)
    else
    kb4 (f_X7_step F v_lifting_power v_lifting_rests v_lifting_digits v_lifting_made v_now_n v_now_primeNumber v_now_numbers v_residues_rows) fun w17 w18 w19 w20 =>
    kb1 (f_X0_firstOtherwise F 4 v_book_unknowns v_book_places v_book_values w19 x2 x1) fun r22 =>
    kl (x2 + (1 : Int32)) fun t24 =>
    L_X11_firstWrong_49 F v_now_n v_now_primeNumber v_now_numbers v_residues_rows v_book_unknowns v_book_places v_book_values fu r22 t24 w17 w18 w19 w20)

def f_X11_firstWrong (F : Nat) (v_now_n : Int32) (v_now_primeNumber : Int32) (v_now_numbers : (Nat → Int32)) (v_residues_n : Int32) (v_residues_rank : Int32) (v_residues_exchanges : Int32) (v_residues_width : Int32) (v_residues_p : Int32) (v_residues_rows : (Nat → Nat → Int64)) (v_lifting_power : Int64) (v_lifting_rests : (Nat → Int32)) (v_lifting_digits : (Nat → Int32)) (v_lifting_made : (Nat → Int64)) (v_book_count : Int32) (v_book_unknowns : (Nat → Int32)) (v_book_places : (Nat → Int32)) (v_book_values : (Nat → Int32)) : Option (Int32 × Int32 × Int32 × Int32 × Int32 × (Nat → Nat → Int64) × Int64 × (Nat → Int32) × (Nat → Int32) × (Nat → Int64)) :=
  (if v_book_count = 0 then
  some ((-1 : Int32), v_residues_n, v_residues_rank, v_residues_exchanges, v_residues_p, v_residues_rows, v_lifting_power, v_lifting_rests, v_lifting_digits, v_lifting_made)
  else
  kb6 (f_X11_primeIsBad F v_now_n v_now_primeNumber v_now_numbers v_residues_n v_residues_rank v_residues_exchanges v_residues_width v_residues_p v_residues_rows) fun r2 w3 w4 w5 w6 w7 =>
  (if r2 = 0 then
  kb1 (f_X0_firstBeyond F v_book_count v_book_unknowns v_now_n) fun r10 =>
  kb3 (f_X7_begin F v_lifting_power v_lifting_rests v_lifting_made v_now_numbers) fun w12 w13 w14 =>
  kb5 (L_X11_firstWrong_49 F v_now_n v_now_primeNumber v_now_numbers w7 v_book_unknowns v_book_places v_book_values F r10 (0 : Int32) w12 w13 v_lifting_digits w14) fun y25 w26 w27 w28 w29 =>
  (if y25 = v_book_count then
  some ((-1 : Int32), w3, w4, w5, w6, w7, w26, w27, w28, w29)
  else
  some (y25, w3, w4, w5, w6, w7, w26, w27, w28, w29))
  else
  some ((0 : Int32), w3, w4, w5, w6, w7, v_lifting_power, v_lifting_rests, v_lifting_digits, v_lifting_made)))

def f_X11_told (F : Nat) (v_now_n : Int32) (v_now_primeNumber : Int32) (v_now_numbers : (Nat → Int32)) (v_clearing_n : Int32) (v_clearing_rank : Int32) (v_clearing_exchanges : Int32) (v_clearing_width : Int32) (v_clearing_scale : Int64) (v_clearing_rows : (Nat → Nat → Int64)) (v_clearing_leads : (Nat → Int32)) (v_residues_n : Int32) (v_residues_rank : Int32) (v_residues_exchanges : Int32) (v_residues_width : Int32) (v_residues_p : Int32) (v_residues_rows : (Nat → Nat → Int64)) (v_lifting_power : Int64) (v_lifting_rests : (Nat → Int32)) (v_lifting_digits : (Nat → Int32)) (v_lifting_made : (Nat → Int64)) (v_walk_early : Int32) (v_walk_tooSoon : Int32) (v_walk_allFound : Int32) (v_walk_allRight : Int32) (v_walk_lifting_power : Int64) (v_walk_lifting_rests : (Nat → Int32)) (v_walk_lifting_digits : (Nat → Int32)) (v_walk_lifting_made : (Nat → Int64)) (v_walk_guess_found : Int32) (v_walk_guess_above : Int64) (v_walk_guess_below : Int64) (v_history_count : Int32) (v_book_count : Int32) (v_book_unknowns : (Nat → Int32)) (v_book_places : (Nat → Int32)) (v_book_values : (Nat → Int32)) (x1 : Int32) : Option (Int32 × Int32 × Int32 × Int32 × Int64 × (Nat → Nat → Int64) × (Nat → Int32) × Int32 × Int32 × Int32 × Int32 × (Nat → Nat → Int64) × Int64 × (Nat → Int32) × (Nat → Int32) × (Nat → Int64) × Int32 × Int32 × Int32 × Int32 × Int64 × (Nat → Int32) × (Nat → Int32) × (Nat → Int64) × Int32 × Int64 × Int64) :=
  (if x1 = 0 then
  some (v_now_n, v_clearing_n, v_clearing_rank, v_clearing_exchanges, v_clearing_scale, v_clearing_rows, v_clearing_leads, v_residues_n, v_residues_rank, v_residues_exchanges, v_residues_p, v_residues_rows, v_lifting_power, v_lifting_rests, v_lifting_digits, v_lifting_made, v_walk_early, v_walk_tooSoon, v_walk_allFound, v_walk_allRight, v_walk_lifting_power, v_walk_lifting_rests, v_walk_lifting_digits, v_walk_lifting_made, v_walk_guess_found, v_walk_guess_above, v_walk_guess_below)
  else
  (if x1 = 1 then
  kb1 (f_X3_p v_now_primeNumber) fun r3 =>
  some (r3, v_clearing_n, v_clearing_rank, v_clearing_exchanges, v_clearing_scale, v_clearing_rows, v_clearing_leads, v_residues_n, v_residues_rank, v_residues_exchanges, v_residues_p, v_residues_rows, v_lifting_power, v_lifting_rests, v_lifting_digits, v_lifting_made, v_walk_early, v_walk_tooSoon, v_walk_allFound, v_walk_allRight, v_walk_lifting_power, v_walk_lifting_rests, v_walk_lifting_digits, v_walk_lifting_made, v_walk_guess_found, v_walk_guess_above, v_walk_guess_below)
  else
  (if x1 = 2 then
  kb7 (f_X11_toldOfTable F v_now_n v_now_numbers v_clearing_n v_clearing_rank v_clearing_exchanges v_clearing_width v_clearing_scale v_clearing_rows v_clearing_leads x1) fun r6 w7 w8 w9 w10 w11 w12 =>
  some (r6, w7, w8, w9, w10, w11, w12, v_residues_n, v_residues_rank, v_residues_exchanges, v_residues_p, v_residues_rows, v_lifting_power, v_lifting_rests, v_lifting_digits, v_lifting_made, v_walk_early, v_walk_tooSoon, v_walk_allFound, v_walk_allRight, v_walk_lifting_power, v_walk_lifting_rests, v_walk_lifting_digits, v_walk_lifting_made, v_walk_guess_found, v_walk_guess_above, v_walk_guess_below)
  else
  (if x1 = 3 then
  kb7 (f_X11_toldOfTable F v_now_n v_now_numbers v_clearing_n v_clearing_rank v_clearing_exchanges v_clearing_width v_clearing_scale v_clearing_rows v_clearing_leads x1) fun r15 w16 w17 w18 w19 w20 w21 =>
  some (r15, w16, w17, w18, w19, w20, w21, v_residues_n, v_residues_rank, v_residues_exchanges, v_residues_p, v_residues_rows, v_lifting_power, v_lifting_rests, v_lifting_digits, v_lifting_made, v_walk_early, v_walk_tooSoon, v_walk_allFound, v_walk_allRight, v_walk_lifting_power, v_walk_lifting_rests, v_walk_lifting_digits, v_walk_lifting_made, v_walk_guess_found, v_walk_guess_above, v_walk_guess_below)
  else
  (if x1 = 4 then
  kb7 (f_X11_toldOfTable F v_now_n v_now_numbers v_clearing_n v_clearing_rank v_clearing_exchanges v_clearing_width v_clearing_scale v_clearing_rows v_clearing_leads x1) fun r24 w25 w26 w27 w28 w29 w30 =>
  some (r24, w25, w26, w27, w28, w29, w30, v_residues_n, v_residues_rank, v_residues_exchanges, v_residues_p, v_residues_rows, v_lifting_power, v_lifting_rests, v_lifting_digits, v_lifting_made, v_walk_early, v_walk_tooSoon, v_walk_allFound, v_walk_allRight, v_walk_lifting_power, v_walk_lifting_rests, v_walk_lifting_digits, v_walk_lifting_made, v_walk_guess_found, v_walk_guess_above, v_walk_guess_below)
  else
  (if x1 = 5 then
  kb7 (f_X11_toldOfTable F v_now_n v_now_numbers v_clearing_n v_clearing_rank v_clearing_exchanges v_clearing_width v_clearing_scale v_clearing_rows v_clearing_leads x1) fun r33 w34 w35 w36 w37 w38 w39 =>
  some (r33, w34, w35, w36, w37, w38, w39, v_residues_n, v_residues_rank, v_residues_exchanges, v_residues_p, v_residues_rows, v_lifting_power, v_lifting_rests, v_lifting_digits, v_lifting_made, v_walk_early, v_walk_tooSoon, v_walk_allFound, v_walk_allRight, v_walk_lifting_power, v_walk_lifting_rests, v_walk_lifting_digits, v_walk_lifting_made, v_walk_guess_found, v_walk_guess_above, v_walk_guess_below)
  else
  (if x1 = 6 then
  kb7 (f_X11_toldOfTable F v_now_n v_now_numbers v_clearing_n v_clearing_rank v_clearing_exchanges v_clearing_width v_clearing_scale v_clearing_rows v_clearing_leads x1) fun r42 w43 w44 w45 w46 w47 w48 =>
  some (r42, w43, w44, w45, w46, w47, w48, v_residues_n, v_residues_rank, v_residues_exchanges, v_residues_p, v_residues_rows, v_lifting_power, v_lifting_rests, v_lifting_digits, v_lifting_made, v_walk_early, v_walk_tooSoon, v_walk_allFound, v_walk_allRight, v_walk_lifting_power, v_walk_lifting_rests, v_walk_lifting_digits, v_walk_lifting_made, v_walk_guess_found, v_walk_guess_above, v_walk_guess_below)
  else
  (if x1 = 7 then
  kb7 (f_X11_toldOfTable F v_now_n v_now_numbers v_clearing_n v_clearing_rank v_clearing_exchanges v_clearing_width v_clearing_scale v_clearing_rows v_clearing_leads x1) fun r51 w52 w53 w54 w55 w56 w57 =>
  some (r51, w52, w53, w54, w55, w56, w57, v_residues_n, v_residues_rank, v_residues_exchanges, v_residues_p, v_residues_rows, v_lifting_power, v_lifting_rests, v_lifting_digits, v_lifting_made, v_walk_early, v_walk_tooSoon, v_walk_allFound, v_walk_allRight, v_walk_lifting_power, v_walk_lifting_rests, v_walk_lifting_digits, v_walk_lifting_made, v_walk_guess_found, v_walk_guess_above, v_walk_guess_below)
  else
  (if x1 = 8 then
  kb6 (f_X11_toldByPrime F v_now_n v_now_primeNumber v_now_numbers v_residues_n v_residues_rank v_residues_exchanges v_residues_width v_residues_p v_residues_rows x1) fun r60 w61 w62 w63 w64 w65 =>
  some (r60, v_clearing_n, v_clearing_rank, v_clearing_exchanges, v_clearing_scale, v_clearing_rows, v_clearing_leads, w61, w62, w63, w64, w65, v_lifting_power, v_lifting_rests, v_lifting_digits, v_lifting_made, v_walk_early, v_walk_tooSoon, v_walk_allFound, v_walk_allRight, v_walk_lifting_power, v_walk_lifting_rests, v_walk_lifting_digits, v_walk_lifting_made, v_walk_guess_found, v_walk_guess_above, v_walk_guess_below)
  else
  (if x1 = 9 then
  kb7 (f_X11_toldOfTable F v_now_n v_now_numbers v_clearing_n v_clearing_rank v_clearing_exchanges v_clearing_width v_clearing_scale v_clearing_rows v_clearing_leads x1) fun r68 w69 w70 w71 w72 w73 w74 =>
  some (r68, w69, w70, w71, w72, w73, w74, v_residues_n, v_residues_rank, v_residues_exchanges, v_residues_p, v_residues_rows, v_lifting_power, v_lifting_rests, v_lifting_digits, v_lifting_made, v_walk_early, v_walk_tooSoon, v_walk_allFound, v_walk_allRight, v_walk_lifting_power, v_walk_lifting_rests, v_walk_lifting_digits, v_walk_lifting_made, v_walk_guess_found, v_walk_guess_above, v_walk_guess_below)
  else
  (if x1 = 10 then
  kb6 (f_X11_toldByPrime F v_now_n v_now_primeNumber v_now_numbers v_residues_n v_residues_rank v_residues_exchanges v_residues_width v_residues_p v_residues_rows x1) fun r77 w78 w79 w80 w81 w82 =>
  some (r77, v_clearing_n, v_clearing_rank, v_clearing_exchanges, v_clearing_scale, v_clearing_rows, v_clearing_leads, w78, w79, w80, w81, w82, v_lifting_power, v_lifting_rests, v_lifting_digits, v_lifting_made, v_walk_early, v_walk_tooSoon, v_walk_allFound, v_walk_allRight, v_walk_lifting_power, v_walk_lifting_rests, v_walk_lifting_digits, v_walk_lifting_made, v_walk_guess_found, v_walk_guess_above, v_walk_guess_below)
  else
  (if x1 = 11 then
  kb6 (f_X11_toldByPrime F v_now_n v_now_primeNumber v_now_numbers v_residues_n v_residues_rank v_residues_exchanges v_residues_width v_residues_p v_residues_rows x1) fun r85 w86 w87 w88 w89 w90 =>
  some (r85, v_clearing_n, v_clearing_rank, v_clearing_exchanges, v_clearing_scale, v_clearing_rows, v_clearing_leads, w86, w87, w88, w89, w90, v_lifting_power, v_lifting_rests, v_lifting_digits, v_lifting_made, v_walk_early, v_walk_tooSoon, v_walk_allFound, v_walk_allRight, v_walk_lifting_power, v_walk_lifting_rests, v_walk_lifting_digits, v_walk_lifting_made, v_walk_guess_found, v_walk_guess_above, v_walk_guess_below)
  else
  (if x1 = 12 then
  kb23 (f_X11_toldOfGuesses F v_now_n v_now_primeNumber v_now_numbers v_clearing_n v_clearing_rank v_clearing_exchanges v_clearing_width v_clearing_scale v_clearing_rows v_clearing_leads v_residues_n v_residues_rank v_residues_exchanges v_residues_width v_residues_p v_residues_rows v_walk_early v_walk_tooSoon v_walk_allFound v_walk_allRight v_walk_lifting_power v_walk_lifting_rests v_walk_lifting_digits v_walk_lifting_made v_walk_guess_found v_walk_guess_above v_walk_guess_below x1) fun r93 w94 w95 w96 w97 w98 w99 w100 w101 w102 w103 w104 w105 w106 w107 w108 w109 w110 w111 w112 w113 w114 w115 =>
  some (r93, w94, w95, w96, w97, w98, w99, w100, w101, w102, w103, w104, v_lifting_power, v_lifting_rests, v_lifting_digits, v_lifting_made, w105, w106, w107, w108, w109, w110, w111, w112, w113, w114, w115)
  else
  (if x1 = 13 then
  kb23 (f_X11_toldOfGuesses F v_now_n v_now_primeNumber v_now_numbers v_clearing_n v_clearing_rank v_clearing_exchanges v_clearing_width v_clearing_scale v_clearing_rows v_clearing_leads v_residues_n v_residues_rank v_residues_exchanges v_residues_width v_residues_p v_residues_rows v_walk_early v_walk_tooSoon v_walk_allFound v_walk_allRight v_walk_lifting_power v_walk_lifting_rests v_walk_lifting_digits v_walk_lifting_made v_walk_guess_found v_walk_guess_above v_walk_guess_below x1) fun r118 w119 w120 w121 w122 w123 w124 w125 w126 w127 w128 w129 w130 w131 w132 w133 w134 w135 w136 w137 w138 w139 w140 =>
  some (r118, w119, w120, w121, w122, w123, w124, w125, w126, w127, w128, w129, v_lifting_power, v_lifting_rests, v_lifting_digits, v_lifting_made, w130, w131, w132, w133, w134, w135, w136, w137, w138, w139, w140)
  else
  (if x1 = 14 then
  kb23 (f_X11_toldOfGuesses F v_now_n v_now_primeNumber v_now_numbers v_clearing_n v_clearing_rank v_clearing_exchanges v_clearing_width v_clearing_scale v_clearing_rows v_clearing_leads v_residues_n v_residues_rank v_residues_exchanges v_residues_width v_residues_p v_residues_rows v_walk_early v_walk_tooSoon v_walk_allFound v_walk_allRight v_walk_lifting_power v_walk_lifting_rests v_walk_lifting_digits v_walk_lifting_made v_walk_guess_found v_walk_guess_above v_walk_guess_below x1) fun r143 w144 w145 w146 w147 w148 w149 w150 w151 w152 w153 w154 w155 w156 w157 w158 w159 w160 w161 w162 w163 w164 w165 =>
  some (r143, w144, w145, w146, w147, w148, w149, w150, w151, w152, w153, w154, v_lifting_power, v_lifting_rests, v_lifting_digits, v_lifting_made, w155, w156, w157, w158, w159, w160, w161, w162, w163, w164, w165)
  else
  (if x1 = 15 then
  some (v_book_count, v_clearing_n, v_clearing_rank, v_clearing_exchanges, v_clearing_scale, v_clearing_rows, v_clearing_leads, v_residues_n, v_residues_rank, v_residues_exchanges, v_residues_p, v_residues_rows, v_lifting_power, v_lifting_rests, v_lifting_digits, v_lifting_made, v_walk_early, v_walk_tooSoon, v_walk_allFound, v_walk_allRight, v_walk_lifting_power, v_walk_lifting_rests, v_walk_lifting_digits, v_walk_lifting_made, v_walk_guess_found, v_walk_guess_above, v_walk_guess_below)
  else
  (if x1 = 16 then
  kb10 (f_X11_firstWrong F v_now_n v_now_primeNumber v_now_numbers v_residues_n v_residues_rank v_residues_exchanges v_residues_width v_residues_p v_residues_rows v_lifting_power v_lifting_rests v_lifting_digits v_lifting_made v_book_count v_book_unknowns v_book_places v_book_values) fun r169 w170 w171 w172 w173 w174 w175 w176 w177 w178 =>
  some (r169, v_clearing_n, v_clearing_rank, v_clearing_exchanges, v_clearing_scale, v_clearing_rows, v_clearing_leads, w170, w171, w172, w173, w174, w175, w176, w177, w178, v_walk_early, v_walk_tooSoon, v_walk_allFound, v_walk_allRight, v_walk_lifting_power, v_walk_lifting_rests, v_walk_lifting_digits, v_walk_lifting_made, v_walk_guess_found, v_walk_guess_above, v_walk_guess_below)
  else
  (if x1 = 17 then
  some (v_history_count, v_clearing_n, v_clearing_rank, v_clearing_exchanges, v_clearing_scale, v_clearing_rows, v_clearing_leads, v_residues_n, v_residues_rank, v_residues_exchanges, v_residues_p, v_residues_rows, v_lifting_power, v_lifting_rests, v_lifting_digits, v_lifting_made, v_walk_early, v_walk_tooSoon, v_walk_allFound, v_walk_allRight, v_walk_lifting_power, v_walk_lifting_rests, v_walk_lifting_digits, v_walk_lifting_made, v_walk_guess_found, v_walk_guess_above, v_walk_guess_below)
  else
  some ((-1000000002 : Int32), v_clearing_n, v_clearing_rank, v_clearing_exchanges, v_clearing_scale, v_clearing_rows, v_clearing_leads, v_residues_n, v_residues_rank, v_residues_exchanges, v_residues_p, v_residues_rows, v_lifting_power, v_lifting_rests, v_lifting_digits, v_lifting_made, v_walk_early, v_walk_tooSoon, v_walk_allFound, v_walk_allRight, v_walk_lifting_power, v_walk_lifting_rests, v_walk_lifting_digits, v_walk_lifting_made, v_walk_guess_found, v_walk_guess_above, v_walk_guess_below)))))))))))))))))))

def f_X3_has (v_n : Int32) (x1 : Int32) : Option Int32 :=
  (if x1 < 0 then
  some (0 : Int32)
  else
  (if v_n ≤ x1 then
  some (0 : Int32)
  else
  some (1 : Int32)))

def f_X11_at (v_now_n : Int32) (v_now_numbers : (Nat → Int32)) (x1 : Int32) (x2 : Int32) : Option Int32 :=
  kb1 (f_X3_has v_now_n x1) fun r1 =>
  (if r1 = 0 then
  some (-1000000001 : Int32)
  else
  (if x2 < 0 then
  some (-1000000001 : Int32)
  else
  (if x2 ≤ v_now_n then
  (if x2 = v_now_n then
  kb1 (f_X3_number v_now_numbers x1 (4 : Int32)) fun r9 =>
  some (r9 + (100 : Int32))
  else
  kb1 (f_X3_number v_now_numbers x1 x2) fun r7 =>
  some (r7 + (100 : Int32)))
  else
  some (-1000000001 : Int32))))

def f_X11_isNeitherPart (x0 : Int32) : Option Int32 :=
  (if x0 = 0 then
  some (0 : Int32)
  else
  (if x0 = (1 : Int32) then
  some (0 : Int32)
  else
  some (1 : Int32)))

def f_X11_shownPart (x0 : Int64) (x2 : Int64) (x4 : Int32) : Option Int32 :=
  (if x4 = 0 then
  some ((x0.toInt32) + (1000000000 : Int32))
  else
  some (x2.toInt32))

def f_X11_cleared (F : Nat) (v_now_n : Int32) (v_now_numbers : (Nat → Int32)) (v_clearing_n : Int32) (v_clearing_rank : Int32) (v_clearing_exchanges : Int32) (v_clearing_width : Int32) (v_clearing_scale : Int64) (v_clearing_rows : (Nat → Nat → Int64)) (v_clearing_leads : (Nat → Int32)) (x1 : Int32) (x2 : Int32) (x3 : Int32) : Option (Int32 × Int32 × Int32 × Int32 × Int64 × (Nat → Nat → Int64) × (Nat → Int32)) :=
  kb6 (f_X1_clear F v_clearing_n v_clearing_rank v_clearing_exchanges v_clearing_width v_clearing_scale v_clearing_rows v_clearing_leads v_now_n v_now_numbers) fun w1 w2 w3 w4 w5 w6 =>
  (if x1 < 0 then
  some ((-1000000001 : Int32), w1, w2, w3, w4, w5, w6)
  else
  (if w2 ≤ x1 then
  some ((-1000000001 : Int32), w1, w2, w3, w4, w5, w6)
  else
  kb1 (f_X3_has v_now_n x2) fun r10 =>
  (if r10 = 0 then
  some ((-1000000001 : Int32), w1, w2, w3, w4, w5, w6)
  else
  kb1 (f_X11_isNeitherPart x3) fun r13 =>
  (if r13 = 0 then
  kb1 (f_X1_above F w4 w5 x1 x2) fun r16 =>
  kb1 (f_X1_below F w4 w5 x1 x2) fun r18 =>
  kb1 (f_X11_shownPart r16 r18 x3) fun r20 =>
  some (r20, w1, w2, w3, w4, w5, w6)
  else
  some ((-1000000002 : Int32), w1, w2, w3, w4, w5, w6)))))

def f_X11_solution (F : Nat) (v_now_n : Int32) (v_now_numbers : (Nat → Int32)) (v_clearing_n : Int32) (v_clearing_rank : Int32) (v_clearing_exchanges : Int32) (v_clearing_width : Int32) (v_clearing_scale : Int64) (v_clearing_rows : (Nat → Nat → Int64)) (v_clearing_leads : (Nat → Int32)) (x1 : Int32) (x2 : Int32) : Option (Int32 × Int32 × Int32 × Int32 × Int64 × (Nat → Nat → Int64) × (Nat → Int32)) :=
  kb1 (f_X3_has v_now_n x1) fun r1 =>
  (if r1 = 0 then
  some ((-1000000001 : Int32), v_clearing_n, v_clearing_rank, v_clearing_exchanges, v_clearing_scale, v_clearing_rows, v_clearing_leads)
  else
  kb1 (f_X11_isNeitherPart x2) fun r4 =>
  (if r4 = 0 then
  kb6 (f_X1_clear F v_clearing_n v_clearing_rank v_clearing_exchanges v_clearing_width v_clearing_scale v_clearing_rows v_clearing_leads v_now_n v_now_numbers) fun w7 w8 w9 w10 w11 w12 =>
  kb1 (f_X9_fitsSide_C F w7 w8 w11) fun r14 =>
  (if r14 = 0 then
  some ((-1 : Int32), w7, w8, w9, w10, w11, w12)
  else
  kb1 (f_X1_solutionAbove F w8 w10 w11 w12 x1) fun r17 =>
  kb1 (f_X1_solutionBelow F w8 w10 w11 w12 x1) fun r19 =>
  kb1 (f_X11_shownPart r17 r19 x2) fun r21 =>
  some (r21, w7, w8, w9, w10, w11, w12))
  else
  some ((-1000000002 : Int32), v_clearing_n, v_clearing_rank, v_clearing_exchanges, v_clearing_scale, v_clearing_rows, v_clearing_leads)))

def L_X1_vanishing_2 (x1 : Int32) (v_rank : Int32) (v_leads : (Nat → Int32)) : Nat → Int32 → Option Int32
  | 0, _ => none
  | fu + 1, x2 =>
    (if v_rank ≤ x2 then
    some x2
    else
    if kin x2 4 then
    (if (v_leads x2.toNatClampNeg) = x2 then
    kl (x2 + (1 : Int32)) fun t4 =>
    L_X1_vanishing_2 x1 v_rank v_leads fu t4
    else
    some x2)
    else none)

def L_X1_vanishing_31 (F : Nat) (x1 : Int32) (x2 : Int32) (v_rank : Int32) (v_scale : Int64) (v_rows : (Nat → Nat → Int64)) : Nat → Int64 → Int32 → Option Int64
  | 0, _, _ => none
  | fu + 1, x3, x5 =>
    (if v_rank ≤ x5 then
    some x3
    else
    kb1 (f_X1_below F v_scale v_rows x5 x2) fun r7 =>
    kb1 (f_X1_below F v_scale v_rows x5 x2) fun r9 =>
    kb1 (f_X11_gcd F x3 r9) fun r11 =>
    kb1 (f_X11_quotient r7 r11) fun r13 =>
    kl (x3 * r13) fun t15 =>
    kl (x5 + (1 : Int32)) fun t16 =>
    L_X1_vanishing_31 F x1 x2 v_rank v_scale v_rows fu t15 t16)

def f_X1_vanishing (F : Nat) (v_rank : Int32) (v_scale : Int64) (v_rows : (Nat → Nat → Int64)) (v_leads : (Nat → Int32)) (x1 : Int32) : Option Int64 :=
  kb1 (L_X1_vanishing_2 x1 v_rank v_leads F (0 : Int32)) fun y5 =>
  kb1 (L_X1_vanishing_31 F x1 y5 v_rank v_scale v_rows F (1 : Int64) (0 : Int32)) fun y17 =>
  (if x1 = y5 then
  some y17
  else
  kb1 (f_X1_rowLedBy F v_rank v_leads x1) fun r19 =>
  (if r19 = (-1 : Int32) then
  some (0 : Int64)
  else
  kb1 (f_X1_above F v_scale v_rows r19 y5) fun r22 =>
  kb1 (f_X1_below F v_scale v_rows r19 y5) fun r24 =>
  kb1 (f_X11_quotient y17 r24) fun r26 =>
  some ((-r22) * r26)))

def f_X11_nothing (F : Nat) (v_now_n : Int32) (v_now_numbers : (Nat → Int32)) (v_clearing_n : Int32) (v_clearing_rank : Int32) (v_clearing_exchanges : Int32) (v_clearing_width : Int32) (v_clearing_scale : Int64) (v_clearing_rows : (Nat → Nat → Int64)) (v_clearing_leads : (Nat → Int32)) (x1 : Int32) : Option (Int32 × Int32 × Int32 × Int32 × Int64 × (Nat → Nat → Int64) × (Nat → Int32)) :=
  kb1 (f_X3_has v_now_n x1) fun r1 =>
  (if r1 = 0 then
  some ((-1000000001 : Int32), v_clearing_n, v_clearing_rank, v_clearing_exchanges, v_clearing_scale, v_clearing_rows, v_clearing_leads)
  else
  kb6 (f_X1_clear F v_clearing_n v_clearing_rank v_clearing_exchanges v_clearing_width v_clearing_scale v_clearing_rows v_clearing_leads v_now_n v_now_numbers) fun w4 w5 w6 w7 w8 w9 =>
  (if w5 = v_now_n then
  some ((-1 : Int32), w4, w5, w6, w7, w8, w9)
  else
  kb1 (f_X1_vanishing F w5 w7 w8 w9 x1) fun r12 =>
  some (((r12.toInt32) + (1000000000 : Int32)), w4, w5, w6, w7, w8, w9)))

def f_X11_back (F : Nat) (v_now_n : Int32) (v_now_primeNumber : Int32) (v_now_numbers : (Nat → Int32)) (v_residues_n : Int32) (v_residues_rank : Int32) (v_residues_exchanges : Int32) (v_residues_width : Int32) (v_residues_p : Int32) (v_residues_rows : (Nat → Nat → Int64)) (x1 : Int32) (x2 : Int32) : Option (Int32 × Int32 × Int32 × Int32 × Int32 × (Nat → Nat → Int64)) :=
  kb1 (f_X3_has v_now_n x1) fun r1 =>
  (if r1 = 0 then
  some ((-1000000001 : Int32), v_residues_n, v_residues_rank, v_residues_exchanges, v_residues_p, v_residues_rows)
  else
  kb1 (f_X3_has v_now_n x2) fun r4 =>
  (if r4 = 0 then
  some ((-1000000001 : Int32), v_residues_n, v_residues_rank, v_residues_exchanges, v_residues_p, v_residues_rows)
  else
  kb6 (f_X11_primeIsBad F v_now_n v_now_primeNumber v_now_numbers v_residues_n v_residues_rank v_residues_exchanges v_residues_width v_residues_p v_residues_rows) fun r7 w8 w9 w10 w11 w12 =>
  (if r7 = 0 then
  kb1 (f_X8_inverse w12 x1 x2) fun r15 =>
  some (r15, w8, w9, w10, w11, w12)
  else
  some ((-1000000003 : Int32), w8, w9, w10, w11, w12))))

def f_X11_isNoDigit (x0 : Int32) : Option Int32 :=
  (if x0 < 0 then
  some (1 : Int32)
  else
  (if x0 < (100 : Int32) then
  some (0 : Int32)
  else
  some (1 : Int32)))

def L_X11_lift_13 (F : Nat) (x1 : Int32) (v_now_n : Int32) (v_now_primeNumber : Int32) (v_now_numbers : (Nat → Int32)) (v_residues_rows : (Nat → Nat → Int64)) : Nat → Int32 → Int64 → (Nat → Int32) → (Nat → Int32) → (Nat → Int64) → Option (Int64 × (Nat → Int32) × (Nat → Int32) × (Nat → Int64))
  | 0, _, _, _, _, _ => none
  | fu + 1, x2, v_lifting_power, v_lifting_rests, v_lifting_digits, v_lifting_made =>
    (if x1 ≤ x2 then
    some (v_lifting_power, v_lifting_rests, v_lifting_digits, v_lifting_made)
    else
    (if (100 : Int32) ≤ x2 then
    some (v_lifting_power, v_lifting_rests, v_lifting_digits, v_lifting_made)
    else
    kb4 (f_X7_step F v_lifting_power v_lifting_rests v_lifting_digits v_lifting_made v_now_n v_now_primeNumber v_now_numbers v_residues_rows) fun w7 w8 w9 w10 =>
    kl (x2 + (1 : Int32)) fun t12 =>
    L_X11_lift_13 F x1 v_now_n v_now_primeNumber v_now_numbers v_residues_rows fu t12 w7 w8 w9 w10))

def f_X11_lift (F : Nat) (v_now_n : Int32) (v_now_primeNumber : Int32) (v_now_numbers : (Nat → Int32)) (v_residues_rows : (Nat → Nat → Int64)) (v_lifting_power : Int64) (v_lifting_rests : (Nat → Int32)) (v_lifting_digits : (Nat → Int32)) (v_lifting_made : (Nat → Int64)) (x1 : Int32) : Option (Int64 × (Nat → Int32) × (Nat → Int32) × (Nat → Int64)) :=
  kb3 (f_X7_begin F v_lifting_power v_lifting_rests v_lifting_made v_now_numbers) fun w1 w2 w3 =>
  kb4 (L_X11_lift_13 F x1 v_now_n v_now_primeNumber v_now_numbers v_residues_rows F (0 : Int32) w1 w2 v_lifting_digits w3) fun w13 w14 w15 w16 =>
  some (w13, w14, w15, w16)

def f_X11_digit (F : Nat) (v_now_n : Int32) (v_now_primeNumber : Int32) (v_now_numbers : (Nat → Int32)) (v_residues_n : Int32) (v_residues_rank : Int32) (v_residues_exchanges : Int32) (v_residues_width : Int32) (v_residues_p : Int32) (v_residues_rows : (Nat → Nat → Int64)) (v_lifting_power : Int64) (v_lifting_rests : (Nat → Int32)) (v_lifting_digits : (Nat → Int32)) (v_lifting_made : (Nat → Int64)) (x1 : Int32) (x2 : Int32) : Option (Int32 × Int32 × Int32 × Int32 × Int32 × (Nat → Nat → Int64) × Int64 × (Nat → Int32) × (Nat → Int32) × (Nat → Int64)) :=
  kb1 (f_X3_has v_now_n x1) fun r1 =>
  (if r1 = 0 then
  some ((-1000000001 : Int32), v_residues_n, v_residues_rank, v_residues_exchanges, v_residues_p, v_residues_rows, v_lifting_power, v_lifting_rests, v_lifting_digits, v_lifting_made)
  else
  kb1 (f_X11_isNoDigit x2) fun r4 =>
  (if r4 = 0 then
  kb6 (f_X11_primeIsBad F v_now_n v_now_primeNumber v_now_numbers v_residues_n v_residues_rank v_residues_exchanges v_residues_width v_residues_p v_residues_rows) fun r7 w8 w9 w10 w11 w12 =>
  (if r7 = 0 then
  kb4 (f_X11_lift F v_now_n v_now_primeNumber v_now_numbers w12 v_lifting_power v_lifting_rests v_lifting_digits v_lifting_made (x2 + (1 : Int32))) fun w15 w16 w17 w18 =>
  if kin x1 4 then
  some ((w17 x1.toNatClampNeg), w8, w9, w10, w11, w12, w15, w16, w17, w18)
  else none
  else
  some ((-1000000003 : Int32), w8, w9, w10, w11, w12, v_lifting_power, v_lifting_rests, v_lifting_digits, v_lifting_made))
  else
  some ((-1000000002 : Int32), v_residues_n, v_residues_rank, v_residues_exchanges, v_residues_p, v_residues_rows, v_lifting_power, v_lifting_rests, v_lifting_digits, v_lifting_made)))

def f_X11_rest (F : Nat) (v_now_n : Int32) (v_now_primeNumber : Int32) (v_now_numbers : (Nat → Int32)) (v_residues_n : Int32) (v_residues_rank : Int32) (v_residues_exchanges : Int32) (v_residues_width : Int32) (v_residues_p : Int32) (v_residues_rows : (Nat → Nat → Int64)) (v_lifting_power : Int64) (v_lifting_rests : (Nat → Int32)) (v_lifting_digits : (Nat → Int32)) (v_lifting_made : (Nat → Int64)) (x1 : Int32) (x2 : Int32) : Option (Int32 × Int32 × Int32 × Int32 × Int32 × (Nat → Nat → Int64) × Int64 × (Nat → Int32) × (Nat → Int32) × (Nat → Int64)) :=
  kb1 (f_X3_has v_now_n x1) fun r1 =>
  (if r1 = 0 then
  some ((-1000000001 : Int32), v_residues_n, v_residues_rank, v_residues_exchanges, v_residues_p, v_residues_rows, v_lifting_power, v_lifting_rests, v_lifting_digits, v_lifting_made)
  else
  (if x2 < 0 then
  some ((-1000000002 : Int32), v_residues_n, v_residues_rank, v_residues_exchanges, v_residues_p, v_residues_rows, v_lifting_power, v_lifting_rests, v_lifting_digits, v_lifting_made)
  else
  (if x2 ≤ (100 : Int32) then
  kb6 (f_X11_primeIsBad F v_now_n v_now_primeNumber v_now_numbers v_residues_n v_residues_rank v_residues_exchanges v_residues_width v_residues_p v_residues_rows) fun r6 w7 w8 w9 w10 w11 =>
  (if r6 = 0 then
  kb4 (f_X11_lift F v_now_n v_now_primeNumber v_now_numbers w11 v_lifting_power v_lifting_rests v_lifting_digits v_lifting_made x2) fun w14 w15 w16 w17 =>
  if kin x1 4 then
  some (((w15 x1.toNatClampNeg) + (1000000000 : Int32)), w7, w8, w9, w10, w11, w14, w15, w16, w17)
  else none
  else
  some ((-1000000003 : Int32), w7, w8, w9, w10, w11, v_lifting_power, v_lifting_rests, v_lifting_digits, v_lifting_made))
  else
  some ((-1000000002 : Int32), v_residues_n, v_residues_rank, v_residues_exchanges, v_residues_p, v_residues_rows, v_lifting_power, v_lifting_rests, v_lifting_digits, v_lifting_made))))

def L_X11_powerForGuess_14 (x0 : Int32) (x1 : Int32) : Nat → Int64 → Int32 → Option (Unit ⊕ Int64)
  | 0, _, _ => none
  | fu + 1, x2, x4 =>
    (if x1 ≤ x4 then
    some (.inr x2)
    else
    kb1 (f_X11_quotient (2000000000000000000 : Int64) (x0.toInt64)) fun r3 =>
    (if x2 ≤ r3 then
    kl (x2 * (x0.toInt64)) fun t6 =>
    kl (x4 + (1 : Int32)) fun t7 =>
    L_X11_powerForGuess_14 x0 x1 fu t6 t7
    else
    some (.inl ())))

def f_X11_powerForGuess (F : Nat) (x0 : Int32) (x1 : Int32) : Option Int64 :=
  (if (1 : Int32) ≤ x1 then
  ks (L_X11_powerForGuess_14 x0 x1 F (1 : Int64) (0 : Int32))
  (fun _ =>
  some (-1 : Int64))
  (kf1 fun y8 =>
  some y8)
  else
  some (-1 : Int64))

def f_X11_guess (F : Nat) (v_now_n : Int32) (v_now_primeNumber : Int32) (v_now_numbers : (Nat → Int32)) (v_residues_n : Int32) (v_residues_rank : Int32) (v_residues_exchanges : Int32) (v_residues_width : Int32) (v_residues_p : Int32) (v_residues_rows : (Nat → Nat → Int64)) (v_lifting_power : Int64) (v_lifting_rests : (Nat → Int32)) (v_lifting_digits : (Nat → Int32)) (v_lifting_made : (Nat → Int64)) (v_guessed_found : Int32) (v_guessed_above : Int64) (v_guessed_below : Int64) (x1 : Int32) (x2 : Int32) (x3 : Int32) : Option (Int64 × Int32 × Int32 × Int32 × Int32 × (Nat → Nat → Int64) × Int64 × (Nat → Int32) × (Nat → Int32) × (Nat → Int64) × Int32 × Int64 × Int64) :=
  kb1 (f_X3_has v_now_n x1) fun r1 =>
  (if r1 = 0 then
  some ((-1000000001 : Int64), v_residues_n, v_residues_rank, v_residues_exchanges, v_residues_p, v_residues_rows, v_lifting_power, v_lifting_rests, v_lifting_digits, v_lifting_made, v_guessed_found, v_guessed_above, v_guessed_below)
  else
  kb1 (f_X3_p v_now_primeNumber) fun r4 =>
  kb1 (f_X11_powerForGuess F r4 x2) fun r6 =>
  kb1 (f_X11_isNeitherPart x3) fun r8 =>
  (if r8 = 0 then
  (if r6 = (-1 : Int64) then
  some ((-1000000002 : Int64), v_residues_n, v_residues_rank, v_residues_exchanges, v_residues_p, v_residues_rows, v_lifting_power, v_lifting_rests, v_lifting_digits, v_lifting_made, v_guessed_found, v_guessed_above, v_guessed_below)
  else
  kb6 (f_X11_primeIsBad F v_now_n v_now_primeNumber v_now_numbers v_residues_n v_residues_rank v_residues_exchanges v_residues_width v_residues_p v_residues_rows) fun r12 w13 w14 w15 w16 w17 =>
  (if r12 = 0 then
  kb4 (f_X11_lift F v_now_n v_now_primeNumber v_now_numbers w17 v_lifting_power v_lifting_rests v_lifting_digits v_lifting_made x2) fun w20 w21 w22 w23 =>
  if kin x1 4 then
  kb1 (f_X3_p v_now_primeNumber) fun r26 =>
  kb3 (f_X4_seek F v_guessed_found v_guessed_above v_guessed_below (w23 x1.toNatClampNeg) r6 r26) fun w28 w29 w30 =>
  (if w28 = 0 then
  some ((-1 : Int64), w13, w14, w15, w16, w17, w20, w21, w22, w23, w28, w29, w30)
  else
  (if x3 = 0 then
  some ((w29 + (4000000000 : Int64)), w13, w14, w15, w16, w17, w20, w21, w22, w23, w28, w29, w30)
  else
  some (w30, w13, w14, w15, w16, w17, w20, w21, w22, w23, w28, w29, w30)))
  else none
  else
  some ((-1000000003 : Int64), w13, w14, w15, w16, w17, v_lifting_power, v_lifting_rests, v_lifting_digits, v_lifting_made, v_guessed_found, v_guessed_above, v_guessed_below)))
  else
  some ((-1000000002 : Int64), v_residues_n, v_residues_rank, v_residues_exchanges, v_residues_p, v_residues_rows, v_lifting_power, v_lifting_rests, v_lifting_digits, v_lifting_made, v_guessed_found, v_guessed_above, v_guessed_below)))

def f_X11_whyNoValue (F : Nat) (v_now_n : Int32) (v_now_numbers : (Nat → Int32)) (v_clearing_n : Int32) (v_clearing_rank : Int32) (v_clearing_exchanges : Int32) (v_clearing_width : Int32) (v_clearing_scale : Int64) (v_clearing_rows : (Nat → Nat → Int64)) (v_clearing_leads : (Nat → Int32)) (x1 : Int32) : Option (Int32 × Int32 × Int32 × Int32 × Int64 × (Nat → Nat → Int64) × (Nat → Int32)) :=
  kb1 (f_X3_has v_now_n x1) fun r1 =>
  (if r1 = 0 then
  some ((-1000000001 : Int32), v_clearing_n, v_clearing_rank, v_clearing_exchanges, v_clearing_scale, v_clearing_rows, v_clearing_leads)
  else
  kb6 (f_X1_clear F v_clearing_n v_clearing_rank v_clearing_exchanges v_clearing_width v_clearing_scale v_clearing_rows v_clearing_leads v_now_n v_now_numbers) fun w4 w5 w6 w7 w8 w9 =>
  kb1 (f_X9_fitsSide_C F w4 w5 w8) fun r11 =>
  (if r11 = 0 then
  some ((-1 : Int32), w4, w5, w6, w7, w8, w9)
  else
  some ((0 : Int32), w4, w5, w6, w7, w8, w9)))

def f_X1_nearest (F : Nat) (v_rank : Int32) (v_scale : Int64) (v_rows : (Nat → Nat → Int64)) (v_leads : (Nat → Int32)) (x1 : Int32) : Option UInt64 :=
  kb1 (f_X1_solutionBelow F v_rank v_scale v_rows v_leads x1) fun r1 =>
  kl (FP.l2d r1) fun t3 =>
  (if (Op.cmpValue (FP.dcmp t3 FP.dconst0) .l) ≤ 0 then
  some FP.dconst0
  else
  kb1 (f_X1_solutionAbove F v_rank v_scale v_rows v_leads x1) fun r5 =>
  if kq64 (FP.ddiv (FP.l2d r5) t3) then
  some (FP.ddiv (FP.l2d r5) t3)
  else none)

def L_X11_bitsOfSize_25 (x2 : Int32) (x3 : Int32) (x4 : Int64) : Nat → UInt64 → Int64 → Int32 → Option (UInt64 × Int64)
  | 0, _, _, _ => none
  | fu + 1, x6, x8, x10 =>
    (if (x2 + x3) ≤ x10 then
    some (x6, x8)
    else
    (if 0 ≤ (Op.cmpValue (FP.dcmp x6 (FP.l2d x4)) .g) then
    some (x6, x8)
    else
    if kq64 (FP.dmul x6 (4611686018427387904 : UInt64)) then
    kl (FP.dmul x6 (4611686018427387904 : UInt64)) fun t7 =>
    kl (x8 - (1 : Int64)) fun t8 =>
    kl (x10 + (1 : Int32)) fun t9 =>
    L_X11_bitsOfSize_25 x2 x3 x4 fu t7 t8 t9
    else none))

def f_X11_bitsOfSize (F : Nat) (x0 : UInt64) (x2 : Int32) (x3 : Int32) : Option Int64 :=
  (if (Op.cmpValue (FP.dcmp x0 FP.dconst0) .l) = 0 then
  some (0 : Int64)
  else
  kl ((1 : Int64) <<< (x2.toInt64 &&& 63)) fun t2 =>
  kl ((x3 + x2).toInt64) fun t3 =>
  kb2 (L_X11_bitsOfSize_25 x2 x3 t2 F x0 t3 (0 : Int32)) fun y10 y11 =>
  some ((y11 <<< (x2.toInt64 &&& 63)) + ((FP.d2l y10) - t2)))

def f_X11_bitsOfDouble (F : Nat) (x0 : UInt64) : Option Int64 :=
  kj1 (fun (t1 : UInt64) =>
  kb1 (f_X11_bitsOfSize F t1 (52 : Int32) (1023 : Int32)) fun r3 =>
  (if 0 ≤ (Op.cmpValue (FP.dcmp x0 FP.dconst0) .g) then
  some r3
  else
  some (r3 ||| (-9223372036854775808 : Int64)))) fun J2 =>
  (if 0 ≤ (Op.cmpValue (FP.dcmp x0 FP.dconst0) .g) then
  J2 x0
  else
  if kq64 (FP.dsub FP.dconst0 x0) then
  J2 (FP.dsub FP.dconst0 x0)
  else none)

def f_X11_near (F : Nat) (v_now_n : Int32) (v_now_numbers : (Nat → Int32)) (v_clearing_n : Int32) (v_clearing_rank : Int32) (v_clearing_exchanges : Int32) (v_clearing_width : Int32) (v_clearing_scale : Int64) (v_clearing_rows : (Nat → Nat → Int64)) (v_clearing_leads : (Nat → Int32)) (x1 : Int32) : Option (Int64 × Int32 × Int32 × Int32 × Int64 × (Nat → Nat → Int64) × (Nat → Int32)) :=
  kb7 (f_X11_whyNoValue F v_now_n v_now_numbers v_clearing_n v_clearing_rank v_clearing_exchanges v_clearing_width v_clearing_scale v_clearing_rows v_clearing_leads x1) fun r1 w2 w3 w4 w5 w6 w7 =>
  (if r1 = 0 then
  kb1 (f_X1_nearest F w3 w5 w6 w7 x1) fun r10 =>
  kb1 (f_X11_bitsOfDouble F r10) fun r12 =>
  some (r12, w2, w3, w4, w5, w6, w7)
  else
  some ((r1.toInt64), w2, w3, w4, w5, w6, w7))

def f_X11_bitsOfFloat (F : Nat) (x0 : UInt32) : Option Int64 :=
  kj1 (fun (t1 : UInt64) =>
  kb1 (f_X11_bitsOfSize F t1 (23 : Int32) (127 : Int32)) fun r3 =>
  (if 0 ≤ (Op.cmpValue (FP.fcmp x0 FP.fconst0) .g) then
  some r3
  else
  some (r3 ||| (2147483648 : Int64)))) fun J2 =>
  (if 0 ≤ (Op.cmpValue (FP.fcmp x0 FP.fconst0) .g) then
  if kq64 (FP.f2d x0) then
  J2 (FP.f2d x0)
  else none
  else
  if kq32 (FP.fsub FP.fconst0 x0) then
  if kq64 (FP.f2d (FP.fsub FP.fconst0 x0)) then
  J2 (FP.f2d (FP.fsub FP.fconst0 x0))
  else none
  else none)

def f_X11_shortly (F : Nat) (v_now_n : Int32) (v_now_numbers : (Nat → Int32)) (v_clearing_n : Int32) (v_clearing_rank : Int32) (v_clearing_exchanges : Int32) (v_clearing_width : Int32) (v_clearing_scale : Int64) (v_clearing_rows : (Nat → Nat → Int64)) (v_clearing_leads : (Nat → Int32)) (x1 : Int32) : Option (Int64 × Int32 × Int32 × Int32 × Int64 × (Nat → Nat → Int64) × (Nat → Int32)) :=
  kb7 (f_X11_whyNoValue F v_now_n v_now_numbers v_clearing_n v_clearing_rank v_clearing_exchanges v_clearing_width v_clearing_scale v_clearing_rows v_clearing_leads x1) fun r1 w2 w3 w4 w5 w6 w7 =>
  (if r1 = 0 then
  kb1 (f_X1_nearest F w3 w5 w6 w7 x1) fun r10 =>
  if kq32 (FP.d2f r10) then
  kb1 (f_X11_bitsOfFloat F (FP.d2f r10)) fun r13 =>
  some (r13, w2, w3, w4, w5, w6, w7)
  else none
  else
  some ((r1.toInt64), w2, w3, w4, w5, w6, w7))

def f_X11_cut (F : Nat) (v_now_n : Int32) (v_now_numbers : (Nat → Int32)) (v_clearing_n : Int32) (v_clearing_rank : Int32) (v_clearing_exchanges : Int32) (v_clearing_width : Int32) (v_clearing_scale : Int64) (v_clearing_rows : (Nat → Nat → Int64)) (v_clearing_leads : (Nat → Int32)) (x1 : Int32) : Option (Int64 × Int32 × Int32 × Int32 × Int64 × (Nat → Nat → Int64) × (Nat → Int32)) :=
  kb7 (f_X11_whyNoValue F v_now_n v_now_numbers v_clearing_n v_clearing_rank v_clearing_exchanges v_clearing_width v_clearing_scale v_clearing_rows v_clearing_leads x1) fun r1 w2 w3 w4 w5 w6 w7 =>
  (if r1 = 0 then
  kb1 (f_X1_nearest F w3 w5 w6 w7 x1) fun r10 =>
  if kq32 (FP.d2f r10) then
  if kq32 (FP.fmul (FP.d2f r10) (1148846080 : UInt32)) then
  kl (FP.fmul (FP.d2f r10) (1148846080 : UInt32)) fun t14 =>
  some ((((FP.f2i t14).toInt64) + (3000000000 : Int64)), w2, w3, w4, w5, w6, w7)
  else none
  else none
  else
  some ((r1.toInt64), w2, w3, w4, w5, w6, w7))

def f_X3_writeTo (na1 : Nat) (v_n : Int32) (v_primeNumber : Int32) (v_numbers : (Nat → Int32)) (va1 : (Nat → Int32)) (x2 : Int32) : Option (Nat → Int32) :=
  if kin x2 na1 then
  kl (upd va1 x2.toNatClampNeg v_n) fun w2 =>
  if kin (x2 + (1 : Int32)) na1 then
  kl (upd w2 (x2 + (1 : Int32)).toNatClampNeg v_primeNumber) fun w4 =>
  if (¬ (0 : Int32) < 0) ∧ (¬ (x2 + (2 : Int32)) < 0) ∧ (¬ (20 : Int32) < 0) ∧ (0 : Int32).toNatClampNeg + (20 : Int32).toNatClampNeg ≤ 20 ∧ (x2 + (2 : Int32)).toNatClampNeg + (20 : Int32).toNatClampNeg ≤ na1 then
  kl (va_cpy v_numbers w4 (0 : Int32).toNatClampNeg (x2 + (2 : Int32)).toNatClampNeg (20 : Int32).toNatClampNeg) fun w6 =>
  some w6
  else none
  else none
  else none

def f_X5_remember (v_count : Int32) (v_next : Int32) (v_store : (Nat → Int32)) (va1_n : Int32) (va1_primeNumber : Int32) (va1_numbers : (Nat → Int32)) : Option (Int32 × Int32 × (Nat → Int32)) :=
  kb1 (f_X3_writeTo 352 va1_n va1_primeNumber va1_numbers v_store (v_next * (22 : Int32))) fun w1 =>
  kl ((v_next + (1 : Int32)) - (v_next + (1 : Int32)) / (16 : Int32) * (16 : Int32)) fun t3 =>
  kl (if (16 : Int32) < (v_count + (1 : Int32)) then (16 : Int32) else (v_count + (1 : Int32))) fun t4 =>
  some (t4, t3, w1)

def f_X3_set (v_numbers : (Nat → Int32)) (x1 : Int32) (x2 : Int32) (x3 : Int32) : Option (Nat → Int32) :=
  if kin ((x1 * (5 : Int32)) + x2) 20 then
  kl (upd v_numbers ((x1 * (5 : Int32)) + x2).toNatClampNeg x3) fun w2 =>
  some w2
  else none

def L_X3_begin_14 (x2 : Int32) (v_n : Int32) : Nat → Int32 → (Nat → Int32) → Option (Nat → Int32)
  | 0, _, _ => none
  | fu + 1, x3, v_numbers =>
    (if (5 : Int32) ≤ x3 then
    some v_numbers
    else
    (if x2 = x3 then
    (if v_n ≤ x2 then
    kb1 (f_X3_set v_numbers x2 x3 (0 : Int32)) fun w8 =>
    kl (x3 + (1 : Int32)) fun t10 =>
    L_X3_begin_14 x2 v_n fu t10 w8
    else
    kb1 (f_X3_set v_numbers x2 x3 (1 : Int32)) fun w11 =>
    kl (x3 + (1 : Int32)) fun t13 =>
    L_X3_begin_14 x2 v_n fu t13 w11)
    else
    kb1 (f_X3_set v_numbers x2 x3 (0 : Int32)) fun w4 =>
    kl (x3 + (1 : Int32)) fun t6 =>
    L_X3_begin_14 x2 v_n fu t6 w4))

def L_X3_begin_7 (F : Nat) (v_n : Int32) : Nat → Int32 → (Nat → Int32) → Option (Nat → Int32)
  | 0, _, _ => none
  | fu + 1, x2, v_numbers =>
    (if (4 : Int32) ≤ x2 then
    some v_numbers
    else
    kb1 (L_X3_begin_14 x2 v_n F (0 : Int32) v_numbers) fun w14 =>
    kl (x2 + (1 : Int32)) fun t15 =>
    L_X3_begin_7 F v_n fu t15 w14)

def f_X3_begin (F : Nat) (v_n : Int32) (v_numbers : (Nat → Int32)) (x1 : Int32) : Option (Int32 × (Nat → Int32)) :=
  kb1 (L_X3_begin_7 F x1 F (0 : Int32) v_numbers) fun w16 =>
  some (x1, w16)

def f_X11_size (F : Nat) (v_now_n : Int32) (v_now_primeNumber : Int32) (v_now_numbers : (Nat → Int32)) (v_history_count : Int32) (v_history_next : Int32) (v_history_store : (Nat → Int32)) (x1 : Int32) : Option (Int32 × Int32 × (Nat → Int32) × Int32 × Int32 × (Nat → Int32)) :=
  (if x1 < (1 : Int32) then
  some ((-1000000002 : Int32), v_now_n, v_now_numbers, v_history_count, v_history_next, v_history_store)
  else
  (if x1 ≤ (4 : Int32) then
  kb3 (f_X5_remember v_history_count v_history_next v_history_store v_now_n v_now_primeNumber v_now_numbers) fun w3 w4 w5 =>
  kb2 (f_X3_begin F v_now_n v_now_numbers x1) fun w7 w8 =>
  some (v_now_n, w7, w8, w3, w4, w5)
  else
  some ((-1000000002 : Int32), v_now_n, v_now_numbers, v_history_count, v_history_next, v_history_store)))

def f_X11_change (v_now_n : Int32) (v_now_primeNumber : Int32) (v_now_numbers : (Nat → Int32)) (v_history_count : Int32) (v_history_next : Int32) (v_history_store : (Nat → Int32)) (x1 : Int32) (x2 : Int32) (x3 : Int32) : Option (Int32 × (Nat → Int32) × Int32 × Int32 × (Nat → Int32)) :=
  kb3 (f_X5_remember v_history_count v_history_next v_history_store v_now_n v_now_primeNumber v_now_numbers) fun w1 w2 w3 =>
  kb1 (f_X3_number v_now_numbers x1 x2) fun r5 =>
  kb1 (f_X3_set v_now_numbers x1 x2 x3) fun w7 =>
  some ((r5 + (100 : Int32)), w7, w1, w2, w3)

def f_X11_put (v_now_n : Int32) (v_now_primeNumber : Int32) (v_now_numbers : (Nat → Int32)) (v_history_count : Int32) (v_history_next : Int32) (v_history_store : (Nat → Int32)) (x1 : Int32) (x2 : Int32) (x3 : Int32) : Option (Int32 × (Nat → Int32) × Int32 × Int32 × (Nat → Int32)) :=
  kb1 (f_X3_has v_now_n x1) fun r1 =>
  (if r1 = 0 then
  some ((-1000000001 : Int32), v_now_numbers, v_history_count, v_history_next, v_history_store)
  else
  kb1 (f_X3_has v_now_n x2) fun r4 =>
  (if r4 = 0 then
  some ((-1000000001 : Int32), v_now_numbers, v_history_count, v_history_next, v_history_store)
  else
  (if x3 < (-9 : Int32) then
  some ((-1000000002 : Int32), v_now_numbers, v_history_count, v_history_next, v_history_store)
  else
  (if x3 ≤ (9 : Int32) then
  kb5 (f_X11_change v_now_n v_now_primeNumber v_now_numbers v_history_count v_history_next v_history_store x1 x2 x3) fun r9 w10 w11 w12 w13 =>
  some (r9, w10, w11, w12, w13)
  else
  some ((-1000000002 : Int32), v_now_numbers, v_history_count, v_history_next, v_history_store)))))

def f_X11_side (v_now_n : Int32) (v_now_primeNumber : Int32) (v_now_numbers : (Nat → Int32)) (v_history_count : Int32) (v_history_next : Int32) (v_history_store : (Nat → Int32)) (x1 : Int32) (x2 : Int32) : Option (Int32 × (Nat → Int32) × Int32 × Int32 × (Nat → Int32)) :=
  kb1 (f_X3_has v_now_n x1) fun r1 =>
  (if r1 = 0 then
  some ((-1000000001 : Int32), v_now_numbers, v_history_count, v_history_next, v_history_store)
  else
  (if x2 < (-99 : Int32) then
  some ((-1000000002 : Int32), v_now_numbers, v_history_count, v_history_next, v_history_store)
  else
  (if x2 ≤ (99 : Int32) then
  kb5 (f_X11_change v_now_n v_now_primeNumber v_now_numbers v_history_count v_history_next v_history_store x1 (4 : Int32) x2) fun r6 w7 w8 w9 w10 =>
  some (r6, w7, w8, w9, w10)
  else
  some ((-1000000002 : Int32), v_now_numbers, v_history_count, v_history_next, v_history_store))))

def f_X11_areNotTwoRows (v_now_n : Int32) (x1 : Int32) (x2 : Int32) : Option Int32 :=
  kb1 (f_X3_has v_now_n x1) fun r1 =>
  (if r1 = 0 then
  some (1 : Int32)
  else
  kb1 (f_X3_has v_now_n x2) fun r4 =>
  (if r4 = 0 then
  some (1 : Int32)
  else
  (if x1 = x2 then
  some (1 : Int32)
  else
  some (0 : Int32))))

def L_X3_exchange_2 (x1 : Int32) (x2 : Int32) : Nat → Int32 → (Nat → Int32) → Option (Nat → Int32)
  | 0, _, _ => none
  | fu + 1, x3, v_numbers =>
    (if (5 : Int32) ≤ x3 then
    some v_numbers
    else
    kb1 (f_X3_number v_numbers x1 x3) fun r2 =>
    kb1 (f_X3_number v_numbers x2 x3) fun r4 =>
    kb1 (f_X3_set v_numbers x1 x3 r4) fun w6 =>
    kb1 (f_X3_set w6 x2 x3 r2) fun w8 =>
    kl (x3 + (1 : Int32)) fun t10 =>
    L_X3_exchange_2 x1 x2 fu t10 w8)

def f_X3_exchange (F : Nat) (v_numbers : (Nat → Int32)) (x1 : Int32) (x2 : Int32) : Option (Nat → Int32) :=
  kb1 (L_X3_exchange_2 x1 x2 F (0 : Int32) v_numbers) fun w11 =>
  some w11

def f_X11_swap (F : Nat) (v_now_n : Int32) (v_now_primeNumber : Int32) (v_now_numbers : (Nat → Int32)) (v_history_count : Int32) (v_history_next : Int32) (v_history_store : (Nat → Int32)) (x1 : Int32) (x2 : Int32) : Option (Int32 × (Nat → Int32) × Int32 × Int32 × (Nat → Int32)) :=
  kb1 (f_X11_areNotTwoRows v_now_n x1 x2) fun r1 =>
  (if r1 = 0 then
  kb3 (f_X5_remember v_history_count v_history_next v_history_store v_now_n v_now_primeNumber v_now_numbers) fun w4 w5 w6 =>
  kb1 (f_X3_exchange F v_now_numbers x1 x2) fun w8 =>
  some ((1 : Int32), w8, w4, w5, w6)
  else
  some ((-1000000001 : Int32), v_now_numbers, v_history_count, v_history_next, v_history_store))

def L_X3_canAdd_3 (x1 : Int32) (x2 : Int32) (x3 : Int32) (v_numbers : (Nat → Int32)) : Nat → Int32 → Option (Unit ⊕ Unit)
  | 0, _ => none
  | fu + 1, x4 =>
    (if (5 : Int32) ≤ x4 then
    some (.inr ())
    else
    kj1 (fun (t2 : Int32) =>
    kb1 (f_X3_number v_numbers x1 x4) fun r4 =>
    kb1 (f_X3_number v_numbers x2 x4) fun r6 =>
    (if (if 0 ≤ (r4 + (x3 * r6)) then (r4 + (x3 * r6)) else 0 - (r4 + (x3 * r6))) ≤ t2 then
    kl (x4 + (1 : Int32)) fun t9 =>
    L_X3_canAdd_3 x1 x2 x3 v_numbers fu t9
    else
    some (.inl ()))) fun J3 =>
    (if x4 = (4 : Int32) then
    J3 (99 : Int32)
    else
    J3 (9 : Int32)))

def f_X3_canAdd (F : Nat) (v_numbers : (Nat → Int32)) (x1 : Int32) (x2 : Int32) (x3 : Int32) : Option Int32 :=
  ks (L_X3_canAdd_3 x1 x2 x3 v_numbers F (0 : Int32))
  (fun _ =>
  some (0 : Int32))
  (fun _ =>
  some (1 : Int32))

def L_X3_add_3 (x1 : Int32) (x2 : Int32) (x3 : Int32) : Nat → Int32 → (Nat → Int32) → Option (Nat → Int32)
  | 0, _, _ => none
  | fu + 1, x4, v_numbers =>
    (if (5 : Int32) ≤ x4 then
    some v_numbers
    else
    kb1 (f_X3_number v_numbers x1 x4) fun r2 =>
    kb1 (f_X3_number v_numbers x2 x4) fun r4 =>
    kb1 (f_X3_set v_numbers x1 x4 (r2 + (x3 * r4))) fun w6 =>
    kl (x4 + (1 : Int32)) fun t8 =>
    L_X3_add_3 x1 x2 x3 fu t8 w6)

def f_X3_add (F : Nat) (v_numbers : (Nat → Int32)) (x1 : Int32) (x2 : Int32) (x3 : Int32) : Option (Nat → Int32) :=
  kb1 (L_X3_add_3 x1 x2 x3 F (0 : Int32) v_numbers) fun w9 =>
  some w9

def f_X11_mix (F : Nat) (v_now_n : Int32) (v_now_primeNumber : Int32) (v_now_numbers : (Nat → Int32)) (v_history_count : Int32) (v_history_next : Int32) (v_history_store : (Nat → Int32)) (x1 : Int32) (x2 : Int32) (x3 : Int32) : Option (Int32 × (Nat → Int32) × Int32 × Int32 × (Nat → Int32)) :=
  kb1 (f_X11_areNotTwoRows v_now_n x1 x2) fun r1 =>
  (if r1 = 0 then
  (if x3 < (-3 : Int32) then
  some ((-1000000002 : Int32), v_now_numbers, v_history_count, v_history_next, v_history_store)
  else
  (if x3 ≤ (3 : Int32) then
  kb1 (f_X3_canAdd F v_now_numbers x1 x2 x3) fun r6 =>
  (if r6 = 0 then
  some ((-1000000004 : Int32), v_now_numbers, v_history_count, v_history_next, v_history_store)
  else
  kb3 (f_X5_remember v_history_count v_history_next v_history_store v_now_n v_now_primeNumber v_now_numbers) fun w9 w10 w11 =>
  kb1 (f_X3_add F v_now_numbers x1 x2 x3) fun w13 =>
  some ((1 : Int32), w13, w9, w10, w11))
  else
  some ((-1000000002 : Int32), v_now_numbers, v_history_count, v_history_next, v_history_store)))
  else
  some ((-1000000001 : Int32), v_now_numbers, v_history_count, v_history_next, v_history_store))

def L_X3_transpose_12 (x1 : Int32) : Nat → Int32 → (Nat → Int32) → Option (Nat → Int32)
  | 0, _, _ => none
  | fu + 1, x2, v_numbers =>
    (if x1 ≤ x2 then
    some v_numbers
    else
    kb1 (f_X3_number v_numbers x1 x2) fun r3 =>
    kb1 (f_X3_number v_numbers x2 x1) fun r5 =>
    kb1 (f_X3_set v_numbers x1 x2 r5) fun w7 =>
    kb1 (f_X3_set w7 x2 x1 r3) fun w9 =>
    kl (x2 + (1 : Int32)) fun t11 =>
    L_X3_transpose_12 x1 fu t11 w9)

def L_X3_transpose_2 (F : Nat) (v_n : Int32) : Nat → Int32 → (Nat → Int32) → Option (Nat → Int32)
  | 0, _, _ => none
  | fu + 1, x1, v_numbers =>
    (if v_n ≤ x1 then
    some v_numbers
    else
    kb1 (L_X3_transpose_12 x1 F (0 : Int32) v_numbers) fun w12 =>
    kl (x1 + (1 : Int32)) fun t13 =>
    L_X3_transpose_2 F v_n fu t13 w12)

def f_X3_transpose (F : Nat) (v_n : Int32) (v_numbers : (Nat → Int32)) : Option (Nat → Int32) :=
  kb1 (L_X3_transpose_2 F v_n F (0 : Int32) v_numbers) fun w14 =>
  some w14

def f_X11_rank (F : Nat) (v_now_n : Int32) (v_now_numbers : (Nat → Int32)) (v_clearing_n : Int32) (v_clearing_rank : Int32) (v_clearing_exchanges : Int32) (v_clearing_width : Int32) (v_clearing_scale : Int64) (v_clearing_rows : (Nat → Nat → Int64)) (v_clearing_leads : (Nat → Int32)) : Option (Int32 × Int32 × Int32 × Int32 × Int64 × (Nat → Nat → Int64) × (Nat → Int32)) :=
  kb6 (f_X1_clear F v_clearing_n v_clearing_rank v_clearing_exchanges v_clearing_width v_clearing_scale v_clearing_rows v_clearing_leads v_now_n v_now_numbers) fun w1 w2 w3 w4 w5 w6 =>
  some (w2, w1, w2, w3, w4, w5, w6)

def f_X11_turn (F : Nat) (v_now_n : Int32) (v_now_primeNumber : Int32) (v_now_numbers : (Nat → Int32)) (v_clearing_n : Int32) (v_clearing_rank : Int32) (v_clearing_exchanges : Int32) (v_clearing_width : Int32) (v_clearing_scale : Int64) (v_clearing_rows : (Nat → Nat → Int64)) (v_clearing_leads : (Nat → Int32)) (v_history_count : Int32) (v_history_next : Int32) (v_history_store : (Nat → Int32)) : Option (Int32 × (Nat → Int32) × Int32 × Int32 × Int32 × Int64 × (Nat → Nat → Int64) × (Nat → Int32) × Int32 × Int32 × (Nat → Int32)) :=
  kb3 (f_X5_remember v_history_count v_history_next v_history_store v_now_n v_now_primeNumber v_now_numbers) fun w1 w2 w3 =>
  kb1 (f_X3_transpose F v_now_n v_now_numbers) fun w5 =>
  kb7 (f_X11_rank F v_now_n w5 v_clearing_n v_clearing_rank v_clearing_exchanges v_clearing_width v_clearing_scale v_clearing_rows v_clearing_leads) fun r7 w8 w9 w10 w11 w12 w13 =>
  some (r7, w5, w8, w9, w10, w11, w12, w13, w1, w2, w3)

def f_X11_prime (v_now_n : Int32) (v_now_primeNumber : Int32) (v_now_numbers : (Nat → Int32)) (v_history_count : Int32) (v_history_next : Int32) (v_history_store : (Nat → Int32)) (x1 : Int32) : Option (Int32 × Int32 × Int32 × Int32 × (Nat → Int32)) :=
  (if x1 < 0 then
  some ((-1000000002 : Int32), v_now_primeNumber, v_history_count, v_history_next, v_history_store)
  else
  (if x1 < (25 : Int32) then
  kb3 (f_X5_remember v_history_count v_history_next v_history_store v_now_n v_now_primeNumber v_now_numbers) fun w3 w4 w5 =>
  kb1 (f_X3_p x1) fun r7 =>
  some (r7, x1, w3, w4, w5)
  else
  some ((-1000000002 : Int32), v_now_primeNumber, v_history_count, v_history_next, v_history_store)))

def f_X2_next (v_state : Int64) (x1 : Int32) : Option (Int32 × Int64) :=
  kl (((v_state * (1103515245 : Int64)) + (12345 : Int64)) &&& (2147483647 : Int64)) fun t1 =>
  kb1 (f_X11_leftOver (t1 / (65536 : Int64)) x1) fun r2 =>
  some (r2, t1)

def f_X11_changeByDraws (v_now_n : Int32) (v_now_primeNumber : Int32) (v_now_numbers : (Nat → Int32)) (v_history_count : Int32) (v_history_next : Int32) (v_history_store : (Nat → Int32)) (v_draws_state : Int64) : Option ((Nat → Int32) × Int32 × Int32 × (Nat → Int32) × Int64) :=
  kb2 (f_X2_next v_draws_state v_now_n) fun r1 w2 =>
  kb2 (f_X2_next w2 (v_now_n + (1 : Int32))) fun r4 w5 =>
  kb2 (f_X2_next w5 (19 : Int32)) fun r7 w8 =>
  (if r4 = v_now_n then
  kb5 (f_X11_change v_now_n v_now_primeNumber v_now_numbers v_history_count v_history_next v_history_store r1 (4 : Int32) (((11 : Int32) * r7) - (99 : Int32))) fun r17 w18 w19 w20 w21 =>
  some (w18, w19, w20, w21, w8)
  else
  kb5 (f_X11_change v_now_n v_now_primeNumber v_now_numbers v_history_count v_history_next v_history_store r1 r4 (r7 - (9 : Int32))) fun r11 w12 w13 w14 w15 =>
  some (w12, w13, w14, w15, w8))

def L_X11_drift_16 (x1 : Int32) (v_now_n : Int32) (v_now_primeNumber : Int32) : Nat → Int32 → (Nat → Int32) → Int32 → Int32 → (Nat → Int32) → Int64 → Option ((Nat → Int32) × Int32 × Int32 × (Nat → Int32) × Int64)
  | 0, _, _, _, _, _, _ => none
  | fu + 1, x2, v_now_numbers, v_history_count, v_history_next, v_history_store, v_draws_state =>
    (if x1 ≤ x2 then
    some (v_now_numbers, v_history_count, v_history_next, v_history_store, v_draws_state)
    else
    kb5 (f_X11_changeByDraws v_now_n v_now_primeNumber v_now_numbers v_history_count v_history_next v_history_store v_draws_state) fun w4 w5 w6 w7 w8 =>
    kl (x2 + (1 : Int32)) fun t10 =>
    L_X11_drift_16 x1 v_now_n v_now_primeNumber fu t10 w4 w5 w6 w7 w8)

def f_X11_drift (F : Nat) (v_now_n : Int32) (v_now_primeNumber : Int32) (v_now_numbers : (Nat → Int32)) (v_clearing_n : Int32) (v_clearing_rank : Int32) (v_clearing_exchanges : Int32) (v_clearing_width : Int32) (v_clearing_scale : Int64) (v_clearing_rows : (Nat → Nat → Int64)) (v_clearing_leads : (Nat → Int32)) (v_history_count : Int32) (v_history_next : Int32) (v_history_store : (Nat → Int32)) (v_draws_state : Int64) (x1 : Int32) : Option (Int32 × (Nat → Int32) × Int32 × Int32 × Int32 × Int64 × (Nat → Nat → Int64) × (Nat → Int32) × Int32 × Int32 × (Nat → Int32) × Int64) :=
  (if x1 < (1 : Int32) then
  some ((-1000000002 : Int32), v_now_numbers, v_clearing_n, v_clearing_rank, v_clearing_exchanges, v_clearing_scale, v_clearing_rows, v_clearing_leads, v_history_count, v_history_next, v_history_store, v_draws_state)
  else
  (if x1 ≤ (12 : Int32) then
  kb5 (L_X11_drift_16 x1 v_now_n v_now_primeNumber F (0 : Int32) v_now_numbers v_history_count v_history_next v_history_store v_draws_state) fun w11 w12 w13 w14 w15 =>
  kb7 (f_X11_rank F v_now_n w11 v_clearing_n v_clearing_rank v_clearing_exchanges v_clearing_width v_clearing_scale v_clearing_rows v_clearing_leads) fun r16 w17 w18 w19 w20 w21 w22 =>
  some (r16, w11, w17, w18, w19, w20, w21, w22, w12, w13, w14, w15)
  else
  some ((-1000000002 : Int32), v_now_numbers, v_clearing_n, v_clearing_rank, v_clearing_exchanges, v_clearing_scale, v_clearing_rows, v_clearing_leads, v_history_count, v_history_next, v_history_store, v_draws_state)))

def f_J9_floorMod_7cf53 (x0 : Int32) (x1 : Int32) : Option Int32 :=
  if ¬ x1 = 0 then
  kl (x0 - x0 / x1 * x1) fun t2 =>
  (if 0 ≤ (x0 ^^^ x1) then
  some t2
  else
  (if t2 = 0 then
  some t2
  else
  some (t2 + x1)))
  else none

def f_X3_readFrom (na1 : Nat) (v_n : Int32) (v_primeNumber : Int32) (v_numbers : (Nat → Int32)) (va1 : (Nat → Int32)) (x2 : Int32) : Option (Int32 × Int32 × (Nat → Int32)) :=
  if kin x2 na1 then
  kl (va1 x2.toNatClampNeg) fun t2 =>
  if kin (x2 + (1 : Int32)) na1 then
  kl (va1 (x2 + (1 : Int32)).toNatClampNeg) fun t4 =>
  if (¬ (x2 + (2 : Int32)) < 0) ∧ (¬ (0 : Int32) < 0) ∧ (¬ (20 : Int32) < 0) ∧ (x2 + (2 : Int32)).toNatClampNeg + (20 : Int32).toNatClampNeg ≤ na1 ∧ (0 : Int32).toNatClampNeg + (20 : Int32).toNatClampNeg ≤ 20 then
  kl (va_cpy va1 v_numbers (x2 + (2 : Int32)).toNatClampNeg (0 : Int32).toNatClampNeg (20 : Int32).toNatClampNeg) fun w6 =>
  some (t2, t4, w6)
  else none
  else none
  else none

def f_X5_bringBack (v_count : Int32) (v_next : Int32) (v_store : (Nat → Int32)) (va1_n : Int32) (va1_primeNumber : Int32) (va1_numbers : (Nat → Int32)) (x2 : Int32) : Option (Int32 × Int32 × Int32 × Int32 × (Nat → Int32)) :=
  kb1 (f_J9_floorMod_7cf53 (v_next - x2) (16 : Int32)) fun r1 =>
  kl (v_count - x2) fun t3 =>
  kb3 (f_X3_readFrom 352 va1_n va1_primeNumber va1_numbers v_store (r1 * (22 : Int32))) fun w4 w5 w6 =>
  some (t3, r1, w4, w5, w6)

def f_X11_undo (v_now_n : Int32) (v_now_primeNumber : Int32) (v_now_numbers : (Nat → Int32)) (v_history_count : Int32) (v_history_next : Int32) (v_history_store : (Nat → Int32)) (x1 : Int32) : Option (Int32 × Int32 × Int32 × (Nat → Int32) × Int32 × Int32) :=
  (if x1 < (1 : Int32) then
  some ((-1000000002 : Int32), v_now_n, v_now_primeNumber, v_now_numbers, v_history_count, v_history_next)
  else
  (if x1 ≤ (16 : Int32) then
  (if x1 ≤ v_history_count then
  kb5 (f_X5_bringBack v_history_count v_history_next v_history_store v_now_n v_now_primeNumber v_now_numbers x1) fun w4 w5 w6 w7 w8 =>
  some (w4, w6, w7, w8, w4, w5)
  else
  some ((-1000000003 : Int32), v_now_n, v_now_primeNumber, v_now_numbers, v_history_count, v_history_next))
  else
  some ((-1000000002 : Int32), v_now_n, v_now_primeNumber, v_now_numbers, v_history_count, v_history_next)))

def f_X0_append (v_count : Int32) (v_unknowns : (Nat → Int32)) (v_places : (Nat → Int32)) (v_values : (Nat → Int32)) (x1 : Int32) (x2 : Int32) (x3 : Int32) : Option (Int32 × (Nat → Int32) × (Nat → Int32) × (Nat → Int32)) :=
  if kin v_count 20 then
  kl (upd v_unknowns v_count.toNatClampNeg x1) fun w2 =>
  if kin v_count 20 then
  kl (upd v_places v_count.toNatClampNeg x2) fun w4 =>
  if kin v_count 20 then
  kl (upd v_values v_count.toNatClampNeg x3) fun w6 =>
  kl (v_count + (1 : Int32)) fun t7 =>
  some (t7, w2, w4, w6)
  else none
  else none
  else none

def f_X11_write (v_now_n : Int32) (v_book_count : Int32) (v_book_unknowns : (Nat → Int32)) (v_book_places : (Nat → Int32)) (v_book_values : (Nat → Int32)) (x1 : Int32) (x2 : Int32) (x3 : Int32) : Option (Int32 × Int32 × (Nat → Int32) × (Nat → Int32) × (Nat → Int32)) :=
  kb1 (f_X3_has v_now_n x1) fun r1 =>
  (if r1 = 0 then
  some ((-1000000001 : Int32), v_book_count, v_book_unknowns, v_book_places, v_book_values)
  else
  kb1 (f_X11_isNoDigit x2) fun r4 =>
  (if r4 = 0 then
  (if v_book_count < (20 : Int32) then
  kb4 (f_X0_append v_book_count v_book_unknowns v_book_places v_book_values x1 x2 x3) fun w8 w9 w10 w11 =>
  some (w8, w8, w9, w10, w11)
  else
  some ((-1000000004 : Int32), v_book_count, v_book_unknowns, v_book_places, v_book_values))
  else
  some ((-1000000002 : Int32), v_book_count, v_book_unknowns, v_book_places, v_book_values)))

def f_X11_tear (v_book_count : Int32) : Option (Int32 × Int32) :=
  some (v_book_count, (0 : Int32))

def f_X11_seed (v_draws_state : Int64) (x1 : Int32) : Option (Int32 × Int64) :=
  (if 0 ≤ x1 then
  kl (v_draws_state.toInt32) fun t2 =>
  kl (x1.toInt64) fun t3 =>
  some (t2, t3)
  else
  some ((-1000000002 : Int32), v_draws_state))

def f_X11_isNoImage (x0 : Int32) : Option Int32 :=
  (if x0 = 0 then
  some (0 : Int32)
  else
  (if x0 = (1 : Int32) then
  some (0 : Int32)
  else
  some (1 : Int32)))

def f_X6_take (v_taken : Int32) (v_seed : Int64) (v_store : (Nat → Int32)) (va1_n : Int32) (va1_primeNumber : Int32) (va1_numbers : (Nat → Int32)) (va2_state : Int64) : Option (Int32 × Int64 × (Nat → Int32)) :=
  kb1 (f_X3_writeTo 22 va1_n va1_primeNumber va1_numbers v_store (0 : Int32)) fun w1 =>
  some ((1 : Int32), va2_state, w1)

def f_X11_keep (v_now_n : Int32) (v_now_primeNumber : Int32) (v_now_numbers : (Nat → Int32)) (v_history_count : Int32) (v_draws_state : Int64) (v_firstImage_taken : Int32) (v_firstImage_seed : Int64) (v_firstImage_store : (Nat → Int32)) (v_secondImage_taken : Int32) (v_secondImage_seed : Int64) (v_secondImage_store : (Nat → Int32)) (x1 : Int32) : Option (Int32 × Int32 × Int32 × Int64 × (Nat → Int32) × Int32 × Int64 × (Nat → Int32)) :=
  kb1 (f_X11_isNoImage x1) fun r1 =>
  (if r1 = 0 then
  (if x1 = 0 then
  kb3 (f_X6_take v_firstImage_taken v_firstImage_seed v_firstImage_store v_now_n v_now_primeNumber v_now_numbers v_draws_state) fun w5 w6 w7 =>
  some ((1 : Int32), (0 : Int32), w5, w6, w7, v_secondImage_taken, v_secondImage_seed, v_secondImage_store)
  else
  kb3 (f_X6_take v_secondImage_taken v_secondImage_seed v_secondImage_store v_now_n v_now_primeNumber v_now_numbers v_draws_state) fun w9 w10 w11 =>
  some ((1 : Int32), (0 : Int32), v_firstImage_taken, v_firstImage_seed, v_firstImage_store, w9, w10, w11))
  else
  some ((-1000000001 : Int32), v_history_count, v_firstImage_taken, v_firstImage_seed, v_firstImage_store, v_secondImage_taken, v_secondImage_seed, v_secondImage_store))

def f_X6_give (v_seed : Int64) (v_store : (Nat → Int32)) (va1_n : Int32) (va1_primeNumber : Int32) (va1_numbers : (Nat → Int32)) (va2_state : Int64) : Option (Int32 × Int32 × (Nat → Int32) × Int64) :=
  kb3 (f_X3_readFrom 22 va1_n va1_primeNumber va1_numbers v_store (0 : Int32)) fun w1 w2 w3 =>
  some (w1, w2, w3, v_seed)

def f_X11_goBack (v_now_n : Int32) (v_now_primeNumber : Int32) (v_now_numbers : (Nat → Int32)) (v_history_count : Int32) (v_draws_state : Int64) (v_firstImage_taken : Int32) (v_firstImage_seed : Int64) (v_firstImage_store : (Nat → Int32)) (v_secondImage_taken : Int32) (v_secondImage_seed : Int64) (v_secondImage_store : (Nat → Int32)) (x1 : Int32) : Option (Int32 × Int32 × Int32 × (Nat → Int32) × Int32 × Int64) :=
  kb1 (f_X11_isNoImage x1) fun r1 =>
  (if r1 = 0 then
  (if x1 = 0 then
  (if v_firstImage_taken = 0 then
  some ((-1000000003 : Int32), v_now_n, v_now_primeNumber, v_now_numbers, v_history_count, v_draws_state)
  else
  kb4 (f_X6_give v_firstImage_seed v_firstImage_store v_now_n v_now_primeNumber v_now_numbers v_draws_state) fun w6 w7 w8 w9 =>
  some ((1 : Int32), w6, w7, w8, (0 : Int32), w9))
  else
  (if v_secondImage_taken = 0 then
  some ((-1000000003 : Int32), v_now_n, v_now_primeNumber, v_now_numbers, v_history_count, v_draws_state)
  else
  kb4 (f_X6_give v_secondImage_seed v_secondImage_store v_now_n v_now_primeNumber v_now_numbers v_draws_state) fun w12 w13 w14 w15 =>
  some ((1 : Int32), w12, w13, w14, (0 : Int32), w15)))
  else
  some ((-1000000001 : Int32), v_now_n, v_now_primeNumber, v_now_numbers, v_history_count, v_draws_state))

