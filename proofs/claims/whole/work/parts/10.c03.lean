set_option maxHeartbeats 4000000 in
set_option maxRecDepth 100000 in
theorem c_X12_layFraction {l : Launch} {D : va_G} {cI cJ cQ : ClassId} {tp : Nat} (q : Nat) (q_w : Nat) (q_imageSeed : Nat) (q_bookOf : Nat) (q_bookAt : Nat) (q_bookIs : Nat) (q_rs : Nat) (q_cs : Nat) (q_zs : Nat) (v_known : Int32) (v_kept : Int32) (v_seed : Int32) (v_written : Int32) (v_above : Int64) (v_below : Int64) (v_leftAbove : Int64) (v_leftBelow : Int64) (v_guessAbove : Int64) (v_guessBelow : Int64) (v_sign : Int32) (v_power2 : Int32) (v_bits : Int64) (F : Nat) (x1 : Int64) (x3 : Int64) (o_v_above : Int64) (o_v_below : Int64) (hf : f_X12_layFraction F v_above v_below x1 x3 = some (o_v_above, o_v_below)) : kM (fun A => kQv D A [(q, .inr (11, [.ref q_w, .int v_known, .int v_kept, .int v_seed, .ref q_imageSeed, .ref q_bookOf, .ref q_bookAt, .ref q_bookIs, .int v_written, .ref q_rs, .ref q_cs, .long o_v_above, .long o_v_below, .ref q_zs, .long v_leftAbove, .long v_leftBelow, .long v_guessAbove, .long v_guessBelow, .int v_sign, .int v_power2, .long v_bits]))]) none l yX12_layFraction cX12_layFraction 7 { frames := 1, cells := 0, slots := 0, locals := 29 } D cI cJ cQ tp [.ref q, .long x1, .long x3] [(q, .inr (11, [.ref q_w, .int v_known, .int v_kept, .int v_seed, .ref q_imageSeed, .ref q_bookOf, .ref q_bookAt, .ref q_bookIs, .int v_written, .ref q_rs, .ref q_cs, .long v_above, .long v_below, .ref q_zs, .long v_leftAbove, .long v_leftBelow, .long v_guessAbove, .long v_guessBelow, .int v_sign, .int v_power2, .long v_bits]))] := by
  refine kM_of (by decide) (Nat.le_of_ble_eq_true rfl) ?_
  intro p e s m args below meth c A ls R Q hR hQ hat hP hD hS hl
  obtain ⟨hx, hb, hr, hml, hown, hts, hT, hlk, hK, hA, hZ⟩ := id hat
  have hown : s.vm.findClass RX12 = some m.cls := hown
  have hl : lv_has ls 7 [(0, .ref q), (1, .long x1), (3, .long x3)] := hl
  unfold f_X12_layFraction at hf
  refine lv_lload_n hx hb dX12_layFraction_0 rfl (lv_at hl 1 rfl) ?_
  refine lv_lload_n hx hb dX12_layFraction_1 rfl (lv_at hl 2 rfl) ?_
  obtain ⟨r1, h2, hf⟩ := kb1_e hf
  refine k_gl (ws' := [(q, .inr (11, [.ref q_w, .int v_known, .int v_kept, .int v_seed, .ref q_imageSeed, .ref q_bookOf, .ref q_bookAt, .ref q_bookIs, .int v_written, .ref q_rs, .ref q_cs, .long v_above, .long v_below, .ref q_zs, .long v_leftAbove, .long v_leftBelow, .long v_guessAbove, .long v_guessBelow, .int v_sign, .int v_power2, .long v_bits]))]) (k_runS (rest := []) hat hP hD hS hl.1 (c_X12_divisor F x1 x3 r1 h2) [] (by decide) rfl kw1001 kw1002 kw79 kw1003 kdX12_divisor ⟨rfl, rfl⟩ (by rw [hR]; exact ⟨Nat.le_of_ble_eq_true rfl, Nat.le_of_ble_eq_true rfl⟩) ⟨Nat.zero_le _, Nat.zero_le _⟩ rfl rfl (Nat.le_of_ble_eq_true rfl) dX12_layFraction_2) hat hP hD hS [] rfl [0] rfl rfl rfl rfl (by decide) (fun H locs hP hD hS => ?_)
  refine lv_lstore (lv' := [(5, .long r1), (0, .ref q), (1, .long x1), (3, .long x3)]) hx hb dX12_layFraction_5 hl (by decide) rfl (fun ls hl => ?_)
  refine lv_lload_n hx hb dX12_layFraction_7 rfl (lv_at hl 3 rfl) ?_
  refine lv_lconst (v := 0) hx hb dX12_layFraction_8 (by decide) ?_
  refine k_lcmp_ge (tgt := 19) hx hb dX12_layFraction_9 dX12_layFraction_10 (by decide) (fun c3 => ?_) (fun c3 => ?_)
  · have hf := kp_e hf c3
    refine lv_lload hx hb dX12_layFraction_19 (lv_at hl 0 rfl) ?_
    refine lv_lstore (lv' := [(5, .long r1), (0, .ref q), (1, .long x1), (3, .long x3)]) hx hb dX12_layFraction_21 hl (by decide) rfl (fun ls hl => ?_)
    refine lv_aload_n hx hb dX12_layFraction_23 rfl (lv_at hl 1 rfl) ?_
    refine lv_lload_n hx hb dX12_layFraction_24 rfl (lv_at hl 2 rfl) ?_
    refine lv_lload hx hb dX12_layFraction_25 (lv_at hl 0 rfl) ?_
    obtain ⟨c4, hf⟩ := kc_e hf
    refine lv_ldiv hx hb dX12_layFraction_27 c4 ?_
    refine lv_topl (fun t5 et5 => ?_)
    have hf := kl_e hf t5 et5
    refine va_put (D := D) (ci := 11) (v := .long t5) (ty := .long) (C := RX12) (T := TX12) (N := 21) hx hb hts kinX12 tyX12 tyX12_ok nmX12 hown hK hP hD hS 0 rfl rfl 11 (by decide) (hts _ kw855) (fun _ h9 => h9) rfl (by decide +kernel) rfl rfl (Nat.le_of_ble_eq_true rfl) dX12_layFraction_28 (fun H locs hP hD hS => ?_)
    have hP : va_P D vwCl [(q, .inr (11, [.ref q_w, .int v_known, .int v_kept, .int v_seed, .ref q_imageSeed, .ref q_bookOf, .ref q_bookAt, .ref q_bookIs, .int v_written, .ref q_rs, .ref q_cs, .long t5, .long v_below, .ref q_zs, .long v_leftAbove, .long v_leftBelow, .long v_guessAbove, .long v_guessBelow, .int v_sign, .int v_power2, .long v_bits]))] H := hP
    have hD : va_D A [(q, .inr (11, [.ref q_w, .int v_known, .int v_kept, .int v_seed, .ref q_imageSeed, .ref q_bookOf, .ref q_bookAt, .ref q_bookIs, .int v_written, .ref q_rs, .ref q_cs, .long t5, .long v_below, .ref q_zs, .long v_leftAbove, .long v_leftBelow, .long v_guessAbove, .long v_guessBelow, .int v_sign, .int v_power2, .long v_bits]))] := hD
    refine lv_aload_n hx hb dX12_layFraction_31 rfl (lv_at hl 1 rfl) ?_
    refine lv_lload_n hx hb dX12_layFraction_32 rfl (lv_at hl 3 rfl) ?_
    refine lv_lload hx hb dX12_layFraction_33 (lv_at hl 0 rfl) ?_
    obtain ⟨c6, hf⟩ := kc_e hf
    refine lv_ldiv hx hb dX12_layFraction_35 c6 ?_
    refine lv_topl (fun t7 et7 => ?_)
    have hf := kl_e hf t7 et7
    refine va_put (D := D) (ci := 11) (v := .long t7) (ty := .long) (C := RX12) (T := TX12) (N := 21) hx hb hts kinX12 tyX12 tyX12_ok nmX12 hown hK hP hD hS 0 rfl rfl 12 (by decide) (hts _ kw856) (fun _ h9 => h9) rfl (by decide +kernel) rfl rfl (Nat.le_of_ble_eq_true rfl) dX12_layFraction_36 (fun H locs hP hD hS => ?_)
    have hP : va_P D vwCl [(q, .inr (11, [.ref q_w, .int v_known, .int v_kept, .int v_seed, .ref q_imageSeed, .ref q_bookOf, .ref q_bookAt, .ref q_bookIs, .int v_written, .ref q_rs, .ref q_cs, .long t5, .long t7, .ref q_zs, .long v_leftAbove, .long v_leftBelow, .long v_guessAbove, .long v_guessBelow, .int v_sign, .int v_power2, .long v_bits]))] H := hP
    have hD : va_D A [(q, .inr (11, [.ref q_w, .int v_known, .int v_kept, .int v_seed, .ref q_imageSeed, .ref q_bookOf, .ref q_bookAt, .ref q_bookIs, .int v_written, .ref q_rs, .ref q_cs, .long t5, .long t7, .ref q_zs, .long v_leftAbove, .long v_leftBelow, .long v_guessAbove, .long v_guessBelow, .int v_sign, .int v_power2, .long v_bits]))] := hD
    obtain ⟨rfl, rfl⟩ := ki2 hf
    rw [hQ]
    exact k_vret hat hP hS dX12_layFraction_39
  · have hf := kn_e hf c3
    refine lv_lload hx hb dX12_layFraction_13 (lv_at hl 0 rfl) ?_
    refine lv_lneg hx hb dX12_layFraction_15 ?_
    refine lv_goto (tgt := 21) hx hb dX12_layFraction_16 (by decide) ?_
    refine lv_topl (fun t8 et8 => ?_)
    have hf := kl_e hf t8 et8
    refine lv_lstore (lv' := [(5, .long t8), (0, .ref q), (1, .long x1), (3, .long x3)]) hx hb dX12_layFraction_21 hl (by decide) rfl (fun ls hl => ?_)
    refine lv_aload_n hx hb dX12_layFraction_23 rfl (lv_at hl 1 rfl) ?_
    refine lv_lload_n hx hb dX12_layFraction_24 rfl (lv_at hl 2 rfl) ?_
    refine lv_lload hx hb dX12_layFraction_25 (lv_at hl 0 rfl) ?_
    obtain ⟨c9, hf⟩ := kc_e hf
    refine lv_ldiv hx hb dX12_layFraction_27 c9 ?_
    refine lv_topl (fun t10 et10 => ?_)
    have hf := kl_e hf t10 et10
    refine va_put (D := D) (ci := 11) (v := .long t10) (ty := .long) (C := RX12) (T := TX12) (N := 21) hx hb hts kinX12 tyX12 tyX12_ok nmX12 hown hK hP hD hS 0 rfl rfl 11 (by decide) (hts _ kw855) (fun _ h9 => h9) rfl (by decide +kernel) rfl rfl (Nat.le_of_ble_eq_true rfl) dX12_layFraction_28 (fun H locs hP hD hS => ?_)
    have hP : va_P D vwCl [(q, .inr (11, [.ref q_w, .int v_known, .int v_kept, .int v_seed, .ref q_imageSeed, .ref q_bookOf, .ref q_bookAt, .ref q_bookIs, .int v_written, .ref q_rs, .ref q_cs, .long t10, .long v_below, .ref q_zs, .long v_leftAbove, .long v_leftBelow, .long v_guessAbove, .long v_guessBelow, .int v_sign, .int v_power2, .long v_bits]))] H := hP
    have hD : va_D A [(q, .inr (11, [.ref q_w, .int v_known, .int v_kept, .int v_seed, .ref q_imageSeed, .ref q_bookOf, .ref q_bookAt, .ref q_bookIs, .int v_written, .ref q_rs, .ref q_cs, .long t10, .long v_below, .ref q_zs, .long v_leftAbove, .long v_leftBelow, .long v_guessAbove, .long v_guessBelow, .int v_sign, .int v_power2, .long v_bits]))] := hD
    refine lv_aload_n hx hb dX12_layFraction_31 rfl (lv_at hl 1 rfl) ?_
    refine lv_lload_n hx hb dX12_layFraction_32 rfl (lv_at hl 3 rfl) ?_
    refine lv_lload hx hb dX12_layFraction_33 (lv_at hl 0 rfl) ?_
    obtain ⟨c11, hf⟩ := kc_e hf
    refine lv_ldiv hx hb dX12_layFraction_35 c11 ?_
    refine lv_topl (fun t12 et12 => ?_)
    have hf := kl_e hf t12 et12
    refine va_put (D := D) (ci := 11) (v := .long t12) (ty := .long) (C := RX12) (T := TX12) (N := 21) hx hb hts kinX12 tyX12 tyX12_ok nmX12 hown hK hP hD hS 0 rfl rfl 12 (by decide) (hts _ kw856) (fun _ h9 => h9) rfl (by decide +kernel) rfl rfl (Nat.le_of_ble_eq_true rfl) dX12_layFraction_36 (fun H locs hP hD hS => ?_)
    have hP : va_P D vwCl [(q, .inr (11, [.ref q_w, .int v_known, .int v_kept, .int v_seed, .ref q_imageSeed, .ref q_bookOf, .ref q_bookAt, .ref q_bookIs, .int v_written, .ref q_rs, .ref q_cs, .long t10, .long t12, .ref q_zs, .long v_leftAbove, .long v_leftBelow, .long v_guessAbove, .long v_guessBelow, .int v_sign, .int v_power2, .long v_bits]))] H := hP
    have hD : va_D A [(q, .inr (11, [.ref q_w, .int v_known, .int v_kept, .int v_seed, .ref q_imageSeed, .ref q_bookOf, .ref q_bookAt, .ref q_bookIs, .int v_written, .ref q_rs, .ref q_cs, .long t10, .long t12, .ref q_zs, .long v_leftAbove, .long v_leftBelow, .long v_guessAbove, .long v_guessBelow, .int v_sign, .int v_power2, .long v_bits]))] := hD
    obtain ⟨rfl, rfl⟩ := ki2 hf
    rw [hQ]
    exact k_vret hat hP hS dX12_layFraction_39
set_option maxHeartbeats 4000000 in
set_option maxRecDepth 100000 in
theorem c_X12_layShare {l : Launch} {D : va_G} {cI cJ cQ : ClassId} {tp : Nat} (q : Nat) (q_w : Nat) (q_imageSeed : Nat) (q_bookOf : Nat) (q_bookAt : Nat) (q_bookIs : Nat) (q_rs : Nat) (q_cs : Nat) (q_zs : Nat) (v_known : Int32) (v_kept : Int32) (v_seed : Int32) (v_written : Int32) (v_above : Int64) (v_below : Int64) (v_leftAbove : Int64) (v_leftBelow : Int64) (v_guessAbove : Int64) (v_guessBelow : Int64) (v_sign : Int32) (v_power2 : Int32) (v_bits : Int64) (v_w : (Nat → Int32)) (v_rs : (Nat → Int32)) (v_cs : (Nat → Int32)) (F : Nat) (x1 : Int32) (x2 : Int32) (o_v_above : Int64) (o_v_below : Int64) (o_v_rs : (Nat → Int32)) (o_v_cs : (Nat → Int32)) (hf : f_X12_layShare F v_above v_below v_w v_rs v_cs x1 x2 = some (o_v_above, o_v_below, o_v_rs, o_v_cs)) : kM (fun A => kQv D A [(q, .inr (11, [.ref q_w, .int v_known, .int v_kept, .int v_seed, .ref q_imageSeed, .ref q_bookOf, .ref q_bookAt, .ref q_bookIs, .int v_written, .ref q_rs, .ref q_cs, .long o_v_above, .long o_v_below, .ref q_zs, .long v_leftAbove, .long v_leftBelow, .long v_guessAbove, .long v_guessBelow, .int v_sign, .int v_power2, .long v_bits])), (q_w, .inl (cI, 418, .inl v_w)), (q_rs, .inl (cI, 4, .inl o_v_rs)), (q_cs, .inl (cI, 4, .inl o_v_cs))]) none l yX12_layShare cX12_layShare 9 { frames := 8, cells := 0, slots := 0, locals := 186 } D cI cJ cQ tp [.ref q, .int x1, .int x2] [(q, .inr (11, [.ref q_w, .int v_known, .int v_kept, .int v_seed, .ref q_imageSeed, .ref q_bookOf, .ref q_bookAt, .ref q_bookIs, .int v_written, .ref q_rs, .ref q_cs, .long v_above, .long v_below, .ref q_zs, .long v_leftAbove, .long v_leftBelow, .long v_guessAbove, .long v_guessBelow, .int v_sign, .int v_power2, .long v_bits])), (q_w, .inl (cI, 418, .inl v_w)), (q_rs, .inl (cI, 4, .inl v_rs)), (q_cs, .inl (cI, 4, .inl v_cs))] := by
  refine kM_of (by decide) (Nat.le_of_ble_eq_true rfl) ?_
  intro p e s m args below meth c A ls R Q hR hQ hat hP hD hS hl
  obtain ⟨hx, hb, hr, hml, hown, hts, hT, hlk, hK, hA, hZ⟩ := id hat
  have hown : s.vm.findClass RX12 = some m.cls := hown
  have hl : lv_has ls 9 [(0, .ref q), (1, .int x1), (2, .int x2)] := hl
  have hL31 : ∀ (x1 : Int32) (x2 : Int32) (x3 : Int32) (x4 : Int32) (x5 : Int64) (x7 : Int32) (v_known : Int32) (v_kept : Int32) (v_seed : Int32) (v_written : Int32) (v_above : Int64) (v_below : Int64) (v_leftAbove : Int64) (v_leftBelow : Int64) (v_guessAbove : Int64) (v_guessBelow : Int64) (v_sign : Int32) (v_power2 : Int32) (v_bits : Int64) (v_w : (Nat → Int32)) (fu : Nat) (x8 : Int32) (v_rs : (Nat → Int32)) (v_cs : (Nat → Int32)) (o0 : (Nat → Int32)) (o1 : (Nat → Int32)), L_X12_layShare_31 F x1 x2 x3 x4 x5 x7 fu x8 v_rs v_cs = some (o0, o1) → (∀ (H : Heap) (locs : List Loc) (ls : Array Slot), va_P D vwCl [(q, .inr (11, [.ref q_w, .int v_known, .int v_kept, .int v_seed, .ref q_imageSeed, .ref q_bookOf, .ref q_bookAt, .ref q_bookIs, .int v_written, .ref q_rs, .ref q_cs, .long v_above, .long v_below, .ref q_zs, .long v_leftAbove, .long v_leftBelow, .long v_guessAbove, .long v_guessBelow, .int v_sign, .int v_power2, .long v_bits])), (q_w, .inl (cI, 418, .inl v_w)), (q_rs, .inl (cI, 4, .inl o0)), (q_cs, .inl (cI, 4, .inl o1))] H → va_D A [(q, .inr (11, [.ref q_w, .int v_known, .int v_kept, .int v_seed, .ref q_imageSeed, .ref q_bookOf, .ref q_bookAt, .ref q_bookIs, .int v_written, .ref q_rs, .ref q_cs, .long v_above, .long v_below, .ref q_zs, .long v_leftAbove, .long v_leftBelow, .long v_guessAbove, .long v_guessBelow, .int v_sign, .int v_power2, .long v_bits])), (q_w, .inl (cI, 418, .inl v_w)), (q_rs, .inl (cI, 4, .inl o0)), (q_cs, .inl (cI, 4, .inl o1))] → va_S A s.heap H locs → lv_has ls 9 [(0, .ref q), (5, .long x5), (7, .int x7)] → W p l e R s m args below meth c H locs 0 0 Q (F0 m 81 ls [])) → ∀ (H : Heap) (locs : List Loc) (ls : Array Slot), va_P D vwCl [(q, .inr (11, [.ref q_w, .int v_known, .int v_kept, .int v_seed, .ref q_imageSeed, .ref q_bookOf, .ref q_bookAt, .ref q_bookIs, .int v_written, .ref q_rs, .ref q_cs, .long v_above, .long v_below, .ref q_zs, .long v_leftAbove, .long v_leftBelow, .long v_guessAbove, .long v_guessBelow, .int v_sign, .int v_power2, .long v_bits])), (q_w, .inl (cI, 418, .inl v_w)), (q_rs, .inl (cI, 4, .inl v_rs)), (q_cs, .inl (cI, 4, .inl v_cs))] H → va_D A [(q, .inr (11, [.ref q_w, .int v_known, .int v_kept, .int v_seed, .ref q_imageSeed, .ref q_bookOf, .ref q_bookAt, .ref q_bookIs, .int v_written, .ref q_rs, .ref q_cs, .long v_above, .long v_below, .ref q_zs, .long v_leftAbove, .long v_leftBelow, .long v_guessAbove, .long v_guessBelow, .int v_sign, .int v_power2, .long v_bits])), (q_w, .inl (cI, 418, .inl v_w)), (q_rs, .inl (cI, 4, .inl v_rs)), (q_cs, .inl (cI, 4, .inl v_cs))] → va_S A s.heap H locs → lv_has ls 9 [(0, .ref q), (1, .int x1), (2, .int x2), (3, .int x3), (4, .int x4), (5, .long x5), (7, .int x7), (8, .int x8)] → W p l e R s m args below meth c H locs 0 0 Q (F0 m 31 ls []) := by
    intro x1 x2 x3 x4 x5 x7 v_known v_kept v_seed v_written v_above v_below v_leftAbove v_leftBelow v_guessAbove v_guessBelow v_sign v_power2 v_bits v_w fu
    induction fu with
    | zero =>
      intro x8 v_rs v_cs o0 o1 hf
      cases hf
    | succ fu ih =>
      intro x8 v_rs v_cs o0 o1 hf hk0 H locs ls hP hD hS hl
      rw [L_X12_layShare_31] at hf
      refine lv_iload hx hb dX12_layShare_31 (lv_at hl 7 rfl) ?_
      refine lv_iload hx hb dX12_layShare_33 (lv_at hl 6 rfl) ?_
      refine lv_icmp_ge (tgt := 81) hx hb dX12_layShare_35 (by decide) (fun c15 => ?_) (fun c15 => ?_)
      · have hf := kp_e hf c15
        obtain ⟨rfl, rfl⟩ := ki2 hf
        exact hk0 _ _ _ hP hD hS (lv_sub hl [0, 5, 6] rfl)
      · have hf := kn_e hf c15
        refine lv_aload_n hx hb dX12_layShare_38 rfl (lv_at hl 0 rfl) ?_
        refine va_get (D := D) (ci := 11) (v := .ref q_rs) (C := RX12) (T := TX12) (N := 21) hx hb hts kinX12 hown hK hP 0 rfl rfl 9 (by decide) (hts _ kw853) (fun _ h9 => h9) rfl dX12_layShare_39 ?_
        refine lv_iload hx hb dX12_layShare_42 (lv_at hl 7 rfl) ?_
        refine lv_iload hx hb dX12_layShare_44 (lv_at hl 4 rfl) ?_
        refine lv_iload hx hb dX12_layShare_46 (lv_at hl 7 rfl) ?_
        obtain ⟨r16, h17, hf⟩ := kb1_e hf
        refine k_gi (ws' := [(q, .inr (11, [.ref q_w, .int v_known, .int v_kept, .int v_seed, .ref q_imageSeed, .ref q_bookOf, .ref q_bookAt, .ref q_bookIs, .int v_written, .ref q_rs, .ref q_cs, .long v_above, .long v_below, .ref q_zs, .long v_leftAbove, .long v_leftBelow, .long v_guessAbove, .long v_guessBelow, .int v_sign, .int v_power2, .long v_bits])), (q_w, .inl (cI, 418, .inl v_w)), (q_rs, .inl (cI, 4, .inl v_rs)), (q_cs, .inl (cI, 4, .inl v_cs))]) (k_runS (rest := [.int x8, .ref q_rs]) hat hP hD hS hl.1 (c_X12_pick F x4 x8 r16 h17) [] (by decide) rfl kw938 kw939 kw79 kw940 kdX12_pick ⟨rfl, rfl⟩ (by rw [hR]; exact ⟨Nat.le_of_ble_eq_true rfl, Nat.le_of_ble_eq_true rfl⟩) ⟨Nat.zero_le _, Nat.zero_le _⟩ rfl rfl (Nat.le_of_ble_eq_true rfl) dX12_layShare_48) hat hP hD hS [] rfl [0, 1, 2, 3] rfl rfl rfl rfl (by decide) (fun H locs hP hD hS => ?_)
        obtain ⟨c18, hf⟩ := kc_e hf
        refine va_iast hx hb hK hP hD hS 2 0 rfl rfl (kin_e c18) dX12_layShare_51 (fun H locs hP hD hS => ?_)
        generalize ew19 : (upd v_rs x8.toNatClampNeg r16) = w19 at hP hD
        have hf := kl_e hf w19 ew19.symm
        have hP : va_P D vwCl [(q, .inr (11, [.ref q_w, .int v_known, .int v_kept, .int v_seed, .ref q_imageSeed, .ref q_bookOf, .ref q_bookAt, .ref q_bookIs, .int v_written, .ref q_rs, .ref q_cs, .long v_above, .long v_below, .ref q_zs, .long v_leftAbove, .long v_leftBelow, .long v_guessAbove, .long v_guessBelow, .int v_sign, .int v_power2, .long v_bits])), (q_w, .inl (cI, 418, .inl v_w)), (q_rs, .inl (cI, 4, .inl w19)), (q_cs, .inl (cI, 4, .inl v_cs))] H := hP
        have hD : va_D A [(q, .inr (11, [.ref q_w, .int v_known, .int v_kept, .int v_seed, .ref q_imageSeed, .ref q_bookOf, .ref q_bookAt, .ref q_bookIs, .int v_written, .ref q_rs, .ref q_cs, .long v_above, .long v_below, .ref q_zs, .long v_leftAbove, .long v_leftBelow, .long v_guessAbove, .long v_guessBelow, .int v_sign, .int v_power2, .long v_bits])), (q_w, .inl (cI, 418, .inl v_w)), (q_rs, .inl (cI, 4, .inl w19)), (q_cs, .inl (cI, 4, .inl v_cs))] := hD
        refine lv_aload_n hx hb dX12_layShare_52 rfl (lv_at hl 0 rfl) ?_
        refine va_get (D := D) (ci := 11) (v := .ref q_cs) (C := RX12) (T := TX12) (N := 21) hx hb hts kinX12 hown hK hP 0 rfl rfl 10 (by decide) (hts _ kw854) (fun _ h9 => h9) rfl dX12_layShare_53 ?_
        refine lv_iload hx hb dX12_layShare_56 (lv_at hl 7 rfl) ?_
        refine lv_iload hx hb dX12_layShare_58 (lv_at hl 7 rfl) ?_
        refine lv_iload_n hx hb dX12_layShare_60 rfl (lv_at hl 1 rfl) ?_
        refine lv_icmp_ne (tgt := 68) hx hb dX12_layShare_61 (by decide) (fun c20 => ?_) (fun c20 => ?_)
        · have hf := kn_e hf c20
          refine lv_iload_n hx hb dX12_layShare_68 rfl (lv_at hl 3 rfl) ?_
          refine lv_iload hx hb dX12_layShare_69 (lv_at hl 7 rfl) ?_
          obtain ⟨r21, h22, hf⟩ := kb1_e hf
          refine k_gi (ws' := [(q, .inr (11, [.ref q_w, .int v_known, .int v_kept, .int v_seed, .ref q_imageSeed, .ref q_bookOf, .ref q_bookAt, .ref q_bookIs, .int v_written, .ref q_rs, .ref q_cs, .long v_above, .long v_below, .ref q_zs, .long v_leftAbove, .long v_leftBelow, .long v_guessAbove, .long v_guessBelow, .int v_sign, .int v_power2, .long v_bits])), (q_w, .inl (cI, 418, .inl v_w)), (q_rs, .inl (cI, 4, .inl w19)), (q_cs, .inl (cI, 4, .inl v_cs))]) (k_runS (rest := [.int x8, .ref q_cs]) hat hP hD hS hl.1 (c_X12_pick F x3 x8 r21 h22) [] (by decide) rfl kw938 kw939 kw79 kw940 kdX12_pick ⟨rfl, rfl⟩ (by rw [hR]; exact ⟨Nat.le_of_ble_eq_true rfl, Nat.le_of_ble_eq_true rfl⟩) ⟨Nat.zero_le _, Nat.zero_le _⟩ rfl rfl (Nat.le_of_ble_eq_true rfl) dX12_layShare_71) hat hP hD hS [] rfl [0, 1, 2, 3] rfl rfl rfl rfl (by decide) (fun H locs hP hD hS => ?_)
          obtain ⟨c23, hf⟩ := kc_e hf
          refine va_iast hx hb hK hP hD hS 3 0 rfl rfl (kin_e c23) dX12_layShare_74 (fun H locs hP hD hS => ?_)
          generalize ew24 : (upd v_cs x8.toNatClampNeg r21) = w24 at hP hD
          have hf := kl_e hf w24 ew24.symm
          have hP : va_P D vwCl [(q, .inr (11, [.ref q_w, .int v_known, .int v_kept, .int v_seed, .ref q_imageSeed, .ref q_bookOf, .ref q_bookAt, .ref q_bookIs, .int v_written, .ref q_rs, .ref q_cs, .long v_above, .long v_below, .ref q_zs, .long v_leftAbove, .long v_leftBelow, .long v_guessAbove, .long v_guessBelow, .int v_sign, .int v_power2, .long v_bits])), (q_w, .inl (cI, 418, .inl v_w)), (q_rs, .inl (cI, 4, .inl w19)), (q_cs, .inl (cI, 4, .inl w24))] H := hP
          have hD : va_D A [(q, .inr (11, [.ref q_w, .int v_known, .int v_kept, .int v_seed, .ref q_imageSeed, .ref q_bookOf, .ref q_bookAt, .ref q_bookIs, .int v_written, .ref q_rs, .ref q_cs, .long v_above, .long v_below, .ref q_zs, .long v_leftAbove, .long v_leftBelow, .long v_guessAbove, .long v_guessBelow, .int v_sign, .int v_power2, .long v_bits])), (q_w, .inl (cI, 418, .inl v_w)), (q_rs, .inl (cI, 4, .inl w19)), (q_cs, .inl (cI, 4, .inl w24))] := hD
          obtain ⟨t25, et25⟩ : ∃ z : Int32, z = (x8 + (1 : Int32)) := ⟨_, rfl⟩
          have hf := kl_e hf t25 et25
          refine lv_iinc (v := t25) (lv' := [(8, .int t25), (0, .ref q), (1, .int x1), (2, .int x2), (3, .int x3), (4, .int x4), (5, .long x5), (7, .int x7)]) hx hb dX12_layShare_75 hl (k := 7) rfl (by rw [et25]; rfl) (by decide) rfl (fun ls hl => ?_)
          refine lv_goto (tgt := 31) hx hb dX12_layShare_78 (by decide) ?_
          exact ih t25 w19 w24 o0 o1 hf hk0 _ _ _ hP hD hS (lv_sub hl [1, 2, 3, 4, 5, 6, 7, 0] rfl)
        · have hf := kp_e hf c20
          refine lv_iload_n hx hb dX12_layShare_64 rfl (lv_at hl 2 rfl) ?_
          refine lv_goto (tgt := 74) hx hb dX12_layShare_65 (by decide) ?_
          obtain ⟨c26, hf⟩ := kc_e hf
          refine va_iast hx hb hK hP hD hS 3 0 rfl rfl (kin_e c26) dX12_layShare_74 (fun H locs hP hD hS => ?_)
          generalize ew27 : (upd v_cs x8.toNatClampNeg x2) = w27 at hP hD
          have hf := kl_e hf w27 ew27.symm
          have hP : va_P D vwCl [(q, .inr (11, [.ref q_w, .int v_known, .int v_kept, .int v_seed, .ref q_imageSeed, .ref q_bookOf, .ref q_bookAt, .ref q_bookIs, .int v_written, .ref q_rs, .ref q_cs, .long v_above, .long v_below, .ref q_zs, .long v_leftAbove, .long v_leftBelow, .long v_guessAbove, .long v_guessBelow, .int v_sign, .int v_power2, .long v_bits])), (q_w, .inl (cI, 418, .inl v_w)), (q_rs, .inl (cI, 4, .inl w19)), (q_cs, .inl (cI, 4, .inl w27))] H := hP
          have hD : va_D A [(q, .inr (11, [.ref q_w, .int v_known, .int v_kept, .int v_seed, .ref q_imageSeed, .ref q_bookOf, .ref q_bookAt, .ref q_bookIs, .int v_written, .ref q_rs, .ref q_cs, .long v_above, .long v_below, .ref q_zs, .long v_leftAbove, .long v_leftBelow, .long v_guessAbove, .long v_guessBelow, .int v_sign, .int v_power2, .long v_bits])), (q_w, .inl (cI, 418, .inl v_w)), (q_rs, .inl (cI, 4, .inl w19)), (q_cs, .inl (cI, 4, .inl w27))] := hD
          obtain ⟨t28, et28⟩ : ∃ z : Int32, z = (x8 + (1 : Int32)) := ⟨_, rfl⟩
          have hf := kl_e hf t28 et28
          refine lv_iinc (v := t28) (lv' := [(8, .int t28), (0, .ref q), (1, .int x1), (2, .int x2), (3, .int x3), (4, .int x4), (5, .long x5), (7, .int x7)]) hx hb dX12_layShare_75 hl (k := 7) rfl (by rw [et28]; rfl) (by decide) rfl (fun ls hl => ?_)
          refine lv_goto (tgt := 31) hx hb dX12_layShare_78 (by decide) ?_
          exact ih t28 w19 w27 o0 o1 hf hk0 _ _ _ hP hD hS (lv_sub hl [1, 2, 3, 4, 5, 6, 7, 0] rfl)
  unfold f_X12_layShare at hf
  refine lv_aload_n hx hb dX12_layShare_0 rfl (lv_at hl 0 rfl) ?_
  obtain ⟨r1, w2, w3, h4, hf⟩ := kb3_e hf
  refine k_gi (ws' := [(q, .inr (11, [.ref q_w, .int v_known, .int v_kept, .int v_seed, .ref q_imageSeed, .ref q_bookOf, .ref q_bookAt, .ref q_bookIs, .int v_written, .ref q_rs, .ref q_cs, .long v_above, .long v_below, .ref q_zs, .long v_leftAbove, .long v_leftBelow, .long v_guessAbove, .long v_guessBelow, .int v_sign, .int v_power2, .long v_bits])), (q_w, .inl (cI, 418, .inl v_w)), (q_rs, .inl (cI, 4, .inl w2)), (q_cs, .inl (cI, 4, .inl w3))]) (k_runV (rest := []) hat hP hD hS hl.1 (c_X12_leading q q_w q_imageSeed q_bookOf q_bookAt q_bookIs q_rs q_cs q_zs v_known v_kept v_seed v_written v_above v_below v_leftAbove v_leftBelow v_guessAbove v_guessBelow v_sign v_power2 v_bits v_w v_rs v_cs F r1 w2 w3 h4) [0, 1, 2, 3] (by decide) rfl kw981 kw983 kw33 kw79 kw984 kdVX12_leading ⟨rfl, rfl⟩ (by rw [hR]; exact ⟨Nat.le_of_ble_eq_true rfl, Nat.le_of_ble_eq_true rfl⟩) ⟨Nat.zero_le _, Nat.zero_le _⟩ 0 11 rfl rfl rfl rfl (Nat.le_of_ble_eq_true rfl) dX12_layShare_1) hat hP hD hS [0, 1, 2, 3] rfl [] rfl rfl rfl rfl (by decide) (fun H locs hP hD hS => ?_)
  refine lv_istore_n (lv' := [(3, .int r1), (0, .ref q), (1, .int x1), (2, .int x2)]) hx hb dX12_layShare_4 rfl hl (by decide) rfl (fun ls hl => ?_)
  refine lv_aload_n hx hb dX12_layShare_5 rfl (lv_at hl 1 rfl) ?_
  refine lv_iload_n hx hb dX12_layShare_6 rfl (lv_at hl 0 rfl) ?_
  obtain ⟨r5, w6, w7, h8, hf⟩ := kb3_e hf
  refine k_gi (ws' := [(q, .inr (11, [.ref q_w, .int v_known, .int v_kept, .int v_seed, .ref q_imageSeed, .ref q_bookOf, .ref q_bookAt, .ref q_bookIs, .int v_written, .ref q_rs, .ref q_cs, .long v_above, .long v_below, .ref q_zs, .long v_leftAbove, .long v_leftBelow, .long v_guessAbove, .long v_guessBelow, .int v_sign, .int v_power2, .long v_bits])), (q_w, .inl (cI, 418, .inl v_w)), (q_rs, .inl (cI, 4, .inl w6)), (q_cs, .inl (cI, 4, .inl w7))]) (k_runV (rest := []) hat hP hD hS hl.1 (c_X12_rowsFor q q_w q_imageSeed q_bookOf q_bookAt q_bookIs q_rs q_cs q_zs v_known v_kept v_seed v_written v_above v_below v_leftAbove v_leftBelow v_guessAbove v_guessBelow v_sign v_power2 v_bits v_w w2 w3 F r1 r5 w6 w7 h8) [0, 1, 2, 3] (by decide) rfl kw993 kw995 kw36 kw79 kw996 kdVX12_rowsFor ⟨rfl, rfl⟩ (by rw [hR]; exact ⟨Nat.le_of_ble_eq_true rfl, Nat.le_of_ble_eq_true rfl⟩) ⟨Nat.zero_le _, Nat.zero_le _⟩ 0 11 rfl rfl rfl rfl (Nat.le_of_ble_eq_true rfl) dX12_layShare_7) hat hP hD hS [0, 1, 2, 3] rfl [] rfl rfl rfl rfl (by decide) (fun H locs hP hD hS => ?_)
  refine lv_istore (lv' := [(4, .int r5), (3, .int r1), (0, .ref q), (1, .int x1), (2, .int x2)]) hx hb dX12_layShare_10 hl (by decide) rfl (fun ls hl => ?_)
  refine lv_aload_n hx hb dX12_layShare_12 rfl (lv_at hl 2 rfl) ?_
  refine lv_iload hx hb dX12_layShare_13 (lv_at hl 0 rfl) ?_
  refine lv_iload_n hx hb dX12_layShare_15 rfl (lv_at hl 1 rfl) ?_
  obtain ⟨r9, w10, w11, h12, hf⟩ := kb3_e hf
  refine k_gl (ws' := [(q, .inr (11, [.ref q_w, .int v_known, .int v_kept, .int v_seed, .ref q_imageSeed, .ref q_bookOf, .ref q_bookAt, .ref q_bookIs, .int v_written, .ref q_rs, .ref q_cs, .long v_above, .long v_below, .ref q_zs, .long v_leftAbove, .long v_leftBelow, .long v_guessAbove, .long v_guessBelow, .int v_sign, .int v_power2, .long v_bits])), (q_w, .inl (cI, 418, .inl v_w)), (q_rs, .inl (cI, 4, .inl w10)), (q_cs, .inl (cI, 4, .inl w11))]) (k_runV (rest := []) hat hP hD hS hl.1 (c_X12_minor q q_w q_imageSeed q_bookOf q_bookAt q_bookIs q_rs q_cs q_zs v_known v_kept v_seed v_written v_above v_below v_leftAbove v_leftBelow v_guessAbove v_guessBelow v_sign v_power2 v_bits v_w w6 w7 F r5 r1 r9 w10 w11 h12) [0, 1, 2, 3] (by decide) rfl kw931 kw933 kw23 kw79 kw934 kdVX12_minor ⟨rfl, rfl⟩ (by rw [hR]; exact ⟨Nat.le_of_ble_eq_true rfl, Nat.le_of_ble_eq_true rfl⟩) ⟨Nat.zero_le _, Nat.zero_le _⟩ 0 11 rfl rfl rfl rfl (Nat.le_of_ble_eq_true rfl) dX12_layShare_16) hat hP hD hS [0, 1, 2, 3] rfl [] rfl rfl rfl rfl (by decide) (fun H locs hP hD hS => ?_)
  refine lv_lstore (lv' := [(5, .long r9), (4, .int r5), (3, .int r1), (0, .ref q), (1, .int x1), (2, .int x2)]) hx hb dX12_layShare_19 hl (by decide) rfl (fun ls hl => ?_)
  refine lv_iload hx hb dX12_layShare_21 (lv_at hl 1 rfl) ?_
  obtain ⟨r13, h14, hf⟩ := kb1_e hf
  refine k_gi (ws' := [(q, .inr (11, [.ref q_w, .int v_known, .int v_kept, .int v_seed, .ref q_imageSeed, .ref q_bookOf, .ref q_bookAt, .ref q_bookIs, .int v_written, .ref q_rs, .ref q_cs, .long v_above, .long v_below, .ref q_zs, .long v_leftAbove, .long v_leftBelow, .long v_guessAbove, .long v_guessBelow, .int v_sign, .int v_power2, .long v_bits])), (q_w, .inl (cI, 418, .inl v_w)), (q_rs, .inl (cI, 4, .inl w10)), (q_cs, .inl (cI, 4, .inl w11))]) (k_runS (rest := []) hat hP hD hS hl.1 (c_X12_ones r5 r13 h14) [] (by decide) rfl kw935 kw936 kw79 kw937 kdX12_ones ⟨rfl, rfl⟩ (by rw [hR]; exact ⟨Nat.le_of_ble_eq_true rfl, Nat.le_of_ble_eq_true rfl⟩) ⟨Nat.zero_le _, Nat.zero_le _⟩ rfl rfl (Nat.le_of_ble_eq_true rfl) dX12_layShare_23) hat hP hD hS [] rfl [0, 1, 2, 3] rfl rfl rfl rfl (by decide) (fun H locs hP hD hS => ?_)
  refine lv_istore (lv' := [(7, .int r13), (5, .long r9), (4, .int r5), (3, .int r1), (0, .ref q), (1, .int x1), (2, .int x2)]) hx hb dX12_layShare_26 hl (by decide) rfl (fun ls hl => ?_)
  refine lv_iconst (v := 0) hx hb dX12_layShare_28 (by decide) ?_
  refine lv_istore (lv' := [(8, .int (0 : Int32)), (7, .int r13), (5, .long r9), (4, .int r5), (3, .int r1), (0, .ref q), (1, .int x1), (2, .int x2)]) hx hb dX12_layShare_29 hl (by decide) rfl (fun ls hl => ?_)
  obtain ⟨w29, w30, hu, hf⟩ := kb2_e hf
  refine hL31 x1 x2 r1 r5 r9 r13 v_known v_kept v_seed v_written v_above v_below v_leftAbove v_leftBelow v_guessAbove v_guessBelow v_sign v_power2 v_bits v_w F (0 : Int32) w10 w11 w29 w30 hu (fun H locs ls hP hD hS hl => ?_) _ _ _ hP hD hS (lv_sub hl [5, 6, 7, 4, 3, 2, 1, 0] rfl)
  refine lv_aload_n hx hb dX12_layShare_81 rfl (lv_at hl 0 rfl) ?_
  refine lv_aload_n hx hb dX12_layShare_82 rfl (lv_at hl 0 rfl) ?_
  refine lv_iload hx hb dX12_layShare_83 (lv_at hl 2 rfl) ?_
  obtain ⟨r31, h32, hf⟩ := kb1_e hf
  refine k_gl (ws' := [(q, .inr (11, [.ref q_w, .int v_known, .int v_kept, .int v_seed, .ref q_imageSeed, .ref q_bookOf, .ref q_bookAt, .ref q_bookIs, .int v_written, .ref q_rs, .ref q_cs, .long v_above, .long v_below, .ref q_zs, .long v_leftAbove, .long v_leftBelow, .long v_guessAbove, .long v_guessBelow, .int v_sign, .int v_power2, .long v_bits])), (q_w, .inl (cI, 418, .inl v_w)), (q_rs, .inl (cI, 4, .inl w29)), (q_cs, .inl (cI, 4, .inl w30))]) (k_runV (rest := [.ref q]) hat hP hD hS hl.1 (c_X12_det q q_w q_imageSeed q_bookOf q_bookAt q_bookIs q_rs q_cs q_zs v_known v_kept v_seed v_written v_above v_below v_leftAbove v_leftBelow v_guessAbove v_guessBelow v_sign v_power2 v_bits v_w w29 w30 r13 r31 h32) [0, 1, 2, 3] (by decide) rfl kw944 kw946 kw24 kw79 kw947 kdVX12_det ⟨rfl, rfl⟩ (by rw [hR]; exact ⟨Nat.le_of_ble_eq_true rfl, Nat.le_of_ble_eq_true rfl⟩) ⟨Nat.zero_le _, Nat.zero_le _⟩ 0 11 rfl rfl rfl rfl (Nat.le_of_ble_eq_true rfl) dX12_layShare_85) hat hP hD hS [0, 1, 2, 3] rfl [] rfl rfl rfl rfl (by decide) (fun H locs hP hD hS => ?_)
  refine lv_lload hx hb dX12_layShare_88 (lv_at hl 1 rfl) ?_
  obtain ⟨w33, w34, h35, hf⟩ := kb2_e hf
  refine k_gv (ws' := [(q, .inr (11, [.ref q_w, .int v_known, .int v_kept, .int v_seed, .ref q_imageSeed, .ref q_bookOf, .ref q_bookAt, .ref q_bookIs, .int v_written, .ref q_rs, .ref q_cs, .long w33, .long w34, .ref q_zs, .long v_leftAbove, .long v_leftBelow, .long v_guessAbove, .long v_guessBelow, .int v_sign, .int v_power2, .long v_bits])), (q_w, .inl (cI, 418, .inl v_w)), (q_rs, .inl (cI, 4, .inl w29)), (q_cs, .inl (cI, 4, .inl w30))]) (k_runV (rest := []) hat hP hD hS hl.1 (c_X12_layFraction q q_w q_imageSeed q_bookOf q_bookAt q_bookIs q_rs q_cs q_zs v_known v_kept v_seed v_written v_above v_below v_leftAbove v_leftBelow v_guessAbove v_guessBelow v_sign v_power2 v_bits F r31 r9 w33 w34 h35) [0] (by decide) rfl kw997 kw999 kw37 kw79 kw1000 kdVX12_layFraction ⟨rfl, rfl⟩ (by rw [hR]; exact ⟨Nat.le_of_ble_eq_true rfl, Nat.le_of_ble_eq_true rfl⟩) ⟨Nat.zero_le _, Nat.zero_le _⟩ 0 11 rfl rfl rfl rfl (Nat.le_of_ble_eq_true rfl) dX12_layShare_90) hat hP hD hS [0] rfl [1, 2, 3] rfl rfl rfl rfl (by decide) (fun H locs hP hD hS => ?_)
  obtain ⟨rfl, rfl, rfl, rfl⟩ := ki4 hf
  rw [hQ]
  exact k_vret hat hP hS dX12_layShare_93
set_option maxHeartbeats 4000000 in
set_option maxRecDepth 100000 in
theorem c_X12_broken {l : Launch} {D : va_G} {cI cJ cQ : ClassId} {tp : Nat} (q : Nat) (q_w : Nat) (q_imageSeed : Nat) (q_bookOf : Nat) (q_bookAt : Nat) (q_bookIs : Nat) (q_rs : Nat) (q_cs : Nat) (q_zs : Nat) (v_known : Int32) (v_kept : Int32) (v_seed : Int32) (v_written : Int32) (v_above : Int64) (v_below : Int64) (v_leftAbove : Int64) (v_leftBelow : Int64) (v_guessAbove : Int64) (v_guessBelow : Int64) (v_sign : Int32) (v_power2 : Int32) (v_bits : Int64) (v_w : (Nat → Int32)) (v_rs : (Nat → Int32)) (v_cs : (Nat → Int32)) (F : Nat) (r0 : Int32) (o_v_above : Int64) (o_v_below : Int64) (o_v_rs : (Nat → Int32)) (o_v_cs : (Nat → Int32)) (hf : f_X12_broken F v_above v_below v_w v_rs v_cs = some (r0, o_v_above, o_v_below, o_v_rs, o_v_cs)) : kM (fun A => kQi D A [(q, .inr (11, [.ref q_w, .int v_known, .int v_kept, .int v_seed, .ref q_imageSeed, .ref q_bookOf, .ref q_bookAt, .ref q_bookIs, .int v_written, .ref q_rs, .ref q_cs, .long o_v_above, .long o_v_below, .ref q_zs, .long v_leftAbove, .long v_leftBelow, .long v_guessAbove, .long v_guessBelow, .int v_sign, .int v_power2, .long v_bits])), (q_w, .inl (cI, 418, .inl v_w)), (q_rs, .inl (cI, 4, .inl o_v_rs)), (q_cs, .inl (cI, 4, .inl o_v_cs))] r0) (some .int) l yX12_broken cX12_broken 5 { frames := 9, cells := 0, slots := 0, locals := 214 } D cI cJ cQ tp [.ref q] [(q, .inr (11, [.ref q_w, .int v_known, .int v_kept, .int v_seed, .ref q_imageSeed, .ref q_bookOf, .ref q_bookAt, .ref q_bookIs, .int v_written, .ref q_rs, .ref q_cs, .long v_above, .long v_below, .ref q_zs, .long v_leftAbove, .long v_leftBelow, .long v_guessAbove, .long v_guessBelow, .int v_sign, .int v_power2, .long v_bits])), (q_w, .inl (cI, 418, .inl v_w)), (q_rs, .inl (cI, 4, .inl v_rs)), (q_cs, .inl (cI, 4, .inl v_cs))] := by
  refine kM_of (by decide) (Nat.le_of_ble_eq_true rfl) ?_
  intro p e s m args below meth c A ls R Q hR hQ hat hP hD hS hl
  obtain ⟨hx, hb, hr, hml, hown, hts, hT, hlk, hK, hA, hZ⟩ := id hat
  have hown : s.vm.findClass RX12 = some m.cls := hown
  have hl : lv_has ls 5 [(0, .ref q)] := hl
  have hL17 : ∀ (x1 : Int32) (x2 : Int32) (v_known : Int32) (v_kept : Int32) (v_seed : Int32) (v_written : Int32) (v_leftAbove : Int64) (v_leftBelow : Int64) (v_guessAbove : Int64) (v_guessBelow : Int64) (v_sign : Int32) (v_power2 : Int32) (v_bits : Int64) (v_w : (Nat → Int32)) (fu : Nat) (x3 : Int32) (x4 : Int32) (v_above : Int64) (v_below : Int64) (v_rs : (Nat → Int32)) (v_cs : (Nat → Int32)) (o0 : Int32) (o1 : Int64) (o2 : Int64) (o3 : (Nat → Int32)) (o4 : (Nat → Int32)), L_X12_broken_17 F x1 x2 v_w fu x3 x4 v_above v_below v_rs v_cs = some (o0, o1, o2, o3, o4) → (∀ (H : Heap) (locs : List Loc) (ls : Array Slot), va_P D vwCl [(q, .inr (11, [.ref q_w, .int v_known, .int v_kept, .int v_seed, .ref q_imageSeed, .ref q_bookOf, .ref q_bookAt, .ref q_bookIs, .int v_written, .ref q_rs, .ref q_cs, .long o1, .long o2, .ref q_zs, .long v_leftAbove, .long v_leftBelow, .long v_guessAbove, .long v_guessBelow, .int v_sign, .int v_power2, .long v_bits])), (q_w, .inl (cI, 418, .inl v_w)), (q_rs, .inl (cI, 4, .inl o3)), (q_cs, .inl (cI, 4, .inl o4))] H → va_D A [(q, .inr (11, [.ref q_w, .int v_known, .int v_kept, .int v_seed, .ref q_imageSeed, .ref q_bookOf, .ref q_bookAt, .ref q_bookIs, .int v_written, .ref q_rs, .ref q_cs, .long o1, .long o2, .ref q_zs, .long v_leftAbove, .long v_leftBelow, .long v_guessAbove, .long v_guessBelow, .int v_sign, .int v_power2, .long v_bits])), (q_w, .inl (cI, 418, .inl v_w)), (q_rs, .inl (cI, 4, .inl o3)), (q_cs, .inl (cI, 4, .inl o4))] → va_S A s.heap H locs → lv_has ls 5 [(0, .ref q), (1, .int x1), (2, .int x2), (3, .int o0)] → W p l e R s m args below meth c H locs 0 0 Q (F0 m 58 ls [])) → ∀ (H : Heap) (locs : List Loc) (ls : Array Slot), va_P D vwCl [(q, .inr (11, [.ref q_w, .int v_known, .int v_kept, .int v_seed, .ref q_imageSeed, .ref q_bookOf, .ref q_bookAt, .ref q_bookIs, .int v_written, .ref q_rs, .ref q_cs, .long v_above, .long v_below, .ref q_zs, .long v_leftAbove, .long v_leftBelow, .long v_guessAbove, .long v_guessBelow, .int v_sign, .int v_power2, .long v_bits])), (q_w, .inl (cI, 418, .inl v_w)), (q_rs, .inl (cI, 4, .inl v_rs)), (q_cs, .inl (cI, 4, .inl v_cs))] H → va_D A [(q, .inr (11, [.ref q_w, .int v_known, .int v_kept, .int v_seed, .ref q_imageSeed, .ref q_bookOf, .ref q_bookAt, .ref q_bookIs, .int v_written, .ref q_rs, .ref q_cs, .long v_above, .long v_below, .ref q_zs, .long v_leftAbove, .long v_leftBelow, .long v_guessAbove, .long v_guessBelow, .int v_sign, .int v_power2, .long v_bits])), (q_w, .inl (cI, 418, .inl v_w)), (q_rs, .inl (cI, 4, .inl v_rs)), (q_cs, .inl (cI, 4, .inl v_cs))] → va_S A s.heap H locs → lv_has ls 5 [(0, .ref q), (1, .int x1), (2, .int x2), (3, .int x3), (4, .int x4)] → W p l e R s m args below meth c H locs 0 0 Q (F0 m 17 ls []) := by
    intro x1 x2 v_known v_kept v_seed v_written v_leftAbove v_leftBelow v_guessAbove v_guessBelow v_sign v_power2 v_bits v_w fu
    induction fu with
    | zero =>
      intro x3 x4 v_above v_below v_rs v_cs o0 o1 o2 o3 o4 hf
      cases hf
    | succ fu ih =>
      intro x3 x4 v_above v_below v_rs v_cs o0 o1 o2 o3 o4 hf hk0 H locs ls hP hD hS hl
      rw [L_X12_broken_17] at hf
      refine lv_iload hx hb dX12_broken_17 (lv_at hl 4 rfl) ?_
      refine lv_aload_n hx hb dX12_broken_19 rfl (lv_at hl 0 rfl) ?_
      obtain ⟨r6, h7, hf⟩ := kb1_e hf
      refine k_gi (ws' := [(q, .inr (11, [.ref q_w, .int v_known, .int v_kept, .int v_seed, .ref q_imageSeed, .ref q_bookOf, .ref q_bookAt, .ref q_bookIs, .int v_written, .ref q_rs, .ref q_cs, .long v_above, .long v_below, .ref q_zs, .long v_leftAbove, .long v_leftBelow, .long v_guessAbove, .long v_guessBelow, .int v_sign, .int v_power2, .long v_bits])), (q_w, .inl (cI, 418, .inl v_w)), (q_rs, .inl (cI, 4, .inl v_rs)), (q_cs, .inl (cI, 4, .inl v_cs))]) (k_runV (rest := [.int x4]) hat hP hD hS hl.1 (c_X12_n q q_w q_imageSeed q_bookOf q_bookAt q_bookIs q_rs q_cs q_zs v_known v_kept v_seed v_written v_above v_below v_leftAbove v_leftBelow v_guessAbove v_guessBelow v_sign v_power2 v_bits v_w r6 h7) [0, 1] (by decide) rfl kw912 kw914 kw19 kw79 kw915 kdVX12_n ⟨rfl, rfl⟩ (by rw [hR]; exact ⟨Nat.le_of_ble_eq_true rfl, Nat.le_of_ble_eq_true rfl⟩) ⟨Nat.zero_le _, Nat.zero_le _⟩ 0 11 rfl rfl rfl rfl (Nat.le_of_ble_eq_true rfl) dX12_broken_20) hat hP hD hS [0, 1] rfl [2, 3] rfl rfl rfl rfl (by decide) (fun H locs hP hD hS => ?_)
      refine lv_icmp_ge (tgt := 58) hx hb dX12_broken_23 (by decide) (fun c8 => ?_) (fun c8 => ?_)
      · have hf := kp_e hf c8
        obtain ⟨rfl, rfl, rfl, rfl, rfl⟩ := ki5 hf
        exact hk0 _ _ _ hP hD hS (lv_sub hl [0, 1, 2, 3] rfl)
      · have hf := kn_e hf c8
        refine lv_aload_n hx hb dX12_broken_26 rfl (lv_at hl 0 rfl) ?_
        refine lv_iload_n hx hb dX12_broken_27 rfl (lv_at hl 2 rfl) ?_
        refine lv_iload hx hb dX12_broken_28 (lv_at hl 4 rfl) ?_
        obtain ⟨w9, w10, w11, w12, h13, hf⟩ := kb4_e hf
        refine k_gv (ws' := [(q, .inr (11, [.ref q_w, .int v_known, .int v_kept, .int v_seed, .ref q_imageSeed, .ref q_bookOf, .ref q_bookAt, .ref q_bookIs, .int v_written, .ref q_rs, .ref q_cs, .long w9, .long w10, .ref q_zs, .long v_leftAbove, .long v_leftBelow, .long v_guessAbove, .long v_guessBelow, .int v_sign, .int v_power2, .long v_bits])), (q_w, .inl (cI, 418, .inl v_w)), (q_rs, .inl (cI, 4, .inl w11)), (q_cs, .inl (cI, 4, .inl w12))]) (k_runV (rest := []) hat hP hD hS hl.1 (c_X12_layShare q q_w q_imageSeed q_bookOf q_bookAt q_bookIs q_rs q_cs q_zs v_known v_kept v_seed v_written v_above v_below v_leftAbove v_leftBelow v_guessAbove v_guessBelow v_sign v_power2 v_bits v_w v_rs v_cs F x2 x4 w9 w10 w11 w12 h13) [0, 1, 2, 3] (by decide) rfl kw989 kw991 kw35 kw79 kw992 kdVX12_layShare ⟨rfl, rfl⟩ (by rw [hR]; exact ⟨Nat.le_of_ble_eq_true rfl, Nat.le_of_ble_eq_true rfl⟩) ⟨Nat.zero_le _, Nat.zero_le _⟩ 0 11 rfl rfl rfl rfl (Nat.le_of_ble_eq_true rfl) dX12_broken_30) hat hP hD hS [0, 1, 2, 3] rfl [] rfl rfl rfl rfl (by decide) (fun H locs hP hD hS => ?_)
        refine lv_iload_n hx hb dX12_broken_33 rfl (lv_at hl 3 rfl) ?_
        refine lv_if_ne (tgt := 46) hx hb dX12_broken_34 (by decide) (fun c14 => ?_) (fun c14 => ?_)
        · have hf := kn_e hf c14
          refine lv_iconst (v := 1) hx hb dX12_broken_46 (by decide) ?_
          refine lv_goto (tgt := 51) hx hb dX12_broken_47 (by decide) ?_
          refine lv_istore_n (lv' := [(3, .int (1 : Int32)), (0, .ref q), (1, .int x1), (2, .int x2), (4, .int x4)]) hx hb dX12_broken_51 rfl hl (by decide) rfl (fun ls hl => ?_)
          obtain ⟨t15, et15⟩ : ∃ z : Int32, z = (x4 + (1 : Int32)) := ⟨_, rfl⟩
          have hf := kl_e hf t15 et15
          refine lv_iinc (v := t15) (lv' := [(4, .int t15), (3, .int (1 : Int32)), (0, .ref q), (1, .int x1), (2, .int x2)]) hx hb dX12_broken_52 hl (k := 4) rfl (by rw [et15]; rfl) (by decide) rfl (fun ls hl => ?_)
          refine lv_goto (tgt := 17) hx hb dX12_broken_55 (by decide) ?_
          exact ih (1 : Int32) t15 w9 w10 w11 w12 o0 o1 o2 o3 o4 hf hk0 _ _ _ hP hD hS (lv_sub hl [2, 3, 4, 1, 0] rfl)
        · have hf := kp_e hf c14
          refine lv_aload_n hx hb dX12_broken_37 rfl (lv_at hl 0 rfl) ?_
          refine va_get (D := D) (ci := 11) (v := .long w10) (C := RX12) (T := TX12) (N := 21) hx hb hts kinX12 hown hK hP 0 rfl rfl 12 (by decide) (hts _ kw856) (fun _ h9 => h9) rfl dX12_broken_38 ?_
          refine lv_lconst (v := 1) hx hb dX12_broken_41 (by decide) ?_
          refine k_lcmp_eq (tgt := 50) hx hb dX12_broken_42 dX12_broken_43 (by decide) (fun c16 => ?_) (fun c16 => ?_)
          · have hf := kp_e hf c16
            refine lv_iconst (v := 0) hx hb dX12_broken_50 (by decide) ?_
            refine lv_istore_n (lv' := [(3, .int (0 : Int32)), (0, .ref q), (1, .int x1), (2, .int x2), (4, .int x4)]) hx hb dX12_broken_51 rfl hl (by decide) rfl (fun ls hl => ?_)
            obtain ⟨t17, et17⟩ : ∃ z : Int32, z = (x4 + (1 : Int32)) := ⟨_, rfl⟩
            have hf := kl_e hf t17 et17
            refine lv_iinc (v := t17) (lv' := [(4, .int t17), (3, .int (0 : Int32)), (0, .ref q), (1, .int x1), (2, .int x2)]) hx hb dX12_broken_52 hl (k := 4) rfl (by rw [et17]; rfl) (by decide) rfl (fun ls hl => ?_)
            refine lv_goto (tgt := 17) hx hb dX12_broken_55 (by decide) ?_
            exact ih (0 : Int32) t17 w9 w10 w11 w12 o0 o1 o2 o3 o4 hf hk0 _ _ _ hP hD hS (lv_sub hl [2, 3, 4, 1, 0] rfl)
          · have hf := kn_e hf c16
            refine lv_iconst (v := 1) hx hb dX12_broken_46 (by decide) ?_
            refine lv_goto (tgt := 51) hx hb dX12_broken_47 (by decide) ?_
            refine lv_istore_n (lv' := [(3, .int (1 : Int32)), (0, .ref q), (1, .int x1), (2, .int x2), (4, .int x4)]) hx hb dX12_broken_51 rfl hl (by decide) rfl (fun ls hl => ?_)
            obtain ⟨t18, et18⟩ : ∃ z : Int32, z = (x4 + (1 : Int32)) := ⟨_, rfl⟩
            have hf := kl_e hf t18 et18
            refine lv_iinc (v := t18) (lv' := [(4, .int t18), (3, .int (1 : Int32)), (0, .ref q), (1, .int x1), (2, .int x2)]) hx hb dX12_broken_52 hl (k := 4) rfl (by rw [et18]; rfl) (by decide) rfl (fun ls hl => ?_)
            refine lv_goto (tgt := 17) hx hb dX12_broken_55 (by decide) ?_
            exact ih (1 : Int32) t18 w9 w10 w11 w12 o0 o1 o2 o3 o4 hf hk0 _ _ _ hP hD hS (lv_sub hl [2, 3, 4, 1, 0] rfl)
  have hL4 : ∀ (v_known : Int32) (v_kept : Int32) (v_seed : Int32) (v_written : Int32) (v_leftAbove : Int64) (v_leftBelow : Int64) (v_guessAbove : Int64) (v_guessBelow : Int64) (v_sign : Int32) (v_power2 : Int32) (v_bits : Int64) (v_w : (Nat → Int32)) (fu : Nat) (x1 : Int32) (x2 : Int32) (v_above : Int64) (v_below : Int64) (v_rs : (Nat → Int32)) (v_cs : (Nat → Int32)) (o0 : Int32) (o1 : Int64) (o2 : Int64) (o3 : (Nat → Int32)) (o4 : (Nat → Int32)), L_X12_broken_4 F v_w fu x1 x2 v_above v_below v_rs v_cs = some (o0, o1, o2, o3, o4) → (∀ (H : Heap) (locs : List Loc) (ls : Array Slot), va_P D vwCl [(q, .inr (11, [.ref q_w, .int v_known, .int v_kept, .int v_seed, .ref q_imageSeed, .ref q_bookOf, .ref q_bookAt, .ref q_bookIs, .int v_written, .ref q_rs, .ref q_cs, .long o1, .long o2, .ref q_zs, .long v_leftAbove, .long v_leftBelow, .long v_guessAbove, .long v_guessBelow, .int v_sign, .int v_power2, .long v_bits])), (q_w, .inl (cI, 418, .inl v_w)), (q_rs, .inl (cI, 4, .inl o3)), (q_cs, .inl (cI, 4, .inl o4))] H → va_D A [(q, .inr (11, [.ref q_w, .int v_known, .int v_kept, .int v_seed, .ref q_imageSeed, .ref q_bookOf, .ref q_bookAt, .ref q_bookIs, .int v_written, .ref q_rs, .ref q_cs, .long o1, .long o2, .ref q_zs, .long v_leftAbove, .long v_leftBelow, .long v_guessAbove, .long v_guessBelow, .int v_sign, .int v_power2, .long v_bits])), (q_w, .inl (cI, 418, .inl v_w)), (q_rs, .inl (cI, 4, .inl o3)), (q_cs, .inl (cI, 4, .inl o4))] → va_S A s.heap H locs → lv_has ls 5 [(1, .int o0)] → W p l e R s m args below meth c H locs 0 0 Q (F0 m 76 ls [])) → ∀ (H : Heap) (locs : List Loc) (ls : Array Slot), va_P D vwCl [(q, .inr (11, [.ref q_w, .int v_known, .int v_kept, .int v_seed, .ref q_imageSeed, .ref q_bookOf, .ref q_bookAt, .ref q_bookIs, .int v_written, .ref q_rs, .ref q_cs, .long v_above, .long v_below, .ref q_zs, .long v_leftAbove, .long v_leftBelow, .long v_guessAbove, .long v_guessBelow, .int v_sign, .int v_power2, .long v_bits])), (q_w, .inl (cI, 418, .inl v_w)), (q_rs, .inl (cI, 4, .inl v_rs)), (q_cs, .inl (cI, 4, .inl v_cs))] H → va_D A [(q, .inr (11, [.ref q_w, .int v_known, .int v_kept, .int v_seed, .ref q_imageSeed, .ref q_bookOf, .ref q_bookAt, .ref q_bookIs, .int v_written, .ref q_rs, .ref q_cs, .long v_above, .long v_below, .ref q_zs, .long v_leftAbove, .long v_leftBelow, .long v_guessAbove, .long v_guessBelow, .int v_sign, .int v_power2, .long v_bits])), (q_w, .inl (cI, 418, .inl v_w)), (q_rs, .inl (cI, 4, .inl v_rs)), (q_cs, .inl (cI, 4, .inl v_cs))] → va_S A s.heap H locs → lv_has ls 5 [(0, .ref q), (1, .int x1), (2, .int x2)] → W p l e R s m args below meth c H locs 0 0 Q (F0 m 4 ls []) := by
    intro v_known v_kept v_seed v_written v_leftAbove v_leftBelow v_guessAbove v_guessBelow v_sign v_power2 v_bits v_w fu
    induction fu with
    | zero =>
      intro x1 x2 v_above v_below v_rs v_cs o0 o1 o2 o3 o4 hf
      cases hf
    | succ fu ih =>
      intro x1 x2 v_above v_below v_rs v_cs o0 o1 o2 o3 o4 hf hk0 H locs ls hP hD hS hl
      rw [L_X12_broken_4] at hf
      refine lv_iload_n hx hb dX12_broken_4 rfl (lv_at hl 2 rfl) ?_
      refine lv_aload_n hx hb dX12_broken_5 rfl (lv_at hl 0 rfl) ?_
      obtain ⟨r1, w2, w3, h4, hf⟩ := kb3_e hf
      refine k_gi (ws' := [(q, .inr (11, [.ref q_w, .int v_known, .int v_kept, .int v_seed, .ref q_imageSeed, .ref q_bookOf, .ref q_bookAt, .ref q_bookIs, .int v_written, .ref q_rs, .ref q_cs, .long v_above, .long v_below, .ref q_zs, .long v_leftAbove, .long v_leftBelow, .long v_guessAbove, .long v_guessBelow, .int v_sign, .int v_power2, .long v_bits])), (q_w, .inl (cI, 418, .inl v_w)), (q_rs, .inl (cI, 4, .inl w2)), (q_cs, .inl (cI, 4, .inl w3))]) (k_runV (rest := [.int x2]) hat hP hD hS hl.1 (c_X12_rank q q_w q_imageSeed q_bookOf q_bookAt q_bookIs q_rs q_cs q_zs v_known v_kept v_seed v_written v_above v_below v_leftAbove v_leftBelow v_guessAbove v_guessBelow v_sign v_power2 v_bits v_w v_rs v_cs F r1 w2 w3 h4) [0, 1, 2, 3] (by decide) rfl kw965 kw967 kw29 kw79 kw968 kdVX12_rank ⟨rfl, rfl⟩ (by rw [hR]; exact ⟨Nat.le_of_ble_eq_true rfl, Nat.le_of_ble_eq_true rfl⟩) ⟨Nat.zero_le _, Nat.zero_le _⟩ 0 11 rfl rfl rfl rfl (Nat.le_of_ble_eq_true rfl) dX12_broken_6) hat hP hD hS [0, 1, 2, 3] rfl [] rfl rfl rfl rfl (by decide) (fun H locs hP hD hS => ?_)
      refine lv_icmp_ge (tgt := 76) hx hb dX12_broken_9 (by decide) (fun c5 => ?_) (fun c5 => ?_)
      · have hf := kp_e hf c5
        obtain ⟨rfl, rfl, rfl, rfl, rfl⟩ := ki5 hf
        exact hk0 _ _ _ hP hD hS (lv_sub hl [1] rfl)
      · have hf := kn_e hf c5
        refine lv_iconst (v := 0) hx hb dX12_broken_12 (by decide) ?_
        refine lv_istore_n (lv' := [(3, .int (0 : Int32)), (0, .ref q), (1, .int x1), (2, .int x2)]) hx hb dX12_broken_13 rfl hl (by decide) rfl (fun ls hl => ?_)
        refine lv_iconst (v := 0) hx hb dX12_broken_14 (by decide) ?_
        refine lv_istore (lv' := [(4, .int (0 : Int32)), (3, .int (0 : Int32)), (0, .ref q), (1, .int x1), (2, .int x2)]) hx hb dX12_broken_15 hl (by decide) rfl (fun ls hl => ?_)
        obtain ⟨y19, w20, w21, w22, w23, hu, hf⟩ := kb5_e hf
        refine hL17 x1 x2 v_known v_kept v_seed v_written v_leftAbove v_leftBelow v_guessAbove v_guessBelow v_sign v_power2 v_bits v_w F (0 : Int32) (0 : Int32) v_above v_below w2 w3 y19 w20 w21 w22 w23 hu (fun H locs ls hP hD hS hl => ?_) _ _ _ hP hD hS (lv_sub hl [2, 3, 4, 1, 0] rfl)
        refine lv_iload_n hx hb dX12_broken_58 rfl (lv_at hl 1 rfl) ?_
        refine lv_iload_n hx hb dX12_broken_59 rfl (lv_at hl 3 rfl) ?_
        refine lv_if_eq (tgt := 67) hx hb dX12_broken_60 (by decide) (fun c24 => ?_) (fun c24 => ?_)
        · have hf := kp_e hf c24
          refine lv_iconst (v := 0) hx hb dX12_broken_67 (by decide) ?_
          refine lv_iadd hx hb dX12_broken_68 ?_
          refine lv_topi (fun t25 et25 => ?_)
          have hf := kl_e hf t25 et25
          refine lv_istore_n (lv' := [(1, .int t25), (0, .ref q), (2, .int x2), (3, .int y19)]) hx hb dX12_broken_69 rfl hl (by decide) rfl (fun ls hl => ?_)
          obtain ⟨t26, et26⟩ : ∃ z : Int32, z = (x2 + (1 : Int32)) := ⟨_, rfl⟩
          have hf := kl_e hf t26 et26
          refine lv_iinc (v := t26) (lv' := [(2, .int t26), (1, .int t25), (0, .ref q), (3, .int y19)]) hx hb dX12_broken_70 hl (k := 2) rfl (by rw [et26]; rfl) (by decide) rfl (fun ls hl => ?_)
          refine lv_goto (tgt := 4) hx hb dX12_broken_73 (by decide) ?_
          exact ih t25 t26 w20 w21 w22 w23 o0 o1 o2 o3 o4 hf hk0 _ _ _ hP hD hS (lv_sub hl [2, 1, 0] rfl)
        · have hf := kn_e hf c24
          refine lv_iconst (v := 1) hx hb dX12_broken_63 (by decide) ?_
          refine lv_goto (tgt := 68) hx hb dX12_broken_64 (by decide) ?_
          refine lv_iadd hx hb dX12_broken_68 ?_
          refine lv_topi (fun t27 et27 => ?_)
          have hf := kl_e hf t27 et27
          refine lv_istore_n (lv' := [(1, .int t27), (0, .ref q), (2, .int x2), (3, .int y19)]) hx hb dX12_broken_69 rfl hl (by decide) rfl (fun ls hl => ?_)
          obtain ⟨t28, et28⟩ : ∃ z : Int32, z = (x2 + (1 : Int32)) := ⟨_, rfl⟩
          have hf := kl_e hf t28 et28
          refine lv_iinc (v := t28) (lv' := [(2, .int t28), (1, .int t27), (0, .ref q), (3, .int y19)]) hx hb dX12_broken_70 hl (k := 2) rfl (by rw [et28]; rfl) (by decide) rfl (fun ls hl => ?_)
          refine lv_goto (tgt := 4) hx hb dX12_broken_73 (by decide) ?_
          exact ih t27 t28 w20 w21 w22 w23 o0 o1 o2 o3 o4 hf hk0 _ _ _ hP hD hS (lv_sub hl [2, 1, 0] rfl)
  unfold f_X12_broken at hf
  refine lv_iconst (v := 0) hx hb dX12_broken_0 (by decide) ?_
  refine lv_istore_n (lv' := [(1, .int (0 : Int32)), (0, .ref q)]) hx hb dX12_broken_1 rfl hl (by decide) rfl (fun ls hl => ?_)
  refine lv_iconst (v := 0) hx hb dX12_broken_2 (by decide) ?_
  refine lv_istore_n (lv' := [(2, .int (0 : Int32)), (1, .int (0 : Int32)), (0, .ref q)]) hx hb dX12_broken_3 rfl hl (by decide) rfl (fun ls hl => ?_)
  obtain ⟨y29, w30, w31, w32, w33, hu, hf⟩ := kb5_e hf
  refine hL4 v_known v_kept v_seed v_written v_leftAbove v_leftBelow v_guessAbove v_guessBelow v_sign v_power2 v_bits v_w F (0 : Int32) (0 : Int32) v_above v_below v_rs v_cs y29 w30 w31 w32 w33 hu (fun H locs ls hP hD hS hl => ?_) _ _ _ hP hD hS (lv_sub hl [2, 1, 0] rfl)
  refine lv_iload_n hx hb dX12_broken_76 rfl (lv_at hl 0 rfl) ?_
  obtain ⟨rfl, rfl, rfl, rfl, rfl⟩ := ki5 hf
  rw [hQ]
  exact k_iret hat hP hS rfl dX12_broken_77
set_option maxHeartbeats 4000000 in
set_option maxRecDepth 100000 in
theorem c_X12_kind {l : Launch} {D : va_G} {cI cJ cQ : ClassId} {tp : Nat} (q : Nat) (q_w : Nat) (q_imageSeed : Nat) (q_bookOf : Nat) (q_bookAt : Nat) (q_bookIs : Nat) (q_rs : Nat) (q_cs : Nat) (q_zs : Nat) (v_known : Int32) (v_kept : Int32) (v_seed : Int32) (v_written : Int32) (v_above : Int64) (v_below : Int64) (v_leftAbove : Int64) (v_leftBelow : Int64) (v_guessAbove : Int64) (v_guessBelow : Int64) (v_sign : Int32) (v_power2 : Int32) (v_bits : Int64) (v_w : (Nat → Int32)) (v_rs : (Nat → Int32)) (v_cs : (Nat → Int32)) (F : Nat) (r0 : Int32) (o_v_rs : (Nat → Int32)) (o_v_cs : (Nat → Int32)) (hf : f_X12_kind F v_w v_rs v_cs = some (r0, o_v_rs, o_v_cs)) : kM (fun A => kQi D A [(q, .inr (11, [.ref q_w, .int v_known, .int v_kept, .int v_seed, .ref q_imageSeed, .ref q_bookOf, .ref q_bookAt, .ref q_bookIs, .int v_written, .ref q_rs, .ref q_cs, .long v_above, .long v_below, .ref q_zs, .long v_leftAbove, .long v_leftBelow, .long v_guessAbove, .long v_guessBelow, .int v_sign, .int v_power2, .long v_bits])), (q_w, .inl (cI, 418, .inl v_w)), (q_rs, .inl (cI, 4, .inl o_v_rs)), (q_cs, .inl (cI, 4, .inl o_v_cs))] r0) (some .int) l yX12_kind cX12_kind 2 { frames := 8, cells := 0, slots := 0, locals := 185 } D cI cJ cQ tp [.ref q] [(q, .inr (11, [.ref q_w, .int v_known, .int v_kept, .int v_seed, .ref q_imageSeed, .ref q_bookOf, .ref q_bookAt, .ref q_bookIs, .int v_written, .ref q_rs, .ref q_cs, .long v_above, .long v_below, .ref q_zs, .long v_leftAbove, .long v_leftBelow, .long v_guessAbove, .long v_guessBelow, .int v_sign, .int v_power2, .long v_bits])), (q_w, .inl (cI, 418, .inl v_w)), (q_rs, .inl (cI, 4, .inl v_rs)), (q_cs, .inl (cI, 4, .inl v_cs))] := by
  refine kM_of (by decide) (Nat.le_of_ble_eq_true rfl) ?_
  intro p e s m args below meth c A ls R Q hR hQ hat hP hD hS hl
  obtain ⟨hx, hb, hr, hml, hown, hts, hT, hlk, hK, hA, hZ⟩ := id hat
  have hown : s.vm.findClass RX12 = some m.cls := hown
  have hl : lv_has ls 2 [(0, .ref q)] := hl
  unfold f_X12_kind at hf
  refine lv_aload_n hx hb dX12_kind_0 rfl (lv_at hl 0 rfl) ?_
  obtain ⟨r1, w2, w3, h4, hf⟩ := kb3_e hf
  refine k_gi (ws' := [(q, .inr (11, [.ref q_w, .int v_known, .int v_kept, .int v_seed, .ref q_imageSeed, .ref q_bookOf, .ref q_bookAt, .ref q_bookIs, .int v_written, .ref q_rs, .ref q_cs, .long v_above, .long v_below, .ref q_zs, .long v_leftAbove, .long v_leftBelow, .long v_guessAbove, .long v_guessBelow, .int v_sign, .int v_power2, .long v_bits])), (q_w, .inl (cI, 418, .inl v_w)), (q_rs, .inl (cI, 4, .inl w2)), (q_cs, .inl (cI, 4, .inl w3))]) (k_runV (rest := []) hat hP hD hS hl.1 (c_X12_rank q q_w q_imageSeed q_bookOf q_bookAt q_bookIs q_rs q_cs q_zs v_known v_kept v_seed v_written v_above v_below v_leftAbove v_leftBelow v_guessAbove v_guessBelow v_sign v_power2 v_bits v_w v_rs v_cs F r1 w2 w3 h4) [0, 1, 2, 3] (by decide) rfl kw965 kw967 kw29 kw79 kw968 kdVX12_rank ⟨rfl, rfl⟩ (by rw [hR]; exact ⟨Nat.le_of_ble_eq_true rfl, Nat.le_of_ble_eq_true rfl⟩) ⟨Nat.zero_le _, Nat.zero_le _⟩ 0 11 rfl rfl rfl rfl (Nat.le_of_ble_eq_true rfl) dX12_kind_1) hat hP hD hS [0, 1, 2, 3] rfl [] rfl rfl rfl rfl (by decide) (fun H locs hP hD hS => ?_)
  refine lv_istore_n (lv' := [(1, .int r1), (0, .ref q)]) hx hb dX12_kind_4 rfl hl (by decide) rfl (fun ls hl => ?_)
  refine lv_aload_n hx hb dX12_kind_5 rfl (lv_at hl 1 rfl) ?_
  refine lv_iconst (v := 0) hx hb dX12_kind_6 (by decide) ?_
  obtain ⟨r5, w6, w7, h8, hf⟩ := kb3_e hf
  refine k_gi (ws' := [(q, .inr (11, [.ref q_w, .int v_known, .int v_kept, .int v_seed, .ref q_imageSeed, .ref q_bookOf, .ref q_bookAt, .ref q_bookIs, .int v_written, .ref q_rs, .ref q_cs, .long v_above, .long v_below, .ref q_zs, .long v_leftAbove, .long v_leftBelow, .long v_guessAbove, .long v_guessBelow, .int v_sign, .int v_power2, .long v_bits])), (q_w, .inl (cI, 418, .inl v_w)), (q_rs, .inl (cI, 4, .inl w6)), (q_cs, .inl (cI, 4, .inl w7))]) (k_runV (rest := []) hat hP hD hS hl.1 (c_X12_wideRank q q_w q_imageSeed q_bookOf q_bookAt q_bookIs q_rs q_cs q_zs v_known v_kept v_seed v_written v_above v_below v_leftAbove v_leftBelow v_guessAbove v_guessBelow v_sign v_power2 v_bits v_w w2 w3 F (0 : Int32) r5 w6 w7 h8) [0, 1, 2, 3] (by decide) rfl kw973 kw975 kw31 kw79 kw976 kdVX12_wideRank ⟨rfl, rfl⟩ (by rw [hR]; exact ⟨Nat.le_of_ble_eq_true rfl, Nat.le_of_ble_eq_true rfl⟩) ⟨Nat.zero_le _, Nat.zero_le _⟩ 0 11 rfl rfl rfl rfl (Nat.le_of_ble_eq_true rfl) dX12_kind_7) hat hP hD hS [0, 1, 2, 3] rfl [] rfl rfl rfl rfl (by decide) (fun H locs hP hD hS => ?_)
  refine lv_iload_n hx hb dX12_kind_10 rfl (lv_at hl 0 rfl) ?_
  refine lv_icmp_le (tgt := 18) hx hb dX12_kind_11 (by decide) (fun c9 => ?_) (fun c9 => ?_)
  · have hf := kp_e hf c9
    refine lv_iload_n hx hb dX12_kind_18 rfl (lv_at hl 0 rfl) ?_
    refine lv_aload_n hx hb dX12_kind_19 rfl (lv_at hl 1 rfl) ?_
    obtain ⟨r10, h11, hf⟩ := kb1_e hf
    refine k_gi (ws' := [(q, .inr (11, [.ref q_w, .int v_known, .int v_kept, .int v_seed, .ref q_imageSeed, .ref q_bookOf, .ref q_bookAt, .ref q_bookIs, .int v_written, .ref q_rs, .ref q_cs, .long v_above, .long v_below, .ref q_zs, .long v_leftAbove, .long v_leftBelow, .long v_guessAbove, .long v_guessBelow, .int v_sign, .int v_power2, .long v_bits])), (q_w, .inl (cI, 418, .inl v_w)), (q_rs, .inl (cI, 4, .inl w6)), (q_cs, .inl (cI, 4, .inl w7))]) (k_runV (rest := [.int r1]) hat hP hD hS hl.1 (c_X12_n q q_w q_imageSeed q_bookOf q_bookAt q_bookIs q_rs q_cs q_zs v_known v_kept v_seed v_written v_above v_below v_leftAbove v_leftBelow v_guessAbove v_guessBelow v_sign v_power2 v_bits v_w r10 h11) [0, 1] (by decide) rfl kw912 kw914 kw19 kw79 kw915 kdVX12_n ⟨rfl, rfl⟩ (by rw [hR]; exact ⟨Nat.le_of_ble_eq_true rfl, Nat.le_of_ble_eq_true rfl⟩) ⟨Nat.zero_le _, Nat.zero_le _⟩ 0 11 rfl rfl rfl rfl (Nat.le_of_ble_eq_true rfl) dX12_kind_20) hat hP hD hS [0, 1] rfl [2, 3] rfl rfl rfl rfl (by decide) (fun H locs hP hD hS => ?_)
    refine lv_icmp_ne (tgt := 30) hx hb dX12_kind_23 (by decide) (fun c12 => ?_) (fun c12 => ?_)
    · have hf := kn_e hf c12
      refine lv_iconst (v := 2) hx hb dX12_kind_30 (by decide) ?_
      obtain ⟨rfl, rfl, rfl⟩ := ki3 hf
      rw [hQ]
      exact k_iret hat hP hS rfl dX12_kind_31
    · have hf := kp_e hf c12
      refine lv_iconst (v := 1) hx hb dX12_kind_26 (by decide) ?_
      refine lv_goto (tgt := 31) hx hb dX12_kind_27 (by decide) ?_
      obtain ⟨rfl, rfl, rfl⟩ := ki3 hf
      rw [hQ]
      exact k_iret hat hP hS rfl dX12_kind_31
  · have hf := kn_e hf c9
    refine lv_iconst (v := 0) hx hb dX12_kind_14 (by decide) ?_
    refine lv_goto (tgt := 31) hx hb dX12_kind_15 (by decide) ?_
    obtain ⟨rfl, rfl, rfl⟩ := ki3 hf
    rw [hQ]
    exact k_iret hat hP hS rfl dX12_kind_31
set_option maxHeartbeats 4000000 in
set_option maxRecDepth 100000 in
theorem c_X12_laySolution {l : Launch} {D : va_G} {cI cJ cQ : ClassId} {tp : Nat} (q : Nat) (q_w : Nat) (q_imageSeed : Nat) (q_bookOf : Nat) (q_bookAt : Nat) (q_bookIs : Nat) (q_rs : Nat) (q_cs : Nat) (q_zs : Nat) (v_known : Int32) (v_kept : Int32) (v_seed : Int32) (v_written : Int32) (v_above : Int64) (v_below : Int64) (v_leftAbove : Int64) (v_leftBelow : Int64) (v_guessAbove : Int64) (v_guessBelow : Int64) (v_sign : Int32) (v_power2 : Int32) (v_bits : Int64) (v_w : (Nat → Int32)) (v_rs : (Nat → Int32)) (v_cs : (Nat → Int32)) (F : Nat) (x1 : Int32) (o_v_above : Int64) (o_v_below : Int64) (o_v_rs : (Nat → Int32)) (o_v_cs : (Nat → Int32)) (hf : f_X12_laySolution F v_above v_below v_w v_rs v_cs x1 = some (o_v_above, o_v_below, o_v_rs, o_v_cs)) : kM (fun A => kQv D A [(q, .inr (11, [.ref q_w, .int v_known, .int v_kept, .int v_seed, .ref q_imageSeed, .ref q_bookOf, .ref q_bookAt, .ref q_bookIs, .int v_written, .ref q_rs, .ref q_cs, .long o_v_above, .long o_v_below, .ref q_zs, .long v_leftAbove, .long v_leftBelow, .long v_guessAbove, .long v_guessBelow, .int v_sign, .int v_power2, .long v_bits])), (q_w, .inl (cI, 418, .inl v_w)), (q_rs, .inl (cI, 4, .inl o_v_rs)), (q_cs, .inl (cI, 4, .inl o_v_cs))]) none l yX12_laySolution cX12_laySolution 3 { frames := 9, cells := 0, slots := 0, locals := 214 } D cI cJ cQ tp [.ref q, .int x1] [(q, .inr (11, [.ref q_w, .int v_known, .int v_kept, .int v_seed, .ref q_imageSeed, .ref q_bookOf, .ref q_bookAt, .ref q_bookIs, .int v_written, .ref q_rs, .ref q_cs, .long v_above, .long v_below, .ref q_zs, .long v_leftAbove, .long v_leftBelow, .long v_guessAbove, .long v_guessBelow, .int v_sign, .int v_power2, .long v_bits])), (q_w, .inl (cI, 418, .inl v_w)), (q_rs, .inl (cI, 4, .inl v_rs)), (q_cs, .inl (cI, 4, .inl v_cs))] := by
  refine kM_of (by decide) (Nat.le_of_ble_eq_true rfl) ?_
  intro p e s m args below meth c A ls R Q hR hQ hat hP hD hS hl
  obtain ⟨hx, hb, hr, hml, hown, hts, hT, hlk, hK, hA, hZ⟩ := id hat
  have hown : s.vm.findClass RX12 = some m.cls := hown
  have hl : lv_has ls 3 [(0, .ref q), (1, .int x1)] := hl
  unfold f_X12_laySolution at hf
  refine lv_aload_n hx hb dX12_laySolution_0 rfl (lv_at hl 0 rfl) ?_
  obtain ⟨r1, w2, w3, h4, hf⟩ := kb3_e hf
  refine k_gi (ws' := [(q, .inr (11, [.ref q_w, .int v_known, .int v_kept, .int v_seed, .ref q_imageSeed, .ref q_bookOf, .ref q_bookAt, .ref q_bookIs, .int v_written, .ref q_rs, .ref q_cs, .long v_above, .long v_below, .ref q_zs, .long v_leftAbove, .long v_leftBelow, .long v_guessAbove, .long v_guessBelow, .int v_sign, .int v_power2, .long v_bits])), (q_w, .inl (cI, 418, .inl v_w)), (q_rs, .inl (cI, 4, .inl w2)), (q_cs, .inl (cI, 4, .inl w3))]) (k_runV (rest := []) hat hP hD hS hl.1 (c_X12_leading q q_w q_imageSeed q_bookOf q_bookAt q_bookIs q_rs q_cs q_zs v_known v_kept v_seed v_written v_above v_below v_leftAbove v_leftBelow v_guessAbove v_guessBelow v_sign v_power2 v_bits v_w v_rs v_cs F r1 w2 w3 h4) [0, 1, 2, 3] (by decide) rfl kw981 kw983 kw33 kw79 kw984 kdVX12_leading ⟨rfl, rfl⟩ (by rw [hR]; exact ⟨Nat.le_of_ble_eq_true rfl, Nat.le_of_ble_eq_true rfl⟩) ⟨Nat.zero_le _, Nat.zero_le _⟩ 0 11 rfl rfl rfl rfl (Nat.le_of_ble_eq_true rfl) dX12_laySolution_1) hat hP hD hS [0, 1, 2, 3] rfl [] rfl rfl rfl rfl (by decide) (fun H locs hP hD hS => ?_)
  refine lv_istore_n (lv' := [(2, .int r1), (0, .ref q), (1, .int x1)]) hx hb dX12_laySolution_4 rfl hl (by decide) rfl (fun ls hl => ?_)
  refine lv_iload_n hx hb dX12_laySolution_5 rfl (lv_at hl 0 rfl) ?_
  refine lv_iload_n hx hb dX12_laySolution_6 rfl (lv_at hl 2 rfl) ?_
  obtain ⟨r5, h6, hf⟩ := kb1_e hf
  refine k_gi (ws' := [(q, .inr (11, [.ref q_w, .int v_known, .int v_kept, .int v_seed, .ref q_imageSeed, .ref q_bookOf, .ref q_bookAt, .ref q_bookIs, .int v_written, .ref q_rs, .ref q_cs, .long v_above, .long v_below, .ref q_zs, .long v_leftAbove, .long v_leftBelow, .long v_guessAbove, .long v_guessBelow, .int v_sign, .int v_power2, .long v_bits])), (q_w, .inl (cI, 418, .inl v_w)), (q_rs, .inl (cI, 4, .inl w2)), (q_cs, .inl (cI, 4, .inl w3))]) (k_runS (rest := []) hat hP hD hS hl.1 (c_X12_has r1 x1 r5 h6) [] (by decide) rfl kw941 kw942 kw79 kw943 kdX12_has ⟨rfl, rfl⟩ (by rw [hR]; exact ⟨Nat.le_of_ble_eq_true rfl, Nat.le_of_ble_eq_true rfl⟩) ⟨Nat.zero_le _, Nat.zero_le _⟩ rfl rfl (Nat.le_of_ble_eq_true rfl) dX12_laySolution_7) hat hP hD hS [] rfl [0, 1, 2, 3] rfl rfl rfl rfl (by decide) (fun H locs hP hD hS => ?_)
  refine lv_if_eq (tgt := 31) hx hb dX12_laySolution_10 (by decide) (fun c7 => ?_) (fun c7 => ?_)
  · have hf := kp_e hf c7
    refine lv_aload_n hx hb dX12_laySolution_31 rfl (lv_at hl 1 rfl) ?_
    refine lv_lconst (v := 0) hx hb dX12_laySolution_32 (by decide) ?_
    refine lv_lconst (v := 1) hx hb dX12_laySolution_33 (by decide) ?_
    obtain ⟨w8, w9, h10, hf⟩ := kb2_e hf
    refine k_gv (ws' := [(q, .inr (11, [.ref q_w, .int v_known, .int v_kept, .int v_seed, .ref q_imageSeed, .ref q_bookOf, .ref q_bookAt, .ref q_bookIs, .int v_written, .ref q_rs, .ref q_cs, .long w8, .long w9, .ref q_zs, .long v_leftAbove, .long v_leftBelow, .long v_guessAbove, .long v_guessBelow, .int v_sign, .int v_power2, .long v_bits])), (q_w, .inl (cI, 418, .inl v_w)), (q_rs, .inl (cI, 4, .inl w2)), (q_cs, .inl (cI, 4, .inl w3))]) (k_runV (rest := []) hat hP hD hS hl.1 (c_X12_layFraction q q_w q_imageSeed q_bookOf q_bookAt q_bookIs q_rs q_cs q_zs v_known v_kept v_seed v_written v_above v_below v_leftAbove v_leftBelow v_guessAbove v_guessBelow v_sign v_power2 v_bits F (0 : Int64) (1 : Int64) w8 w9 h10) [0] (by decide) rfl kw997 kw999 kw37 kw79 kw1000 kdVX12_layFraction ⟨rfl, rfl⟩ (by rw [hR]; exact ⟨Nat.le_of_ble_eq_true rfl, Nat.le_of_ble_eq_true rfl⟩) ⟨Nat.zero_le _, Nat.zero_le _⟩ 0 11 rfl rfl rfl rfl (Nat.le_of_ble_eq_true rfl) dX12_laySolution_34) hat hP hD hS [0] rfl [1, 2, 3] rfl rfl rfl rfl (by decide) (fun H locs hP hD hS => ?_)
    obtain ⟨rfl, rfl, rfl, rfl⟩ := ki4 hf
    rw [hQ]
    exact k_vret hat hP hS dX12_laySolution_37
  · have hf := kn_e hf c7
    refine lv_aload_n hx hb dX12_laySolution_13 rfl (lv_at hl 1 rfl) ?_
    refine lv_iload_n hx hb dX12_laySolution_14 rfl (lv_at hl 0 rfl) ?_
    refine lv_iconst (v := 1) hx hb dX12_laySolution_15 (by decide) ?_
    refine lv_iload_n hx hb dX12_laySolution_16 rfl (lv_at hl 2 rfl) ?_
    refine lv_ishl hx hb dX12_laySolution_17 ?_
    refine lv_iconst (v := 1) hx hb dX12_laySolution_18 (by decide) ?_
    refine lv_isub hx hb dX12_laySolution_19 ?_
    refine lv_iand hx hb dX12_laySolution_20 ?_
    obtain ⟨r11, h12, hf⟩ := kb1_e hf
    refine k_gi (ws' := [(q, .inr (11, [.ref q_w, .int v_known, .int v_kept, .int v_seed, .ref q_imageSeed, .ref q_bookOf, .ref q_bookAt, .ref q_bookIs, .int v_written, .ref q_rs, .ref q_cs, .long v_above, .long v_below, .ref q_zs, .long v_leftAbove, .long v_leftBelow, .long v_guessAbove, .long v_guessBelow, .int v_sign, .int v_power2, .long v_bits])), (q_w, .inl (cI, 418, .inl v_w)), (q_rs, .inl (cI, 4, .inl w2)), (q_cs, .inl (cI, 4, .inl w3))]) (k_runS (rest := [.ref q]) hat hP hD hS hl.1 (c_X12_ones (r1 &&& (((1 : Int32) <<< (x1 &&& 31)) - (1 : Int32))) r11 h12) [] (by decide) rfl kw935 kw936 kw79 kw937 kdX12_ones ⟨rfl, rfl⟩ (by rw [hR]; exact ⟨Nat.le_of_ble_eq_true rfl, Nat.le_of_ble_eq_true rfl⟩) ⟨Nat.zero_le _, Nat.zero_le _⟩ rfl rfl (Nat.le_of_ble_eq_true rfl) dX12_laySolution_21) hat hP hD hS [] rfl [0, 1, 2, 3] rfl rfl rfl rfl (by decide) (fun H locs hP hD hS => ?_)
    refine lv_iconst (v := 4) hx hb dX12_laySolution_24 (by decide) ?_
    obtain ⟨w13, w14, w15, w16, h17, hf⟩ := kb4_e hf
    refine k_gv (ws' := [(q, .inr (11, [.ref q_w, .int v_known, .int v_kept, .int v_seed, .ref q_imageSeed, .ref q_bookOf, .ref q_bookAt, .ref q_bookIs, .int v_written, .ref q_rs, .ref q_cs, .long w13, .long w14, .ref q_zs, .long v_leftAbove, .long v_leftBelow, .long v_guessAbove, .long v_guessBelow, .int v_sign, .int v_power2, .long v_bits])), (q_w, .inl (cI, 418, .inl v_w)), (q_rs, .inl (cI, 4, .inl w15)), (q_cs, .inl (cI, 4, .inl w16))]) (k_runV (rest := []) hat hP hD hS hl.1 (c_X12_layShare q q_w q_imageSeed q_bookOf q_bookAt q_bookIs q_rs q_cs q_zs v_known v_kept v_seed v_written v_above v_below v_leftAbove v_leftBelow v_guessAbove v_guessBelow v_sign v_power2 v_bits v_w w2 w3 F r11 (4 : Int32) w13 w14 w15 w16 h17) [0, 1, 2, 3] (by decide) rfl kw989 kw991 kw35 kw79 kw992 kdVX12_layShare ⟨rfl, rfl⟩ (by rw [hR]; exact ⟨Nat.le_of_ble_eq_true rfl, Nat.le_of_ble_eq_true rfl⟩) ⟨Nat.zero_le _, Nat.zero_le _⟩ 0 11 rfl rfl rfl rfl (Nat.le_of_ble_eq_true rfl) dX12_laySolution_25) hat hP hD hS [0, 1, 2, 3] rfl [] rfl rfl rfl rfl (by decide) (fun H locs hP hD hS => ?_)
    refine lv_goto (tgt := 37) hx hb dX12_laySolution_28 (by decide) ?_
    obtain ⟨rfl, rfl, rfl, rfl⟩ := ki4 hf
    rw [hQ]
    exact k_vret hat hP hS dX12_laySolution_37
set_option maxHeartbeats 4000000 in
set_option maxRecDepth 100000 in
theorem c_X12_layNothing {l : Launch} {D : va_G} {cI cJ cQ : ClassId} {tp : Nat} (q : Nat) (q_w : Nat) (q_imageSeed : Nat) (q_bookOf : Nat) (q_bookAt : Nat) (q_bookIs : Nat) (q_rs : Nat) (q_cs : Nat) (q_zs : Nat) (v_known : Int32) (v_kept : Int32) (v_seed : Int32) (v_written : Int32) (v_above : Int64) (v_below : Int64) (v_leftAbove : Int64) (v_leftBelow : Int64) (v_guessAbove : Int64) (v_guessBelow : Int64) (v_sign : Int32) (v_power2 : Int32) (v_bits : Int64) (v_w : (Nat → Int32)) (v_rs : (Nat → Int32)) (v_cs : (Nat → Int32)) (v_zs : (Nat → Int64)) (F : Nat) (o_v_above : Int64) (o_v_below : Int64) (o_v_rs : (Nat → Int32)) (o_v_cs : (Nat → Int32)) (o_v_zs : (Nat → Int64)) (hf : f_X12_layNothing F v_above v_below v_w v_rs v_cs v_zs = some (o_v_above, o_v_below, o_v_rs, o_v_cs, o_v_zs)) : kM (fun A => kQv D A [(q, .inr (11, [.ref q_w, .int v_known, .int v_kept, .int v_seed, .ref q_imageSeed, .ref q_bookOf, .ref q_bookAt, .ref q_bookIs, .int v_written, .ref q_rs, .ref q_cs, .long o_v_above, .long o_v_below, .ref q_zs, .long v_leftAbove, .long v_leftBelow, .long v_guessAbove, .long v_guessBelow, .int v_sign, .int v_power2, .long v_bits])), (q_w, .inl (cI, 418, .inl v_w)), (q_rs, .inl (cI, 4, .inl o_v_rs)), (q_cs, .inl (cI, 4, .inl o_v_cs)), (q_zs, .inl (cJ, 4, .inr (.inl o_v_zs)))]) none l yX12_layNothing cX12_layNothing 6 { frames := 9, cells := 0, slots := 0, locals := 214 } D cI cJ cQ tp [.ref q] [(q, .inr (11, [.ref q_w, .int v_known, .int v_kept, .int v_seed, .ref q_imageSeed, .ref q_bookOf, .ref q_bookAt, .ref q_bookIs, .int v_written, .ref q_rs, .ref q_cs, .long v_above, .long v_below, .ref q_zs, .long v_leftAbove, .long v_leftBelow, .long v_guessAbove, .long v_guessBelow, .int v_sign, .int v_power2, .long v_bits])), (q_w, .inl (cI, 418, .inl v_w)), (q_rs, .inl (cI, 4, .inl v_rs)), (q_cs, .inl (cI, 4, .inl v_cs)), (q_zs, .inl (cJ, 4, .inr (.inl v_zs)))] := by
  refine kM_of (by decide) (Nat.le_of_ble_eq_true rfl) ?_
  intro p e s m args below meth c A ls R Q hR hQ hat hP hD hS hl
  obtain ⟨hx, hb, hr, hml, hown, hts, hT, hlk, hK, hA, hZ⟩ := id hat
  have hown : s.vm.findClass RX12 = some m.cls := hown
  have hl : lv_has ls 6 [(0, .ref q)] := hl
  have hL7 : ∀ (x1 : Int32) (v_known : Int32) (v_kept : Int32) (v_seed : Int32) (v_written : Int32) (v_above : Int64) (v_below : Int64) (v_leftAbove : Int64) (v_leftBelow : Int64) (v_guessAbove : Int64) (v_guessBelow : Int64) (v_sign : Int32) (v_power2 : Int32) (v_bits : Int64) (v_w : (Nat → Int32)) (v_rs : (Nat → Int32)) (v_cs : (Nat → Int32)) (v_zs : (Nat → Int64)) (fu : Nat) (x2 : Int32) (o0 : Int32), L_X12_layNothing_7 x1 fu x2 = some o0 → (∀ (H : Heap) (locs : List Loc) (ls : Array Slot), va_P D vwCl [(q, .inr (11, [.ref q_w, .int v_known, .int v_kept, .int v_seed, .ref q_imageSeed, .ref q_bookOf, .ref q_bookAt, .ref q_bookIs, .int v_written, .ref q_rs, .ref q_cs, .long v_above, .long v_below, .ref q_zs, .long v_leftAbove, .long v_leftBelow, .long v_guessAbove, .long v_guessBelow, .int v_sign, .int v_power2, .long v_bits])), (q_w, .inl (cI, 418, .inl v_w)), (q_rs, .inl (cI, 4, .inl v_rs)), (q_cs, .inl (cI, 4, .inl v_cs)), (q_zs, .inl (cJ, 4, .inr (.inl v_zs)))] H → va_D A [(q, .inr (11, [.ref q_w, .int v_known, .int v_kept, .int v_seed, .ref q_imageSeed, .ref q_bookOf, .ref q_bookAt, .ref q_bookIs, .int v_written, .ref q_rs, .ref q_cs, .long v_above, .long v_below, .ref q_zs, .long v_leftAbove, .long v_leftBelow, .long v_guessAbove, .long v_guessBelow, .int v_sign, .int v_power2, .long v_bits])), (q_w, .inl (cI, 418, .inl v_w)), (q_rs, .inl (cI, 4, .inl v_rs)), (q_cs, .inl (cI, 4, .inl v_cs)), (q_zs, .inl (cJ, 4, .inr (.inl v_zs)))] → va_S A s.heap H locs → lv_has ls 6 [(0, .ref q), (1, .int x1), (2, .int o0)] → W p l e R s m args below meth c H locs 0 0 Q (F0 m 21 ls [])) → ∀ (H : Heap) (locs : List Loc) (ls : Array Slot), va_P D vwCl [(q, .inr (11, [.ref q_w, .int v_known, .int v_kept, .int v_seed, .ref q_imageSeed, .ref q_bookOf, .ref q_bookAt, .ref q_bookIs, .int v_written, .ref q_rs, .ref q_cs, .long v_above, .long v_below, .ref q_zs, .long v_leftAbove, .long v_leftBelow, .long v_guessAbove, .long v_guessBelow, .int v_sign, .int v_power2, .long v_bits])), (q_w, .inl (cI, 418, .inl v_w)), (q_rs, .inl (cI, 4, .inl v_rs)), (q_cs, .inl (cI, 4, .inl v_cs)), (q_zs, .inl (cJ, 4, .inr (.inl v_zs)))] H → va_D A [(q, .inr (11, [.ref q_w, .int v_known, .int v_kept, .int v_seed, .ref q_imageSeed, .ref q_bookOf, .ref q_bookAt, .ref q_bookIs, .int v_written, .ref q_rs, .ref q_cs, .long v_above, .long v_below, .ref q_zs, .long v_leftAbove, .long v_leftBelow, .long v_guessAbove, .long v_guessBelow, .int v_sign, .int v_power2, .long v_bits])), (q_w, .inl (cI, 418, .inl v_w)), (q_rs, .inl (cI, 4, .inl v_rs)), (q_cs, .inl (cI, 4, .inl v_cs)), (q_zs, .inl (cJ, 4, .inr (.inl v_zs)))] → va_S A s.heap H locs → lv_has ls 6 [(0, .ref q), (1, .int x1), (2, .int x2)] → W p l e R s m args below meth c H locs 0 0 Q (F0 m 7 ls []) := by
    intro x1 v_known v_kept v_seed v_written v_above v_below v_leftAbove v_leftBelow v_guessAbove v_guessBelow v_sign v_power2 v_bits v_w v_rs v_cs v_zs fu
    induction fu with
    | zero =>
      intro x2 o0 hf
      cases hf
    | succ fu ih =>
      intro x2 o0 hf hk0 H locs ls hP hD hS hl
      rw [L_X12_layNothing_7] at hf
      refine lv_iload_n hx hb dX12_layNothing_7 rfl (lv_at hl 1 rfl) ?_
      refine lv_iload_n hx hb dX12_layNothing_8 rfl (lv_at hl 2 rfl) ?_
      obtain ⟨r5, h6, hf⟩ := kb1_e hf
      refine k_gi (ws' := [(q, .inr (11, [.ref q_w, .int v_known, .int v_kept, .int v_seed, .ref q_imageSeed, .ref q_bookOf, .ref q_bookAt, .ref q_bookIs, .int v_written, .ref q_rs, .ref q_cs, .long v_above, .long v_below, .ref q_zs, .long v_leftAbove, .long v_leftBelow, .long v_guessAbove, .long v_guessBelow, .int v_sign, .int v_power2, .long v_bits])), (q_w, .inl (cI, 418, .inl v_w)), (q_rs, .inl (cI, 4, .inl v_rs)), (q_cs, .inl (cI, 4, .inl v_cs)), (q_zs, .inl (cJ, 4, .inr (.inl v_zs)))]) (k_runS (rest := []) hat hP hD hS hl.1 (c_X12_has x1 x2 r5 h6) [] (by decide) rfl kw941 kw942 kw79 kw943 kdX12_has ⟨rfl, rfl⟩ (by rw [hR]; exact ⟨Nat.le_of_ble_eq_true rfl, Nat.le_of_ble_eq_true rfl⟩) ⟨Nat.zero_le _, Nat.zero_le _⟩ rfl rfl (Nat.le_of_ble_eq_true rfl) dX12_layNothing_9) hat hP hD hS [] rfl [0, 1, 2, 3, 4] rfl rfl rfl rfl (by decide) (fun H locs hP hD hS => ?_)
      refine lv_if_eq (tgt := 21) hx hb dX12_layNothing_12 (by decide) (fun c7 => ?_) (fun c7 => ?_)
      · have hf := kp_e hf c7
        obtain rfl := ki1 hf
        exact hk0 _ _ _ hP hD hS hl
      · have hf := kn_e hf c7
        obtain ⟨t8, et8⟩ : ∃ z : Int32, z = (x2 + (1 : Int32)) := ⟨_, rfl⟩
        have hf := kl_e hf t8 et8
        refine lv_iinc (v := t8) (lv' := [(2, .int t8), (0, .ref q), (1, .int x1)]) hx hb dX12_layNothing_15 hl (k := 2) rfl (by rw [et8]; rfl) (by decide) rfl (fun ls hl => ?_)
        refine lv_goto (tgt := 7) hx hb dX12_layNothing_18 (by decide) ?_
        exact ih t8 o0 hf hk0 _ _ _ hP hD hS (lv_sub hl [1, 2, 0] rfl)
  have hL26 : ∀ (x1 : Int32) (x2 : Int32) (v_known : Int32) (v_kept : Int32) (v_seed : Int32) (v_written : Int32) (v_leftAbove : Int64) (v_leftBelow : Int64) (v_guessAbove : Int64) (v_guessBelow : Int64) (v_sign : Int32) (v_power2 : Int32) (v_bits : Int64) (v_w : (Nat → Int32)) (v_zs : (Nat → Int64)) (fu : Nat) (x3 : Int64) (x5 : Int32) (v_above : Int64) (v_below : Int64) (v_rs : (Nat → Int32)) (v_cs : (Nat → Int32)) (o0 : Int64) (o1 : Int64) (o2 : Int64) (o3 : (Nat → Int32)) (o4 : (Nat → Int32)), L_X12_layNothing_26 F x1 x2 v_w fu x3 x5 v_above v_below v_rs v_cs = some (o0, o1, o2, o3, o4) → (∀ (H : Heap) (locs : List Loc) (ls : Array Slot), va_P D vwCl [(q, .inr (11, [.ref q_w, .int v_known, .int v_kept, .int v_seed, .ref q_imageSeed, .ref q_bookOf, .ref q_bookAt, .ref q_bookIs, .int v_written, .ref q_rs, .ref q_cs, .long o1, .long o2, .ref q_zs, .long v_leftAbove, .long v_leftBelow, .long v_guessAbove, .long v_guessBelow, .int v_sign, .int v_power2, .long v_bits])), (q_w, .inl (cI, 418, .inl v_w)), (q_rs, .inl (cI, 4, .inl o3)), (q_cs, .inl (cI, 4, .inl o4)), (q_zs, .inl (cJ, 4, .inr (.inl v_zs)))] H → va_D A [(q, .inr (11, [.ref q_w, .int v_known, .int v_kept, .int v_seed, .ref q_imageSeed, .ref q_bookOf, .ref q_bookAt, .ref q_bookIs, .int v_written, .ref q_rs, .ref q_cs, .long o1, .long o2, .ref q_zs, .long v_leftAbove, .long v_leftBelow, .long v_guessAbove, .long v_guessBelow, .int v_sign, .int v_power2, .long v_bits])), (q_w, .inl (cI, 418, .inl v_w)), (q_rs, .inl (cI, 4, .inl o3)), (q_cs, .inl (cI, 4, .inl o4)), (q_zs, .inl (cJ, 4, .inr (.inl v_zs)))] → va_S A s.heap H locs → lv_has ls 6 [(0, .ref q), (1, .int x1), (2, .int x2), (3, .long o0)] → W p l e R s m args below meth c H locs 0 0 Q (F0 m 64 ls [])) → ∀ (H : Heap) (locs : List Loc) (ls : Array Slot), va_P D vwCl [(q, .inr (11, [.ref q_w, .int v_known, .int v_kept, .int v_seed, .ref q_imageSeed, .ref q_bookOf, .ref q_bookAt, .ref q_bookIs, .int v_written, .ref q_rs, .ref q_cs, .long v_above, .long v_below, .ref q_zs, .long v_leftAbove, .long v_leftBelow, .long v_guessAbove, .long v_guessBelow, .int v_sign, .int v_power2, .long v_bits])), (q_w, .inl (cI, 418, .inl v_w)), (q_rs, .inl (cI, 4, .inl v_rs)), (q_cs, .inl (cI, 4, .inl v_cs)), (q_zs, .inl (cJ, 4, .inr (.inl v_zs)))] H → va_D A [(q, .inr (11, [.ref q_w, .int v_known, .int v_kept, .int v_seed, .ref q_imageSeed, .ref q_bookOf, .ref q_bookAt, .ref q_bookIs, .int v_written, .ref q_rs, .ref q_cs, .long v_above, .long v_below, .ref q_zs, .long v_leftAbove, .long v_leftBelow, .long v_guessAbove, .long v_guessBelow, .int v_sign, .int v_power2, .long v_bits])), (q_w, .inl (cI, 418, .inl v_w)), (q_rs, .inl (cI, 4, .inl v_rs)), (q_cs, .inl (cI, 4, .inl v_cs)), (q_zs, .inl (cJ, 4, .inr (.inl v_zs)))] → va_S A s.heap H locs → lv_has ls 6 [(0, .ref q), (1, .int x1), (2, .int x2), (3, .long x3), (5, .int x5)] → W p l e R s m args below meth c H locs 0 0 Q (F0 m 26 ls []) := by
    intro x1 x2 v_known v_kept v_seed v_written v_leftAbove v_leftBelow v_guessAbove v_guessBelow v_sign v_power2 v_bits v_w v_zs fu
    induction fu with
    | zero =>
      intro x3 x5 v_above v_below v_rs v_cs o0 o1 o2 o3 o4 hf
      cases hf
    | succ fu ih =>
      intro x3 x5 v_above v_below v_rs v_cs o0 o1 o2 o3 o4 hf hk0 H locs ls hP hD hS hl
      rw [L_X12_layNothing_26] at hf
      refine lv_iload hx hb dX12_layNothing_26 (lv_at hl 4 rfl) ?_
      refine lv_iload_n hx hb dX12_layNothing_28 rfl (lv_at hl 1 rfl) ?_
      obtain ⟨r10, h11, hf⟩ := kb1_e hf
      refine k_gi (ws' := [(q, .inr (11, [.ref q_w, .int v_known, .int v_kept, .int v_seed, .ref q_imageSeed, .ref q_bookOf, .ref q_bookAt, .ref q_bookIs, .int v_written, .ref q_rs, .ref q_cs, .long v_above, .long v_below, .ref q_zs, .long v_leftAbove, .long v_leftBelow, .long v_guessAbove, .long v_guessBelow, .int v_sign, .int v_power2, .long v_bits])), (q_w, .inl (cI, 418, .inl v_w)), (q_rs, .inl (cI, 4, .inl v_rs)), (q_cs, .inl (cI, 4, .inl v_cs)), (q_zs, .inl (cJ, 4, .inr (.inl v_zs)))]) (k_runS (rest := [.int x5]) hat hP hD hS hl.1 (c_X12_ones x1 r10 h11) [] (by decide) rfl kw935 kw936 kw79 kw937 kdX12_ones ⟨rfl, rfl⟩ (by rw [hR]; exact ⟨Nat.le_of_ble_eq_true rfl, Nat.le_of_ble_eq_true rfl⟩) ⟨Nat.zero_le _, Nat.zero_le _⟩ rfl rfl (Nat.le_of_ble_eq_true rfl) dX12_layNothing_29) hat hP hD hS [] rfl [0, 1, 2, 3, 4] rfl rfl rfl rfl (by decide) (fun H locs hP hD hS => ?_)
      refine lv_icmp_ge (tgt := 64) hx hb dX12_layNothing_32 (by decide) (fun c12 => ?_) (fun c12 => ?_)
      · have hf := kp_e hf c12
        obtain ⟨rfl, rfl, rfl, rfl, rfl⟩ := ki5 hf
        exact hk0 _ _ _ hP hD hS (lv_sub hl [0, 1, 2, 3] rfl)
      · have hf := kn_e hf c12
        refine lv_aload_n hx hb dX12_layNothing_35 rfl (lv_at hl 0 rfl) ?_
        refine lv_iload hx hb dX12_layNothing_36 (lv_at hl 4 rfl) ?_
        refine lv_iload_n hx hb dX12_layNothing_38 rfl (lv_at hl 2 rfl) ?_
        obtain ⟨w13, w14, w15, w16, h17, hf⟩ := kb4_e hf
        refine k_gv (ws' := [(q, .inr (11, [.ref q_w, .int v_known, .int v_kept, .int v_seed, .ref q_imageSeed, .ref q_bookOf, .ref q_bookAt, .ref q_bookIs, .int v_written, .ref q_rs, .ref q_cs, .long w13, .long w14, .ref q_zs, .long v_leftAbove, .long v_leftBelow, .long v_guessAbove, .long v_guessBelow, .int v_sign, .int v_power2, .long v_bits])), (q_w, .inl (cI, 418, .inl v_w)), (q_rs, .inl (cI, 4, .inl w15)), (q_cs, .inl (cI, 4, .inl w16)), (q_zs, .inl (cJ, 4, .inr (.inl v_zs)))]) (k_runV (rest := []) hat hP hD hS hl.1 (c_X12_layShare q q_w q_imageSeed q_bookOf q_bookAt q_bookIs q_rs q_cs q_zs v_known v_kept v_seed v_written v_above v_below v_leftAbove v_leftBelow v_guessAbove v_guessBelow v_sign v_power2 v_bits v_w v_rs v_cs F x5 x2 w13 w14 w15 w16 h17) [0, 1, 2, 3] (by decide) rfl kw989 kw991 kw35 kw79 kw992 kdVX12_layShare ⟨rfl, rfl⟩ (by rw [hR]; exact ⟨Nat.le_of_ble_eq_true rfl, Nat.le_of_ble_eq_true rfl⟩) ⟨Nat.zero_le _, Nat.zero_le _⟩ 0 11 rfl rfl rfl rfl (Nat.le_of_ble_eq_true rfl) dX12_layNothing_39) hat hP hD hS [0, 1, 2, 3] rfl [4] rfl rfl rfl rfl (by decide) (fun H locs hP hD hS => ?_)
        refine lv_lload_n hx hb dX12_layNothing_42 rfl (lv_at hl 3 rfl) ?_
        refine lv_lload_n hx hb dX12_layNothing_43 rfl (lv_at hl 3 rfl) ?_
        refine lv_aload_n hx hb dX12_layNothing_44 rfl (lv_at hl 0 rfl) ?_
        refine va_get (D := D) (ci := 11) (v := .long w14) (C := RX12) (T := TX12) (N := 21) hx hb hts kinX12 hown hK hP 0 rfl rfl 12 (by decide) (hts _ kw856) (fun _ h9 => h9) rfl dX12_layNothing_45 ?_
        obtain ⟨r18, h19, hf⟩ := kb1_e hf
        refine k_gl (ws' := [(q, .inr (11, [.ref q_w, .int v_known, .int v_kept, .int v_seed, .ref q_imageSeed, .ref q_bookOf, .ref q_bookAt, .ref q_bookIs, .int v_written, .ref q_rs, .ref q_cs, .long w13, .long w14, .ref q_zs, .long v_leftAbove, .long v_leftBelow, .long v_guessAbove, .long v_guessBelow, .int v_sign, .int v_power2, .long v_bits])), (q_w, .inl (cI, 418, .inl v_w)), (q_rs, .inl (cI, 4, .inl w15)), (q_cs, .inl (cI, 4, .inl w16)), (q_zs, .inl (cJ, 4, .inr (.inl v_zs)))]) (k_runS (rest := [.long x3]) hat hP hD hS hl.1 (c_X12_divisor F x3 w14 r18 h19) [] (by decide) rfl kw1001 kw1002 kw79 kw1003 kdX12_divisor ⟨rfl, rfl⟩ (by rw [hR]; exact ⟨Nat.le_of_ble_eq_true rfl, Nat.le_of_ble_eq_true rfl⟩) ⟨Nat.zero_le _, Nat.zero_le _⟩ rfl rfl (Nat.le_of_ble_eq_true rfl) dX12_layNothing_48) hat hP hD hS [] rfl [0, 1, 2, 3, 4] rfl rfl rfl rfl (by decide) (fun H locs hP hD hS => ?_)
        obtain ⟨c20, hf⟩ := kc_e hf
        refine lv_ldiv hx hb dX12_layNothing_51 c20 ?_
        refine lv_aload_n hx hb dX12_layNothing_52 rfl (lv_at hl 0 rfl) ?_
        refine va_get (D := D) (ci := 11) (v := .long w14) (C := RX12) (T := TX12) (N := 21) hx hb hts kinX12 hown hK hP 0 rfl rfl 12 (by decide) (hts _ kw856) (fun _ h9 => h9) rfl dX12_layNothing_53 ?_
        refine lv_lmul hx hb dX12_layNothing_56 ?_
        refine lv_topl (fun t21 et21 => ?_)
        have hf := kl_e hf t21 et21
        refine lv_lstore_n (lv' := [(3, .long t21), (0, .ref q), (1, .int x1), (2, .int x2), (5, .int x5)]) hx hb dX12_layNothing_57 rfl hl (by decide) rfl (fun ls hl => ?_)
        obtain ⟨t22, et22⟩ : ∃ z : Int32, z = (x5 + (1 : Int32)) := ⟨_, rfl⟩
        have hf := kl_e hf t22 et22
        refine lv_iinc (v := t22) (lv' := [(5, .int t22), (3, .long t21), (0, .ref q), (1, .int x1), (2, .int x2)]) hx hb dX12_layNothing_58 hl (k := 4) rfl (by rw [et22]; rfl) (by decide) rfl (fun ls hl => ?_)
        refine lv_goto (tgt := 26) hx hb dX12_layNothing_61 (by decide) ?_
        exact ih t21 t22 w13 w14 w15 w16 o0 o1 o2 o3 o4 hf hk0 _ _ _ hP hD hS (lv_sub hl [2, 3, 4, 1, 0] rfl)
  have hL67 : ∀ (x1 : Int32) (x2 : Int32) (x3 : Int64) (v_known : Int32) (v_kept : Int32) (v_seed : Int32) (v_written : Int32) (v_above : Int64) (v_below : Int64) (v_leftAbove : Int64) (v_leftBelow : Int64) (v_guessAbove : Int64) (v_guessBelow : Int64) (v_sign : Int32) (v_power2 : Int32) (v_bits : Int64) (v_w : (Nat → Int32)) (v_rs : (Nat → Int32)) (v_cs : (Nat → Int32)) (fu : Nat) (x5 : Int32) (v_zs : (Nat → Int64)) (o0 : (Nat → Int64)), L_X12_layNothing_67 x1 x2 x3 v_w fu x5 v_zs = some o0 → (∀ (H : Heap) (locs : List Loc) (ls : Array Slot), va_P D vwCl [(q, .inr (11, [.ref q_w, .int v_known, .int v_kept, .int v_seed, .ref q_imageSeed, .ref q_bookOf, .ref q_bookAt, .ref q_bookIs, .int v_written, .ref q_rs, .ref q_cs, .long v_above, .long v_below, .ref q_zs, .long v_leftAbove, .long v_leftBelow, .long v_guessAbove, .long v_guessBelow, .int v_sign, .int v_power2, .long v_bits])), (q_w, .inl (cI, 418, .inl v_w)), (q_rs, .inl (cI, 4, .inl v_rs)), (q_cs, .inl (cI, 4, .inl v_cs)), (q_zs, .inl (cJ, 4, .inr (.inl o0)))] H → va_D A [(q, .inr (11, [.ref q_w, .int v_known, .int v_kept, .int v_seed, .ref q_imageSeed, .ref q_bookOf, .ref q_bookAt, .ref q_bookIs, .int v_written, .ref q_rs, .ref q_cs, .long v_above, .long v_below, .ref q_zs, .long v_leftAbove, .long v_leftBelow, .long v_guessAbove, .long v_guessBelow, .int v_sign, .int v_power2, .long v_bits])), (q_w, .inl (cI, 418, .inl v_w)), (q_rs, .inl (cI, 4, .inl v_rs)), (q_cs, .inl (cI, 4, .inl v_cs)), (q_zs, .inl (cJ, 4, .inr (.inl o0)))] → va_S A s.heap H locs → lv_has ls 6 [(0, .ref q), (1, .int x1), (2, .int x2), (3, .long x3)] → W p l e R s m args below meth c H locs 0 0 Q (F0 m 100 ls [])) → ∀ (H : Heap) (locs : List Loc) (ls : Array Slot), va_P D vwCl [(q, .inr (11, [.ref q_w, .int v_known, .int v_kept, .int v_seed, .ref q_imageSeed, .ref q_bookOf, .ref q_bookAt, .ref q_bookIs, .int v_written, .ref q_rs, .ref q_cs, .long v_above, .long v_below, .ref q_zs, .long v_leftAbove, .long v_leftBelow, .long v_guessAbove, .long v_guessBelow, .int v_sign, .int v_power2, .long v_bits])), (q_w, .inl (cI, 418, .inl v_w)), (q_rs, .inl (cI, 4, .inl v_rs)), (q_cs, .inl (cI, 4, .inl v_cs)), (q_zs, .inl (cJ, 4, .inr (.inl v_zs)))] H → va_D A [(q, .inr (11, [.ref q_w, .int v_known, .int v_kept, .int v_seed, .ref q_imageSeed, .ref q_bookOf, .ref q_bookAt, .ref q_bookIs, .int v_written, .ref q_rs, .ref q_cs, .long v_above, .long v_below, .ref q_zs, .long v_leftAbove, .long v_leftBelow, .long v_guessAbove, .long v_guessBelow, .int v_sign, .int v_power2, .long v_bits])), (q_w, .inl (cI, 418, .inl v_w)), (q_rs, .inl (cI, 4, .inl v_rs)), (q_cs, .inl (cI, 4, .inl v_cs)), (q_zs, .inl (cJ, 4, .inr (.inl v_zs)))] → va_S A s.heap H locs → lv_has ls 6 [(0, .ref q), (1, .int x1), (2, .int x2), (3, .long x3), (5, .int x5)] → W p l e R s m args below meth c H locs 0 0 Q (F0 m 67 ls []) := by
    intro x1 x2 x3 v_known v_kept v_seed v_written v_above v_below v_leftAbove v_leftBelow v_guessAbove v_guessBelow v_sign v_power2 v_bits v_w v_rs v_cs fu
    induction fu with
    | zero =>
      intro x5 v_zs o0 hf
      cases hf
    | succ fu ih =>
      intro x5 v_zs o0 hf hk0 H locs ls hP hD hS hl
      rw [L_X12_layNothing_67] at hf
      refine lv_iload hx hb dX12_layNothing_67 (lv_at hl 4 rfl) ?_
      refine lv_aload_n hx hb dX12_layNothing_69 rfl (lv_at hl 0 rfl) ?_
      obtain ⟨r28, h29, hf⟩ := kb1_e hf
      refine k_gi (ws' := [(q, .inr (11, [.ref q_w, .int v_known, .int v_kept, .int v_seed, .ref q_imageSeed, .ref q_bookOf, .ref q_bookAt, .ref q_bookIs, .int v_written, .ref q_rs, .ref q_cs, .long v_above, .long v_below, .ref q_zs, .long v_leftAbove, .long v_leftBelow, .long v_guessAbove, .long v_guessBelow, .int v_sign, .int v_power2, .long v_bits])), (q_w, .inl (cI, 418, .inl v_w)), (q_rs, .inl (cI, 4, .inl v_rs)), (q_cs, .inl (cI, 4, .inl v_cs)), (q_zs, .inl (cJ, 4, .inr (.inl v_zs)))]) (k_runV (rest := [.int x5]) hat hP hD hS hl.1 (c_X12_n q q_w q_imageSeed q_bookOf q_bookAt q_bookIs q_rs q_cs q_zs v_known v_kept v_seed v_written v_above v_below v_leftAbove v_leftBelow v_guessAbove v_guessBelow v_sign v_power2 v_bits v_w r28 h29) [0, 1] (by decide) rfl kw912 kw914 kw19 kw79 kw915 kdVX12_n ⟨rfl, rfl⟩ (by rw [hR]; exact ⟨Nat.le_of_ble_eq_true rfl, Nat.le_of_ble_eq_true rfl⟩) ⟨Nat.zero_le _, Nat.zero_le _⟩ 0 11 rfl rfl rfl rfl (Nat.le_of_ble_eq_true rfl) dX12_layNothing_70) hat hP hD hS [0, 1] rfl [2, 3, 4] rfl rfl rfl rfl (by decide) (fun H locs hP hD hS => ?_)
      refine lv_icmp_ge (tgt := 100) hx hb dX12_layNothing_73 (by decide) (fun c30 => ?_) (fun c30 => ?_)
      · have hf := kp_e hf c30
        obtain rfl := ki1 hf
        exact hk0 _ _ _ hP hD hS (lv_sub hl [0, 1, 2, 3] rfl)
      · have hf := kn_e hf c30
        refine lv_aload_n hx hb dX12_layNothing_76 rfl (lv_at hl 0 rfl) ?_
        refine va_get (D := D) (ci := 11) (v := .ref q_zs) (C := RX12) (T := TX12) (N := 21) hx hb hts kinX12 hown hK hP 0 rfl rfl 13 (by decide) (hts _ kw857) (fun _ h9 => h9) rfl dX12_layNothing_77 ?_
        refine lv_iload hx hb dX12_layNothing_80 (lv_at hl 4 rfl) ?_
        refine lv_iload hx hb dX12_layNothing_82 (lv_at hl 4 rfl) ?_
        refine lv_iload_n hx hb dX12_layNothing_84 rfl (lv_at hl 2 rfl) ?_
        refine lv_icmp_ne (tgt := 92) hx hb dX12_layNothing_85 (by decide) (fun c31 => ?_) (fun c31 => ?_)
        · have hf := kn_e hf c31
          refine lv_lconst (v := 0) hx hb dX12_layNothing_92 (by decide) ?_
          obtain ⟨c32, hf⟩ := kc_e hf
          refine va_last hx hb hK hP hD hS 4 1 rfl rfl (kin_e c32) dX12_layNothing_93 (fun H locs hP hD hS => ?_)
          generalize ew33 : (vp_updL v_zs x5.toNatClampNeg (0 : Int64)) = w33 at hP hD
          have hf := kl_e hf w33 ew33.symm
          have hP : va_P D vwCl [(q, .inr (11, [.ref q_w, .int v_known, .int v_kept, .int v_seed, .ref q_imageSeed, .ref q_bookOf, .ref q_bookAt, .ref q_bookIs, .int v_written, .ref q_rs, .ref q_cs, .long v_above, .long v_below, .ref q_zs, .long v_leftAbove, .long v_leftBelow, .long v_guessAbove, .long v_guessBelow, .int v_sign, .int v_power2, .long v_bits])), (q_w, .inl (cI, 418, .inl v_w)), (q_rs, .inl (cI, 4, .inl v_rs)), (q_cs, .inl (cI, 4, .inl v_cs)), (q_zs, .inl (cJ, 4, .inr (.inl w33)))] H := hP
          have hD : va_D A [(q, .inr (11, [.ref q_w, .int v_known, .int v_kept, .int v_seed, .ref q_imageSeed, .ref q_bookOf, .ref q_bookAt, .ref q_bookIs, .int v_written, .ref q_rs, .ref q_cs, .long v_above, .long v_below, .ref q_zs, .long v_leftAbove, .long v_leftBelow, .long v_guessAbove, .long v_guessBelow, .int v_sign, .int v_power2, .long v_bits])), (q_w, .inl (cI, 418, .inl v_w)), (q_rs, .inl (cI, 4, .inl v_rs)), (q_cs, .inl (cI, 4, .inl v_cs)), (q_zs, .inl (cJ, 4, .inr (.inl w33)))] := hD
          obtain ⟨t34, et34⟩ : ∃ z : Int32, z = (x5 + (1 : Int32)) := ⟨_, rfl⟩
          have hf := kl_e hf t34 et34
          refine lv_iinc (v := t34) (lv' := [(5, .int t34), (0, .ref q), (1, .int x1), (2, .int x2), (3, .long x3)]) hx hb dX12_layNothing_94 hl (k := 4) rfl (by rw [et34]; rfl) (by decide) rfl (fun ls hl => ?_)
          refine lv_goto (tgt := 67) hx hb dX12_layNothing_97 (by decide) ?_
          exact ih t34 w33 o0 hf hk0 _ _ _ hP hD hS (lv_sub hl [1, 2, 3, 4, 0] rfl)
        · have hf := kp_e hf c31
          refine lv_lload_n hx hb dX12_layNothing_88 rfl (lv_at hl 3 rfl) ?_
          refine lv_goto (tgt := 93) hx hb dX12_layNothing_89 (by decide) ?_
          obtain ⟨c35, hf⟩ := kc_e hf
          refine va_last hx hb hK hP hD hS 4 1 rfl rfl (kin_e c35) dX12_layNothing_93 (fun H locs hP hD hS => ?_)
          generalize ew36 : (vp_updL v_zs x5.toNatClampNeg x3) = w36 at hP hD
          have hf := kl_e hf w36 ew36.symm
          have hP : va_P D vwCl [(q, .inr (11, [.ref q_w, .int v_known, .int v_kept, .int v_seed, .ref q_imageSeed, .ref q_bookOf, .ref q_bookAt, .ref q_bookIs, .int v_written, .ref q_rs, .ref q_cs, .long v_above, .long v_below, .ref q_zs, .long v_leftAbove, .long v_leftBelow, .long v_guessAbove, .long v_guessBelow, .int v_sign, .int v_power2, .long v_bits])), (q_w, .inl (cI, 418, .inl v_w)), (q_rs, .inl (cI, 4, .inl v_rs)), (q_cs, .inl (cI, 4, .inl v_cs)), (q_zs, .inl (cJ, 4, .inr (.inl w36)))] H := hP
          have hD : va_D A [(q, .inr (11, [.ref q_w, .int v_known, .int v_kept, .int v_seed, .ref q_imageSeed, .ref q_bookOf, .ref q_bookAt, .ref q_bookIs, .int v_written, .ref q_rs, .ref q_cs, .long v_above, .long v_below, .ref q_zs, .long v_leftAbove, .long v_leftBelow, .long v_guessAbove, .long v_guessBelow, .int v_sign, .int v_power2, .long v_bits])), (q_w, .inl (cI, 418, .inl v_w)), (q_rs, .inl (cI, 4, .inl v_rs)), (q_cs, .inl (cI, 4, .inl v_cs)), (q_zs, .inl (cJ, 4, .inr (.inl w36)))] := hD
          obtain ⟨t37, et37⟩ : ∃ z : Int32, z = (x5 + (1 : Int32)) := ⟨_, rfl⟩
          have hf := kl_e hf t37 et37
          refine lv_iinc (v := t37) (lv' := [(5, .int t37), (0, .ref q), (1, .int x1), (2, .int x2), (3, .long x3)]) hx hb dX12_layNothing_94 hl (k := 4) rfl (by rw [et37]; rfl) (by decide) rfl (fun ls hl => ?_)
          refine lv_goto (tgt := 67) hx hb dX12_layNothing_97 (by decide) ?_
          exact ih t37 w36 o0 hf hk0 _ _ _ hP hD hS (lv_sub hl [1, 2, 3, 4, 0] rfl)
  have hL103 : ∀ (x1 : Int32) (x2 : Int32) (x3 : Int64) (v_known : Int32) (v_kept : Int32) (v_seed : Int32) (v_written : Int32) (v_leftAbove : Int64) (v_leftBelow : Int64) (v_guessAbove : Int64) (v_guessBelow : Int64) (v_sign : Int32) (v_power2 : Int32) (v_bits : Int64) (v_w : (Nat → Int32)) (fu : Nat) (x5 : Int32) (v_above : Int64) (v_below : Int64) (v_rs : (Nat → Int32)) (v_cs : (Nat → Int32)) (v_zs : (Nat → Int64)) (o0 : Int64) (o1 : Int64) (o2 : (Nat → Int32)) (o3 : (Nat → Int32)) (o4 : (Nat → Int64)), L_X12_layNothing_103 F x1 x2 x3 v_w fu x5 v_above v_below v_rs v_cs v_zs = some (o0, o1, o2, o3, o4) → (∀ (H : Heap) (locs : List Loc) (ls : Array Slot), va_P D vwCl [(q, .inr (11, [.ref q_w, .int v_known, .int v_kept, .int v_seed, .ref q_imageSeed, .ref q_bookOf, .ref q_bookAt, .ref q_bookIs, .int v_written, .ref q_rs, .ref q_cs, .long o0, .long o1, .ref q_zs, .long v_leftAbove, .long v_leftBelow, .long v_guessAbove, .long v_guessBelow, .int v_sign, .int v_power2, .long v_bits])), (q_w, .inl (cI, 418, .inl v_w)), (q_rs, .inl (cI, 4, .inl o2)), (q_cs, .inl (cI, 4, .inl o3)), (q_zs, .inl (cJ, 4, .inr (.inl o4)))] H → va_D A [(q, .inr (11, [.ref q_w, .int v_known, .int v_kept, .int v_seed, .ref q_imageSeed, .ref q_bookOf, .ref q_bookAt, .ref q_bookIs, .int v_written, .ref q_rs, .ref q_cs, .long o0, .long o1, .ref q_zs, .long v_leftAbove, .long v_leftBelow, .long v_guessAbove, .long v_guessBelow, .int v_sign, .int v_power2, .long v_bits])), (q_w, .inl (cI, 418, .inl v_w)), (q_rs, .inl (cI, 4, .inl o2)), (q_cs, .inl (cI, 4, .inl o3)), (q_zs, .inl (cJ, 4, .inr (.inl o4)))] → va_S A s.heap H locs → lv_has ls 6 [] → W p l e R s m args below meth c H locs 0 0 Q (F0 m 148 ls [])) → ∀ (H : Heap) (locs : List Loc) (ls : Array Slot), va_P D vwCl [(q, .inr (11, [.ref q_w, .int v_known, .int v_kept, .int v_seed, .ref q_imageSeed, .ref q_bookOf, .ref q_bookAt, .ref q_bookIs, .int v_written, .ref q_rs, .ref q_cs, .long v_above, .long v_below, .ref q_zs, .long v_leftAbove, .long v_leftBelow, .long v_guessAbove, .long v_guessBelow, .int v_sign, .int v_power2, .long v_bits])), (q_w, .inl (cI, 418, .inl v_w)), (q_rs, .inl (cI, 4, .inl v_rs)), (q_cs, .inl (cI, 4, .inl v_cs)), (q_zs, .inl (cJ, 4, .inr (.inl v_zs)))] H → va_D A [(q, .inr (11, [.ref q_w, .int v_known, .int v_kept, .int v_seed, .ref q_imageSeed, .ref q_bookOf, .ref q_bookAt, .ref q_bookIs, .int v_written, .ref q_rs, .ref q_cs, .long v_above, .long v_below, .ref q_zs, .long v_leftAbove, .long v_leftBelow, .long v_guessAbove, .long v_guessBelow, .int v_sign, .int v_power2, .long v_bits])), (q_w, .inl (cI, 418, .inl v_w)), (q_rs, .inl (cI, 4, .inl v_rs)), (q_cs, .inl (cI, 4, .inl v_cs)), (q_zs, .inl (cJ, 4, .inr (.inl v_zs)))] → va_S A s.heap H locs → lv_has ls 6 [(0, .ref q), (1, .int x1), (2, .int x2), (3, .long x3), (5, .int x5)] → W p l e R s m args below meth c H locs 0 0 Q (F0 m 103 ls []) := by
    intro x1 x2 x3 v_known v_kept v_seed v_written v_leftAbove v_leftBelow v_guessAbove v_guessBelow v_sign v_power2 v_bits v_w fu
    induction fu with
    | zero =>
      intro x5 v_above v_below v_rs v_cs v_zs o0 o1 o2 o3 o4 hf
      cases hf
    | succ fu ih =>
      intro x5 v_above v_below v_rs v_cs v_zs o0 o1 o2 o3 o4 hf hk0 H locs ls hP hD hS hl
      rw [L_X12_layNothing_103] at hf
      refine lv_iload hx hb dX12_layNothing_103 (lv_at hl 4 rfl) ?_
      refine lv_iload_n hx hb dX12_layNothing_105 rfl (lv_at hl 1 rfl) ?_
      obtain ⟨r39, h40, hf⟩ := kb1_e hf
      refine k_gi (ws' := [(q, .inr (11, [.ref q_w, .int v_known, .int v_kept, .int v_seed, .ref q_imageSeed, .ref q_bookOf, .ref q_bookAt, .ref q_bookIs, .int v_written, .ref q_rs, .ref q_cs, .long v_above, .long v_below, .ref q_zs, .long v_leftAbove, .long v_leftBelow, .long v_guessAbove, .long v_guessBelow, .int v_sign, .int v_power2, .long v_bits])), (q_w, .inl (cI, 418, .inl v_w)), (q_rs, .inl (cI, 4, .inl v_rs)), (q_cs, .inl (cI, 4, .inl v_cs)), (q_zs, .inl (cJ, 4, .inr (.inl v_zs)))]) (k_runS (rest := [.int x5]) hat hP hD hS hl.1 (c_X12_ones x1 r39 h40) [] (by decide) rfl kw935 kw936 kw79 kw937 kdX12_ones ⟨rfl, rfl⟩ (by rw [hR]; exact ⟨Nat.le_of_ble_eq_true rfl, Nat.le_of_ble_eq_true rfl⟩) ⟨Nat.zero_le _, Nat.zero_le _⟩ rfl rfl (Nat.le_of_ble_eq_true rfl) dX12_layNothing_106) hat hP hD hS [] rfl [0, 1, 2, 3, 4] rfl rfl rfl rfl (by decide) (fun H locs hP hD hS => ?_)
      refine lv_icmp_ge (tgt := 148) hx hb dX12_layNothing_109 (by decide) (fun c41 => ?_) (fun c41 => ?_)
      · have hf := kp_e hf c41
        obtain ⟨rfl, rfl, rfl, rfl, rfl⟩ := ki5 hf
        exact hk0 _ _ _ hP hD hS (lv_sub hl [] rfl)
      · have hf := kn_e hf c41
        refine lv_aload_n hx hb dX12_layNothing_112 rfl (lv_at hl 0 rfl) ?_
        refine lv_iload hx hb dX12_layNothing_113 (lv_at hl 4 rfl) ?_
        refine lv_iload_n hx hb dX12_layNothing_115 rfl (lv_at hl 2 rfl) ?_
        obtain ⟨w42, w43, w44, w45, h46, hf⟩ := kb4_e hf
        refine k_gv (ws' := [(q, .inr (11, [.ref q_w, .int v_known, .int v_kept, .int v_seed, .ref q_imageSeed, .ref q_bookOf, .ref q_bookAt, .ref q_bookIs, .int v_written, .ref q_rs, .ref q_cs, .long w42, .long w43, .ref q_zs, .long v_leftAbove, .long v_leftBelow, .long v_guessAbove, .long v_guessBelow, .int v_sign, .int v_power2, .long v_bits])), (q_w, .inl (cI, 418, .inl v_w)), (q_rs, .inl (cI, 4, .inl w44)), (q_cs, .inl (cI, 4, .inl w45)), (q_zs, .inl (cJ, 4, .inr (.inl v_zs)))]) (k_runV (rest := []) hat hP hD hS hl.1 (c_X12_layShare q q_w q_imageSeed q_bookOf q_bookAt q_bookIs q_rs q_cs q_zs v_known v_kept v_seed v_written v_above v_below v_leftAbove v_leftBelow v_guessAbove v_guessBelow v_sign v_power2 v_bits v_w v_rs v_cs F x5 x2 w42 w43 w44 w45 h46) [0, 1, 2, 3] (by decide) rfl kw989 kw991 kw35 kw79 kw992 kdVX12_layShare ⟨rfl, rfl⟩ (by rw [hR]; exact ⟨Nat.le_of_ble_eq_true rfl, Nat.le_of_ble_eq_true rfl⟩) ⟨Nat.zero_le _, Nat.zero_le _⟩ 0 11 rfl rfl rfl rfl (Nat.le_of_ble_eq_true rfl) dX12_layNothing_116) hat hP hD hS [0, 1, 2, 3] rfl [4] rfl rfl rfl rfl (by decide) (fun H locs hP hD hS => ?_)
        refine lv_aload_n hx hb dX12_layNothing_119 rfl (lv_at hl 0 rfl) ?_
        refine va_get (D := D) (ci := 11) (v := .ref q_zs) (C := RX12) (T := TX12) (N := 21) hx hb hts kinX12 hown hK hP 0 rfl rfl 13 (by decide) (hts _ kw857) (fun _ h9 => h9) rfl dX12_layNothing_120 ?_
        refine lv_iload_n hx hb dX12_layNothing_123 rfl (lv_at hl 1 rfl) ?_
        refine lv_iload hx hb dX12_layNothing_124 (lv_at hl 4 rfl) ?_
        obtain ⟨r47, h48, hf⟩ := kb1_e hf
        refine k_gi (ws' := [(q, .inr (11, [.ref q_w, .int v_known, .int v_kept, .int v_seed, .ref q_imageSeed, .ref q_bookOf, .ref q_bookAt, .ref q_bookIs, .int v_written, .ref q_rs, .ref q_cs, .long w42, .long w43, .ref q_zs, .long v_leftAbove, .long v_leftBelow, .long v_guessAbove, .long v_guessBelow, .int v_sign, .int v_power2, .long v_bits])), (q_w, .inl (cI, 418, .inl v_w)), (q_rs, .inl (cI, 4, .inl w44)), (q_cs, .inl (cI, 4, .inl w45)), (q_zs, .inl (cJ, 4, .inr (.inl v_zs)))]) (k_runS (rest := [.ref q_zs]) hat hP hD hS hl.1 (c_X12_pick F x1 x5 r47 h48) [] (by decide) rfl kw938 kw939 kw79 kw940 kdX12_pick ⟨rfl, rfl⟩ (by rw [hR]; exact ⟨Nat.le_of_ble_eq_true rfl, Nat.le_of_ble_eq_true rfl⟩) ⟨Nat.zero_le _, Nat.zero_le _⟩ rfl rfl (Nat.le_of_ble_eq_true rfl) dX12_layNothing_126) hat hP hD hS [] rfl [0, 1, 2, 3, 4] rfl rfl rfl rfl (by decide) (fun H locs hP hD hS => ?_)
        refine lv_aload_n hx hb dX12_layNothing_129 rfl (lv_at hl 0 rfl) ?_
        refine va_get (D := D) (ci := 11) (v := .long w42) (C := RX12) (T := TX12) (N := 21) hx hb hts kinX12 hown hK hP 0 rfl rfl 11 (by decide) (hts _ kw855) (fun _ h9 => h9) rfl dX12_layNothing_130 ?_
        refine lv_lneg hx hb dX12_layNothing_133 ?_
        refine lv_lload_n hx hb dX12_layNothing_134 rfl (lv_at hl 3 rfl) ?_
        refine lv_aload_n hx hb dX12_layNothing_135 rfl (lv_at hl 0 rfl) ?_
        refine va_get (D := D) (ci := 11) (v := .long w43) (C := RX12) (T := TX12) (N := 21) hx hb hts kinX12 hown hK hP 0 rfl rfl 12 (by decide) (hts _ kw856) (fun _ h9 => h9) rfl dX12_layNothing_136 ?_
        obtain ⟨c49, hf⟩ := kc_e hf
        refine lv_ldiv hx hb dX12_layNothing_139 c49 ?_
        refine lv_lmul hx hb dX12_layNothing_140 ?_
        obtain ⟨c50, hf⟩ := kc_e hf
        refine va_last hx hb hK hP hD hS 4 1 rfl rfl (kin_e c50) dX12_layNothing_141 (fun H locs hP hD hS => ?_)
        generalize ew51 : (vp_updL v_zs r47.toNatClampNeg ((-w42) * (x3 / w43))) = w51 at hP hD
        have hf := kl_e hf w51 ew51.symm
        have hP : va_P D vwCl [(q, .inr (11, [.ref q_w, .int v_known, .int v_kept, .int v_seed, .ref q_imageSeed, .ref q_bookOf, .ref q_bookAt, .ref q_bookIs, .int v_written, .ref q_rs, .ref q_cs, .long w42, .long w43, .ref q_zs, .long v_leftAbove, .long v_leftBelow, .long v_guessAbove, .long v_guessBelow, .int v_sign, .int v_power2, .long v_bits])), (q_w, .inl (cI, 418, .inl v_w)), (q_rs, .inl (cI, 4, .inl w44)), (q_cs, .inl (cI, 4, .inl w45)), (q_zs, .inl (cJ, 4, .inr (.inl w51)))] H := hP
        have hD : va_D A [(q, .inr (11, [.ref q_w, .int v_known, .int v_kept, .int v_seed, .ref q_imageSeed, .ref q_bookOf, .ref q_bookAt, .ref q_bookIs, .int v_written, .ref q_rs, .ref q_cs, .long w42, .long w43, .ref q_zs, .long v_leftAbove, .long v_leftBelow, .long v_guessAbove, .long v_guessBelow, .int v_sign, .int v_power2, .long v_bits])), (q_w, .inl (cI, 418, .inl v_w)), (q_rs, .inl (cI, 4, .inl w44)), (q_cs, .inl (cI, 4, .inl w45)), (q_zs, .inl (cJ, 4, .inr (.inl w51)))] := hD
        obtain ⟨t52, et52⟩ : ∃ z : Int32, z = (x5 + (1 : Int32)) := ⟨_, rfl⟩
        have hf := kl_e hf t52 et52
        refine lv_iinc (v := t52) (lv' := [(5, .int t52), (0, .ref q), (1, .int x1), (2, .int x2), (3, .long x3)]) hx hb dX12_layNothing_142 hl (k := 4) rfl (by rw [et52]; rfl) (by decide) rfl (fun ls hl => ?_)
        refine lv_goto (tgt := 103) hx hb dX12_layNothing_145 (by decide) ?_
        exact ih t52 w42 w43 w44 w45 w51 o0 o1 o2 o3 o4 hf hk0 _ _ _ hP hD hS (lv_sub hl [1, 2, 3, 4, 0] rfl)
  unfold f_X12_layNothing at hf
  refine lv_aload_n hx hb dX12_layNothing_0 rfl (lv_at hl 0 rfl) ?_
  obtain ⟨r1, w2, w3, h4, hf⟩ := kb3_e hf
  refine k_gi (ws' := [(q, .inr (11, [.ref q_w, .int v_known, .int v_kept, .int v_seed, .ref q_imageSeed, .ref q_bookOf, .ref q_bookAt, .ref q_bookIs, .int v_written, .ref q_rs, .ref q_cs, .long v_above, .long v_below, .ref q_zs, .long v_leftAbove, .long v_leftBelow, .long v_guessAbove, .long v_guessBelow, .int v_sign, .int v_power2, .long v_bits])), (q_w, .inl (cI, 418, .inl v_w)), (q_rs, .inl (cI, 4, .inl w2)), (q_cs, .inl (cI, 4, .inl w3)), (q_zs, .inl (cJ, 4, .inr (.inl v_zs)))]) (k_runV (rest := []) hat hP hD hS hl.1 (c_X12_leading q q_w q_imageSeed q_bookOf q_bookAt q_bookIs q_rs q_cs q_zs v_known v_kept v_seed v_written v_above v_below v_leftAbove v_leftBelow v_guessAbove v_guessBelow v_sign v_power2 v_bits v_w v_rs v_cs F r1 w2 w3 h4) [0, 1, 2, 3] (by decide) rfl kw981 kw983 kw33 kw79 kw984 kdVX12_leading ⟨rfl, rfl⟩ (by rw [hR]; exact ⟨Nat.le_of_ble_eq_true rfl, Nat.le_of_ble_eq_true rfl⟩) ⟨Nat.zero_le _, Nat.zero_le _⟩ 0 11 rfl rfl rfl rfl (Nat.le_of_ble_eq_true rfl) dX12_layNothing_1) hat hP hD hS [0, 1, 2, 3] rfl [4] rfl rfl rfl rfl (by decide) (fun H locs hP hD hS => ?_)
  refine lv_istore_n (lv' := [(1, .int r1), (0, .ref q)]) hx hb dX12_layNothing_4 rfl hl (by decide) rfl (fun ls hl => ?_)
  refine lv_iconst (v := 0) hx hb dX12_layNothing_5 (by decide) ?_
  refine lv_istore_n (lv' := [(2, .int (0 : Int32)), (1, .int r1), (0, .ref q)]) hx hb dX12_layNothing_6 rfl hl (by decide) rfl (fun ls hl => ?_)
  obtain ⟨y9, hu, hf⟩ := kb1_e hf
  refine hL7 r1 v_known v_kept v_seed v_written v_above v_below v_leftAbove v_leftBelow v_guessAbove v_guessBelow v_sign v_power2 v_bits v_w w2 w3 v_zs F (0 : Int32) y9 hu (fun H locs ls hP hD hS hl => ?_) _ _ _ hP hD hS (lv_sub hl [2, 1, 0] rfl)
  refine lv_lconst (v := 1) hx hb dX12_layNothing_21 (by decide) ?_
  refine lv_lstore_n (lv' := [(3, .long (1 : Int64)), (0, .ref q), (1, .int r1), (2, .int y9)]) hx hb dX12_layNothing_22 rfl hl (by decide) rfl (fun ls hl => ?_)
  refine lv_iconst (v := 0) hx hb dX12_layNothing_23 (by decide) ?_
  refine lv_istore (lv' := [(5, .int (0 : Int32)), (3, .long (1 : Int64)), (0, .ref q), (1, .int r1), (2, .int y9)]) hx hb dX12_layNothing_24 hl (by decide) rfl (fun ls hl => ?_)
  obtain ⟨y23, w24, w25, w26, w27, hu, hf⟩ := kb5_e hf
  refine hL26 r1 y9 v_known v_kept v_seed v_written v_leftAbove v_leftBelow v_guessAbove v_guessBelow v_sign v_power2 v_bits v_w v_zs F (1 : Int64) (0 : Int32) v_above v_below w2 w3 y23 w24 w25 w26 w27 hu (fun H locs ls hP hD hS hl => ?_) _ _ _ hP hD hS (lv_sub hl [2, 3, 4, 1, 0] rfl)
  refine lv_iconst (v := 0) hx hb dX12_layNothing_64 (by decide) ?_
  refine lv_istore (lv' := [(5, .int (0 : Int32)), (0, .ref q), (1, .int r1), (2, .int y9), (3, .long y23)]) hx hb dX12_layNothing_65 hl (by decide) rfl (fun ls hl => ?_)
  obtain ⟨w38, hu, hf⟩ := kb1_e hf
  refine hL67 r1 y9 y23 v_known v_kept v_seed v_written w24 w25 v_leftAbove v_leftBelow v_guessAbove v_guessBelow v_sign v_power2 v_bits v_w w26 w27 F (0 : Int32) v_zs w38 hu (fun H locs ls hP hD hS hl => ?_) _ _ _ hP hD hS (lv_sub hl [1, 2, 3, 4, 0] rfl)
  refine lv_iconst (v := 0) hx hb dX12_layNothing_100 (by decide) ?_
  refine lv_istore (lv' := [(5, .int (0 : Int32)), (0, .ref q), (1, .int r1), (2, .int y9), (3, .long y23)]) hx hb dX12_layNothing_101 hl (by decide) rfl (fun ls hl => ?_)
  obtain ⟨w53, w54, w55, w56, w57, hu, hf⟩ := kb5_e hf
  refine hL103 r1 y9 y23 v_known v_kept v_seed v_written v_leftAbove v_leftBelow v_guessAbove v_guessBelow v_sign v_power2 v_bits v_w F (0 : Int32) w24 w25 w26 w27 w38 w53 w54 w55 w56 w57 hu (fun H locs ls hP hD hS hl => ?_) _ _ _ hP hD hS (lv_sub hl [1, 2, 3, 4, 0] rfl)
  obtain ⟨rfl, rfl, rfl, rfl, rfl⟩ := ki5 hf
  rw [hQ]
  exact k_vret hat hP hS dX12_layNothing_148
