set_option maxHeartbeats 4000000 in
set_option maxRecDepth 100000 in
theorem c_X12_layFraction {l : Launch} {D : va_G} {cI cJ cQ : ClassId} {tp : Nat} (q : Nat) (q_w : Nat) (q_imageSeed : Nat) (q_bookOf : Nat) (q_bookAt : Nat) (q_bookIs : Nat) (q_rs : Nat) (q_cs : Nat) (q_zs : Nat) (v_known : Int32) (v_kept : Int32) (v_seed : Int32) (v_written : Int32) (v_above : Int64) (v_below : Int64) (v_leftAbove : Int64) (v_leftBelow : Int64) (v_guessAbove : Int64) (v_guessBelow : Int64) (v_sign : Int32) (v_power2 : Int32) (v_bits : Int64) (F : Nat) (x1 : Int64) (x3 : Int64) (o_v_above : Int64) (o_v_below : Int64) (hf : f_X12_layFraction F v_above v_below x1 x3 = some (o_v_above, o_v_below)) : kM (fun A => kQv D A [(q, .inr (11, [.ref q_w, .int v_known, .int v_kept, .int v_seed, .ref q_imageSeed, .ref q_bookOf, .ref q_bookAt, .ref q_bookIs, .int v_written, .ref q_rs, .ref q_cs, .long o_v_above, .long o_v_below, .ref q_zs, .long v_leftAbove, .long v_leftBelow, .long v_guessAbove, .long v_guessBelow, .int v_sign, .int v_power2, .long v_bits]))]) none l yX12_layFraction cX12_layFraction 7 { frames := 1, cells := 0, slots := 0, locals := 29 } D cI cJ cQ tp [.ref q, .long x1, .long x3] [(q, .inr (11, [.ref q_w, .int v_known, .int v_kept, .int v_seed, .ref q_imageSeed, .ref q_bookOf, .ref q_bookAt, .ref q_bookIs, .int v_written, .ref q_rs, .ref q_cs, .long v_above, .long v_below, .ref q_zs, .long v_leftAbove, .long v_leftBelow, .long v_guessAbove, .long v_guessBelow, .int v_sign, .int v_power2, .long v_bits]))] := by
  refine kM_of (by decide +kernel) (Nat.le_of_ble_eq_true rfl) ?_
  intro p e s m args below meth c A ls R Q hR hQ hat hP hD hS hl
  obtain ⟨hx, hb, hr, hml, hown, hts, hT, hlk, hK, hA, hZ⟩ := id hat
  have hown : s.vm.findClass RX12 = some m.cls := hown
  have hl : lv_has ls 7 [(0, .ref q), (1, .long x1), (3, .long x3)] := hl
  unfold f_X12_layFraction at hf
  refine lv_lload_n hx hb dX12_layFraction_0 rfl (lv_at hl 1 rfl) ?_
  refine lv_lload_n hx hb dX12_layFraction_1 rfl (lv_at hl 2 rfl) ?_
  obtain ⟨r1, h2, hf⟩ := kb1_e hf
  refine k_gl (nW := 1) (ws' := [(q, .inr (11, [.ref q_w, .int v_known, .int v_kept, .int v_seed, .ref q_imageSeed, .ref q_bookOf, .ref q_bookAt, .ref q_bookIs, .int v_written, .ref q_rs, .ref q_cs, .long v_above, .long v_below, .ref q_zs, .long v_leftAbove, .long v_leftBelow, .long v_guessAbove, .long v_guessBelow, .int v_sign, .int v_power2, .long v_bits]))]) (wr := [(q, .inr (11, [.ref q_w, .int v_known, .int v_kept, .int v_seed, .ref q_imageSeed, .ref q_bookOf, .ref q_bookAt, .ref q_bookIs, .int v_written, .ref q_rs, .ref q_cs, .long v_above, .long v_below, .ref q_zs, .long v_leftAbove, .long v_leftBelow, .long v_guessAbove, .long v_guessBelow, .int v_sign, .int v_power2, .long v_bits]))]) (k_runS (rest := []) hat hP hD hS hl.1 (c_X12_divisor F x1 x3 r1 h2) [] (by decide) rfl kw1001 kw1002 kw79 kw1003 kdX12_divisor ⟨rfl, rfl⟩ (by rw [hR]; exact ⟨Nat.le_of_ble_eq_true rfl, Nat.le_of_ble_eq_true rfl⟩) ⟨Nat.zero_le _, Nat.zero_le _⟩ rfl rfl (Nat.le_of_ble_eq_true rfl) dX12_layFraction_2) hat hP hD hS [] rfl [0] rfl rfl rfl rfl rfl (by decide) (fun H locs hP hD hS => ?_)
  refine lv_lstore (lv' := [(5, .long r1), (0, .ref q), (1, .long x1), (3, .long x3)]) hx hb dX12_layFraction_5 hl (by decide) rfl (fun ls hl => ?_)
  refine lv_lload_n hx hb dX12_layFraction_7 rfl (lv_at hl 3 rfl) ?_
  refine lv_lconst (v := 0) hx hb dX12_layFraction_8 (by decide) ?_
  refine k_lcmp_ge (tgt := 19) hx hb dX12_layFraction_9 dX12_layFraction_10 (by decide) (fun c3 => ?_) (fun c3 => ?_)
  · have hf := kp_e hf c3
    refine lv_lload hx hb dX12_layFraction_19 (lv_at hl 0 rfl) ?_
    refine lv_lstore (lv' := [(5, .long r1), (0, .ref q), (1, .long x1), (3, .long x3)]) hx hb dX12_layFraction_21 hl (by decide) rfl (fun ls hl => ?_)
    refine lv_aload_n hx hb dX12_layFraction_23 rfl (lv_at hl 1 rfl) ?_
    refine lv_lload_n hx hb dX12_layFraction_24 rfl (lv_at hl 2 rfl) ?_
    refine lv_lload hx hb dX12_layFraction_25 (lv_at hl 0 rfl) ?_
    obtain ⟨c4, hf⟩ := kc_e hf
    refine lv_ldiv hx hb dX12_layFraction_27 c4 ?_
    refine lv_topl (fun t5 et5 => ?_)
    have hf := kl_e hf t5 et5
    refine va_put (D := D) (ci := 11) (v := .long t5) (ty := .long) (C := RX12) (T := TX12) (N := 21) hx hb hts kinX12 tyX12 tyX12_ok nmX12 hown hK hP hD hS 0 rfl rfl 11 (by decide) (hts _ kw855) (fun _ h9 => h9) rfl (by decide +kernel) rfl rfl (Nat.le_of_ble_eq_true rfl) dX12_layFraction_28 (fun H locs hP hD hS => ?_)
    have hP : va_P D vwCl [(q, .inr (11, [.ref q_w, .int v_known, .int v_kept, .int v_seed, .ref q_imageSeed, .ref q_bookOf, .ref q_bookAt, .ref q_bookIs, .int v_written, .ref q_rs, .ref q_cs, .long t5, .long v_below, .ref q_zs, .long v_leftAbove, .long v_leftBelow, .long v_guessAbove, .long v_guessBelow, .int v_sign, .int v_power2, .long v_bits]))] H := hP
    have hD : va_D A [(q, .inr (11, [.ref q_w, .int v_known, .int v_kept, .int v_seed, .ref q_imageSeed, .ref q_bookOf, .ref q_bookAt, .ref q_bookIs, .int v_written, .ref q_rs, .ref q_cs, .long t5, .long v_below, .ref q_zs, .long v_leftAbove, .long v_leftBelow, .long v_guessAbove, .long v_guessBelow, .int v_sign, .int v_power2, .long v_bits]))] := hD
    refine lv_aload_n hx hb dX12_layFraction_31 rfl (lv_at hl 1 rfl) ?_
    refine lv_lload_n hx hb dX12_layFraction_32 rfl (lv_at hl 3 rfl) ?_
    refine lv_lload hx hb dX12_layFraction_33 (lv_at hl 0 rfl) ?_
    obtain ⟨c6, hf⟩ := kc_e hf
    refine lv_ldiv hx hb dX12_layFraction_35 c6 ?_
    refine lv_topl (fun t7 et7 => ?_)
    have hf := kl_e hf t7 et7
    refine va_put (D := D) (ci := 11) (v := .long t7) (ty := .long) (C := RX12) (T := TX12) (N := 21) hx hb hts kinX12 tyX12 tyX12_ok nmX12 hown hK hP hD hS 0 rfl rfl 12 (by decide) (hts _ kw856) (fun _ h9 => h9) rfl (by decide +kernel) rfl rfl (Nat.le_of_ble_eq_true rfl) dX12_layFraction_36 (fun H locs hP hD hS => ?_)
    have hP : va_P D vwCl [(q, .inr (11, [.ref q_w, .int v_known, .int v_kept, .int v_seed, .ref q_imageSeed, .ref q_bookOf, .ref q_bookAt, .ref q_bookIs, .int v_written, .ref q_rs, .ref q_cs, .long t5, .long t7, .ref q_zs, .long v_leftAbove, .long v_leftBelow, .long v_guessAbove, .long v_guessBelow, .int v_sign, .int v_power2, .long v_bits]))] H := hP
    have hD : va_D A [(q, .inr (11, [.ref q_w, .int v_known, .int v_kept, .int v_seed, .ref q_imageSeed, .ref q_bookOf, .ref q_bookAt, .ref q_bookIs, .int v_written, .ref q_rs, .ref q_cs, .long t5, .long t7, .ref q_zs, .long v_leftAbove, .long v_leftBelow, .long v_guessAbove, .long v_guessBelow, .int v_sign, .int v_power2, .long v_bits]))] := hD
    obtain ⟨rfl, rfl⟩ := ki2 hf
    rw [hQ]
    exact k_vret hat hP hS dX12_layFraction_39
  · have hf := kn_e hf c3
    refine lv_lload hx hb dX12_layFraction_13 (lv_at hl 0 rfl) ?_
    refine lv_lneg hx hb dX12_layFraction_15 ?_
    refine lv_goto (tgt := 21) hx hb dX12_layFraction_16 (by decide) ?_
    refine lv_topl (fun t8 et8 => ?_)
    have hf := kl_e hf t8 et8
    refine lv_lstore (lv' := [(5, .long t8), (0, .ref q), (1, .long x1), (3, .long x3)]) hx hb dX12_layFraction_21 hl (by decide) rfl (fun ls hl => ?_)
    refine lv_aload_n hx hb dX12_layFraction_23 rfl (lv_at hl 1 rfl) ?_
    refine lv_lload_n hx hb dX12_layFraction_24 rfl (lv_at hl 2 rfl) ?_
    refine lv_lload hx hb dX12_layFraction_25 (lv_at hl 0 rfl) ?_
    obtain ⟨c9, hf⟩ := kc_e hf
    refine lv_ldiv hx hb dX12_layFraction_27 c9 ?_
    refine lv_topl (fun t10 et10 => ?_)
    have hf := kl_e hf t10 et10
    refine va_put (D := D) (ci := 11) (v := .long t10) (ty := .long) (C := RX12) (T := TX12) (N := 21) hx hb hts kinX12 tyX12 tyX12_ok nmX12 hown hK hP hD hS 0 rfl rfl 11 (by decide) (hts _ kw855) (fun _ h9 => h9) rfl (by decide +kernel) rfl rfl (Nat.le_of_ble_eq_true rfl) dX12_layFraction_28 (fun H locs hP hD hS => ?_)
    have hP : va_P D vwCl [(q, .inr (11, [.ref q_w, .int v_known, .int v_kept, .int v_seed, .ref q_imageSeed, .ref q_bookOf, .ref q_bookAt, .ref q_bookIs, .int v_written, .ref q_rs, .ref q_cs, .long t10, .long v_below, .ref q_zs, .long v_leftAbove, .long v_leftBelow, .long v_guessAbove, .long v_guessBelow, .int v_sign, .int v_power2, .long v_bits]))] H := hP
    have hD : va_D A [(q, .inr (11, [.ref q_w, .int v_known, .int v_kept, .int v_seed, .ref q_imageSeed, .ref q_bookOf, .ref q_bookAt, .ref q_bookIs, .int v_written, .ref q_rs, .ref q_cs, .long t10, .long v_below, .ref q_zs, .long v_leftAbove, .long v_leftBelow, .long v_guessAbove, .long v_guessBelow, .int v_sign, .int v_power2, .long v_bits]))] := hD
    refine lv_aload_n hx hb dX12_layFraction_31 rfl (lv_at hl 1 rfl) ?_
    refine lv_lload_n hx hb dX12_layFraction_32 rfl (lv_at hl 3 rfl) ?_
    refine lv_lload hx hb dX12_layFraction_33 (lv_at hl 0 rfl) ?_
    obtain ⟨c11, hf⟩ := kc_e hf
    refine lv_ldiv hx hb dX12_layFraction_35 c11 ?_
    refine lv_topl (fun t12 et12 => ?_)
    have hf := kl_e hf t12 et12
    refine va_put (D := D) (ci := 11) (v := .long t12) (ty := .long) (C := RX12) (T := TX12) (N := 21) hx hb hts kinX12 tyX12 tyX12_ok nmX12 hown hK hP hD hS 0 rfl rfl 12 (by decide) (hts _ kw856) (fun _ h9 => h9) rfl (by decide +kernel) rfl rfl (Nat.le_of_ble_eq_true rfl) dX12_layFraction_36 (fun H locs hP hD hS => ?_)
    have hP : va_P D vwCl [(q, .inr (11, [.ref q_w, .int v_known, .int v_kept, .int v_seed, .ref q_imageSeed, .ref q_bookOf, .ref q_bookAt, .ref q_bookIs, .int v_written, .ref q_rs, .ref q_cs, .long t10, .long t12, .ref q_zs, .long v_leftAbove, .long v_leftBelow, .long v_guessAbove, .long v_guessBelow, .int v_sign, .int v_power2, .long v_bits]))] H := hP
    have hD : va_D A [(q, .inr (11, [.ref q_w, .int v_known, .int v_kept, .int v_seed, .ref q_imageSeed, .ref q_bookOf, .ref q_bookAt, .ref q_bookIs, .int v_written, .ref q_rs, .ref q_cs, .long t10, .long t12, .ref q_zs, .long v_leftAbove, .long v_leftBelow, .long v_guessAbove, .long v_guessBelow, .int v_sign, .int v_power2, .long v_bits]))] := hD
    obtain ⟨rfl, rfl⟩ := ki2 hf
    rw [hQ]
    exact k_vret hat hP hS dX12_layFraction_39
set_option maxHeartbeats 4000000 in
set_option maxRecDepth 100000 in
theorem c_X12_layShare {l : Launch} {D : va_G} {cI cJ cQ : ClassId} {tp : Nat} (q : Nat) (q_w : Nat) (q_imageSeed : Nat) (q_bookOf : Nat) (q_bookAt : Nat) (q_bookIs : Nat) (q_rs : Nat) (q_cs : Nat) (q_zs : Nat) (v_known : Int32) (v_kept : Int32) (v_seed : Int32) (v_written : Int32) (v_above : Int64) (v_below : Int64) (v_leftAbove : Int64) (v_leftBelow : Int64) (v_guessAbove : Int64) (v_guessBelow : Int64) (v_sign : Int32) (v_power2 : Int32) (v_bits : Int64) (v_w : (Nat → Int32)) (v_rs : (Nat → Int32)) (v_cs : (Nat → Int32)) (F : Nat) (x1 : Int32) (x2 : Int32) (o_v_above : Int64) (o_v_below : Int64) (o_v_rs : (Nat → Int32)) (o_v_cs : (Nat → Int32)) (hf : f_X12_layShare F v_above v_below v_w v_rs v_cs x1 x2 = some (o_v_above, o_v_below, o_v_rs, o_v_cs)) : kM (fun A => kQv D A [(q, .inr (11, [.ref q_w, .int v_known, .int v_kept, .int v_seed, .ref q_imageSeed, .ref q_bookOf, .ref q_bookAt, .ref q_bookIs, .int v_written, .ref q_rs, .ref q_cs, .long o_v_above, .long o_v_below, .ref q_zs, .long v_leftAbove, .long v_leftBelow, .long v_guessAbove, .long v_guessBelow, .int v_sign, .int v_power2, .long v_bits])), (q_w, .inl (cI, 418, .inl v_w)), (q_rs, .inl (cI, 4, .inl o_v_rs)), (q_cs, .inl (cI, 4, .inl o_v_cs))]) none l yX12_layShare cX12_layShare 9 { frames := 8, cells := 0, slots := 0, locals := 186 } D cI cJ cQ tp [.ref q, .int x1, .int x2] [(q, .inr (11, [.ref q_w, .int v_known, .int v_kept, .int v_seed, .ref q_imageSeed, .ref q_bookOf, .ref q_bookAt, .ref q_bookIs, .int v_written, .ref q_rs, .ref q_cs, .long v_above, .long v_below, .ref q_zs, .long v_leftAbove, .long v_leftBelow, .long v_guessAbove, .long v_guessBelow, .int v_sign, .int v_power2, .long v_bits])), (q_w, .inl (cI, 418, .inl v_w)), (q_rs, .inl (cI, 4, .inl v_rs)), (q_cs, .inl (cI, 4, .inl v_cs))] := by
  refine kM_of (by decide +kernel) (Nat.le_of_ble_eq_true rfl) ?_
  intro p e s m args below meth c A ls R Q hR hQ hat hP hD hS hl
  obtain ⟨hx, hb, hr, hml, hown, hts, hT, hlk, hK, hA, hZ⟩ := id hat
  have hown : s.vm.findClass RX12 = some m.cls := hown
  have hl : lv_has ls 9 [(0, .ref q), (1, .int x1), (2, .int x2)] := hl
  have hL31 : ∀ (x1 : Int32) (x2 : Int32) (x3 : Int32) (x4 : Int32) (x5 : Int64) (x7 : Int32) (v_known : Int32) (v_kept : Int32) (v_seed : Int32) (v_written : Int32) (v_above : Int64) (v_below : Int64) (v_leftAbove : Int64) (v_leftBelow : Int64) (v_guessAbove : Int64) (v_guessBelow : Int64) (v_sign : Int32) (v_power2 : Int32) (v_bits : Int64) (v_w : (Nat → Int32)) (fu : Nat) (x8 : Int32) (v_rs : (Nat → Int32)) (v_cs : (Nat → Int32)) (o0 : (Nat → Int32)) (o1 : (Nat → Int32)), L_X12_layShare_31 F x1 x2 x3 x4 x5 x7 fu x8 v_rs v_cs = some (o0, o1) → (∀ (H : Heap) (locs : List Loc) (ls : Array Slot), va_P D vwCl [(q, .inr (11, [.ref q_w, .int v_known, .int v_kept, .int v_seed, .ref q_imageSeed, .ref q_bookOf, .ref q_bookAt, .ref q_bookIs, .int v_written, .ref q_rs, .ref q_cs, .long v_above, .long v_below, .ref q_zs, .long v_leftAbove, .long v_leftBelow, .long v_guessAbove, .long v_guessBelow, .int v_sign, .int v_power2, .long v_bits])), (q_w, .inl (cI, 418, .inl v_w)), (q_rs, .inl (cI, 4, .inl o0)), (q_cs, .inl (cI, 4, .inl o1))] H → va_D A [(q, .inr (11, [.ref q_w, .int v_known, .int v_kept, .int v_seed, .ref q_imageSeed, .ref q_bookOf, .ref q_bookAt, .ref q_bookIs, .int v_written, .ref q_rs, .ref q_cs, .long v_above, .long v_below, .ref q_zs, .long v_leftAbove, .long v_leftBelow, .long v_guessAbove, .long v_guessBelow, .int v_sign, .int v_power2, .long v_bits])), (q_w, .inl (cI, 418, .inl v_w)), (q_rs, .inl (cI, 4, .inl o0)), (q_cs, .inl (cI, 4, .inl o1))] → va_S A s.heap H locs → lv_has ls 9 [(0, .ref q), (5, .long x5), (7, .int x7)] → W p l e R s m args below meth c H locs 0 0 Q (F0 m 81 ls [])) → ∀ (H : Heap) (locs : List Loc) (ls : Array Slot), va_P D vwCl [(q, .inr (11, [.ref q_w, .int v_known, .int v_kept, .int v_seed, .ref q_imageSeed, .ref q_bookOf, .ref q_bookAt, .ref q_bookIs, .int v_written, .ref q_rs, .ref q_cs, .long v_above, .long v_below, .ref q_zs, .long v_leftAbove, .long v_leftBelow, .long v_guessAbove, .long v_guessBelow, .int v_sign, .int v_power2, .long v_bits])), (q_w, .inl (cI, 418, .inl v_w)), (q_rs, .inl (cI, 4, .inl v_rs)), (q_cs, .inl (cI, 4, .inl v_cs))] H → va_D A [(q, .inr (11, [.ref q_w, .int v_known, .int v_kept, .int v_seed, .ref q_imageSeed, .ref q_bookOf, .ref q_bookAt, .ref q_bookIs, .int v_written, .ref q_rs, .ref q_cs, .long v_above, .long v_below, .ref q_zs, .long v_leftAbove, .long v_leftBelow, .long v_guessAbove, .long v_guessBelow, .int v_sign, .int v_power2, .long v_bits])), (q_w, .inl (cI, 418, .inl v_w)), (q_rs, .inl (cI, 4, .inl v_rs)), (q_cs, .inl (cI, 4, .inl v_cs))] → va_S A s.heap H locs → lv_has ls 9 [(0, .ref q), (1, .int x1), (2, .int x2), (3, .int x3), (4, .int x4), (5, .long x5), (7, .int x7), (8, .int x8)] → W p l e R s m args below meth c H locs 0 0 Q (F0 m 31 ls []) := by
    intro x1 x2 x3 x4 x5 x7 v_known v_kept v_seed v_written v_above v_below v_leftAbove v_leftBelow v_guessAbove v_guessBelow v_sign v_power2 v_bits v_w fu
    induction fu with
    | zero =>
      intro x8 v_rs v_cs o0 o1 hf
      cases hf
    | succ fu ih =>
      intro x8 v_rs v_cs o0 o1 hf hk0 H locs ls hP hD hS hl
      rw [L_X12_layShare_31] at hf
      refine lv_iload hx hb dX12_layShare_31 (lv_at hl 7 rfl) ?_
      refine lv_iload hx hb dX12_layShare_33 (lv_at hl 6 rfl) ?_
      refine lv_icmp_ge (tgt := 81) hx hb dX12_layShare_35 (by decide) (fun c15 => ?_) (fun c15 => ?_)
      · have hf := kp_e hf c15
        obtain ⟨rfl, rfl⟩ := ki2 hf
        exact hk0 _ _ _ hP hD hS (lv_sub hl [0, 5, 6] rfl)
      · have hf := kn_e hf c15
        refine lv_aload_n hx hb dX12_layShare_38 rfl (lv_at hl 0 rfl) ?_
        refine va_get (D := D) (ci := 11) (v := .ref q_rs) (C := RX12) (T := TX12) (N := 21) hx hb hts kinX12 hown hK hP 0 rfl rfl 9 (by decide) (hts _ kw853) (fun _ h9 => h9) rfl dX12_layShare_39 ?_
        refine lv_iload hx hb dX12_layShare_42 (lv_at hl 7 rfl) ?_
        refine lv_iload hx hb dX12_layShare_44 (lv_at hl 4 rfl) ?_
        refine lv_iload hx hb dX12_layShare_46 (lv_at hl 7 rfl) ?_
        obtain ⟨r16, h17, hf⟩ := kb1_e hf
        refine k_gi (nW := 4) (ws' := [(q, .inr (11, [.ref q_w, .int v_known, .int v_kept, .int v_seed, .ref q_imageSeed, .ref q_bookOf, .ref q_bookAt, .ref q_bookIs, .int v_written, .ref q_rs, .ref q_cs, .long v_above, .long v_below, .ref q_zs, .long v_leftAbove, .long v_leftBelow, .long v_guessAbove, .long v_guessBelow, .int v_sign, .int v_power2, .long v_bits])), (q_w, .inl (cI, 418, .inl v_w)), (q_rs, .inl (cI, 4, .inl v_rs)), (q_cs, .inl (cI, 4, .inl v_cs))]) (wr := [(q, .inr (11, [.ref q_w, .int v_known, .int v_kept, .int v_seed, .ref q_imageSeed, .ref q_bookOf, .ref q_bookAt, .ref q_bookIs, .int v_written, .ref q_rs, .ref q_cs, .long v_above, .long v_below, .ref q_zs, .long v_leftAbove, .long v_leftBelow, .long v_guessAbove, .long v_guessBelow, .int v_sign, .int v_power2, .long v_bits])), (q_w, .inl (cI, 418, .inl v_w)), (q_rs, .inl (cI, 4, .inl v_rs)), (q_cs, .inl (cI, 4, .inl v_cs))]) (k_runS (rest := [.int x8, .ref q_rs]) hat hP hD hS hl.1 (c_X12_pick F x4 x8 r16 h17) [] (by decide) rfl kw938 kw939 kw79 kw940 kdX12_pick ⟨rfl, rfl⟩ (by rw [hR]; exact ⟨Nat.le_of_ble_eq_true rfl, Nat.le_of_ble_eq_true rfl⟩) ⟨Nat.zero_le _, Nat.zero_le _⟩ rfl rfl (Nat.le_of_ble_eq_true rfl) dX12_layShare_48) hat hP hD hS [] rfl [0, 1, 2, 3] rfl rfl rfl rfl rfl (by decide) (fun H locs hP hD hS => ?_)
        obtain ⟨c18, hf⟩ := kc_e hf
        refine va_iast hx hb hK hP hD hS 2 0 rfl rfl (kin_e c18) dX12_layShare_51 (fun H locs hP hD hS => ?_)
        generalize ew19 : (upd v_rs x8.toNatClampNeg r16) = w19 at hP hD
        have hf := kl_e hf w19 ew19.symm
        have hP : va_P D vwCl [(q, .inr (11, [.ref q_w, .int v_known, .int v_kept, .int v_seed, .ref q_imageSeed, .ref q_bookOf, .ref q_bookAt, .ref q_bookIs, .int v_written, .ref q_rs, .ref q_cs, .long v_above, .long v_below, .ref q_zs, .long v_leftAbove, .long v_leftBelow, .long v_guessAbove, .long v_guessBelow, .int v_sign, .int v_power2, .long v_bits])), (q_w, .inl (cI, 418, .inl v_w)), (q_rs, .inl (cI, 4, .inl w19)), (q_cs, .inl (cI, 4, .inl v_cs))] H := hP
        have hD : va_D A [(q, .inr (11, [.ref q_w, .int v_known, .int v_kept, .int v_seed, .ref q_imageSeed, .ref q_bookOf, .ref q_bookAt, .ref q_bookIs, .int v_written, .ref q_rs, .ref q_cs, .long v_above, .long v_below, .ref q_zs, .long v_leftAbove, .long v_leftBelow, .long v_guessAbove, .long v_guessBelow, .int v_sign, .int v_power2, .long v_bits])), (q_w, .inl (cI, 418, .inl v_w)), (q_rs, .inl (cI, 4, .inl w19)), (q_cs, .inl (cI, 4, .inl v_cs))] := hD
        refine lv_aload_n hx hb dX12_layShare_52 rfl (lv_at hl 0 rfl) ?_
        refine va_get (D := D) (ci := 11) (v := .ref q_cs) (C := RX12) (T := TX12) (N := 21) hx hb hts kinX12 hown hK hP 0 rfl rfl 10 (by decide) (hts _ kw854) (fun _ h9 => h9) rfl dX12_layShare_53 ?_
        refine lv_iload hx hb dX12_layShare_56 (lv_at hl 7 rfl) ?_
        refine lv_iload hx hb dX12_layShare_58 (lv_at hl 7 rfl) ?_
        refine lv_iload_n hx hb dX12_layShare_60 rfl (lv_at hl 1 rfl) ?_
        refine lv_icmp_ne (tgt := 68) hx hb dX12_layShare_61 (by decide) (fun c20 => ?_) (fun c20 => ?_)
        · have hf := kn_e hf c20
          refine lv_iload_n hx hb dX12_layShare_68 rfl (lv_at hl 3 rfl) ?_
          refine lv_iload hx hb dX12_layShare_69 (lv_at hl 7 rfl) ?_
          obtain ⟨r21, h22, hf⟩ := kb1_e hf
          refine k_gi (nW := 4) (ws' := [(q, .inr (11, [.ref q_w, .int v_known, .int v_kept, .int v_seed, .ref q_imageSeed, .ref q_bookOf, .ref q_bookAt, .ref q_bookIs, .int v_written, .ref q_rs, .ref q_cs, .long v_above, .long v_below, .ref q_zs, .long v_leftAbove, .long v_leftBelow, .long v_guessAbove, .long v_guessBelow, .int v_sign, .int v_power2, .long v_bits])), (q_w, .inl (cI, 418, .inl v_w)), (q_rs, .inl (cI, 4, .inl w19)), (q_cs, .inl (cI, 4, .inl v_cs))]) (wr := [(q, .inr (11, [.ref q_w, .int v_known, .int v_kept, .int v_seed, .ref q_imageSeed, .ref q_bookOf, .ref q_bookAt, .ref q_bookIs, .int v_written, .ref q_rs, .ref q_cs, .long v_above, .long v_below, .ref q_zs, .long v_leftAbove, .long v_leftBelow, .long v_guessAbove, .long v_guessBelow, .int v_sign, .int v_power2, .long v_bits])), (q_w, .inl (cI, 418, .inl v_w)), (q_rs, .inl (cI, 4, .inl w19)), (q_cs, .inl (cI, 4, .inl v_cs))]) (k_runS (rest := [.int x8, .ref q_cs]) hat hP hD hS hl.1 (c_X12_pick F x3 x8 r21 h22) [] (by decide) rfl kw938 kw939 kw79 kw940 kdX12_pick ⟨rfl, rfl⟩ (by rw [hR]; exact ⟨Nat.le_of_ble_eq_true rfl, Nat.le_of_ble_eq_true rfl⟩) ⟨Nat.zero_le _, Nat.zero_le _⟩ rfl rfl (Nat.le_of_ble_eq_true rfl) dX12_layShare_71) hat hP hD hS [] rfl [0, 1, 2, 3] rfl rfl rfl rfl rfl (by decide) (fun H locs hP hD hS => ?_)
          obtain ⟨c23, hf⟩ := kc_e hf
          refine va_iast hx hb hK hP hD hS 3 0 rfl rfl (kin_e c23) dX12_layShare_74 (fun H locs hP hD hS => ?_)
          generalize ew24 : (upd v_cs x8.toNatClampNeg r21) = w24 at hP hD
          have hf := kl_e hf w24 ew24.symm
          have hP : va_P D vwCl [(q, .inr (11, [.ref q_w, .int v_known, .int v_kept, .int v_seed, .ref q_imageSeed, .ref q_bookOf, .ref q_bookAt, .ref q_bookIs, .int v_written, .ref q_rs, .ref q_cs, .long v_above, .long v_below, .ref q_zs, .long v_leftAbove, .long v_leftBelow, .long v_guessAbove, .long v_guessBelow, .int v_sign, .int v_power2, .long v_bits])), (q_w, .inl (cI, 418, .inl v_w)), (q_rs, .inl (cI, 4, .inl w19)), (q_cs, .inl (cI, 4, .inl w24))] H := hP
          have hD : va_D A [(q, .inr (11, [.ref q_w, .int v_known, .int v_kept, .int v_seed, .ref q_imageSeed, .ref q_bookOf, .ref q_bookAt, .ref q_bookIs, .int v_written, .ref q_rs, .ref q_cs, .long v_above, .long v_below, .ref q_zs, .long v_leftAbove, .long v_leftBelow, .long v_guessAbove, .long v_guessBelow, .int v_sign, .int v_power2, .long v_bits])), (q_w, .inl (cI, 418, .inl v_w)), (q_rs, .inl (cI, 4, .inl w19)), (q_cs, .inl (cI, 4, .inl w24))] := hD
          obtain ⟨t25, et25⟩ : ∃ z : Int32, z = (x8 + (1 : Int32)) := ⟨_, rfl⟩
          have hf := kl_e hf t25 et25
          refine lv_iinc (v := t25) (lv' := [(8, .int t25), (0, .ref q), (1, .int x1), (2, .int x2), (3, .int x3), (4, .int x4), (5, .long x5), (7, .int x7)]) hx hb dX12_layShare_75 hl (k := 7) rfl (by rw [et25]; rfl) (by decide) rfl (fun ls hl => ?_)
          refine lv_goto (tgt := 31) hx hb dX12_layShare_78 (by decide) ?_
          exact ih t25 w19 w24 o0 o1 hf hk0 _ _ _ hP hD hS (lv_sub hl [1, 2, 3, 4, 5, 6, 7, 0] rfl)
        · have hf := kp_e hf c20
          refine lv_iload_n hx hb dX12_layShare_64 rfl (lv_at hl 2 rfl) ?_
          refine lv_goto (tgt := 74) hx hb dX12_layShare_65 (by decide) ?_
          obtain ⟨c26, hf⟩ := kc_e hf
          refine va_iast hx hb hK hP hD hS 3 0 rfl rfl (kin_e c26) dX12_layShare_74 (fun H locs hP hD hS => ?_)
          generalize ew27 : (upd v_cs x8.toNatClampNeg x2) = w27 at hP hD
          have hf := kl_e hf w27 ew27.symm
          have hP : va_P D vwCl [(q, .inr (11, [.ref q_w, .int v_known, .int v_kept, .int v_seed, .ref q_imageSeed, .ref q_bookOf, .ref q_bookAt, .ref q_bookIs, .int v_written, .ref q_rs, .ref q_cs, .long v_above, .long v_below, .ref q_zs, .long v_leftAbove, .long v_leftBelow, .long v_guessAbove, .long v_guessBelow, .int v_sign, .int v_power2, .long v_bits])), (q_w, .inl (cI, 418, .inl v_w)), (q_rs, .inl (cI, 4, .inl w19)), (q_cs, .inl (cI, 4, .inl w27))] H := hP
          have hD : va_D A [(q, .inr (11, [.ref q_w, .int v_known, .int v_kept, .int v_seed, .ref q_imageSeed, .ref q_bookOf, .ref q_bookAt, .ref q_bookIs, .int v_written, .ref q_rs, .ref q_cs, .long v_above, .long v_below, .ref q_zs, .long v_leftAbove, .long v_leftBelow, .long v_guessAbove, .long v_guessBelow, .int v_sign, .int v_power2, .long v_bits])), (q_w, .inl (cI, 418, .inl v_w)), (q_rs, .inl (cI, 4, .inl w19)), (q_cs, .inl (cI, 4, .inl w27))] := hD
          obtain ⟨t28, et28⟩ : ∃ z : Int32, z = (x8 + (1 : Int32)) := ⟨_, rfl⟩
          have hf := kl_e hf t28 et28
          refine lv_iinc (v := t28) (lv' := [(8, .int t28), (0, .ref q), (1, .int x1), (2, .int x2), (3, .int x3), (4, .int x4), (5, .long x5), (7, .int x7)]) hx hb dX12_layShare_75 hl (k := 7) rfl (by rw [et28]; rfl) (by decide) rfl (fun ls hl => ?_)
          refine lv_goto (tgt := 31) hx hb dX12_layShare_78 (by decide) ?_
          exact ih t28 w19 w27 o0 o1 hf hk0 _ _ _ hP hD hS (lv_sub hl [1, 2, 3, 4, 5, 6, 7, 0] rfl)
  unfold f_X12_layShare at hf
  refine lv_aload_n hx hb dX12_layShare_0 rfl (lv_at hl 0 rfl) ?_
  obtain ⟨r1, w2, w3, h4, hf⟩ := kb3_e hf
  refine k_gi (nW := 4) (ws' := [(q, .inr (11, [.ref q_w, .int v_known, .int v_kept, .int v_seed, .ref q_imageSeed, .ref q_bookOf, .ref q_bookAt, .ref q_bookIs, .int v_written, .ref q_rs, .ref q_cs, .long v_above, .long v_below, .ref q_zs, .long v_leftAbove, .long v_leftBelow, .long v_guessAbove, .long v_guessBelow, .int v_sign, .int v_power2, .long v_bits])), (q_w, .inl (cI, 418, .inl v_w)), (q_rs, .inl (cI, 4, .inl w2)), (q_cs, .inl (cI, 4, .inl w3))]) (wr := []) (k_runV (rest := []) hat hP hD hS hl.1 (c_X12_leading q q_w q_imageSeed q_bookOf q_bookAt q_bookIs q_rs q_cs q_zs v_known v_kept v_seed v_written v_above v_below v_leftAbove v_leftBelow v_guessAbove v_guessBelow v_sign v_power2 v_bits v_w v_rs v_cs F r1 w2 w3 h4) [0, 1, 2, 3] (by decide) rfl kw981 kw983 kw33 kw79 kw984 kdVX12_leading ⟨rfl, rfl⟩ (by rw [hR]; exact ⟨Nat.le_of_ble_eq_true rfl, Nat.le_of_ble_eq_true rfl⟩) ⟨Nat.zero_le _, Nat.zero_le _⟩ 0 11 rfl rfl rfl rfl (Nat.le_of_ble_eq_true rfl) dX12_layShare_1) hat hP hD hS [0, 1, 2, 3] rfl [] rfl rfl rfl rfl rfl (by decide) (fun H locs hP hD hS => ?_)
  refine lv_istore_n (lv' := [(3, .int r1), (0, .ref q), (1, .int x1), (2, .int x2)]) hx hb dX12_layShare_4 rfl hl (by decide) rfl (fun ls hl => ?_)
  refine lv_aload_n hx hb dX12_layShare_5 rfl (lv_at hl 1 rfl) ?_
  refine lv_iload_n hx hb dX12_layShare_6 rfl (lv_at hl 0 rfl) ?_
  obtain ⟨r5, w6, w7, h8, hf⟩ := kb3_e hf
  refine k_gi (nW := 4) (ws' := [(q, .inr (11, [.ref q_w, .int v_known, .int v_kept, .int v_seed, .ref q_imageSeed, .ref q_bookOf, .ref q_bookAt, .ref q_bookIs, .int v_written, .ref q_rs, .ref q_cs, .long v_above, .long v_below, .ref q_zs, .long v_leftAbove, .long v_leftBelow, .long v_guessAbove, .long v_guessBelow, .int v_sign, .int v_power2, .long v_bits])), (q_w, .inl (cI, 418, .inl v_w)), (q_rs, .inl (cI, 4, .inl w6)), (q_cs, .inl (cI, 4, .inl w7))]) (wr := []) (k_runV (rest := []) hat hP hD hS hl.1 (c_X12_rowsFor q q_w q_imageSeed q_bookOf q_bookAt q_bookIs q_rs q_cs q_zs v_known v_kept v_seed v_written v_above v_below v_leftAbove v_leftBelow v_guessAbove v_guessBelow v_sign v_power2 v_bits v_w w2 w3 F r1 r5 w6 w7 h8) [0, 1, 2, 3] (by decide) rfl kw993 kw995 kw36 kw79 kw996 kdVX12_rowsFor ⟨rfl, rfl⟩ (by rw [hR]; exact ⟨Nat.le_of_ble_eq_true rfl, Nat.le_of_ble_eq_true rfl⟩) ⟨Nat.zero_le _, Nat.zero_le _⟩ 0 11 rfl rfl rfl rfl (Nat.le_of_ble_eq_true rfl) dX12_layShare_7) hat hP hD hS [0, 1, 2, 3] rfl [] rfl rfl rfl rfl rfl (by decide) (fun H locs hP hD hS => ?_)
  refine lv_istore (lv' := [(4, .int r5), (3, .int r1), (0, .ref q), (1, .int x1), (2, .int x2)]) hx hb dX12_layShare_10 hl (by decide) rfl (fun ls hl => ?_)
  refine lv_aload_n hx hb dX12_layShare_12 rfl (lv_at hl 2 rfl) ?_
  refine lv_iload hx hb dX12_layShare_13 (lv_at hl 0 rfl) ?_
  refine lv_iload_n hx hb dX12_layShare_15 rfl (lv_at hl 1 rfl) ?_
  obtain ⟨r9, w10, w11, h12, hf⟩ := kb3_e hf
  refine k_gl (nW := 4) (ws' := [(q, .inr (11, [.ref q_w, .int v_known, .int v_kept, .int v_seed, .ref q_imageSeed, .ref q_bookOf, .ref q_bookAt, .ref q_bookIs, .int v_written, .ref q_rs, .ref q_cs, .long v_above, .long v_below, .ref q_zs, .long v_leftAbove, .long v_leftBelow, .long v_guessAbove, .long v_guessBelow, .int v_sign, .int v_power2, .long v_bits])), (q_w, .inl (cI, 418, .inl v_w)), (q_rs, .inl (cI, 4, .inl w10)), (q_cs, .inl (cI, 4, .inl w11))]) (wr := []) (k_runV (rest := []) hat hP hD hS hl.1 (c_X12_minor q q_w q_imageSeed q_bookOf q_bookAt q_bookIs q_rs q_cs q_zs v_known v_kept v_seed v_written v_above v_below v_leftAbove v_leftBelow v_guessAbove v_guessBelow v_sign v_power2 v_bits v_w w6 w7 F r5 r1 r9 w10 w11 h12) [0, 1, 2, 3] (by decide) rfl kw931 kw933 kw23 kw79 kw934 kdVX12_minor ⟨rfl, rfl⟩ (by rw [hR]; exact ⟨Nat.le_of_ble_eq_true rfl, Nat.le_of_ble_eq_true rfl⟩) ⟨Nat.zero_le _, Nat.zero_le _⟩ 0 11 rfl rfl rfl rfl (Nat.le_of_ble_eq_true rfl) dX12_layShare_16) hat hP hD hS [0, 1, 2, 3] rfl [] rfl rfl rfl rfl rfl (by decide) (fun H locs hP hD hS => ?_)
  refine lv_lstore (lv' := [(5, .long r9), (4, .int r5), (3, .int r1), (0, .ref q), (1, .int x1), (2, .int x2)]) hx hb dX12_layShare_19 hl (by decide) rfl (fun ls hl => ?_)
  refine lv_iload hx hb dX12_layShare_21 (lv_at hl 1 rfl) ?_
  obtain ⟨r13, h14, hf⟩ := kb1_e hf
  refine k_gi (nW := 4) (ws' := [(q, .inr (11, [.ref q_w, .int v_known, .int v_kept, .int v_seed, .ref q_imageSeed, .ref q_bookOf, .ref q_bookAt, .ref q_bookIs, .int v_written, .ref q_rs, .ref q_cs, .long v_above, .long v_below, .ref q_zs, .long v_leftAbove, .long v_leftBelow, .long v_guessAbove, .long v_guessBelow, .int v_sign, .int v_power2, .long v_bits])), (q_w, .inl (cI, 418, .inl v_w)), (q_rs, .inl (cI, 4, .inl w10)), (q_cs, .inl (cI, 4, .inl w11))]) (wr := [(q, .inr (11, [.ref q_w, .int v_known, .int v_kept, .int v_seed, .ref q_imageSeed, .ref q_bookOf, .ref q_bookAt, .ref q_bookIs, .int v_written, .ref q_rs, .ref q_cs, .long v_above, .long v_below, .ref q_zs, .long v_leftAbove, .long v_leftBelow, .long v_guessAbove, .long v_guessBelow, .int v_sign, .int v_power2, .long v_bits])), (q_w, .inl (cI, 418, .inl v_w)), (q_rs, .inl (cI, 4, .inl w10)), (q_cs, .inl (cI, 4, .inl w11))]) (k_runS (rest := []) hat hP hD hS hl.1 (c_X12_ones r5 r13 h14) [] (by decide) rfl kw935 kw936 kw79 kw937 kdX12_ones ⟨rfl, rfl⟩ (by rw [hR]; exact ⟨Nat.le_of_ble_eq_true rfl, Nat.le_of_ble_eq_true rfl⟩) ⟨Nat.zero_le _, Nat.zero_le _⟩ rfl rfl (Nat.le_of_ble_eq_true rfl) dX12_layShare_23) hat hP hD hS [] rfl [0, 1, 2, 3] rfl rfl rfl rfl rfl (by decide) (fun H locs hP hD hS => ?_)
  refine lv_istore (lv' := [(7, .int r13), (5, .long r9), (4, .int r5), (3, .int r1), (0, .ref q), (1, .int x1), (2, .int x2)]) hx hb dX12_layShare_26 hl (by decide) rfl (fun ls hl => ?_)
  refine lv_iconst (v := 0) hx hb dX12_layShare_28 (by decide) ?_
  refine lv_istore (lv' := [(8, .int (0 : Int32)), (7, .int r13), (5, .long r9), (4, .int r5), (3, .int r1), (0, .ref q), (1, .int x1), (2, .int x2)]) hx hb dX12_layShare_29 hl (by decide) rfl (fun ls hl => ?_)
  obtain ⟨w29, w30, hu, hf⟩ := kb2_e hf
  refine hL31 x1 x2 r1 r5 r9 r13 v_known v_kept v_seed v_written v_above v_below v_leftAbove v_leftBelow v_guessAbove v_guessBelow v_sign v_power2 v_bits v_w F (0 : Int32) w10 w11 w29 w30 hu (fun H locs ls hP hD hS hl => ?_) _ _ _ hP hD hS (lv_sub hl [5, 6, 7, 4, 3, 2, 1, 0] rfl)
  refine lv_aload_n hx hb dX12_layShare_81 rfl (lv_at hl 0 rfl) ?_
  refine lv_aload_n hx hb dX12_layShare_82 rfl (lv_at hl 0 rfl) ?_
  refine lv_iload hx hb dX12_layShare_83 (lv_at hl 2 rfl) ?_
  obtain ⟨r31, h32, hf⟩ := kb1_e hf
  refine k_gl (nW := 4) (ws' := [(q, .inr (11, [.ref q_w, .int v_known, .int v_kept, .int v_seed, .ref q_imageSeed, .ref q_bookOf, .ref q_bookAt, .ref q_bookIs, .int v_written, .ref q_rs, .ref q_cs, .long v_above, .long v_below, .ref q_zs, .long v_leftAbove, .long v_leftBelow, .long v_guessAbove, .long v_guessBelow, .int v_sign, .int v_power2, .long v_bits])), (q_w, .inl (cI, 418, .inl v_w)), (q_rs, .inl (cI, 4, .inl w29)), (q_cs, .inl (cI, 4, .inl w30))]) (wr := []) (k_runV (rest := [.ref q]) hat hP hD hS hl.1 (c_X12_det q q_w q_imageSeed q_bookOf q_bookAt q_bookIs q_rs q_cs q_zs v_known v_kept v_seed v_written v_above v_below v_leftAbove v_leftBelow v_guessAbove v_guessBelow v_sign v_power2 v_bits v_w w29 w30 r13 r31 h32) [0, 1, 2, 3] (by decide) rfl kw944 kw946 kw24 kw79 kw947 kdVX12_det ⟨rfl, rfl⟩ (by rw [hR]; exact ⟨Nat.le_of_ble_eq_true rfl, Nat.le_of_ble_eq_true rfl⟩) ⟨Nat.zero_le _, Nat.zero_le _⟩ 0 11 rfl rfl rfl rfl (Nat.le_of_ble_eq_true rfl) dX12_layShare_85) hat hP hD hS [0, 1, 2, 3] rfl [] rfl rfl rfl rfl rfl (by decide) (fun H locs hP hD hS => ?_)
  refine lv_lload hx hb dX12_layShare_88 (lv_at hl 1 rfl) ?_
  obtain ⟨w33, w34, h35, hf⟩ := kb2_e hf
  refine k_gv (nW := 4) (ws' := [(q, .inr (11, [.ref q_w, .int v_known, .int v_kept, .int v_seed, .ref q_imageSeed, .ref q_bookOf, .ref q_bookAt, .ref q_bookIs, .int v_written, .ref q_rs, .ref q_cs, .long w33, .long w34, .ref q_zs, .long v_leftAbove, .long v_leftBelow, .long v_guessAbove, .long v_guessBelow, .int v_sign, .int v_power2, .long v_bits])), (q_w, .inl (cI, 418, .inl v_w)), (q_rs, .inl (cI, 4, .inl w29)), (q_cs, .inl (cI, 4, .inl w30))]) (wr := [(q_w, .inl (cI, 418, .inl v_w)), (q_rs, .inl (cI, 4, .inl w29)), (q_cs, .inl (cI, 4, .inl w30))]) (k_runV (rest := []) hat hP hD hS hl.1 (c_X12_layFraction q q_w q_imageSeed q_bookOf q_bookAt q_bookIs q_rs q_cs q_zs v_known v_kept v_seed v_written v_above v_below v_leftAbove v_leftBelow v_guessAbove v_guessBelow v_sign v_power2 v_bits F r31 r9 w33 w34 h35) [0] (by decide) rfl kw997 kw999 kw37 kw79 kw1000 kdVX12_layFraction ⟨rfl, rfl⟩ (by rw [hR]; exact ⟨Nat.le_of_ble_eq_true rfl, Nat.le_of_ble_eq_true rfl⟩) ⟨Nat.zero_le _, Nat.zero_le _⟩ 0 11 rfl rfl rfl rfl (Nat.le_of_ble_eq_true rfl) dX12_layShare_90) hat hP hD hS [0] rfl [1, 2, 3] rfl rfl rfl rfl rfl (by decide) (fun H locs hP hD hS => ?_)
  obtain ⟨rfl, rfl, rfl, rfl⟩ := ki4 hf
  rw [hQ]
  exact k_vret hat hP hS dX12_layShare_93
set_option maxHeartbeats 4000000 in
set_option maxRecDepth 100000 in
theorem c_X12_broken {l : Launch} {D : va_G} {cI cJ cQ : ClassId} {tp : Nat} (q : Nat) (q_w : Nat) (q_imageSeed : Nat) (q_bookOf : Nat) (q_bookAt : Nat) (q_bookIs : Nat) (q_rs : Nat) (q_cs : Nat) (q_zs : Nat) (v_known : Int32) (v_kept : Int32) (v_seed : Int32) (v_written : Int32) (v_above : Int64) (v_below : Int64) (v_leftAbove : Int64) (v_leftBelow : Int64) (v_guessAbove : Int64) (v_guessBelow : Int64) (v_sign : Int32) (v_power2 : Int32) (v_bits : Int64) (v_w : (Nat → Int32)) (v_rs : (Nat → Int32)) (v_cs : (Nat → Int32)) (F : Nat) (r0 : Int32) (o_v_above : Int64) (o_v_below : Int64) (o_v_rs : (Nat → Int32)) (o_v_cs : (Nat → Int32)) (hf : f_X12_broken F v_above v_below v_w v_rs v_cs = some (r0, o_v_above, o_v_below, o_v_rs, o_v_cs)) : kM (fun A => kQi D A [(q, .inr (11, [.ref q_w, .int v_known, .int v_kept, .int v_seed, .ref q_imageSeed, .ref q_bookOf, .ref q_bookAt, .ref q_bookIs, .int v_written, .ref q_rs, .ref q_cs, .long o_v_above, .long o_v_below, .ref q_zs, .long v_leftAbove, .long v_leftBelow, .long v_guessAbove, .long v_guessBelow, .int v_sign, .int v_power2, .long v_bits])), (q_w, .inl (cI, 418, .inl v_w)), (q_rs, .inl (cI, 4, .inl o_v_rs)), (q_cs, .inl (cI, 4, .inl o_v_cs))] r0) (some .int) l yX12_broken cX12_broken 5 { frames := 9, cells := 0, slots := 0, locals := 214 } D cI cJ cQ tp [.ref q] [(q, .inr (11, [.ref q_w, .int v_known, .int v_kept, .int v_seed, .ref q_imageSeed, .ref q_bookOf, .ref q_bookAt, .ref q_bookIs, .int v_written, .ref q_rs, .ref q_cs, .long v_above, .long v_below, .ref q_zs, .long v_leftAbove, .long v_leftBelow, .long v_guessAbove, .long v_guessBelow, .int v_sign, .int v_power2, .long v_bits])), (q_w, .inl (cI, 418, .inl v_w)), (q_rs, .inl (cI, 4, .inl v_rs)), (q_cs, .inl (cI, 4, .inl v_cs))] := by
  refine kM_of (by decide +kernel) (Nat.le_of_ble_eq_true rfl) ?_
  intro p e s m args below meth c A ls R Q hR hQ hat hP hD hS hl
  obtain ⟨hx, hb, hr, hml, hown, hts, hT, hlk, hK, hA, hZ⟩ := id hat
  have hown : s.vm.findClass RX12 = some m.cls := hown
  have hl : lv_has ls 5 [(0, .ref q)] := hl
  have hL17 : ∀ (x1 : Int32) (x2 : Int32) (v_known : Int32) (v_kept : Int32) (v_seed : Int32) (v_written : Int32) (v_leftAbove : Int64) (v_leftBelow : Int64) (v_guessAbove : Int64) (v_guessBelow : Int64) (v_sign : Int32) (v_power2 : Int32) (v_bits : Int64) (v_w : (Nat → Int32)) (fu : Nat) (x3 : Int32) (x4 : Int32) (v_above : Int64) (v_below : Int64) (v_rs : (Nat → Int32)) (v_cs : (Nat → Int32)) (o0 : Int32) (o1 : Int64) (o2 : Int64) (o3 : (Nat → Int32)) (o4 : (Nat → Int32)), L_X12_broken_17 F x1 x2 v_w fu x3 x4 v_above v_below v_rs v_cs = some (o0, o1, o2, o3, o4) → (∀ (H : Heap) (locs : List Loc) (ls : Array Slot), va_P D vwCl [(q, .inr (11, [.ref q_w, .int v_known, .int v_kept, .int v_seed, .ref q_imageSeed, .ref q_bookOf, .ref q_bookAt, .ref q_bookIs, .int v_written, .ref q_rs, .ref q_cs, .long o1, .long o2, .ref q_zs, .long v_leftAbove, .long v_leftBelow, .long v_guessAbove, .long v_guessBelow, .int v_sign, .int v_power2, .long v_bits])), (q_w, .inl (cI, 418, .inl v_w)), (q_rs, .inl (cI, 4, .inl o3)), (q_cs, .inl (cI, 4, .inl o4))] H → va_D A [(q, .inr (11, [.ref q_w, .int v_known, .int v_kept, .int v_seed, .ref q_imageSeed, .ref q_bookOf, .ref q_bookAt, .ref q_bookIs, .int v_written, .ref q_rs, .ref q_cs, .long o1, .long o2, .ref q_zs, .long v_leftAbove, .long v_leftBelow, .long v_guessAbove, .long v_guessBelow, .int v_sign, .int v_power2, .long v_bits])), (q_w, .inl (cI, 418, .inl v_w)), (q_rs, .inl (cI, 4, .inl o3)), (q_cs, .inl (cI, 4, .inl o4))] → va_S A s.heap H locs → lv_has ls 5 [(0, .ref q), (1, .int x1), (2, .int x2), (3, .int o0)] → W p l e R s m args below meth c H locs 0 0 Q (F0 m 58 ls [])) → ∀ (H : Heap) (locs : List Loc) (ls : Array Slot), va_P D vwCl [(q, .inr (11, [.ref q_w, .int v_known, .int v_kept, .int v_seed, .ref q_imageSeed, .ref q_bookOf, .ref q_bookAt, .ref q_bookIs, .int v_written, .ref q_rs, .ref q_cs, .long v_above, .long v_below, .ref q_zs, .long v_leftAbove, .long v_leftBelow, .long v_guessAbove, .long v_guessBelow, .int v_sign, .int v_power2, .long v_bits])), (q_w, .inl (cI, 418, .inl v_w)), (q_rs, .inl (cI, 4, .inl v_rs)), (q_cs, .inl (cI, 4, .inl v_cs))] H → va_D A [(q, .inr (11, [.ref q_w, .int v_known, .int v_kept, .int v_seed, .ref q_imageSeed, .ref q_bookOf, .ref q_bookAt, .ref q_bookIs, .int v_written, .ref q_rs, .ref q_cs, .long v_above, .long v_below, .ref q_zs, .long v_leftAbove, .long v_leftBelow, .long v_guessAbove, .long v_guessBelow, .int v_sign, .int v_power2, .long v_bits])), (q_w, .inl (cI, 418, .inl v_w)), (q_rs, .inl (cI, 4, .inl v_rs)), (q_cs, .inl (cI, 4, .inl v_cs))] → va_S A s.heap H locs → lv_has ls 5 [(0, .ref q), (1, .int x1), (2, .int x2), (3, .int x3), (4, .int x4)] → W p l e R s m args below meth c H locs 0 0 Q (F0 m 17 ls []) := by
    intro x1 x2 v_known v_kept v_seed v_written v_leftAbove v_leftBelow v_guessAbove v_guessBelow v_sign v_power2 v_bits v_w fu
    induction fu with
    | zero =>
      intro x3 x4 v_above v_below v_rs v_cs o0 o1 o2 o3 o4 hf
      cases hf
    | succ fu ih =>
      intro x3 x4 v_above v_below v_rs v_cs o0 o1 o2 o3 o4 hf hk0 H locs ls hP hD hS hl
      rw [L_X12_broken_17] at hf
      refine lv_iload hx hb dX12_broken_17 (lv_at hl 4 rfl) ?_
      refine lv_aload_n hx hb dX12_broken_19 rfl (lv_at hl 0 rfl) ?_
      obtain ⟨r6, h7, hf⟩ := kb1_e hf
      refine k_gi (nW := 4) (ws' := [(q, .inr (11, [.ref q_w, .int v_known, .int v_kept, .int v_seed, .ref q_imageSeed, .ref q_bookOf, .ref q_bookAt, .ref q_bookIs, .int v_written, .ref q_rs, .ref q_cs, .long v_above, .long v_below, .ref q_zs, .long v_leftAbove, .long v_leftBelow, .long v_guessAbove, .long v_guessBelow, .int v_sign, .int v_power2, .long v_bits])), (q_w, .inl (cI, 418, .inl v_w)), (q_rs, .inl (cI, 4, .inl v_rs)), (q_cs, .inl (cI, 4, .inl v_cs))]) (wr := [(q_rs, .inl (cI, 4, .inl v_rs)), (q_cs, .inl (cI, 4, .inl v_cs))]) (k_runV (rest := [.int x4]) hat hP hD hS hl.1 (c_X12_n q q_w q_imageSeed q_bookOf q_bookAt q_bookIs q_rs q_cs q_zs v_known v_kept v_seed v_written v_above v_below v_leftAbove v_leftBelow v_guessAbove v_guessBelow v_sign v_power2 v_bits v_w r6 h7) [0, 1] (by decide) rfl kw912 kw914 kw19 kw79 kw915 kdVX12_n ⟨rfl, rfl⟩ (by rw [hR]; exact ⟨Nat.le_of_ble_eq_true rfl, Nat.le_of_ble_eq_true rfl⟩) ⟨Nat.zero_le _, Nat.zero_le _⟩ 0 11 rfl rfl rfl rfl (Nat.le_of_ble_eq_true rfl) dX12_broken_20) hat hP hD hS [0, 1] rfl [2, 3] rfl rfl rfl rfl rfl (by decide) (fun H locs hP hD hS => ?_)
      refine lv_icmp_ge (tgt := 58) hx hb dX12_broken_23 (by decide) (fun c8 => ?_) (fun c8 => ?_)
      · have hf := kp_e hf c8
        obtain ⟨rfl, rfl, rfl, rfl, rfl⟩ := ki5 hf
        exact hk0 _ _ _ hP hD hS (lv_sub hl [0, 1, 2, 3] rfl)
      · have hf := kn_e hf c8
        refine lv_aload_n hx hb dX12_broken_26 rfl (lv_at hl 0 rfl) ?_
        refine lv_iload_n hx hb dX12_broken_27 rfl (lv_at hl 2 rfl) ?_
        refine lv_iload hx hb dX12_broken_28 (lv_at hl 4 rfl) ?_
        obtain ⟨w9, w10, w11, w12, h13, hf⟩ := kb4_e hf
        refine k_gv (nW := 4) (ws' := [(q, .inr (11, [.ref q_w, .int v_known, .int v_kept, .int v_seed, .ref q_imageSeed, .ref q_bookOf, .ref q_bookAt, .ref q_bookIs, .int v_written, .ref q_rs, .ref q_cs, .long w9, .long w10, .ref q_zs, .long v_leftAbove, .long v_leftBelow, .long v_guessAbove, .long v_guessBelow, .int v_sign, .int v_power2, .long v_bits])), (q_w, .inl (cI, 418, .inl v_w)), (q_rs, .inl (cI, 4, .inl w11)), (q_cs, .inl (cI, 4, .inl w12))]) (wr := []) (k_runV (rest := []) hat hP hD hS hl.1 (c_X12_layShare q q_w q_imageSeed q_bookOf q_bookAt q_bookIs q_rs q_cs q_zs v_known v_kept v_seed v_written v_above v_below v_leftAbove v_leftBelow v_guessAbove v_guessBelow v_sign v_power2 v_bits v_w v_rs v_cs F x2 x4 w9 w10 w11 w12 h13) [0, 1, 2, 3] (by decide) rfl kw989 kw991 kw35 kw79 kw992 kdVX12_layShare ⟨rfl, rfl⟩ (by rw [hR]; exact ⟨Nat.le_of_ble_eq_true rfl, Nat.le_of_ble_eq_true rfl⟩) ⟨Nat.zero_le _, Nat.zero_le _⟩ 0 11 rfl rfl rfl rfl (Nat.le_of_ble_eq_true rfl) dX12_broken_30) hat hP hD hS [0, 1, 2, 3] rfl [] rfl rfl rfl rfl rfl (by decide) (fun H locs hP hD hS => ?_)
        refine lv_iload_n hx hb dX12_broken_33 rfl (lv_at hl 3 rfl) ?_
        refine lv_if_ne (tgt := 46) hx hb dX12_broken_34 (by decide) (fun c14 => ?_) (fun c14 => ?_)
        · have hf := kn_e hf c14
          refine lv_iconst (v := 1) hx hb dX12_broken_46 (by decide) ?_
          refine lv_goto (tgt := 51) hx hb dX12_broken_47 (by decide) ?_
          refine lv_istore_n (lv' := [(3, .int (1 : Int32)), (0, .ref q), (1, .int x1), (2, .int x2), (4, .int x4)]) hx hb dX12_broken_51 rfl hl (by decide) rfl (fun ls hl => ?_)
          obtain ⟨t15, et15⟩ : ∃ z : Int32, z = (x4 + (1 : Int32)) := ⟨_, rfl⟩
          have hf := kl_e hf t15 et15
          refine lv_iinc (v := t15) (lv' := [(4, .int t15), (3, .int (1 : Int32)), (0, .ref q), (1, .int x1), (2, .int x2)]) hx hb dX12_broken_52 hl (k := 4) rfl (by rw [et15]; rfl) (by decide) rfl (fun ls hl => ?_)
          refine lv_goto (tgt := 17) hx hb dX12_broken_55 (by decide) ?_
          exact ih (1 : Int32) t15 w9 w10 w11 w12 o0 o1 o2 o3 o4 hf hk0 _ _ _ hP hD hS (lv_sub hl [2, 3, 4, 1, 0] rfl)
        · have hf := kp_e hf c14
          refine lv_aload_n hx hb dX12_broken_37 rfl (lv_at hl 0 rfl) ?_
          refine va_get (D := D) (ci := 11) (v := .long w10) (C := RX12) (T := TX12) (N := 21) hx hb hts kinX12 hown hK hP 0 rfl rfl 12 (by decide) (hts _ kw856) (fun _ h9 => h9) rfl dX12_broken_38 ?_
          refine lv_lconst (v := 1) hx hb dX12_broken_41 (by decide) ?_
          refine k_lcmp_eq (tgt := 50) hx hb dX12_broken_42 dX12_broken_43 (by decide) (fun c16 => ?_) (fun c16 => ?_)
          · have hf := kp_e hf c16
            refine lv_iconst (v := 0) hx hb dX12_broken_50 (by decide) ?_
            refine lv_istore_n (lv' := [(3, .int (0 : Int32)), (0, .ref q), (1, .int x1), (2, .int x2), (4, .int x4)]) hx hb dX12_broken_51 rfl hl (by decide) rfl (fun ls hl => ?_)
            obtain ⟨t17, et17⟩ : ∃ z : Int32, z = (x4 + (1 : Int32)) := ⟨_, rfl⟩
            have hf := kl_e hf t17 et17
            refine lv_iinc (v := t17) (lv' := [(4, .int t17), (3, .int (0 : Int32)), (0, .ref q), (1, .int x1), (2, .int x2)]) hx hb dX12_broken_52 hl (k := 4) rfl (by rw [et17]; rfl) (by decide) rfl (fun ls hl => ?_)
            refine lv_goto (tgt := 17) hx hb dX12_broken_55 (by decide) ?_
            exact ih (0 : Int32) t17 w9 w10 w11 w12 o0 o1 o2 o3 o4 hf hk0 _ _ _ hP hD hS (lv_sub hl [2, 3, 4, 1, 0] rfl)
          · have hf := kn_e hf c16
            refine lv_iconst (v := 1) hx hb dX12_broken_46 (by decide) ?_
            refine lv_goto (tgt := 51) hx hb dX12_broken_47 (by decide) ?_
            refine lv_istore_n (lv' := [(3, .int (1 : Int32)), (0, .ref q), (1, .int x1), (2, .int x2), (4, .int x4)]) hx hb dX12_broken_51 rfl hl (by decide) rfl (fun ls hl => ?_)
            obtain ⟨t18, et18⟩ : ∃ z : Int32, z = (x4 + (1 : Int32)) := ⟨_, rfl⟩
            have hf := kl_e hf t18 et18
            refine lv_iinc (v := t18) (lv' := [(4, .int t18), (3, .int (1 : Int32)), (0, .ref q), (1, .int x1), (2, .int x2)]) hx hb dX12_broken_52 hl (k := 4) rfl (by rw [et18]; rfl) (by decide) rfl (fun ls hl => ?_)
            refine lv_goto (tgt := 17) hx hb dX12_broken_55 (by decide) ?_
            exact ih (1 : Int32) t18 w9 w10 w11 w12 o0 o1 o2 o3 o4 hf hk0 _ _ _ hP hD hS (lv_sub hl [2, 3, 4, 1, 0] rfl)
  have hL4 : ∀ (v_known : Int32) (v_kept : Int32) (v_seed : Int32) (v_written : Int32) (v_leftAbove : Int64) (v_leftBelow : Int64) (v_guessAbove : Int64) (v_guessBelow : Int64) (v_sign : Int32) (v_power2 : Int32) (v_bits : Int64) (v_w : (Nat → Int32)) (fu : Nat) (x1 : Int32) (x2 : Int32) (v_above : Int64) (v_below : Int64) (v_rs : (Nat → Int32)) (v_cs : (Nat → Int32)) (o0 : Int32) (o1 : Int64) (o2 : Int64) (o3 : (Nat → Int32)) (o4 : (Nat → Int32)), L_X12_broken_4 F v_w fu x1 x2 v_above v_below v_rs v_cs = some (o0, o1, o2, o3, o4) → (∀ (H : Heap) (locs : List Loc) (ls : Array Slot), va_P D vwCl [(q, .inr (11, [.ref q_w, .int v_known, .int v_kept, .int v_seed, .ref q_imageSeed, .ref q_bookOf, .ref q_bookAt, .ref q_bookIs, .int v_written, .ref q_rs, .ref q_cs, .long o1, .long o2, .ref q_zs, .long v_leftAbove, .long v_leftBelow, .long v_guessAbove, .long v_guessBelow, .int v_sign, .int v_power2, .long v_bits])), (q_w, .inl (cI, 418, .inl v_w)), (q_rs, .inl (cI, 4, .inl o3)), (q_cs, .inl (cI, 4, .inl o4))] H → va_D A [(q, .inr (11, [.ref q_w, .int v_known, .int v_kept, .int v_seed, .ref q_imageSeed, .ref q_bookOf, .ref q_bookAt, .ref q_bookIs, .int v_written, .ref q_rs, .ref q_cs, .long o1, .long o2, .ref q_zs, .long v_leftAbove, .long v_leftBelow, .long v_guessAbove, .long v_guessBelow, .int v_sign, .int v_power2, .long v_bits])), (q_w, .inl (cI, 418, .inl v_w)), (q_rs, .inl (cI, 4, .inl o3)), (q_cs, .inl (cI, 4, .inl o4))] → va_S A s.heap H locs → lv_has ls 5 [(1, .int o0)] → W p l e R s m args below meth c H locs 0 0 Q (F0 m 76 ls [])) → ∀ (H : Heap) (locs : List Loc) (ls : Array Slot), va_P D vwCl [(q, .inr (11, [.ref q_w, .int v_known, .int v_kept, .int v_seed, .ref q_imageSeed, .ref q_bookOf, .ref q_bookAt, .ref q_bookIs, .int v_written, .ref q_rs, .ref q_cs, .long v_above, .long v_below, .ref q_zs, .long v_leftAbove, .long v_leftBelow, .long v_guessAbove, .long v_guessBelow, .int v_sign, .int v_power2, .long v_bits])), (q_w, .inl (cI, 418, .inl v_w)), (q_rs, .inl (cI, 4, .inl v_rs)), (q_cs, .inl (cI, 4, .inl v_cs))] H → va_D A [(q, .inr (11, [.ref q_w, .int v_known, .int v_kept, .int v_seed, .ref q_imageSeed, .ref q_bookOf, .ref q_bookAt, .ref q_bookIs, .int v_written, .ref q_rs, .ref q_cs, .long v_above, .long v_below, .ref q_zs, .long v_leftAbove, .long v_leftBelow, .long v_guessAbove, .long v_guessBelow, .int v_sign, .int v_power2, .long v_bits])), (q_w, .inl (cI, 418, .inl v_w)), (q_rs, .inl (cI, 4, .inl v_rs)), (q_cs, .inl (cI, 4, .inl v_cs))] → va_S A s.heap H locs → lv_has ls 5 [(0, .ref q), (1, .int x1), (2, .int x2)] → W p l e R s m args below meth c H locs 0 0 Q (F0 m 4 ls []) := by
    intro v_known v_kept v_seed v_written v_leftAbove v_leftBelow v_guessAbove v_guessBelow v_sign v_power2 v_bits v_w fu
    induction fu with
    | zero =>
      intro x1 x2 v_above v_below v_rs v_cs o0 o1 o2 o3 o4 hf
      cases hf
    | succ fu ih =>
      intro x1 x2 v_above v_below v_rs v_cs o0 o1 o2 o3 o4 hf hk0 H locs ls hP hD hS hl
      rw [L_X12_broken_4] at hf
      refine lv_iload_n hx hb dX12_broken_4 rfl (lv_at hl 2 rfl) ?_
      refine lv_aload_n hx hb dX12_broken_5 rfl (lv_at hl 0 rfl) ?_
      obtain ⟨r1, w2, w3, h4, hf⟩ := kb3_e hf
      refine k_gi (nW := 4) (ws' := [(q, .inr (11, [.ref q_w, .int v_known, .int v_kept, .int v_seed, .ref q_imageSeed, .ref q_bookOf, .ref q_bookAt, .ref q_bookIs, .int v_written, .ref q_rs, .ref q_cs, .long v_above, .long v_below, .ref q_zs, .long v_leftAbove, .long v_leftBelow, .long v_guessAbove, .long v_guessBelow, .int v_sign, .int v_power2, .long v_bits])), (q_w, .inl (cI, 418, .inl v_w)), (q_rs, .inl (cI, 4, .inl w2)), (q_cs, .inl (cI, 4, .inl w3))]) (wr := []) (k_runV (rest := [.int x2]) hat hP hD hS hl.1 (c_X12_rank q q_w q_imageSeed q_bookOf q_bookAt q_bookIs q_rs q_cs q_zs v_known v_kept v_seed v_written v_above v_below v_leftAbove v_leftBelow v_guessAbove v_guessBelow v_sign v_power2 v_bits v_w v_rs v_cs F r1 w2 w3 h4) [0, 1, 2, 3] (by decide) rfl kw965 kw967 kw29 kw79 kw968 kdVX12_rank ⟨rfl, rfl⟩ (by rw [hR]; exact ⟨Nat.le_of_ble_eq_true rfl, Nat.le_of_ble_eq_true rfl⟩) ⟨Nat.zero_le _, Nat.zero_le _⟩ 0 11 rfl rfl rfl rfl (Nat.le_of_ble_eq_true rfl) dX12_broken_6) hat hP hD hS [0, 1, 2, 3] rfl [] rfl rfl rfl rfl rfl (by decide) (fun H locs hP hD hS => ?_)
      refine lv_icmp_ge (tgt := 76) hx hb dX12_broken_9 (by decide) (fun c5 => ?_) (fun c5 => ?_)
      · have hf := kp_e hf c5
        obtain ⟨rfl, rfl, rfl, rfl, rfl⟩ := ki5 hf
        exact hk0 _ _ _ hP hD hS (lv_sub hl [1] rfl)
      · have hf := kn_e hf c5
        refine lv_iconst (v := 0) hx hb dX12_broken_12 (by decide) ?_
        refine lv_istore_n (lv' := [(3, .int (0 : Int32)), (0, .ref q), (1, .int x1), (2, .int x2)]) hx hb dX12_broken_13 rfl hl (by decide) rfl (fun ls hl => ?_)
        refine lv_iconst (v := 0) hx hb dX12_broken_14 (by decide) ?_
        refine lv_istore (lv' := [(4, .int (0 : Int32)), (3, .int (0 : Int32)), (0, .ref q), (1, .int x1), (2, .int x2)]) hx hb dX12_broken_15 hl (by decide) rfl (fun ls hl => ?_)
        obtain ⟨y19, w20, w21, w22, w23, hu, hf⟩ := kb5_e hf
        refine hL17 x1 x2 v_known v_kept v_seed v_written v_leftAbove v_leftBelow v_guessAbove v_guessBelow v_sign v_power2 v_bits v_w F (0 : Int32) (0 : Int32) v_above v_below w2 w3 y19 w20 w21 w22 w23 hu (fun H locs ls hP hD hS hl => ?_) _ _ _ hP hD hS (lv_sub hl [2, 3, 4, 1, 0] rfl)
        refine lv_iload_n hx hb dX12_broken_58 rfl (lv_at hl 1 rfl) ?_
        refine lv_iload_n hx hb dX12_broken_59 rfl (lv_at hl 3 rfl) ?_
        refine lv_if_eq (tgt := 67) hx hb dX12_broken_60 (by decide) (fun c24 => ?_) (fun c24 => ?_)
        · have hf := kp_e hf c24
          refine lv_iconst (v := 0) hx hb dX12_broken_67 (by decide) ?_
          refine lv_iadd hx hb dX12_broken_68 ?_
          refine lv_topi (fun t25 et25 => ?_)
          have hf := kl_e hf t25 et25
          refine lv_istore_n (lv' := [(1, .int t25), (0, .ref q), (2, .int x2), (3, .int y19)]) hx hb dX12_broken_69 rfl hl (by decide) rfl (fun ls hl => ?_)
          obtain ⟨t26, et26⟩ : ∃ z : Int32, z = (x2 + (1 : Int32)) := ⟨_, rfl⟩
          have hf := kl_e hf t26 et26
          refine lv_iinc (v := t26) (lv' := [(2, .int t26), (1, .int t25), (0, .ref q), (3, .int y19)]) hx hb dX12_broken_70 hl (k := 2) rfl (by rw [et26]; rfl) (by decide) rfl (fun ls hl => ?_)
          refine lv_goto (tgt := 4) hx hb dX12_broken_73 (by decide) ?_
          exact ih t25 t26 w20 w21 w22 w23 o0 o1 o2 o3 o4 hf hk0 _ _ _ hP hD hS (lv_sub hl [2, 1, 0] rfl)
        · have hf := kn_e hf c24
          refine lv_iconst (v := 1) hx hb dX12_broken_63 (by decide) ?_
          refine lv_goto (tgt := 68) hx hb dX12_broken_64 (by decide) ?_
          refine lv_iadd hx hb dX12_broken_68 ?_
          refine lv_topi (fun t27 et27 => ?_)
          have hf := kl_e hf t27 et27
          refine lv_istore_n (lv' := [(1, .int t27), (0, .ref q), (2, .int x2), (3, .int y19)]) hx hb dX12_broken_69 rfl hl (by decide) rfl (fun ls hl => ?_)
          obtain ⟨t28, et28⟩ : ∃ z : Int32, z = (x2 + (1 : Int32)) := ⟨_, rfl⟩
          have hf := kl_e hf t28 et28
          refine lv_iinc (v := t28) (lv' := [(2, .int t28), (1, .int t27), (0, .ref q), (3, .int y19)]) hx hb dX12_broken_70 hl (k := 2) rfl (by rw [et28]; rfl) (by decide) rfl (fun ls hl => ?_)
          refine lv_goto (tgt := 4) hx hb dX12_broken_73 (by decide) ?_
          exact ih t27 t28 w20 w21 w22 w23 o0 o1 o2 o3 o4 hf hk0 _ _ _ hP hD hS (lv_sub hl [2, 1, 0] rfl)
  unfold f_X12_broken at hf
  refine lv_iconst (v := 0) hx hb dX12_broken_0 (by decide) ?_
  refine lv_istore_n (lv' := [(1, .int (0 : Int32)), (0, .ref q)]) hx hb dX12_broken_1 rfl hl (by decide) rfl (fun ls hl => ?_)
  refine lv_iconst (v := 0) hx hb dX12_broken_2 (by decide) ?_
  refine lv_istore_n (lv' := [(2, .int (0 : Int32)), (1, .int (0 : Int32)), (0, .ref q)]) hx hb dX12_broken_3 rfl hl (by decide) rfl (fun ls hl => ?_)
  obtain ⟨y29, w30, w31, w32, w33, hu, hf⟩ := kb5_e hf
  refine hL4 v_known v_kept v_seed v_written v_leftAbove v_leftBelow v_guessAbove v_guessBelow v_sign v_power2 v_bits v_w F (0 : Int32) (0 : Int32) v_above v_below v_rs v_cs y29 w30 w31 w32 w33 hu (fun H locs ls hP hD hS hl => ?_) _ _ _ hP hD hS (lv_sub hl [2, 1, 0] rfl)
  refine lv_iload_n hx hb dX12_broken_76 rfl (lv_at hl 0 rfl) ?_
  obtain ⟨rfl, rfl, rfl, rfl, rfl⟩ := ki5 hf
  rw [hQ]
  exact k_iret hat hP hS rfl dX12_broken_77
set_option maxHeartbeats 4000000 in
set_option maxRecDepth 100000 in
theorem c_X12_kind {l : Launch} {D : va_G} {cI cJ cQ : ClassId} {tp : Nat} (q : Nat) (q_w : Nat) (q_imageSeed : Nat) (q_bookOf : Nat) (q_bookAt : Nat) (q_bookIs : Nat) (q_rs : Nat) (q_cs : Nat) (q_zs : Nat) (v_known : Int32) (v_kept : Int32) (v_seed : Int32) (v_written : Int32) (v_above : Int64) (v_below : Int64) (v_leftAbove : Int64) (v_leftBelow : Int64) (v_guessAbove : Int64) (v_guessBelow : Int64) (v_sign : Int32) (v_power2 : Int32) (v_bits : Int64) (v_w : (Nat → Int32)) (v_rs : (Nat → Int32)) (v_cs : (Nat → Int32)) (F : Nat) (r0 : Int32) (o_v_rs : (Nat → Int32)) (o_v_cs : (Nat → Int32)) (hf : f_X12_kind F v_w v_rs v_cs = some (r0, o_v_rs, o_v_cs)) : kM (fun A => kQi D A [(q, .inr (11, [.ref q_w, .int v_known, .int v_kept, .int v_seed, .ref q_imageSeed, .ref q_bookOf, .ref q_bookAt, .ref q_bookIs, .int v_written, .ref q_rs, .ref q_cs, .long v_above, .long v_below, .ref q_zs, .long v_leftAbove, .long v_leftBelow, .long v_guessAbove, .long v_guessBelow, .int v_sign, .int v_power2, .long v_bits])), (q_w, .inl (cI, 418, .inl v_w)), (q_rs, .inl (cI, 4, .inl o_v_rs)), (q_cs, .inl (cI, 4, .inl o_v_cs))] r0) (some .int) l yX12_kind cX12_kind 2 { frames := 8, cells := 0, slots := 0, locals := 185 } D cI cJ cQ tp [.ref q] [(q, .inr (11, [.ref q_w, .int v_known, .int v_kept, .int v_seed, .ref q_imageSeed, .ref q_bookOf, .ref q_bookAt, .ref q_bookIs, .int v_written, .ref q_rs, .ref q_cs, .long v_above, .long v_below, .ref q_zs, .long v_leftAbove, .long v_leftBelow, .long v_guessAbove, .long v_guessBelow, .int v_sign, .int v_power2, .long v_bits])), (q_w, .inl (cI, 418, .inl v_w)), (q_rs, .inl (cI, 4, .inl v_rs)), (q_cs, .inl (cI, 4, .inl v_cs))] := by
  refine kM_of (by decide +kernel) (Nat.le_of_ble_eq_true rfl) ?_
  intro p e s m args below meth c A ls R Q hR hQ hat hP hD hS hl
  obtain ⟨hx, hb, hr, hml, hown, hts, hT, hlk, hK, hA, hZ⟩ := id hat
  have hown : s.vm.findClass RX12 = some m.cls := hown
  have hl : lv_has ls 2 [(0, .ref q)] := hl
  unfold f_X12_kind at hf
  refine lv_aload_n hx hb dX12_kind_0 rfl (lv_at hl 0 rfl) ?_
  obtain ⟨r1, w2, w3, h4, hf⟩ := kb3_e hf
  refine k_gi (nW := 4) (ws' := [(q, .inr (11, [.ref q_w, .int v_known, .int v_kept, .int v_seed, .ref q_imageSeed, .ref q_bookOf, .ref q_bookAt, .ref q_bookIs, .int v_written, .ref q_rs, .ref q_cs, .long v_above, .long v_below, .ref q_zs, .long v_leftAbove, .long v_leftBelow, .long v_guessAbove, .long v_guessBelow, .int v_sign, .int v_power2, .long v_bits])), (q_w, .inl (cI, 418, .inl v_w)), (q_rs, .inl (cI, 4, .inl w2)), (q_cs, .inl (cI, 4, .inl w3))]) (wr := []) (k_runV (rest := []) hat hP hD hS hl.1 (c_X12_rank q q_w q_imageSeed q_bookOf q_bookAt q_bookIs q_rs q_cs q_zs v_known v_kept v_seed v_written v_above v_below v_leftAbove v_leftBelow v_guessAbove v_guessBelow v_sign v_power2 v_bits v_w v_rs v_cs F r1 w2 w3 h4) [0, 1, 2, 3] (by decide) rfl kw965 kw967 kw29 kw79 kw968 kdVX12_rank ⟨rfl, rfl⟩ (by rw [hR]; exact ⟨Nat.le_of_ble_eq_true rfl, Nat.le_of_ble_eq_true rfl⟩) ⟨Nat.zero_le _, Nat.zero_le _⟩ 0 11 rfl rfl rfl rfl (Nat.le_of_ble_eq_true rfl) dX12_kind_1) hat hP hD hS [0, 1, 2, 3] rfl [] rfl rfl rfl rfl rfl (by decide) (fun H locs hP hD hS => ?_)
  refine lv_istore_n (lv' := [(1, .int r1), (0, .ref q)]) hx hb dX12_kind_4 rfl hl (by decide) rfl (fun ls hl => ?_)
  refine lv_aload_n hx hb dX12_kind_5 rfl (lv_at hl 1 rfl) ?_
  refine lv_iconst (v := 0) hx hb dX12_kind_6 (by decide) ?_
  obtain ⟨r5, w6, w7, h8, hf⟩ := kb3_e hf
  refine k_gi (nW := 4) (ws' := [(q, .inr (11, [.ref q_w, .int v_known, .int v_kept, .int v_seed, .ref q_imageSeed, .ref q_bookOf, .ref q_bookAt, .ref q_bookIs, .int v_written, .ref q_rs, .ref q_cs, .long v_above, .long v_below, .ref q_zs, .long v_leftAbove, .long v_leftBelow, .long v_guessAbove, .long v_guessBelow, .int v_sign, .int v_power2, .long v_bits])), (q_w, .inl (cI, 418, .inl v_w)), (q_rs, .inl (cI, 4, .inl w6)), (q_cs, .inl (cI, 4, .inl w7))]) (wr := []) (k_runV (rest := []) hat hP hD hS hl.1 (c_X12_wideRank q q_w q_imageSeed q_bookOf q_bookAt q_bookIs q_rs q_cs q_zs v_known v_kept v_seed v_written v_above v_below v_leftAbove v_leftBelow v_guessAbove v_guessBelow v_sign v_power2 v_bits v_w w2 w3 F (0 : Int32) r5 w6 w7 h8) [0, 1, 2, 3] (by decide) rfl kw973 kw975 kw31 kw79 kw976 kdVX12_wideRank ⟨rfl, rfl⟩ (by rw [hR]; exact ⟨Nat.le_of_ble_eq_true rfl, Nat.le_of_ble_eq_true rfl⟩) ⟨Nat.zero_le _, Nat.zero_le _⟩ 0 11 rfl rfl rfl rfl (Nat.le_of_ble_eq_true rfl) dX12_kind_7) hat hP hD hS [0, 1, 2, 3] rfl [] rfl rfl rfl rfl rfl (by decide) (fun H locs hP hD hS => ?_)
  refine lv_iload_n hx hb dX12_kind_10 rfl (lv_at hl 0 rfl) ?_
  refine lv_icmp_le (tgt := 18) hx hb dX12_kind_11 (by decide) (fun c9 => ?_) (fun c9 => ?_)
  · have hf := kp_e hf c9
    refine lv_iload_n hx hb dX12_kind_18 rfl (lv_at hl 0 rfl) ?_
    refine lv_aload_n hx hb dX12_kind_19 rfl (lv_at hl 1 rfl) ?_
    obtain ⟨r10, h11, hf⟩ := kb1_e hf
    refine k_gi (nW := 4) (ws' := [(q, .inr (11, [.ref q_w, .int v_known, .int v_kept, .int v_seed, .ref q_imageSeed, .ref q_bookOf, .ref q_bookAt, .ref q_bookIs, .int v_written, .ref q_rs, .ref q_cs, .long v_above, .long v_below, .ref q_zs, .long v_leftAbove, .long v_leftBelow, .long v_guessAbove, .long v_guessBelow, .int v_sign, .int v_power2, .long v_bits])), (q_w, .inl (cI, 418, .inl v_w)), (q_rs, .inl (cI, 4, .inl w6)), (q_cs, .inl (cI, 4, .inl w7))]) (wr := [(q_rs, .inl (cI, 4, .inl w6)), (q_cs, .inl (cI, 4, .inl w7))]) (k_runV (rest := [.int r1]) hat hP hD hS hl.1 (c_X12_n q q_w q_imageSeed q_bookOf q_bookAt q_bookIs q_rs q_cs q_zs v_known v_kept v_seed v_written v_above v_below v_leftAbove v_leftBelow v_guessAbove v_guessBelow v_sign v_power2 v_bits v_w r10 h11) [0, 1] (by decide) rfl kw912 kw914 kw19 kw79 kw915 kdVX12_n ⟨rfl, rfl⟩ (by rw [hR]; exact ⟨Nat.le_of_ble_eq_true rfl, Nat.le_of_ble_eq_true rfl⟩) ⟨Nat.zero_le _, Nat.zero_le _⟩ 0 11 rfl rfl rfl rfl (Nat.le_of_ble_eq_true rfl) dX12_kind_20) hat hP hD hS [0, 1] rfl [2, 3] rfl rfl rfl rfl rfl (by decide) (fun H locs hP hD hS => ?_)
    refine lv_icmp_ne (tgt := 30) hx hb dX12_kind_23 (by decide) (fun c12 => ?_) (fun c12 => ?_)
    · have hf := kn_e hf c12
      refine lv_iconst (v := 2) hx hb dX12_kind_30 (by decide) ?_
      obtain ⟨rfl, rfl, rfl⟩ := ki3 hf
      rw [hQ]
      exact k_iret hat hP hS rfl dX12_kind_31
    · have hf := kp_e hf c12
      refine lv_iconst (v := 1) hx hb dX12_kind_26 (by decide) ?_
      refine lv_goto (tgt := 31) hx hb dX12_kind_27 (by decide) ?_
      obtain ⟨rfl, rfl, rfl⟩ := ki3 hf
      rw [hQ]
      exact k_iret hat hP hS rfl dX12_kind_31
  · have hf := kn_e hf c9
    refine lv_iconst (v := 0) hx hb dX12_kind_14 (by decide) ?_
    refine lv_goto (tgt := 31) hx hb dX12_kind_15 (by decide) ?_
    obtain ⟨rfl, rfl, rfl⟩ := ki3 hf
    rw [hQ]
    exact k_iret hat hP hS rfl dX12_kind_31
set_option maxHeartbeats 4000000 in
set_option maxRecDepth 100000 in
theorem c_X12_laySolution {l : Launch} {D : va_G} {cI cJ cQ : ClassId} {tp : Nat} (q : Nat) (q_w : Nat) (q_imageSeed : Nat) (q_bookOf : Nat) (q_bookAt : Nat) (q_bookIs : Nat) (q_rs : Nat) (q_cs : Nat) (q_zs : Nat) (v_known : Int32) (v_kept : Int32) (v_seed : Int32) (v_written : Int32) (v_above : Int64) (v_below : Int64) (v_leftAbove : Int64) (v_leftBelow : Int64) (v_guessAbove : Int64) (v_guessBelow : Int64) (v_sign : Int32) (v_power2 : Int32) (v_bits : Int64) (v_w : (Nat → Int32)) (v_rs : (Nat → Int32)) (v_cs : (Nat → Int32)) (F : Nat) (x1 : Int32) (o_v_above : Int64) (o_v_below : Int64) (o_v_rs : (Nat → Int32)) (o_v_cs : (Nat → Int32)) (hf : f_X12_laySolution F v_above v_below v_w v_rs v_cs x1 = some (o_v_above, o_v_below, o_v_rs, o_v_cs)) : kM (fun A => kQv D A [(q, .inr (11, [.ref q_w, .int v_known, .int v_kept, .int v_seed, .ref q_imageSeed, .ref q_bookOf, .ref q_bookAt, .ref q_bookIs, .int v_written, .ref q_rs, .ref q_cs, .long o_v_above, .long o_v_below, .ref q_zs, .long v_leftAbove, .long v_leftBelow, .long v_guessAbove, .long v_guessBelow, .int v_sign, .int v_power2, .long v_bits])), (q_w, .inl (cI, 418, .inl v_w)), (q_rs, .inl (cI, 4, .inl o_v_rs)), (q_cs, .inl (cI, 4, .inl o_v_cs))]) none l yX12_laySolution cX12_laySolution 3 { frames := 9, cells := 0, slots := 0, locals := 214 } D cI cJ cQ tp [.ref q, .int x1] [(q, .inr (11, [.ref q_w, .int v_known, .int v_kept, .int v_seed, .ref q_imageSeed, .ref q_bookOf, .ref q_bookAt, .ref q_bookIs, .int v_written, .ref q_rs, .ref q_cs, .long v_above, .long v_below, .ref q_zs, .long v_leftAbove, .long v_leftBelow, .long v_guessAbove, .long v_guessBelow, .int v_sign, .int v_power2, .long v_bits])), (q_w, .inl (cI, 418, .inl v_w)), (q_rs, .inl (cI, 4, .inl v_rs)), (q_cs, .inl (cI, 4, .inl v_cs))] := by
  refine kM_of (by decide +kernel) (Nat.le_of_ble_eq_true rfl) ?_
  intro p e s m args below meth c A ls R Q hR hQ hat hP hD hS hl
  obtain ⟨hx, hb, hr, hml, hown, hts, hT, hlk, hK, hA, hZ⟩ := id hat
  have hown : s.vm.findClass RX12 = some m.cls := hown
  have hl : lv_has ls 3 [(0, .ref q), (1, .int x1)] := hl
  unfold f_X12_laySolution at hf
  refine lv_aload_n hx hb dX12_laySolution_0 rfl (lv_at hl 0 rfl) ?_
  obtain ⟨r1, w2, w3, h4, hf⟩ := kb3_e hf
  refine k_gi (nW := 4) (ws' := [(q, .inr (11, [.ref q_w, .int v_known, .int v_kept, .int v_seed, .ref q_imageSeed, .ref q_bookOf, .ref q_bookAt, .ref q_bookIs, .int v_written, .ref q_rs, .ref q_cs, .long v_above, .long v_below, .ref q_zs, .long v_leftAbove, .long v_leftBelow, .long v_guessAbove, .long v_guessBelow, .int v_sign, .int v_power2, .long v_bits])), (q_w, .inl (cI, 418, .inl v_w)), (q_rs, .inl (cI, 4, .inl w2)), (q_cs, .inl (cI, 4, .inl w3))]) (wr := []) (k_runV (rest := []) hat hP hD hS hl.1 (c_X12_leading q q_w q_imageSeed q_bookOf q_bookAt q_bookIs q_rs q_cs q_zs v_known v_kept v_seed v_written v_above v_below v_leftAbove v_leftBelow v_guessAbove v_guessBelow v_sign v_power2 v_bits v_w v_rs v_cs F r1 w2 w3 h4) [0, 1, 2, 3] (by decide) rfl kw981 kw983 kw33 kw79 kw984 kdVX12_leading ⟨rfl, rfl⟩ (by rw [hR]; exact ⟨Nat.le_of_ble_eq_true rfl, Nat.le_of_ble_eq_true rfl⟩) ⟨Nat.zero_le _, Nat.zero_le _⟩ 0 11 rfl rfl rfl rfl (Nat.le_of_ble_eq_true rfl) dX12_laySolution_1) hat hP hD hS [0, 1, 2, 3] rfl [] rfl rfl rfl rfl rfl (by decide) (fun H locs hP hD hS => ?_)
  refine lv_istore_n (lv' := [(2, .int r1), (0, .ref q), (1, .int x1)]) hx hb dX12_laySolution_4 rfl hl (by decide) rfl (fun ls hl => ?_)
  refine lv_iload_n hx hb dX12_laySolution_5 rfl (lv_at hl 0 rfl) ?_
  refine lv_iload_n hx hb dX12_laySolution_6 rfl (lv_at hl 2 rfl) ?_
  obtain ⟨r5, h6, hf⟩ := kb1_e hf
  refine k_gi (nW := 4) (ws' := [(q, .inr (11, [.ref q_w, .int v_known, .int v_kept, .int v_seed, .ref q_imageSeed, .ref q_bookOf, .ref q_bookAt, .ref q_bookIs, .int v_written, .ref q_rs, .ref q_cs, .long v_above, .long v_below, .ref q_zs, .long v_leftAbove, .long v_leftBelow, .long v_guessAbove, .long v_guessBelow, .int v_sign, .int v_power2, .long v_bits])), (q_w, .inl (cI, 418, .inl v_w)), (q_rs, .inl (cI, 4, .inl w2)), (q_cs, .inl (cI, 4, .inl w3))]) (wr := [(q, .inr (11, [.ref q_w, .int v_known, .int v_kept, .int v_seed, .ref q_imageSeed, .ref q_bookOf, .ref q_bookAt, .ref q_bookIs, .int v_written, .ref q_rs, .ref q_cs, .long v_above, .long v_below, .ref q_zs, .long v_leftAbove, .long v_leftBelow, .long v_guessAbove, .long v_guessBelow, .int v_sign, .int v_power2, .long v_bits])), (q_w, .inl (cI, 418, .inl v_w)), (q_rs, .inl (cI, 4, .inl w2)), (q_cs, .inl (cI, 4, .inl w3))]) (k_runS (rest := []) hat hP hD hS hl.1 (c_X12_has r1 x1 r5 h6) [] (by decide) rfl kw941 kw942 kw79 kw943 kdX12_has ⟨rfl, rfl⟩ (by rw [hR]; exact ⟨Nat.le_of_ble_eq_true rfl, Nat.le_of_ble_eq_true rfl⟩) ⟨Nat.zero_le _, Nat.zero_le _⟩ rfl rfl (Nat.le_of_ble_eq_true rfl) dX12_laySolution_7) hat hP hD hS [] rfl [0, 1, 2, 3] rfl rfl rfl rfl rfl (by decide) (fun H locs hP hD hS => ?_)
  refine lv_if_eq (tgt := 31) hx hb dX12_laySolution_10 (by decide) (fun c7 => ?_) (fun c7 => ?_)
  · have hf := kp_e hf c7
    refine lv_aload_n hx hb dX12_laySolution_31 rfl (lv_at hl 1 rfl) ?_
    refine lv_lconst (v := 0) hx hb dX12_laySolution_32 (by decide) ?_
    refine lv_lconst (v := 1) hx hb dX12_laySolution_33 (by decide) ?_
    obtain ⟨w8, w9, h10, hf⟩ := kb2_e hf
    refine k_gv (nW := 4) (ws' := [(q, .inr (11, [.ref q_w, .int v_known, .int v_kept, .int v_seed, .ref q_imageSeed, .ref q_bookOf, .ref q_bookAt, .ref q_bookIs, .int v_written, .ref q_rs, .ref q_cs, .long w8, .long w9, .ref q_zs, .long v_leftAbove, .long v_leftBelow, .long v_guessAbove, .long v_guessBelow, .int v_sign, .int v_power2, .long v_bits])), (q_w, .inl (cI, 418, .inl v_w)), (q_rs, .inl (cI, 4, .inl w2)), (q_cs, .inl (cI, 4, .inl w3))]) (wr := [(q_w, .inl (cI, 418, .inl v_w)), (q_rs, .inl (cI, 4, .inl w2)), (q_cs, .inl (cI, 4, .inl w3))]) (k_runV (rest := []) hat hP hD hS hl.1 (c_X12_layFraction q q_w q_imageSeed q_bookOf q_bookAt q_bookIs q_rs q_cs q_zs v_known v_kept v_seed v_written v_above v_below v_leftAbove v_leftBelow v_guessAbove v_guessBelow v_sign v_power2 v_bits F (0 : Int64) (1 : Int64) w8 w9 h10) [0] (by decide) rfl kw997 kw999 kw37 kw79 kw1000 kdVX12_layFraction ⟨rfl, rfl⟩ (by rw [hR]; exact ⟨Nat.le_of_ble_eq_true rfl, Nat.le_of_ble_eq_true rfl⟩) ⟨Nat.zero_le _, Nat.zero_le _⟩ 0 11 rfl rfl rfl rfl (Nat.le_of_ble_eq_true rfl) dX12_laySolution_34) hat hP hD hS [0] rfl [1, 2, 3] rfl rfl rfl rfl rfl (by decide) (fun H locs hP hD hS => ?_)
    obtain ⟨rfl, rfl, rfl, rfl⟩ := ki4 hf
    rw [hQ]
    exact k_vret hat hP hS dX12_laySolution_37
  · have hf := kn_e hf c7
    refine lv_aload_n hx hb dX12_laySolution_13 rfl (lv_at hl 1 rfl) ?_
    refine lv_iload_n hx hb dX12_laySolution_14 rfl (lv_at hl 0 rfl) ?_
    refine lv_iconst (v := 1) hx hb dX12_laySolution_15 (by decide) ?_
    refine lv_iload_n hx hb dX12_laySolution_16 rfl (lv_at hl 2 rfl) ?_
    refine lv_ishl hx hb dX12_laySolution_17 ?_
    refine lv_iconst (v := 1) hx hb dX12_laySolution_18 (by decide) ?_
    refine lv_isub hx hb dX12_laySolution_19 ?_
    refine lv_iand hx hb dX12_laySolution_20 ?_
    obtain ⟨r11, h12, hf⟩ := kb1_e hf
    refine k_gi (nW := 4) (ws' := [(q, .inr (11, [.ref q_w, .int v_known, .int v_kept, .int v_seed, .ref q_imageSeed, .ref q_bookOf, .ref q_bookAt, .ref q_bookIs, .int v_written, .ref q_rs, .ref q_cs, .long v_above, .long v_below, .ref q_zs, .long v_leftAbove, .long v_leftBelow, .long v_guessAbove, .long v_guessBelow, .int v_sign, .int v_power2, .long v_bits])), (q_w, .inl (cI, 418, .inl v_w)), (q_rs, .inl (cI, 4, .inl w2)), (q_cs, .inl (cI, 4, .inl w3))]) (wr := [(q, .inr (11, [.ref q_w, .int v_known, .int v_kept, .int v_seed, .ref q_imageSeed, .ref q_bookOf, .ref q_bookAt, .ref q_bookIs, .int v_written, .ref q_rs, .ref q_cs, .long v_above, .long v_below, .ref q_zs, .long v_leftAbove, .long v_leftBelow, .long v_guessAbove, .long v_guessBelow, .int v_sign, .int v_power2, .long v_bits])), (q_w, .inl (cI, 418, .inl v_w)), (q_rs, .inl (cI, 4, .inl w2)), (q_cs, .inl (cI, 4, .inl w3))]) (k_runS (rest := [.ref q]) hat hP hD hS hl.1 (c_X12_ones (r1 &&& (((1 : Int32) <<< (x1 &&& 31)) - (1 : Int32))) r11 h12) [] (by decide) rfl kw935 kw936 kw79 kw937 kdX12_ones ⟨rfl, rfl⟩ (by rw [hR]; exact ⟨Nat.le_of_ble_eq_true rfl, Nat.le_of_ble_eq_true rfl⟩) ⟨Nat.zero_le _, Nat.zero_le _⟩ rfl rfl (Nat.le_of_ble_eq_true rfl) dX12_laySolution_21) hat hP hD hS [] rfl [0, 1, 2, 3] rfl rfl rfl rfl rfl (by decide) (fun H locs hP hD hS => ?_)
    refine lv_iconst (v := 4) hx hb dX12_laySolution_24 (by decide) ?_
    obtain ⟨w13, w14, w15, w16, h17, hf⟩ := kb4_e hf
    refine k_gv (nW := 4) (ws' := [(q, .inr (11, [.ref q_w, .int v_known, .int v_kept, .int v_seed, .ref q_imageSeed, .ref q_bookOf, .ref q_bookAt, .ref q_bookIs, .int v_written, .ref q_rs, .ref q_cs, .long w13, .long w14, .ref q_zs, .long v_leftAbove, .long v_leftBelow, .long v_guessAbove, .long v_guessBelow, .int v_sign, .int v_power2, .long v_bits])), (q_w, .inl (cI, 418, .inl v_w)), (q_rs, .inl (cI, 4, .inl w15)), (q_cs, .inl (cI, 4, .inl w16))]) (wr := []) (k_runV (rest := []) hat hP hD hS hl.1 (c_X12_layShare q q_w q_imageSeed q_bookOf q_bookAt q_bookIs q_rs q_cs q_zs v_known v_kept v_seed v_written v_above v_below v_leftAbove v_leftBelow v_guessAbove v_guessBelow v_sign v_power2 v_bits v_w w2 w3 F r11 (4 : Int32) w13 w14 w15 w16 h17) [0, 1, 2, 3] (by decide) rfl kw989 kw991 kw35 kw79 kw992 kdVX12_layShare ⟨rfl, rfl⟩ (by rw [hR]; exact ⟨Nat.le_of_ble_eq_true rfl, Nat.le_of_ble_eq_true rfl⟩) ⟨Nat.zero_le _, Nat.zero_le _⟩ 0 11 rfl rfl rfl rfl (Nat.le_of_ble_eq_true rfl) dX12_laySolution_25) hat hP hD hS [0, 1, 2, 3] rfl [] rfl rfl rfl rfl rfl (by decide) (fun H locs hP hD hS => ?_)
    refine lv_goto (tgt := 37) hx hb dX12_laySolution_28 (by decide) ?_
    obtain ⟨rfl, rfl, rfl, rfl⟩ := ki4 hf
    rw [hQ]
    exact k_vret hat hP hS dX12_laySolution_37
