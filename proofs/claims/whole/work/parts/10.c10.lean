set_option maxHeartbeats 4000000 in
set_option maxRecDepth 100000 in
theorem c_X12_cut {l : Launch} {D : va_G} {cI cJ cQ : ClassId} {tp : Nat} (q : Nat) (q_w : Nat) (q_imageSeed : Nat) (q_bookOf : Nat) (q_bookAt : Nat) (q_bookIs : Nat) (q_rs : Nat) (q_cs : Nat) (q_zs : Nat) (v_known : Int32) (v_kept : Int32) (v_seed : Int32) (v_written : Int32) (v_above : Int64) (v_below : Int64) (v_leftAbove : Int64) (v_leftBelow : Int64) (v_guessAbove : Int64) (v_guessBelow : Int64) (v_sign : Int32) (v_power2 : Int32) (v_bits : Int64) (v_w : (Nat → Int32)) (v_rs : (Nat → Int32)) (v_cs : (Nat → Int32)) (F : Nat) (x1 : Int32) (r0 : Int64) (o_v_above : Int64) (o_v_below : Int64) (o_v_sign : Int32) (o_v_power2 : Int32) (o_v_bits : Int64) (o_v_rs : (Nat → Int32)) (o_v_cs : (Nat → Int32)) (hf : f_X12_cut F v_above v_below v_sign v_power2 v_bits v_w v_rs v_cs x1 = some (r0, o_v_above, o_v_below, o_v_sign, o_v_power2, o_v_bits, o_v_rs, o_v_cs)) : kM (fun A => kQl D A [(q, .inr (11, [.ref q_w, .int v_known, .int v_kept, .int v_seed, .ref q_imageSeed, .ref q_bookOf, .ref q_bookAt, .ref q_bookIs, .int v_written, .ref q_rs, .ref q_cs, .long o_v_above, .long o_v_below, .ref q_zs, .long v_leftAbove, .long v_leftBelow, .long v_guessAbove, .long v_guessBelow, .int o_v_sign, .int o_v_power2, .long o_v_bits])), (q_w, .inl (cI, 418, .inl v_w)), (q_rs, .inl (cI, 4, .inl o_v_rs)), (q_cs, .inl (cI, 4, .inl o_v_cs))] r0) (some .long) l yX12_cut cX12_cut 2 { frames := 10, cells := 0, slots := 0, locals := 236 } D cI cJ cQ tp [.ref q, .int x1] [(q, .inr (11, [.ref q_w, .int v_known, .int v_kept, .int v_seed, .ref q_imageSeed, .ref q_bookOf, .ref q_bookAt, .ref q_bookIs, .int v_written, .ref q_rs, .ref q_cs, .long v_above, .long v_below, .ref q_zs, .long v_leftAbove, .long v_leftBelow, .long v_guessAbove, .long v_guessBelow, .int v_sign, .int v_power2, .long v_bits])), (q_w, .inl (cI, 418, .inl v_w)), (q_rs, .inl (cI, 4, .inl v_rs)), (q_cs, .inl (cI, 4, .inl v_cs))] := by
  refine kM_of (by decide) (Nat.le_of_ble_eq_true rfl) ?_
  intro p e s m args below meth c A ls R Q hR hQ hat hP hD hS hl
  obtain ⟨hx, hb, hr, hml, hown, hts, hT, hlk, hK, hA, hZ⟩ := id hat
  have hown : s.vm.findClass RX12 = some m.cls := hown
  have hl : lv_has ls 2 [(0, .ref q), (1, .int x1)] := hl
  unfold f_X12_cut at hf
  refine lv_aload_n hx hb dX12_cut_0 rfl (lv_at hl 0 rfl) ?_
  refine lv_iload_n hx hb dX12_cut_1 rfl (lv_at hl 1 rfl) ?_
  obtain ⟨r1, h2, hf⟩ := kb1_e hf
  refine k_gi (k_runV (rest := []) hat hP hD hS hl.1 (c_X12_isRow q q_w q_imageSeed q_bookOf q_bookAt q_bookIs q_rs q_cs q_zs v_known v_kept v_seed v_written v_above v_below v_leftAbove v_leftBelow v_guessAbove v_guessBelow v_sign v_power2 v_bits v_w x1 r1 h2) [0, 1] (by decide) rfl kw1069 kw1071 kw50 kw79 kw1072 kdVX12_isRow ⟨rfl, rfl⟩ (by rw [hR]; exact ⟨Nat.le_of_ble_eq_true rfl, Nat.le_of_ble_eq_true rfl⟩) ⟨Nat.zero_le _, Nat.zero_le _⟩ 0 11 rfl rfl rfl rfl (Nat.le_of_ble_eq_true rfl) dX12_cut_2) hat hP hD hS [0, 1] rfl rfl (fun H locs hP hD hS => ?_)
  have hP : va_P D vwCl [(q, .inr (11, [.ref q_w, .int v_known, .int v_kept, .int v_seed, .ref q_imageSeed, .ref q_bookOf, .ref q_bookAt, .ref q_bookIs, .int v_written, .ref q_rs, .ref q_cs, .long v_above, .long v_below, .ref q_zs, .long v_leftAbove, .long v_leftBelow, .long v_guessAbove, .long v_guessBelow, .int v_sign, .int v_power2, .long v_bits])), (q_w, .inl (cI, 418, .inl v_w)), (q_rs, .inl (cI, 4, .inl v_rs)), (q_cs, .inl (cI, 4, .inl v_cs))] H := hP
  have hD : va_D A [(q, .inr (11, [.ref q_w, .int v_known, .int v_kept, .int v_seed, .ref q_imageSeed, .ref q_bookOf, .ref q_bookAt, .ref q_bookIs, .int v_written, .ref q_rs, .ref q_cs, .long v_above, .long v_below, .ref q_zs, .long v_leftAbove, .long v_leftBelow, .long v_guessAbove, .long v_guessBelow, .int v_sign, .int v_power2, .long v_bits])), (q_w, .inl (cI, 418, .inl v_w)), (q_rs, .inl (cI, 4, .inl v_rs)), (q_cs, .inl (cI, 4, .inl v_cs))] := hD
  refine lv_if_ne (tgt := 12) hx hb dX12_cut_5 (by decide) (fun c3 => ?_) (fun c3 => ?_)
  · have hf := kn_e hf c3
    refine lv_aload_n hx hb dX12_cut_12 rfl (lv_at hl 0 rfl) ?_
    obtain ⟨r4, w5, w6, h7, hf⟩ := kb3_e hf
    refine k_gi (k_runV (rest := []) hat hP hD hS hl.1 (c_X12_kind q q_w q_imageSeed q_bookOf q_bookAt q_bookIs q_rs q_cs q_zs v_known v_kept v_seed v_written v_above v_below v_leftAbove v_leftBelow v_guessAbove v_guessBelow v_sign v_power2 v_bits v_w v_rs v_cs F r4 w5 w6 h7) [0, 1, 2, 3] (by decide) rfl kw977 kw979 kw32 kw79 kw980 kdVX12_kind ⟨rfl, rfl⟩ (by rw [hR]; exact ⟨Nat.le_of_ble_eq_true rfl, Nat.le_of_ble_eq_true rfl⟩) ⟨Nat.zero_le _, Nat.zero_le _⟩ 0 11 rfl rfl rfl rfl (Nat.le_of_ble_eq_true rfl) dX12_cut_13) hat hP hD hS [0, 1, 2, 3] rfl rfl (fun H locs hP hD hS => ?_)
    have hP : va_P D vwCl [(q, .inr (11, [.ref q_w, .int v_known, .int v_kept, .int v_seed, .ref q_imageSeed, .ref q_bookOf, .ref q_bookAt, .ref q_bookIs, .int v_written, .ref q_rs, .ref q_cs, .long v_above, .long v_below, .ref q_zs, .long v_leftAbove, .long v_leftBelow, .long v_guessAbove, .long v_guessBelow, .int v_sign, .int v_power2, .long v_bits])), (q_w, .inl (cI, 418, .inl v_w)), (q_rs, .inl (cI, 4, .inl w5)), (q_cs, .inl (cI, 4, .inl w6))] H := hP
    have hD : va_D A [(q, .inr (11, [.ref q_w, .int v_known, .int v_kept, .int v_seed, .ref q_imageSeed, .ref q_bookOf, .ref q_bookAt, .ref q_bookIs, .int v_written, .ref q_rs, .ref q_cs, .long v_above, .long v_below, .ref q_zs, .long v_leftAbove, .long v_leftBelow, .long v_guessAbove, .long v_guessBelow, .int v_sign, .int v_power2, .long v_bits])), (q_w, .inl (cI, 418, .inl v_w)), (q_rs, .inl (cI, 4, .inl w5)), (q_cs, .inl (cI, 4, .inl w6))] := hD
    refine lv_if_ne (tgt := 23) hx hb dX12_cut_16 (by decide) (fun c8 => ?_) (fun c8 => ?_)
    · have hf := kn_e hf c8
      refine lv_aload_n hx hb dX12_cut_23 rfl (lv_at hl 0 rfl) ?_
      refine lv_iload_n hx hb dX12_cut_24 rfl (lv_at hl 1 rfl) ?_
      obtain ⟨w9, w10, w11, w12, h13, hf⟩ := kb4_e hf
      refine k_gv (k_runV (rest := []) hat hP hD hS hl.1 (c_X12_laySolution q q_w q_imageSeed q_bookOf q_bookAt q_bookIs q_rs q_cs q_zs v_known v_kept v_seed v_written v_above v_below v_leftAbove v_leftBelow v_guessAbove v_guessBelow v_sign v_power2 v_bits v_w w5 w6 F x1 w9 w10 w11 w12 h13) [0, 1, 2, 3] (by decide) rfl kw1048 kw1050 kw47 kw79 kw1051 kdVX12_laySolution ⟨rfl, rfl⟩ (by rw [hR]; exact ⟨Nat.le_of_ble_eq_true rfl, Nat.le_of_ble_eq_true rfl⟩) ⟨Nat.zero_le _, Nat.zero_le _⟩ 0 11 rfl rfl rfl rfl (Nat.le_of_ble_eq_true rfl) dX12_cut_25) hat hP hD hS [0, 1, 2, 3] rfl rfl (fun H locs hP hD hS => ?_)
      have hP : va_P D vwCl [(q, .inr (11, [.ref q_w, .int v_known, .int v_kept, .int v_seed, .ref q_imageSeed, .ref q_bookOf, .ref q_bookAt, .ref q_bookIs, .int v_written, .ref q_rs, .ref q_cs, .long w9, .long w10, .ref q_zs, .long v_leftAbove, .long v_leftBelow, .long v_guessAbove, .long v_guessBelow, .int v_sign, .int v_power2, .long v_bits])), (q_w, .inl (cI, 418, .inl v_w)), (q_rs, .inl (cI, 4, .inl w11)), (q_cs, .inl (cI, 4, .inl w12))] H := hP
      have hD : va_D A [(q, .inr (11, [.ref q_w, .int v_known, .int v_kept, .int v_seed, .ref q_imageSeed, .ref q_bookOf, .ref q_bookAt, .ref q_bookIs, .int v_written, .ref q_rs, .ref q_cs, .long w9, .long w10, .ref q_zs, .long v_leftAbove, .long v_leftBelow, .long v_guessAbove, .long v_guessBelow, .int v_sign, .int v_power2, .long v_bits])), (q_w, .inl (cI, 418, .inl v_w)), (q_rs, .inl (cI, 4, .inl w11)), (q_cs, .inl (cI, 4, .inl w12))] := hD
      refine lv_aload_n hx hb dX12_cut_28 rfl (lv_at hl 0 rfl) ?_
      obtain ⟨r14, w15, w16, w17, h18, hf⟩ := kb4_e hf
      refine k_gl (k_runV (rest := []) hat hP hD hS hl.1 (c_X12_cutNow q q_w q_imageSeed q_bookOf q_bookAt q_bookIs q_rs q_cs q_zs v_known v_kept v_seed v_written w9 w10 v_leftAbove v_leftBelow v_guessAbove v_guessBelow v_sign v_power2 v_bits F r14 w15 w16 w17 h18) [0] (by decide) rfl kw1173 kw1175 kw61 kw79 kw1176 kdVX12_cutNow ⟨rfl, rfl⟩ (by rw [hR]; exact ⟨Nat.le_of_ble_eq_true rfl, Nat.le_of_ble_eq_true rfl⟩) ⟨Nat.zero_le _, Nat.zero_le _⟩ 0 11 rfl rfl rfl rfl (Nat.le_of_ble_eq_true rfl) dX12_cut_29) hat hP hD hS [0] rfl rfl (fun H locs hP hD hS => ?_)
      have hP : va_P D vwCl [(q, .inr (11, [.ref q_w, .int v_known, .int v_kept, .int v_seed, .ref q_imageSeed, .ref q_bookOf, .ref q_bookAt, .ref q_bookIs, .int v_written, .ref q_rs, .ref q_cs, .long w9, .long w10, .ref q_zs, .long v_leftAbove, .long v_leftBelow, .long v_guessAbove, .long v_guessBelow, .int w15, .int w16, .long w17])), (q_w, .inl (cI, 418, .inl v_w)), (q_rs, .inl (cI, 4, .inl w11)), (q_cs, .inl (cI, 4, .inl w12))] H := hP
      have hD : va_D A [(q, .inr (11, [.ref q_w, .int v_known, .int v_kept, .int v_seed, .ref q_imageSeed, .ref q_bookOf, .ref q_bookAt, .ref q_bookIs, .int v_written, .ref q_rs, .ref q_cs, .long w9, .long w10, .ref q_zs, .long v_leftAbove, .long v_leftBelow, .long v_guessAbove, .long v_guessBelow, .int w15, .int w16, .long w17])), (q_w, .inl (cI, 418, .inl v_w)), (q_rs, .inl (cI, 4, .inl w11)), (q_cs, .inl (cI, 4, .inl w12))] := hD
      refine lv_ldc2 hx hb hown (hts _ kw1183) dX12_cut_32 ?_
      refine lv_ladd hx hb dX12_cut_35 ?_
      obtain ⟨rfl, rfl, rfl, rfl, rfl, rfl, rfl, rfl⟩ := ki8 hf
      rw [hQ]
      exact k_lret hat hP hS rfl dX12_cut_36
    · have hf := kp_e hf c8
      refine lv_ldc2 hx hb hown (hts _ kw1130) dX12_cut_19 ?_
      obtain ⟨rfl, rfl, rfl, rfl, rfl, rfl, rfl, rfl⟩ := ki8 hf
      rw [hQ]
      exact k_lret hat hP hS rfl dX12_cut_22
  · have hf := kp_e hf c3
    refine lv_ldc2 hx hb hown (hts _ kw1126) dX12_cut_8 ?_
    obtain ⟨rfl, rfl, rfl, rfl, rfl, rfl, rfl, rfl⟩ := ki8 hf
    rw [hQ]
    exact k_lret hat hP hS rfl dX12_cut_11
set_option maxHeartbeats 4000000 in
set_option maxRecDepth 100000 in
theorem c_X12_size {l : Launch} {D : va_G} {cI cJ cQ : ClassId} {tp : Nat} (q : Nat) (q_w : Nat) (q_imageSeed : Nat) (q_bookOf : Nat) (q_bookAt : Nat) (q_bookIs : Nat) (q_rs : Nat) (q_cs : Nat) (q_zs : Nat) (v_known : Int32) (v_kept : Int32) (v_seed : Int32) (v_written : Int32) (v_above : Int64) (v_below : Int64) (v_leftAbove : Int64) (v_leftBelow : Int64) (v_guessAbove : Int64) (v_guessBelow : Int64) (v_sign : Int32) (v_power2 : Int32) (v_bits : Int64) (v_w : (Nat → Int32)) (F : Nat) (x1 : Int32) (r0 : Int32) (o_v_known : Int32) (o_v_w : (Nat → Int32)) (hf : f_X12_size F v_known v_w x1 = some (r0, o_v_known, o_v_w)) : kM (fun A => kQi D A [(q, .inr (11, [.ref q_w, .int o_v_known, .int v_kept, .int v_seed, .ref q_imageSeed, .ref q_bookOf, .ref q_bookAt, .ref q_bookIs, .int v_written, .ref q_rs, .ref q_cs, .long v_above, .long v_below, .ref q_zs, .long v_leftAbove, .long v_leftBelow, .long v_guessAbove, .long v_guessBelow, .int v_sign, .int v_power2, .long v_bits])), (q_w, .inl (cI, 418, .inl o_v_w))] r0) (some .int) l yX12_size cX12_size 3 { frames := 2, cells := 0, slots := 0, locals := 44 } D cI cJ cQ tp [.ref q, .int x1] [(q, .inr (11, [.ref q_w, .int v_known, .int v_kept, .int v_seed, .ref q_imageSeed, .ref q_bookOf, .ref q_bookAt, .ref q_bookIs, .int v_written, .ref q_rs, .ref q_cs, .long v_above, .long v_below, .ref q_zs, .long v_leftAbove, .long v_leftBelow, .long v_guessAbove, .long v_guessBelow, .int v_sign, .int v_power2, .long v_bits])), (q_w, .inl (cI, 418, .inl v_w))] := by
  refine kM_of (by decide) (Nat.le_of_ble_eq_true rfl) ?_
  intro p e s m args below meth c A ls R Q hR hQ hat hP hD hS hl
  obtain ⟨hx, hb, hr, hml, hown, hts, hT, hlk, hK, hA, hZ⟩ := id hat
  have hown : s.vm.findClass RX12 = some m.cls := hown
  have hl : lv_has ls 3 [(0, .ref q), (1, .int x1)] := hl
  unfold f_X12_size at hf
  refine lv_iload_n hx hb dX12_size_0 rfl (lv_at hl 1 rfl) ?_
  refine lv_i2l hx hb dX12_size_1 rfl ?_
  refine lv_lconst (v := 1) hx hb dX12_size_2 (by decide) ?_
  refine lv_ldc2 hx hb hown (hts _ kw1188) dX12_size_3 ?_
  obtain ⟨r1, h2, hf⟩ := kb1_e hf
  refine k_gi (k_runS (rest := []) hat hP hD hS hl.1 (c_X12_in (x1.toInt64) (1 : Int64) (4 : Int64) r1 h2) [] (by decide) rfl kw1058 kw1059 kw79 kw1060 kdX12_in ⟨rfl, rfl⟩ (by rw [hR]; exact ⟨Nat.le_of_ble_eq_true rfl, Nat.le_of_ble_eq_true rfl⟩) ⟨Nat.zero_le _, Nat.zero_le _⟩ rfl rfl (Nat.le_of_ble_eq_true rfl) dX12_size_6) hat hP hD hS [] rfl rfl (fun H locs hP hD hS => ?_)
  have hP : va_P D vwCl [(q, .inr (11, [.ref q_w, .int v_known, .int v_kept, .int v_seed, .ref q_imageSeed, .ref q_bookOf, .ref q_bookAt, .ref q_bookIs, .int v_written, .ref q_rs, .ref q_cs, .long v_above, .long v_below, .ref q_zs, .long v_leftAbove, .long v_leftBelow, .long v_guessAbove, .long v_guessBelow, .int v_sign, .int v_power2, .long v_bits])), (q_w, .inl (cI, 418, .inl v_w))] H := hP
  have hD : va_D A [(q, .inr (11, [.ref q_w, .int v_known, .int v_kept, .int v_seed, .ref q_imageSeed, .ref q_bookOf, .ref q_bookAt, .ref q_bookIs, .int v_written, .ref q_rs, .ref q_cs, .long v_above, .long v_below, .ref q_zs, .long v_leftAbove, .long v_leftBelow, .long v_guessAbove, .long v_guessBelow, .int v_sign, .int v_power2, .long v_bits])), (q_w, .inl (cI, 418, .inl v_w))] := hD
  refine lv_if_ne (tgt := 15) hx hb dX12_size_9 (by decide) (fun c3 => ?_) (fun c3 => ?_)
  · have hf := kn_e hf c3
    refine lv_aload_n hx hb dX12_size_15 rfl (lv_at hl 0 rfl) ?_
    obtain ⟨w4, w5, h6, hf⟩ := kb2_e hf
    refine k_gv (k_runV (rest := []) hat hP hD hS hl.1 (c_X12_remember q q_w q_imageSeed q_bookOf q_bookAt q_bookIs q_rs q_cs q_zs v_known v_kept v_seed v_written v_above v_below v_leftAbove v_leftBelow v_guessAbove v_guessBelow v_sign v_power2 v_bits v_w F w4 w5 h6) [0, 1] (by decide) rfl kw1189 kw1191 kw62 kw79 kw1192 kdVX12_remember ⟨rfl, rfl⟩ (by rw [hR]; exact ⟨Nat.le_of_ble_eq_true rfl, Nat.le_of_ble_eq_true rfl⟩) ⟨Nat.zero_le _, Nat.zero_le _⟩ 0 11 rfl rfl rfl rfl (Nat.le_of_ble_eq_true rfl) dX12_size_16) hat hP hD hS [0, 1] rfl rfl (fun H locs hP hD hS => ?_)
    have hP : va_P D vwCl [(q, .inr (11, [.ref q_w, .int w4, .int v_kept, .int v_seed, .ref q_imageSeed, .ref q_bookOf, .ref q_bookAt, .ref q_bookIs, .int v_written, .ref q_rs, .ref q_cs, .long v_above, .long v_below, .ref q_zs, .long v_leftAbove, .long v_leftBelow, .long v_guessAbove, .long v_guessBelow, .int v_sign, .int v_power2, .long v_bits])), (q_w, .inl (cI, 418, .inl w5))] H := hP
    have hD : va_D A [(q, .inr (11, [.ref q_w, .int w4, .int v_kept, .int v_seed, .ref q_imageSeed, .ref q_bookOf, .ref q_bookAt, .ref q_bookIs, .int v_written, .ref q_rs, .ref q_cs, .long v_above, .long v_below, .ref q_zs, .long v_leftAbove, .long v_leftBelow, .long v_guessAbove, .long v_guessBelow, .int v_sign, .int v_power2, .long v_bits])), (q_w, .inl (cI, 418, .inl w5))] := hD
    refine lv_aload_n hx hb dX12_size_19 rfl (lv_at hl 0 rfl) ?_
    obtain ⟨r7, h8, hf⟩ := kb1_e hf
    refine k_gi (k_runV (rest := []) hat hP hD hS hl.1 (c_X12_n q q_w q_imageSeed q_bookOf q_bookAt q_bookIs q_rs q_cs q_zs w4 v_kept v_seed v_written v_above v_below v_leftAbove v_leftBelow v_guessAbove v_guessBelow v_sign v_power2 v_bits w5 r7 h8) [0, 1] (by decide) rfl kw912 kw914 kw19 kw79 kw915 kdVX12_n ⟨rfl, rfl⟩ (by rw [hR]; exact ⟨Nat.le_of_ble_eq_true rfl, Nat.le_of_ble_eq_true rfl⟩) ⟨Nat.zero_le _, Nat.zero_le _⟩ 0 11 rfl rfl rfl rfl (Nat.le_of_ble_eq_true rfl) dX12_size_20) hat hP hD hS [0, 1] rfl rfl (fun H locs hP hD hS => ?_)
    have hP : va_P D vwCl [(q, .inr (11, [.ref q_w, .int w4, .int v_kept, .int v_seed, .ref q_imageSeed, .ref q_bookOf, .ref q_bookAt, .ref q_bookIs, .int v_written, .ref q_rs, .ref q_cs, .long v_above, .long v_below, .ref q_zs, .long v_leftAbove, .long v_leftBelow, .long v_guessAbove, .long v_guessBelow, .int v_sign, .int v_power2, .long v_bits])), (q_w, .inl (cI, 418, .inl w5))] H := hP
    have hD : va_D A [(q, .inr (11, [.ref q_w, .int w4, .int v_kept, .int v_seed, .ref q_imageSeed, .ref q_bookOf, .ref q_bookAt, .ref q_bookIs, .int v_written, .ref q_rs, .ref q_cs, .long v_above, .long v_below, .ref q_zs, .long v_leftAbove, .long v_leftBelow, .long v_guessAbove, .long v_guessBelow, .int v_sign, .int v_power2, .long v_bits])), (q_w, .inl (cI, 418, .inl w5))] := hD
    refine lv_istore_n (lv' := [(2, .int r7), (0, .ref q), (1, .int x1)]) hx hb dX12_size_23 rfl hl (by decide) rfl (fun ls hl => ?_)
    refine lv_aload_n hx hb dX12_size_24 rfl (lv_at hl 1 rfl) ?_
    refine lv_iload_n hx hb dX12_size_25 rfl (lv_at hl 2 rfl) ?_
    obtain ⟨w9, h10, hf⟩ := kb1_e hf
    refine k_gv (k_runV (rest := []) hat hP hD hS hl.1 (c_X12_layOnes q q_w q_imageSeed q_bookOf q_bookAt q_bookIs q_rs q_cs q_zs w4 v_kept v_seed v_written v_above v_below v_leftAbove v_leftBelow v_guessAbove v_guessBelow v_sign v_power2 v_bits w5 F x1 w9 h10) [0, 1] (by decide) rfl kw840 kw842 kw18 kw79 kw843 kdVX12_layOnes ⟨rfl, rfl⟩ (by rw [hR]; exact ⟨Nat.le_of_ble_eq_true rfl, Nat.le_of_ble_eq_true rfl⟩) ⟨Nat.zero_le _, Nat.zero_le _⟩ 0 11 rfl rfl rfl rfl (Nat.le_of_ble_eq_true rfl) dX12_size_26) hat hP hD hS [0, 1] rfl rfl (fun H locs hP hD hS => ?_)
    have hP : va_P D vwCl [(q, .inr (11, [.ref q_w, .int w4, .int v_kept, .int v_seed, .ref q_imageSeed, .ref q_bookOf, .ref q_bookAt, .ref q_bookIs, .int v_written, .ref q_rs, .ref q_cs, .long v_above, .long v_below, .ref q_zs, .long v_leftAbove, .long v_leftBelow, .long v_guessAbove, .long v_guessBelow, .int v_sign, .int v_power2, .long v_bits])), (q_w, .inl (cI, 418, .inl w9))] H := hP
    have hD : va_D A [(q, .inr (11, [.ref q_w, .int w4, .int v_kept, .int v_seed, .ref q_imageSeed, .ref q_bookOf, .ref q_bookAt, .ref q_bookIs, .int v_written, .ref q_rs, .ref q_cs, .long v_above, .long v_below, .ref q_zs, .long v_leftAbove, .long v_leftBelow, .long v_guessAbove, .long v_guessBelow, .int v_sign, .int v_power2, .long v_bits])), (q_w, .inl (cI, 418, .inl w9))] := hD
    refine lv_iload_n hx hb dX12_size_29 rfl (lv_at hl 0 rfl) ?_
    obtain ⟨rfl, rfl, rfl⟩ := ki3 hf
    rw [hQ]
    exact k_iret hat hP hS rfl dX12_size_30
  · have hf := kp_e hf c3
    refine lv_ldc hx hb hown (hts _ kw1077) dX12_size_12 ?_
    obtain ⟨rfl, rfl, rfl⟩ := ki3 hf
    rw [hQ]
    exact k_iret hat hP hS rfl dX12_size_14
set_option maxHeartbeats 4000000 in
set_option maxRecDepth 100000 in
theorem c_X12_put {l : Launch} {D : va_G} {cI cJ cQ : ClassId} {tp : Nat} (q : Nat) (q_w : Nat) (q_imageSeed : Nat) (q_bookOf : Nat) (q_bookAt : Nat) (q_bookIs : Nat) (q_rs : Nat) (q_cs : Nat) (q_zs : Nat) (v_known : Int32) (v_kept : Int32) (v_seed : Int32) (v_written : Int32) (v_above : Int64) (v_below : Int64) (v_leftAbove : Int64) (v_leftBelow : Int64) (v_guessAbove : Int64) (v_guessBelow : Int64) (v_sign : Int32) (v_power2 : Int32) (v_bits : Int64) (v_w : (Nat → Int32)) (F : Nat) (x1 : Int32) (x2 : Int32) (x3 : Int32) (r0 : Int32) (o_v_known : Int32) (o_v_w : (Nat → Int32)) (hf : f_X12_put F v_known v_w x1 x2 x3 = some (r0, o_v_known, o_v_w)) : kM (fun A => kQi D A [(q, .inr (11, [.ref q_w, .int o_v_known, .int v_kept, .int v_seed, .ref q_imageSeed, .ref q_bookOf, .ref q_bookAt, .ref q_bookIs, .int v_written, .ref q_rs, .ref q_cs, .long v_above, .long v_below, .ref q_zs, .long v_leftAbove, .long v_leftBelow, .long v_guessAbove, .long v_guessBelow, .int v_sign, .int v_power2, .long v_bits])), (q_w, .inl (cI, 418, .inl o_v_w))] r0) (some .int) l yX12_put cX12_put 5 { frames := 2, cells := 0, slots := 0, locals := 46 } D cI cJ cQ tp [.ref q, .int x1, .int x2, .int x3] [(q, .inr (11, [.ref q_w, .int v_known, .int v_kept, .int v_seed, .ref q_imageSeed, .ref q_bookOf, .ref q_bookAt, .ref q_bookIs, .int v_written, .ref q_rs, .ref q_cs, .long v_above, .long v_below, .ref q_zs, .long v_leftAbove, .long v_leftBelow, .long v_guessAbove, .long v_guessBelow, .int v_sign, .int v_power2, .long v_bits])), (q_w, .inl (cI, 418, .inl v_w))] := by
  refine kM_of (by decide) (Nat.le_of_ble_eq_true rfl) ?_
  intro p e s m args below meth c A ls R Q hR hQ hat hP hD hS hl
  obtain ⟨hx, hb, hr, hml, hown, hts, hT, hlk, hK, hA, hZ⟩ := id hat
  have hown : s.vm.findClass RX12 = some m.cls := hown
  have hl : lv_has ls 5 [(0, .ref q), (1, .int x1), (2, .int x2), (3, .int x3)] := hl
  unfold f_X12_put at hf
  refine lv_aload_n hx hb dX12_put_0 rfl (lv_at hl 0 rfl) ?_
  refine lv_iload_n hx hb dX12_put_1 rfl (lv_at hl 1 rfl) ?_
  obtain ⟨r1, h2, hf⟩ := kb1_e hf
  refine k_gi (k_runV (rest := []) hat hP hD hS hl.1 (c_X12_isRow q q_w q_imageSeed q_bookOf q_bookAt q_bookIs q_rs q_cs q_zs v_known v_kept v_seed v_written v_above v_below v_leftAbove v_leftBelow v_guessAbove v_guessBelow v_sign v_power2 v_bits v_w x1 r1 h2) [0, 1] (by decide) rfl kw1069 kw1071 kw50 kw79 kw1072 kdVX12_isRow ⟨rfl, rfl⟩ (by rw [hR]; exact ⟨Nat.le_of_ble_eq_true rfl, Nat.le_of_ble_eq_true rfl⟩) ⟨Nat.zero_le _, Nat.zero_le _⟩ 0 11 rfl rfl rfl rfl (Nat.le_of_ble_eq_true rfl) dX12_put_2) hat hP hD hS [0, 1] rfl rfl (fun H locs hP hD hS => ?_)
  have hP : va_P D vwCl [(q, .inr (11, [.ref q_w, .int v_known, .int v_kept, .int v_seed, .ref q_imageSeed, .ref q_bookOf, .ref q_bookAt, .ref q_bookIs, .int v_written, .ref q_rs, .ref q_cs, .long v_above, .long v_below, .ref q_zs, .long v_leftAbove, .long v_leftBelow, .long v_guessAbove, .long v_guessBelow, .int v_sign, .int v_power2, .long v_bits])), (q_w, .inl (cI, 418, .inl v_w))] H := hP
  have hD : va_D A [(q, .inr (11, [.ref q_w, .int v_known, .int v_kept, .int v_seed, .ref q_imageSeed, .ref q_bookOf, .ref q_bookAt, .ref q_bookIs, .int v_written, .ref q_rs, .ref q_cs, .long v_above, .long v_below, .ref q_zs, .long v_leftAbove, .long v_leftBelow, .long v_guessAbove, .long v_guessBelow, .int v_sign, .int v_power2, .long v_bits])), (q_w, .inl (cI, 418, .inl v_w))] := hD
  refine lv_if_eq (tgt := 16) hx hb dX12_put_5 (by decide) (fun c3 => ?_) (fun c3 => ?_)
  · have hf := kp_e hf c3
    refine lv_ldcw hx hb hown (hts _ kw1082) dX12_put_16 ?_
    obtain ⟨rfl, rfl, rfl⟩ := ki3 hf
    rw [hQ]
    exact k_iret hat hP hS rfl dX12_put_19
  · have hf := kn_e hf c3
    refine lv_aload_n hx hb dX12_put_8 rfl (lv_at hl 0 rfl) ?_
    refine lv_iload_n hx hb dX12_put_9 rfl (lv_at hl 2 rfl) ?_
    obtain ⟨r4, h5, hf⟩ := kb1_e hf
    refine k_gi (k_runV (rest := []) hat hP hD hS hl.1 (c_X12_isRow q q_w q_imageSeed q_bookOf q_bookAt q_bookIs q_rs q_cs q_zs v_known v_kept v_seed v_written v_above v_below v_leftAbove v_leftBelow v_guessAbove v_guessBelow v_sign v_power2 v_bits v_w x2 r4 h5) [0, 1] (by decide) rfl kw1069 kw1071 kw50 kw79 kw1072 kdVX12_isRow ⟨rfl, rfl⟩ (by rw [hR]; exact ⟨Nat.le_of_ble_eq_true rfl, Nat.le_of_ble_eq_true rfl⟩) ⟨Nat.zero_le _, Nat.zero_le _⟩ 0 11 rfl rfl rfl rfl (Nat.le_of_ble_eq_true rfl) dX12_put_10) hat hP hD hS [0, 1] rfl rfl (fun H locs hP hD hS => ?_)
    have hP : va_P D vwCl [(q, .inr (11, [.ref q_w, .int v_known, .int v_kept, .int v_seed, .ref q_imageSeed, .ref q_bookOf, .ref q_bookAt, .ref q_bookIs, .int v_written, .ref q_rs, .ref q_cs, .long v_above, .long v_below, .ref q_zs, .long v_leftAbove, .long v_leftBelow, .long v_guessAbove, .long v_guessBelow, .int v_sign, .int v_power2, .long v_bits])), (q_w, .inl (cI, 418, .inl v_w))] H := hP
    have hD : va_D A [(q, .inr (11, [.ref q_w, .int v_known, .int v_kept, .int v_seed, .ref q_imageSeed, .ref q_bookOf, .ref q_bookAt, .ref q_bookIs, .int v_written, .ref q_rs, .ref q_cs, .long v_above, .long v_below, .ref q_zs, .long v_leftAbove, .long v_leftBelow, .long v_guessAbove, .long v_guessBelow, .int v_sign, .int v_power2, .long v_bits])), (q_w, .inl (cI, 418, .inl v_w))] := hD
    refine lv_if_ne (tgt := 20) hx hb dX12_put_13 (by decide) (fun c6 => ?_) (fun c6 => ?_)
    · have hf := kn_e hf c6
      refine lv_iload_n hx hb dX12_put_20 rfl (lv_at hl 3 rfl) ?_
      refine lv_i2l hx hb dX12_put_21 rfl ?_
      refine lv_ldc2 hx hb hown (hts _ kw1201) dX12_put_22 ?_
      refine lv_ldc2 hx hb hown (hts _ kw1202) dX12_put_25 ?_
      obtain ⟨r7, h8, hf⟩ := kb1_e hf
      refine k_gi (k_runS (rest := []) hat hP hD hS hl.1 (c_X12_in (x3.toInt64) (-9 : Int64) (9 : Int64) r7 h8) [] (by decide) rfl kw1058 kw1059 kw79 kw1060 kdX12_in ⟨rfl, rfl⟩ (by rw [hR]; exact ⟨Nat.le_of_ble_eq_true rfl, Nat.le_of_ble_eq_true rfl⟩) ⟨Nat.zero_le _, Nat.zero_le _⟩ rfl rfl (Nat.le_of_ble_eq_true rfl) dX12_put_28) hat hP hD hS [] rfl rfl (fun H locs hP hD hS => ?_)
      have hP : va_P D vwCl [(q, .inr (11, [.ref q_w, .int v_known, .int v_kept, .int v_seed, .ref q_imageSeed, .ref q_bookOf, .ref q_bookAt, .ref q_bookIs, .int v_written, .ref q_rs, .ref q_cs, .long v_above, .long v_below, .ref q_zs, .long v_leftAbove, .long v_leftBelow, .long v_guessAbove, .long v_guessBelow, .int v_sign, .int v_power2, .long v_bits])), (q_w, .inl (cI, 418, .inl v_w))] H := hP
      have hD : va_D A [(q, .inr (11, [.ref q_w, .int v_known, .int v_kept, .int v_seed, .ref q_imageSeed, .ref q_bookOf, .ref q_bookAt, .ref q_bookIs, .int v_written, .ref q_rs, .ref q_cs, .long v_above, .long v_below, .ref q_zs, .long v_leftAbove, .long v_leftBelow, .long v_guessAbove, .long v_guessBelow, .int v_sign, .int v_power2, .long v_bits])), (q_w, .inl (cI, 418, .inl v_w))] := hD
      refine lv_if_ne (tgt := 37) hx hb dX12_put_31 (by decide) (fun c9 => ?_) (fun c9 => ?_)
      · have hf := kn_e hf c9
        refine lv_aload_n hx hb dX12_put_37 rfl (lv_at hl 0 rfl) ?_
        obtain ⟨w10, w11, h12, hf⟩ := kb2_e hf
        refine k_gv (k_runV (rest := []) hat hP hD hS hl.1 (c_X12_remember q q_w q_imageSeed q_bookOf q_bookAt q_bookIs q_rs q_cs q_zs v_known v_kept v_seed v_written v_above v_below v_leftAbove v_leftBelow v_guessAbove v_guessBelow v_sign v_power2 v_bits v_w F w10 w11 h12) [0, 1] (by decide) rfl kw1189 kw1191 kw62 kw79 kw1192 kdVX12_remember ⟨rfl, rfl⟩ (by rw [hR]; exact ⟨Nat.le_of_ble_eq_true rfl, Nat.le_of_ble_eq_true rfl⟩) ⟨Nat.zero_le _, Nat.zero_le _⟩ 0 11 rfl rfl rfl rfl (Nat.le_of_ble_eq_true rfl) dX12_put_38) hat hP hD hS [0, 1] rfl rfl (fun H locs hP hD hS => ?_)
        have hP : va_P D vwCl [(q, .inr (11, [.ref q_w, .int w10, .int v_kept, .int v_seed, .ref q_imageSeed, .ref q_bookOf, .ref q_bookAt, .ref q_bookIs, .int v_written, .ref q_rs, .ref q_cs, .long v_above, .long v_below, .ref q_zs, .long v_leftAbove, .long v_leftBelow, .long v_guessAbove, .long v_guessBelow, .int v_sign, .int v_power2, .long v_bits])), (q_w, .inl (cI, 418, .inl w11))] H := hP
        have hD : va_D A [(q, .inr (11, [.ref q_w, .int w10, .int v_kept, .int v_seed, .ref q_imageSeed, .ref q_bookOf, .ref q_bookAt, .ref q_bookIs, .int v_written, .ref q_rs, .ref q_cs, .long v_above, .long v_below, .ref q_zs, .long v_leftAbove, .long v_leftBelow, .long v_guessAbove, .long v_guessBelow, .int v_sign, .int v_power2, .long v_bits])), (q_w, .inl (cI, 418, .inl w11))] := hD
        refine lv_aload_n hx hb dX12_put_41 rfl (lv_at hl 0 rfl) ?_
        refine lv_iload_n hx hb dX12_put_42 rfl (lv_at hl 1 rfl) ?_
        refine lv_iload_n hx hb dX12_put_43 rfl (lv_at hl 2 rfl) ?_
        obtain ⟨r13, h14, hf⟩ := kb1_e hf
        refine k_gl (k_runV (rest := []) hat hP hD hS hl.1 (c_X12_cell q q_w q_imageSeed q_bookOf q_bookAt q_bookIs q_rs q_cs q_zs w10 v_kept v_seed v_written v_above v_below v_leftAbove v_leftBelow v_guessAbove v_guessBelow v_sign v_power2 v_bits w11 x1 x2 r13 h14) [0, 1] (by decide) rfl kw952 kw954 kw26 kw79 kw955 kdVX12_cell ⟨rfl, rfl⟩ (by rw [hR]; exact ⟨Nat.le_of_ble_eq_true rfl, Nat.le_of_ble_eq_true rfl⟩) ⟨Nat.zero_le _, Nat.zero_le _⟩ 0 11 rfl rfl rfl rfl (Nat.le_of_ble_eq_true rfl) dX12_put_44) hat hP hD hS [0, 1] rfl rfl (fun H locs hP hD hS => ?_)
        have hP : va_P D vwCl [(q, .inr (11, [.ref q_w, .int w10, .int v_kept, .int v_seed, .ref q_imageSeed, .ref q_bookOf, .ref q_bookAt, .ref q_bookIs, .int v_written, .ref q_rs, .ref q_cs, .long v_above, .long v_below, .ref q_zs, .long v_leftAbove, .long v_leftBelow, .long v_guessAbove, .long v_guessBelow, .int v_sign, .int v_power2, .long v_bits])), (q_w, .inl (cI, 418, .inl w11))] H := hP
        have hD : va_D A [(q, .inr (11, [.ref q_w, .int w10, .int v_kept, .int v_seed, .ref q_imageSeed, .ref q_bookOf, .ref q_bookAt, .ref q_bookIs, .int v_written, .ref q_rs, .ref q_cs, .long v_above, .long v_below, .ref q_zs, .long v_leftAbove, .long v_leftBelow, .long v_guessAbove, .long v_guessBelow, .int v_sign, .int v_power2, .long v_bits])), (q_w, .inl (cI, 418, .inl w11))] := hD
        refine lv_l2i hx hb dX12_put_47 rfl ?_
        refine lv_topi (fun t15 et15 => ?_)
        have hf := kl_e hf t15 et15
        refine lv_istore (lv' := [(4, .int t15), (0, .ref q), (1, .int x1), (2, .int x2), (3, .int x3)]) hx hb dX12_put_48 hl (by decide) rfl (fun ls hl => ?_)
        refine lv_aload_n hx hb dX12_put_50 rfl (lv_at hl 1 rfl) ?_
        refine lv_iload_n hx hb dX12_put_51 rfl (lv_at hl 2 rfl) ?_
        refine lv_iload_n hx hb dX12_put_52 rfl (lv_at hl 3 rfl) ?_
        refine lv_iload_n hx hb dX12_put_53 rfl (lv_at hl 4 rfl) ?_
        obtain ⟨w16, h17, hf⟩ := kb1_e hf
        refine k_gv (k_runV (rest := []) hat hP hD hS hl.1 (c_X12_set q q_w q_imageSeed q_bookOf q_bookAt q_bookIs q_rs q_cs q_zs w10 v_kept v_seed v_written v_above v_below v_leftAbove v_leftBelow v_guessAbove v_guessBelow v_sign v_power2 v_bits w11 x1 x2 x3 w16 h17) [0, 1] (by decide) rfl kw1203 kw1205 kw64 kw79 kw1206 kdVX12_set ⟨rfl, rfl⟩ (by rw [hR]; exact ⟨Nat.le_of_ble_eq_true rfl, Nat.le_of_ble_eq_true rfl⟩) ⟨Nat.zero_le _, Nat.zero_le _⟩ 0 11 rfl rfl rfl rfl (Nat.le_of_ble_eq_true rfl) dX12_put_54) hat hP hD hS [0, 1] rfl rfl (fun H locs hP hD hS => ?_)
        have hP : va_P D vwCl [(q, .inr (11, [.ref q_w, .int w10, .int v_kept, .int v_seed, .ref q_imageSeed, .ref q_bookOf, .ref q_bookAt, .ref q_bookIs, .int v_written, .ref q_rs, .ref q_cs, .long v_above, .long v_below, .ref q_zs, .long v_leftAbove, .long v_leftBelow, .long v_guessAbove, .long v_guessBelow, .int v_sign, .int v_power2, .long v_bits])), (q_w, .inl (cI, 418, .inl w16))] H := hP
        have hD : va_D A [(q, .inr (11, [.ref q_w, .int w10, .int v_kept, .int v_seed, .ref q_imageSeed, .ref q_bookOf, .ref q_bookAt, .ref q_bookIs, .int v_written, .ref q_rs, .ref q_cs, .long v_above, .long v_below, .ref q_zs, .long v_leftAbove, .long v_leftBelow, .long v_guessAbove, .long v_guessBelow, .int v_sign, .int v_power2, .long v_bits])), (q_w, .inl (cI, 418, .inl w16))] := hD
        refine lv_iload hx hb dX12_put_57 (lv_at hl 0 rfl) ?_
        refine lv_bipush (v := 100) hx hb dX12_put_59 (by decide) ?_
        refine lv_iadd hx hb dX12_put_61 ?_
        obtain ⟨rfl, rfl, rfl⟩ := ki3 hf
        rw [hQ]
        exact k_iret hat hP hS rfl dX12_put_62
      · have hf := kp_e hf c9
        refine lv_ldc hx hb hown (hts _ kw1077) dX12_put_34 ?_
        obtain ⟨rfl, rfl, rfl⟩ := ki3 hf
        rw [hQ]
        exact k_iret hat hP hS rfl dX12_put_36
    · have hf := kp_e hf c6
      refine lv_ldcw hx hb hown (hts _ kw1082) dX12_put_16 ?_
      obtain ⟨rfl, rfl, rfl⟩ := ki3 hf
      rw [hQ]
      exact k_iret hat hP hS rfl dX12_put_19
set_option maxHeartbeats 4000000 in
set_option maxRecDepth 100000 in
theorem c_X12_side {l : Launch} {D : va_G} {cI cJ cQ : ClassId} {tp : Nat} (q : Nat) (q_w : Nat) (q_imageSeed : Nat) (q_bookOf : Nat) (q_bookAt : Nat) (q_bookIs : Nat) (q_rs : Nat) (q_cs : Nat) (q_zs : Nat) (v_known : Int32) (v_kept : Int32) (v_seed : Int32) (v_written : Int32) (v_above : Int64) (v_below : Int64) (v_leftAbove : Int64) (v_leftBelow : Int64) (v_guessAbove : Int64) (v_guessBelow : Int64) (v_sign : Int32) (v_power2 : Int32) (v_bits : Int64) (v_w : (Nat → Int32)) (F : Nat) (x1 : Int32) (x2 : Int32) (r0 : Int32) (o_v_known : Int32) (o_v_w : (Nat → Int32)) (hf : f_X12_side F v_known v_w x1 x2 = some (r0, o_v_known, o_v_w)) : kM (fun A => kQi D A [(q, .inr (11, [.ref q_w, .int o_v_known, .int v_kept, .int v_seed, .ref q_imageSeed, .ref q_bookOf, .ref q_bookAt, .ref q_bookIs, .int v_written, .ref q_rs, .ref q_cs, .long v_above, .long v_below, .ref q_zs, .long v_leftAbove, .long v_leftBelow, .long v_guessAbove, .long v_guessBelow, .int v_sign, .int v_power2, .long v_bits])), (q_w, .inl (cI, 418, .inl o_v_w))] r0) (some .int) l yX12_side cX12_side 4 { frames := 2, cells := 0, slots := 0, locals := 46 } D cI cJ cQ tp [.ref q, .int x1, .int x2] [(q, .inr (11, [.ref q_w, .int v_known, .int v_kept, .int v_seed, .ref q_imageSeed, .ref q_bookOf, .ref q_bookAt, .ref q_bookIs, .int v_written, .ref q_rs, .ref q_cs, .long v_above, .long v_below, .ref q_zs, .long v_leftAbove, .long v_leftBelow, .long v_guessAbove, .long v_guessBelow, .int v_sign, .int v_power2, .long v_bits])), (q_w, .inl (cI, 418, .inl v_w))] := by
  refine kM_of (by decide) (Nat.le_of_ble_eq_true rfl) ?_
  intro p e s m args below meth c A ls R Q hR hQ hat hP hD hS hl
  obtain ⟨hx, hb, hr, hml, hown, hts, hT, hlk, hK, hA, hZ⟩ := id hat
  have hown : s.vm.findClass RX12 = some m.cls := hown
  have hl : lv_has ls 4 [(0, .ref q), (1, .int x1), (2, .int x2)] := hl
  unfold f_X12_side at hf
  refine lv_aload_n hx hb dX12_side_0 rfl (lv_at hl 0 rfl) ?_
  refine lv_iload_n hx hb dX12_side_1 rfl (lv_at hl 1 rfl) ?_
  obtain ⟨r1, h2, hf⟩ := kb1_e hf
  refine k_gi (k_runV (rest := []) hat hP hD hS hl.1 (c_X12_isRow q q_w q_imageSeed q_bookOf q_bookAt q_bookIs q_rs q_cs q_zs v_known v_kept v_seed v_written v_above v_below v_leftAbove v_leftBelow v_guessAbove v_guessBelow v_sign v_power2 v_bits v_w x1 r1 h2) [0, 1] (by decide) rfl kw1069 kw1071 kw50 kw79 kw1072 kdVX12_isRow ⟨rfl, rfl⟩ (by rw [hR]; exact ⟨Nat.le_of_ble_eq_true rfl, Nat.le_of_ble_eq_true rfl⟩) ⟨Nat.zero_le _, Nat.zero_le _⟩ 0 11 rfl rfl rfl rfl (Nat.le_of_ble_eq_true rfl) dX12_side_2) hat hP hD hS [0, 1] rfl rfl (fun H locs hP hD hS => ?_)
  have hP : va_P D vwCl [(q, .inr (11, [.ref q_w, .int v_known, .int v_kept, .int v_seed, .ref q_imageSeed, .ref q_bookOf, .ref q_bookAt, .ref q_bookIs, .int v_written, .ref q_rs, .ref q_cs, .long v_above, .long v_below, .ref q_zs, .long v_leftAbove, .long v_leftBelow, .long v_guessAbove, .long v_guessBelow, .int v_sign, .int v_power2, .long v_bits])), (q_w, .inl (cI, 418, .inl v_w))] H := hP
  have hD : va_D A [(q, .inr (11, [.ref q_w, .int v_known, .int v_kept, .int v_seed, .ref q_imageSeed, .ref q_bookOf, .ref q_bookAt, .ref q_bookIs, .int v_written, .ref q_rs, .ref q_cs, .long v_above, .long v_below, .ref q_zs, .long v_leftAbove, .long v_leftBelow, .long v_guessAbove, .long v_guessBelow, .int v_sign, .int v_power2, .long v_bits])), (q_w, .inl (cI, 418, .inl v_w))] := hD
  refine lv_if_ne (tgt := 12) hx hb dX12_side_5 (by decide) (fun c3 => ?_) (fun c3 => ?_)
  · have hf := kn_e hf c3
    refine lv_iload_n hx hb dX12_side_12 rfl (lv_at hl 2 rfl) ?_
    refine lv_i2l hx hb dX12_side_13 rfl ?_
    refine lv_ldc2 hx hb hown (hts _ kw1211) dX12_side_14 ?_
    refine lv_ldc2 hx hb hown (hts _ kw1112) dX12_side_17 ?_
    obtain ⟨r4, h5, hf⟩ := kb1_e hf
    refine k_gi (k_runS (rest := []) hat hP hD hS hl.1 (c_X12_in (x2.toInt64) (-99 : Int64) (99 : Int64) r4 h5) [] (by decide) rfl kw1058 kw1059 kw79 kw1060 kdX12_in ⟨rfl, rfl⟩ (by rw [hR]; exact ⟨Nat.le_of_ble_eq_true rfl, Nat.le_of_ble_eq_true rfl⟩) ⟨Nat.zero_le _, Nat.zero_le _⟩ rfl rfl (Nat.le_of_ble_eq_true rfl) dX12_side_20) hat hP hD hS [] rfl rfl (fun H locs hP hD hS => ?_)
    have hP : va_P D vwCl [(q, .inr (11, [.ref q_w, .int v_known, .int v_kept, .int v_seed, .ref q_imageSeed, .ref q_bookOf, .ref q_bookAt, .ref q_bookIs, .int v_written, .ref q_rs, .ref q_cs, .long v_above, .long v_below, .ref q_zs, .long v_leftAbove, .long v_leftBelow, .long v_guessAbove, .long v_guessBelow, .int v_sign, .int v_power2, .long v_bits])), (q_w, .inl (cI, 418, .inl v_w))] H := hP
    have hD : va_D A [(q, .inr (11, [.ref q_w, .int v_known, .int v_kept, .int v_seed, .ref q_imageSeed, .ref q_bookOf, .ref q_bookAt, .ref q_bookIs, .int v_written, .ref q_rs, .ref q_cs, .long v_above, .long v_below, .ref q_zs, .long v_leftAbove, .long v_leftBelow, .long v_guessAbove, .long v_guessBelow, .int v_sign, .int v_power2, .long v_bits])), (q_w, .inl (cI, 418, .inl v_w))] := hD
    refine lv_if_ne (tgt := 29) hx hb dX12_side_23 (by decide) (fun c6 => ?_) (fun c6 => ?_)
    · have hf := kn_e hf c6
      refine lv_aload_n hx hb dX12_side_29 rfl (lv_at hl 0 rfl) ?_
      obtain ⟨w7, w8, h9, hf⟩ := kb2_e hf
      refine k_gv (k_runV (rest := []) hat hP hD hS hl.1 (c_X12_remember q q_w q_imageSeed q_bookOf q_bookAt q_bookIs q_rs q_cs q_zs v_known v_kept v_seed v_written v_above v_below v_leftAbove v_leftBelow v_guessAbove v_guessBelow v_sign v_power2 v_bits v_w F w7 w8 h9) [0, 1] (by decide) rfl kw1189 kw1191 kw62 kw79 kw1192 kdVX12_remember ⟨rfl, rfl⟩ (by rw [hR]; exact ⟨Nat.le_of_ble_eq_true rfl, Nat.le_of_ble_eq_true rfl⟩) ⟨Nat.zero_le _, Nat.zero_le _⟩ 0 11 rfl rfl rfl rfl (Nat.le_of_ble_eq_true rfl) dX12_side_30) hat hP hD hS [0, 1] rfl rfl (fun H locs hP hD hS => ?_)
      have hP : va_P D vwCl [(q, .inr (11, [.ref q_w, .int w7, .int v_kept, .int v_seed, .ref q_imageSeed, .ref q_bookOf, .ref q_bookAt, .ref q_bookIs, .int v_written, .ref q_rs, .ref q_cs, .long v_above, .long v_below, .ref q_zs, .long v_leftAbove, .long v_leftBelow, .long v_guessAbove, .long v_guessBelow, .int v_sign, .int v_power2, .long v_bits])), (q_w, .inl (cI, 418, .inl w8))] H := hP
      have hD : va_D A [(q, .inr (11, [.ref q_w, .int w7, .int v_kept, .int v_seed, .ref q_imageSeed, .ref q_bookOf, .ref q_bookAt, .ref q_bookIs, .int v_written, .ref q_rs, .ref q_cs, .long v_above, .long v_below, .ref q_zs, .long v_leftAbove, .long v_leftBelow, .long v_guessAbove, .long v_guessBelow, .int v_sign, .int v_power2, .long v_bits])), (q_w, .inl (cI, 418, .inl w8))] := hD
      refine lv_aload_n hx hb dX12_side_33 rfl (lv_at hl 0 rfl) ?_
      refine lv_iload_n hx hb dX12_side_34 rfl (lv_at hl 1 rfl) ?_
      refine lv_iconst (v := 4) hx hb dX12_side_35 (by decide) ?_
      obtain ⟨r10, h11, hf⟩ := kb1_e hf
      refine k_gl (k_runV (rest := []) hat hP hD hS hl.1 (c_X12_cell q q_w q_imageSeed q_bookOf q_bookAt q_bookIs q_rs q_cs q_zs w7 v_kept v_seed v_written v_above v_below v_leftAbove v_leftBelow v_guessAbove v_guessBelow v_sign v_power2 v_bits w8 x1 (4 : Int32) r10 h11) [0, 1] (by decide) rfl kw952 kw954 kw26 kw79 kw955 kdVX12_cell ⟨rfl, rfl⟩ (by rw [hR]; exact ⟨Nat.le_of_ble_eq_true rfl, Nat.le_of_ble_eq_true rfl⟩) ⟨Nat.zero_le _, Nat.zero_le _⟩ 0 11 rfl rfl rfl rfl (Nat.le_of_ble_eq_true rfl) dX12_side_36) hat hP hD hS [0, 1] rfl rfl (fun H locs hP hD hS => ?_)
      have hP : va_P D vwCl [(q, .inr (11, [.ref q_w, .int w7, .int v_kept, .int v_seed, .ref q_imageSeed, .ref q_bookOf, .ref q_bookAt, .ref q_bookIs, .int v_written, .ref q_rs, .ref q_cs, .long v_above, .long v_below, .ref q_zs, .long v_leftAbove, .long v_leftBelow, .long v_guessAbove, .long v_guessBelow, .int v_sign, .int v_power2, .long v_bits])), (q_w, .inl (cI, 418, .inl w8))] H := hP
      have hD : va_D A [(q, .inr (11, [.ref q_w, .int w7, .int v_kept, .int v_seed, .ref q_imageSeed, .ref q_bookOf, .ref q_bookAt, .ref q_bookIs, .int v_written, .ref q_rs, .ref q_cs, .long v_above, .long v_below, .ref q_zs, .long v_leftAbove, .long v_leftBelow, .long v_guessAbove, .long v_guessBelow, .int v_sign, .int v_power2, .long v_bits])), (q_w, .inl (cI, 418, .inl w8))] := hD
      refine lv_l2i hx hb dX12_side_39 rfl ?_
      refine lv_topi (fun t12 et12 => ?_)
      have hf := kl_e hf t12 et12
      refine lv_istore_n (lv' := [(3, .int t12), (0, .ref q), (1, .int x1), (2, .int x2)]) hx hb dX12_side_40 rfl hl (by decide) rfl (fun ls hl => ?_)
      refine lv_aload_n hx hb dX12_side_41 rfl (lv_at hl 1 rfl) ?_
      refine lv_iload_n hx hb dX12_side_42 rfl (lv_at hl 2 rfl) ?_
      refine lv_iconst (v := 4) hx hb dX12_side_43 (by decide) ?_
      refine lv_iload_n hx hb dX12_side_44 rfl (lv_at hl 3 rfl) ?_
      obtain ⟨w13, h14, hf⟩ := kb1_e hf
      refine k_gv (k_runV (rest := []) hat hP hD hS hl.1 (c_X12_set q q_w q_imageSeed q_bookOf q_bookAt q_bookIs q_rs q_cs q_zs w7 v_kept v_seed v_written v_above v_below v_leftAbove v_leftBelow v_guessAbove v_guessBelow v_sign v_power2 v_bits w8 x1 (4 : Int32) x2 w13 h14) [0, 1] (by decide) rfl kw1203 kw1205 kw64 kw79 kw1206 kdVX12_set ⟨rfl, rfl⟩ (by rw [hR]; exact ⟨Nat.le_of_ble_eq_true rfl, Nat.le_of_ble_eq_true rfl⟩) ⟨Nat.zero_le _, Nat.zero_le _⟩ 0 11 rfl rfl rfl rfl (Nat.le_of_ble_eq_true rfl) dX12_side_45) hat hP hD hS [0, 1] rfl rfl (fun H locs hP hD hS => ?_)
      have hP : va_P D vwCl [(q, .inr (11, [.ref q_w, .int w7, .int v_kept, .int v_seed, .ref q_imageSeed, .ref q_bookOf, .ref q_bookAt, .ref q_bookIs, .int v_written, .ref q_rs, .ref q_cs, .long v_above, .long v_below, .ref q_zs, .long v_leftAbove, .long v_leftBelow, .long v_guessAbove, .long v_guessBelow, .int v_sign, .int v_power2, .long v_bits])), (q_w, .inl (cI, 418, .inl w13))] H := hP
      have hD : va_D A [(q, .inr (11, [.ref q_w, .int w7, .int v_kept, .int v_seed, .ref q_imageSeed, .ref q_bookOf, .ref q_bookAt, .ref q_bookIs, .int v_written, .ref q_rs, .ref q_cs, .long v_above, .long v_below, .ref q_zs, .long v_leftAbove, .long v_leftBelow, .long v_guessAbove, .long v_guessBelow, .int v_sign, .int v_power2, .long v_bits])), (q_w, .inl (cI, 418, .inl w13))] := hD
      refine lv_iload_n hx hb dX12_side_48 rfl (lv_at hl 0 rfl) ?_
      refine lv_bipush (v := 100) hx hb dX12_side_49 (by decide) ?_
      refine lv_iadd hx hb dX12_side_51 ?_
      obtain ⟨rfl, rfl, rfl⟩ := ki3 hf
      rw [hQ]
      exact k_iret hat hP hS rfl dX12_side_52
    · have hf := kp_e hf c6
      refine lv_ldc hx hb hown (hts _ kw1077) dX12_side_26 ?_
      obtain ⟨rfl, rfl, rfl⟩ := ki3 hf
      rw [hQ]
      exact k_iret hat hP hS rfl dX12_side_28
  · have hf := kp_e hf c3
    refine lv_ldcw hx hb hown (hts _ kw1082) dX12_side_8 ?_
    obtain ⟨rfl, rfl, rfl⟩ := ki3 hf
    rw [hQ]
    exact k_iret hat hP hS rfl dX12_side_11
set_option maxHeartbeats 4000000 in
set_option maxRecDepth 100000 in
theorem c_X12_swap {l : Launch} {D : va_G} {cI cJ cQ : ClassId} {tp : Nat} (q : Nat) (q_w : Nat) (q_imageSeed : Nat) (q_bookOf : Nat) (q_bookAt : Nat) (q_bookIs : Nat) (q_rs : Nat) (q_cs : Nat) (q_zs : Nat) (v_known : Int32) (v_kept : Int32) (v_seed : Int32) (v_written : Int32) (v_above : Int64) (v_below : Int64) (v_leftAbove : Int64) (v_leftBelow : Int64) (v_guessAbove : Int64) (v_guessBelow : Int64) (v_sign : Int32) (v_power2 : Int32) (v_bits : Int64) (v_w : (Nat → Int32)) (F : Nat) (x1 : Int32) (x2 : Int32) (r0 : Int32) (o_v_known : Int32) (o_v_w : (Nat → Int32)) (hf : f_X12_swap F v_known v_w x1 x2 = some (r0, o_v_known, o_v_w)) : kM (fun A => kQi D A [(q, .inr (11, [.ref q_w, .int o_v_known, .int v_kept, .int v_seed, .ref q_imageSeed, .ref q_bookOf, .ref q_bookAt, .ref q_bookIs, .int v_written, .ref q_rs, .ref q_cs, .long v_above, .long v_below, .ref q_zs, .long v_leftAbove, .long v_leftBelow, .long v_guessAbove, .long v_guessBelow, .int v_sign, .int v_power2, .long v_bits])), (q_w, .inl (cI, 418, .inl o_v_w))] r0) (some .int) l yX12_swap cX12_swap 5 { frames := 2, cells := 0, slots := 0, locals := 46 } D cI cJ cQ tp [.ref q, .int x1, .int x2] [(q, .inr (11, [.ref q_w, .int v_known, .int v_kept, .int v_seed, .ref q_imageSeed, .ref q_bookOf, .ref q_bookAt, .ref q_bookIs, .int v_written, .ref q_rs, .ref q_cs, .long v_above, .long v_below, .ref q_zs, .long v_leftAbove, .long v_leftBelow, .long v_guessAbove, .long v_guessBelow, .int v_sign, .int v_power2, .long v_bits])), (q_w, .inl (cI, 418, .inl v_w))] := by
  refine kM_of (by decide) (Nat.le_of_ble_eq_true rfl) ?_
  intro p e s m args below meth c A ls R Q hR hQ hat hP hD hS hl
  obtain ⟨hx, hb, hr, hml, hown, hts, hT, hlk, hK, hA, hZ⟩ := id hat
  have hown : s.vm.findClass RX12 = some m.cls := hown
  have hl : lv_has ls 5 [(0, .ref q), (1, .int x1), (2, .int x2)] := hl
  have hL31 : ∀ (x1 : Int32) (x2 : Int32) (v_known : Int32) (v_kept : Int32) (v_seed : Int32) (v_written : Int32) (v_above : Int64) (v_below : Int64) (v_leftAbove : Int64) (v_leftBelow : Int64) (v_guessAbove : Int64) (v_guessBelow : Int64) (v_sign : Int32) (v_power2 : Int32) (v_bits : Int64) (fu : Nat) (x3 : Int32) (v_w : (Nat → Int32)) (o0 : (Nat → Int32)), L_X12_swap_31 x1 x2 fu x3 v_w = some o0 → (∀ (H : Heap) (locs : List Loc) (ls : Array Slot), va_P D vwCl [(q, .inr (11, [.ref q_w, .int v_known, .int v_kept, .int v_seed, .ref q_imageSeed, .ref q_bookOf, .ref q_bookAt, .ref q_bookIs, .int v_written, .ref q_rs, .ref q_cs, .long v_above, .long v_below, .ref q_zs, .long v_leftAbove, .long v_leftBelow, .long v_guessAbove, .long v_guessBelow, .int v_sign, .int v_power2, .long v_bits])), (q_w, .inl (cI, 418, .inl o0))] H → va_D A [(q, .inr (11, [.ref q_w, .int v_known, .int v_kept, .int v_seed, .ref q_imageSeed, .ref q_bookOf, .ref q_bookAt, .ref q_bookIs, .int v_written, .ref q_rs, .ref q_cs, .long v_above, .long v_below, .ref q_zs, .long v_leftAbove, .long v_leftBelow, .long v_guessAbove, .long v_guessBelow, .int v_sign, .int v_power2, .long v_bits])), (q_w, .inl (cI, 418, .inl o0))] → va_S A s.heap H locs → lv_has ls 5 [] → W p l e R s m args below meth c H locs 0 0 Q (F0 m 72 ls [])) → ∀ (H : Heap) (locs : List Loc) (ls : Array Slot), va_P D vwCl [(q, .inr (11, [.ref q_w, .int v_known, .int v_kept, .int v_seed, .ref q_imageSeed, .ref q_bookOf, .ref q_bookAt, .ref q_bookIs, .int v_written, .ref q_rs, .ref q_cs, .long v_above, .long v_below, .ref q_zs, .long v_leftAbove, .long v_leftBelow, .long v_guessAbove, .long v_guessBelow, .int v_sign, .int v_power2, .long v_bits])), (q_w, .inl (cI, 418, .inl v_w))] H → va_D A [(q, .inr (11, [.ref q_w, .int v_known, .int v_kept, .int v_seed, .ref q_imageSeed, .ref q_bookOf, .ref q_bookAt, .ref q_bookIs, .int v_written, .ref q_rs, .ref q_cs, .long v_above, .long v_below, .ref q_zs, .long v_leftAbove, .long v_leftBelow, .long v_guessAbove, .long v_guessBelow, .int v_sign, .int v_power2, .long v_bits])), (q_w, .inl (cI, 418, .inl v_w))] → va_S A s.heap H locs → lv_has ls 5 [(0, .ref q), (1, .int x1), (2, .int x2), (3, .int x3)] → W p l e R s m args below meth c H locs 0 0 Q (F0 m 31 ls []) := by
    intro x1 x2 v_known v_kept v_seed v_written v_above v_below v_leftAbove v_leftBelow v_guessAbove v_guessBelow v_sign v_power2 v_bits fu
    induction fu with
    | zero =>
      intro x3 v_w o0 hf
      cases hf
    | succ fu ih =>
      intro x3 v_w o0 hf hk0 H locs ls hP hD hS hl
      rw [L_X12_swap_31] at hf
      refine lv_iload_n hx hb dX12_swap_31 rfl (lv_at hl 3 rfl) ?_
      refine lv_iconst (v := 5) hx hb dX12_swap_32 (by decide) ?_
      refine lv_icmp_ge (tgt := 72) hx hb dX12_swap_33 (by decide) (fun c11 => ?_) (fun c11 => ?_)
      · have hf := kp_e hf c11
        obtain rfl := ki1 hf
        exact hk0 _ _ _ hP hD hS (lv_sub hl [] rfl)
      · have hf := kn_e hf c11
        refine lv_aload_n hx hb dX12_swap_36 rfl (lv_at hl 0 rfl) ?_
        refine lv_iload_n hx hb dX12_swap_37 rfl (lv_at hl 1 rfl) ?_
        refine lv_iload_n hx hb dX12_swap_38 rfl (lv_at hl 3 rfl) ?_
        obtain ⟨r12, h13, hf⟩ := kb1_e hf
        refine k_gl (k_runV (rest := []) hat hP hD hS hl.1 (c_X12_cell q q_w q_imageSeed q_bookOf q_bookAt q_bookIs q_rs q_cs q_zs v_known v_kept v_seed v_written v_above v_below v_leftAbove v_leftBelow v_guessAbove v_guessBelow v_sign v_power2 v_bits v_w x1 x3 r12 h13) [0, 1] (by decide) rfl kw952 kw954 kw26 kw79 kw955 kdVX12_cell ⟨rfl, rfl⟩ (by rw [hR]; exact ⟨Nat.le_of_ble_eq_true rfl, Nat.le_of_ble_eq_true rfl⟩) ⟨Nat.zero_le _, Nat.zero_le _⟩ 0 11 rfl rfl rfl rfl (Nat.le_of_ble_eq_true rfl) dX12_swap_39) hat hP hD hS [0, 1] rfl rfl (fun H locs hP hD hS => ?_)
        have hP : va_P D vwCl [(q, .inr (11, [.ref q_w, .int v_known, .int v_kept, .int v_seed, .ref q_imageSeed, .ref q_bookOf, .ref q_bookAt, .ref q_bookIs, .int v_written, .ref q_rs, .ref q_cs, .long v_above, .long v_below, .ref q_zs, .long v_leftAbove, .long v_leftBelow, .long v_guessAbove, .long v_guessBelow, .int v_sign, .int v_power2, .long v_bits])), (q_w, .inl (cI, 418, .inl v_w))] H := hP
        have hD : va_D A [(q, .inr (11, [.ref q_w, .int v_known, .int v_kept, .int v_seed, .ref q_imageSeed, .ref q_bookOf, .ref q_bookAt, .ref q_bookIs, .int v_written, .ref q_rs, .ref q_cs, .long v_above, .long v_below, .ref q_zs, .long v_leftAbove, .long v_leftBelow, .long v_guessAbove, .long v_guessBelow, .int v_sign, .int v_power2, .long v_bits])), (q_w, .inl (cI, 418, .inl v_w))] := hD
        refine lv_l2i hx hb dX12_swap_42 rfl ?_
        refine lv_topi (fun t14 et14 => ?_)
        have hf := kl_e hf t14 et14
        refine lv_istore (lv' := [(4, .int t14), (0, .ref q), (1, .int x1), (2, .int x2), (3, .int x3)]) hx hb dX12_swap_43 hl (by decide) rfl (fun ls hl => ?_)
        refine lv_aload_n hx hb dX12_swap_45 rfl (lv_at hl 1 rfl) ?_
        refine lv_iload_n hx hb dX12_swap_46 rfl (lv_at hl 2 rfl) ?_
        refine lv_iload_n hx hb dX12_swap_47 rfl (lv_at hl 4 rfl) ?_
        refine lv_aload_n hx hb dX12_swap_48 rfl (lv_at hl 1 rfl) ?_
        refine lv_iload_n hx hb dX12_swap_49 rfl (lv_at hl 3 rfl) ?_
        refine lv_iload_n hx hb dX12_swap_50 rfl (lv_at hl 4 rfl) ?_
        obtain ⟨r15, h16, hf⟩ := kb1_e hf
        refine k_gl (k_runV (rest := [.int x3, .int x1, .ref q]) hat hP hD hS hl.1 (c_X12_cell q q_w q_imageSeed q_bookOf q_bookAt q_bookIs q_rs q_cs q_zs v_known v_kept v_seed v_written v_above v_below v_leftAbove v_leftBelow v_guessAbove v_guessBelow v_sign v_power2 v_bits v_w x2 x3 r15 h16) [0, 1] (by decide) rfl kw952 kw954 kw26 kw79 kw955 kdVX12_cell ⟨rfl, rfl⟩ (by rw [hR]; exact ⟨Nat.le_of_ble_eq_true rfl, Nat.le_of_ble_eq_true rfl⟩) ⟨Nat.zero_le _, Nat.zero_le _⟩ 0 11 rfl rfl rfl rfl (Nat.le_of_ble_eq_true rfl) dX12_swap_51) hat hP hD hS [0, 1] rfl rfl (fun H locs hP hD hS => ?_)
        have hP : va_P D vwCl [(q, .inr (11, [.ref q_w, .int v_known, .int v_kept, .int v_seed, .ref q_imageSeed, .ref q_bookOf, .ref q_bookAt, .ref q_bookIs, .int v_written, .ref q_rs, .ref q_cs, .long v_above, .long v_below, .ref q_zs, .long v_leftAbove, .long v_leftBelow, .long v_guessAbove, .long v_guessBelow, .int v_sign, .int v_power2, .long v_bits])), (q_w, .inl (cI, 418, .inl v_w))] H := hP
        have hD : va_D A [(q, .inr (11, [.ref q_w, .int v_known, .int v_kept, .int v_seed, .ref q_imageSeed, .ref q_bookOf, .ref q_bookAt, .ref q_bookIs, .int v_written, .ref q_rs, .ref q_cs, .long v_above, .long v_below, .ref q_zs, .long v_leftAbove, .long v_leftBelow, .long v_guessAbove, .long v_guessBelow, .int v_sign, .int v_power2, .long v_bits])), (q_w, .inl (cI, 418, .inl v_w))] := hD
        refine lv_l2i hx hb dX12_swap_54 rfl ?_
        obtain ⟨w17, h18, hf⟩ := kb1_e hf
        refine k_gv (k_runV (rest := []) hat hP hD hS hl.1 (c_X12_set q q_w q_imageSeed q_bookOf q_bookAt q_bookIs q_rs q_cs q_zs v_known v_kept v_seed v_written v_above v_below v_leftAbove v_leftBelow v_guessAbove v_guessBelow v_sign v_power2 v_bits v_w x1 x3 (r15.toInt32) w17 h18) [0, 1] (by decide) rfl kw1203 kw1205 kw64 kw79 kw1206 kdVX12_set ⟨rfl, rfl⟩ (by rw [hR]; exact ⟨Nat.le_of_ble_eq_true rfl, Nat.le_of_ble_eq_true rfl⟩) ⟨Nat.zero_le _, Nat.zero_le _⟩ 0 11 rfl rfl rfl rfl (Nat.le_of_ble_eq_true rfl) dX12_swap_55) hat hP hD hS [0, 1] rfl rfl (fun H locs hP hD hS => ?_)
        have hP : va_P D vwCl [(q, .inr (11, [.ref q_w, .int v_known, .int v_kept, .int v_seed, .ref q_imageSeed, .ref q_bookOf, .ref q_bookAt, .ref q_bookIs, .int v_written, .ref q_rs, .ref q_cs, .long v_above, .long v_below, .ref q_zs, .long v_leftAbove, .long v_leftBelow, .long v_guessAbove, .long v_guessBelow, .int v_sign, .int v_power2, .long v_bits])), (q_w, .inl (cI, 418, .inl w17))] H := hP
        have hD : va_D A [(q, .inr (11, [.ref q_w, .int v_known, .int v_kept, .int v_seed, .ref q_imageSeed, .ref q_bookOf, .ref q_bookAt, .ref q_bookIs, .int v_written, .ref q_rs, .ref q_cs, .long v_above, .long v_below, .ref q_zs, .long v_leftAbove, .long v_leftBelow, .long v_guessAbove, .long v_guessBelow, .int v_sign, .int v_power2, .long v_bits])), (q_w, .inl (cI, 418, .inl w17))] := hD
        refine lv_aload_n hx hb dX12_swap_58 rfl (lv_at hl 1 rfl) ?_
        refine lv_iload_n hx hb dX12_swap_59 rfl (lv_at hl 3 rfl) ?_
        refine lv_iload_n hx hb dX12_swap_60 rfl (lv_at hl 4 rfl) ?_
        refine lv_iload hx hb dX12_swap_61 (lv_at hl 0 rfl) ?_
        obtain ⟨w19, h20, hf⟩ := kb1_e hf
        refine k_gv (k_runV (rest := []) hat hP hD hS hl.1 (c_X12_set q q_w q_imageSeed q_bookOf q_bookAt q_bookIs q_rs q_cs q_zs v_known v_kept v_seed v_written v_above v_below v_leftAbove v_leftBelow v_guessAbove v_guessBelow v_sign v_power2 v_bits w17 x2 x3 t14 w19 h20) [0, 1] (by decide) rfl kw1203 kw1205 kw64 kw79 kw1206 kdVX12_set ⟨rfl, rfl⟩ (by rw [hR]; exact ⟨Nat.le_of_ble_eq_true rfl, Nat.le_of_ble_eq_true rfl⟩) ⟨Nat.zero_le _, Nat.zero_le _⟩ 0 11 rfl rfl rfl rfl (Nat.le_of_ble_eq_true rfl) dX12_swap_63) hat hP hD hS [0, 1] rfl rfl (fun H locs hP hD hS => ?_)
        have hP : va_P D vwCl [(q, .inr (11, [.ref q_w, .int v_known, .int v_kept, .int v_seed, .ref q_imageSeed, .ref q_bookOf, .ref q_bookAt, .ref q_bookIs, .int v_written, .ref q_rs, .ref q_cs, .long v_above, .long v_below, .ref q_zs, .long v_leftAbove, .long v_leftBelow, .long v_guessAbove, .long v_guessBelow, .int v_sign, .int v_power2, .long v_bits])), (q_w, .inl (cI, 418, .inl w19))] H := hP
        have hD : va_D A [(q, .inr (11, [.ref q_w, .int v_known, .int v_kept, .int v_seed, .ref q_imageSeed, .ref q_bookOf, .ref q_bookAt, .ref q_bookIs, .int v_written, .ref q_rs, .ref q_cs, .long v_above, .long v_below, .ref q_zs, .long v_leftAbove, .long v_leftBelow, .long v_guessAbove, .long v_guessBelow, .int v_sign, .int v_power2, .long v_bits])), (q_w, .inl (cI, 418, .inl w19))] := hD
        obtain ⟨t21, et21⟩ : ∃ z : Int32, z = (x3 + (1 : Int32)) := ⟨_, rfl⟩
        have hf := kl_e hf t21 et21
        refine lv_iinc (v := t21) (lv' := [(3, .int t21), (4, .int t14), (0, .ref q), (1, .int x1), (2, .int x2)]) hx hb dX12_swap_66 hl (k := 4) rfl (by rw [et21]; rfl) (by decide) rfl (fun ls hl => ?_)
        refine lv_goto (tgt := 31) hx hb dX12_swap_69 (by decide) ?_
        exact ih t21 w19 o0 hf hk0 _ _ _ hP hD hS (lv_sub hl [2, 3, 4, 0] rfl)
  unfold f_X12_swap at hf
  refine lv_aload_n hx hb dX12_swap_0 rfl (lv_at hl 0 rfl) ?_
  refine lv_iload_n hx hb dX12_swap_1 rfl (lv_at hl 1 rfl) ?_
  obtain ⟨r1, h2, hf⟩ := kb1_e hf
  refine k_gi (k_runV (rest := []) hat hP hD hS hl.1 (c_X12_isRow q q_w q_imageSeed q_bookOf q_bookAt q_bookIs q_rs q_cs q_zs v_known v_kept v_seed v_written v_above v_below v_leftAbove v_leftBelow v_guessAbove v_guessBelow v_sign v_power2 v_bits v_w x1 r1 h2) [0, 1] (by decide) rfl kw1069 kw1071 kw50 kw79 kw1072 kdVX12_isRow ⟨rfl, rfl⟩ (by rw [hR]; exact ⟨Nat.le_of_ble_eq_true rfl, Nat.le_of_ble_eq_true rfl⟩) ⟨Nat.zero_le _, Nat.zero_le _⟩ 0 11 rfl rfl rfl rfl (Nat.le_of_ble_eq_true rfl) dX12_swap_2) hat hP hD hS [0, 1] rfl rfl (fun H locs hP hD hS => ?_)
  have hP : va_P D vwCl [(q, .inr (11, [.ref q_w, .int v_known, .int v_kept, .int v_seed, .ref q_imageSeed, .ref q_bookOf, .ref q_bookAt, .ref q_bookIs, .int v_written, .ref q_rs, .ref q_cs, .long v_above, .long v_below, .ref q_zs, .long v_leftAbove, .long v_leftBelow, .long v_guessAbove, .long v_guessBelow, .int v_sign, .int v_power2, .long v_bits])), (q_w, .inl (cI, 418, .inl v_w))] H := hP
  have hD : va_D A [(q, .inr (11, [.ref q_w, .int v_known, .int v_kept, .int v_seed, .ref q_imageSeed, .ref q_bookOf, .ref q_bookAt, .ref q_bookIs, .int v_written, .ref q_rs, .ref q_cs, .long v_above, .long v_below, .ref q_zs, .long v_leftAbove, .long v_leftBelow, .long v_guessAbove, .long v_guessBelow, .int v_sign, .int v_power2, .long v_bits])), (q_w, .inl (cI, 418, .inl v_w))] := hD
  refine lv_if_eq (tgt := 21) hx hb dX12_swap_5 (by decide) (fun c3 => ?_) (fun c3 => ?_)
  · have hf := kp_e hf c3
    refine lv_ldcw hx hb hown (hts _ kw1082) dX12_swap_21 ?_
    obtain ⟨rfl, rfl, rfl⟩ := ki3 hf
    rw [hQ]
    exact k_iret hat hP hS rfl dX12_swap_24
  · have hf := kn_e hf c3
    refine lv_aload_n hx hb dX12_swap_8 rfl (lv_at hl 0 rfl) ?_
    refine lv_iload_n hx hb dX12_swap_9 rfl (lv_at hl 2 rfl) ?_
    obtain ⟨r4, h5, hf⟩ := kb1_e hf
    refine k_gi (k_runV (rest := []) hat hP hD hS hl.1 (c_X12_isRow q q_w q_imageSeed q_bookOf q_bookAt q_bookIs q_rs q_cs q_zs v_known v_kept v_seed v_written v_above v_below v_leftAbove v_leftBelow v_guessAbove v_guessBelow v_sign v_power2 v_bits v_w x2 r4 h5) [0, 1] (by decide) rfl kw1069 kw1071 kw50 kw79 kw1072 kdVX12_isRow ⟨rfl, rfl⟩ (by rw [hR]; exact ⟨Nat.le_of_ble_eq_true rfl, Nat.le_of_ble_eq_true rfl⟩) ⟨Nat.zero_le _, Nat.zero_le _⟩ 0 11 rfl rfl rfl rfl (Nat.le_of_ble_eq_true rfl) dX12_swap_10) hat hP hD hS [0, 1] rfl rfl (fun H locs hP hD hS => ?_)
    have hP : va_P D vwCl [(q, .inr (11, [.ref q_w, .int v_known, .int v_kept, .int v_seed, .ref q_imageSeed, .ref q_bookOf, .ref q_bookAt, .ref q_bookIs, .int v_written, .ref q_rs, .ref q_cs, .long v_above, .long v_below, .ref q_zs, .long v_leftAbove, .long v_leftBelow, .long v_guessAbove, .long v_guessBelow, .int v_sign, .int v_power2, .long v_bits])), (q_w, .inl (cI, 418, .inl v_w))] H := hP
    have hD : va_D A [(q, .inr (11, [.ref q_w, .int v_known, .int v_kept, .int v_seed, .ref q_imageSeed, .ref q_bookOf, .ref q_bookAt, .ref q_bookIs, .int v_written, .ref q_rs, .ref q_cs, .long v_above, .long v_below, .ref q_zs, .long v_leftAbove, .long v_leftBelow, .long v_guessAbove, .long v_guessBelow, .int v_sign, .int v_power2, .long v_bits])), (q_w, .inl (cI, 418, .inl v_w))] := hD
    refine lv_if_eq (tgt := 21) hx hb dX12_swap_13 (by decide) (fun c6 => ?_) (fun c6 => ?_)
    · have hf := kp_e hf c6
      refine lv_ldcw hx hb hown (hts _ kw1082) dX12_swap_21 ?_
      obtain ⟨rfl, rfl, rfl⟩ := ki3 hf
      rw [hQ]
      exact k_iret hat hP hS rfl dX12_swap_24
    · have hf := kn_e hf c6
      refine lv_iload_n hx hb dX12_swap_16 rfl (lv_at hl 1 rfl) ?_
      refine lv_iload_n hx hb dX12_swap_17 rfl (lv_at hl 2 rfl) ?_
      refine lv_icmp_ne (tgt := 25) hx hb dX12_swap_18 (by decide) (fun c7 => ?_) (fun c7 => ?_)
      · have hf := kn_e hf c7
        refine lv_aload_n hx hb dX12_swap_25 rfl (lv_at hl 0 rfl) ?_
        obtain ⟨w8, w9, h10, hf⟩ := kb2_e hf
        refine k_gv (k_runV (rest := []) hat hP hD hS hl.1 (c_X12_remember q q_w q_imageSeed q_bookOf q_bookAt q_bookIs q_rs q_cs q_zs v_known v_kept v_seed v_written v_above v_below v_leftAbove v_leftBelow v_guessAbove v_guessBelow v_sign v_power2 v_bits v_w F w8 w9 h10) [0, 1] (by decide) rfl kw1189 kw1191 kw62 kw79 kw1192 kdVX12_remember ⟨rfl, rfl⟩ (by rw [hR]; exact ⟨Nat.le_of_ble_eq_true rfl, Nat.le_of_ble_eq_true rfl⟩) ⟨Nat.zero_le _, Nat.zero_le _⟩ 0 11 rfl rfl rfl rfl (Nat.le_of_ble_eq_true rfl) dX12_swap_26) hat hP hD hS [0, 1] rfl rfl (fun H locs hP hD hS => ?_)
        have hP : va_P D vwCl [(q, .inr (11, [.ref q_w, .int w8, .int v_kept, .int v_seed, .ref q_imageSeed, .ref q_bookOf, .ref q_bookAt, .ref q_bookIs, .int v_written, .ref q_rs, .ref q_cs, .long v_above, .long v_below, .ref q_zs, .long v_leftAbove, .long v_leftBelow, .long v_guessAbove, .long v_guessBelow, .int v_sign, .int v_power2, .long v_bits])), (q_w, .inl (cI, 418, .inl w9))] H := hP
        have hD : va_D A [(q, .inr (11, [.ref q_w, .int w8, .int v_kept, .int v_seed, .ref q_imageSeed, .ref q_bookOf, .ref q_bookAt, .ref q_bookIs, .int v_written, .ref q_rs, .ref q_cs, .long v_above, .long v_below, .ref q_zs, .long v_leftAbove, .long v_leftBelow, .long v_guessAbove, .long v_guessBelow, .int v_sign, .int v_power2, .long v_bits])), (q_w, .inl (cI, 418, .inl w9))] := hD
        refine lv_iconst (v := 0) hx hb dX12_swap_29 (by decide) ?_
        refine lv_istore_n (lv' := [(3, .int (0 : Int32)), (0, .ref q), (1, .int x1), (2, .int x2)]) hx hb dX12_swap_30 rfl hl (by decide) rfl (fun ls hl => ?_)
        obtain ⟨w22, hu, hf⟩ := kb1_e hf
        refine hL31 x1 x2 w8 v_kept v_seed v_written v_above v_below v_leftAbove v_leftBelow v_guessAbove v_guessBelow v_sign v_power2 v_bits F (0 : Int32) w9 w22 hu (fun H locs ls hP hD hS hl => ?_) _ _ _ hP hD hS (lv_sub hl [1, 2, 3, 0] rfl)
        refine lv_iconst (v := 1) hx hb dX12_swap_72 (by decide) ?_
        obtain ⟨rfl, rfl, rfl⟩ := ki3 hf
        rw [hQ]
        exact k_iret hat hP hS rfl dX12_swap_73
      · have hf := kp_e hf c7
        refine lv_ldcw hx hb hown (hts _ kw1082) dX12_swap_21 ?_
        obtain ⟨rfl, rfl, rfl⟩ := ki3 hf
        rw [hQ]
        exact k_iret hat hP hS rfl dX12_swap_24
set_option maxHeartbeats 4000000 in
set_option maxRecDepth 100000 in
theorem c_X12_mix {l : Launch} {D : va_G} {cI cJ cQ : ClassId} {tp : Nat} (q : Nat) (q_w : Nat) (q_imageSeed : Nat) (q_bookOf : Nat) (q_bookAt : Nat) (q_bookIs : Nat) (q_rs : Nat) (q_cs : Nat) (q_zs : Nat) (v_known : Int32) (v_kept : Int32) (v_seed : Int32) (v_written : Int32) (v_above : Int64) (v_below : Int64) (v_leftAbove : Int64) (v_leftBelow : Int64) (v_guessAbove : Int64) (v_guessBelow : Int64) (v_sign : Int32) (v_power2 : Int32) (v_bits : Int64) (v_w : (Nat → Int32)) (F : Nat) (x1 : Int32) (x2 : Int32) (x3 : Int32) (r0 : Int32) (o_v_known : Int32) (o_v_w : (Nat → Int32)) (hf : f_X12_mix F v_known v_w x1 x2 x3 = some (r0, o_v_known, o_v_w)) : kM (fun A => kQi D A [(q, .inr (11, [.ref q_w, .int o_v_known, .int v_kept, .int v_seed, .ref q_imageSeed, .ref q_bookOf, .ref q_bookAt, .ref q_bookIs, .int v_written, .ref q_rs, .ref q_cs, .long v_above, .long v_below, .ref q_zs, .long v_leftAbove, .long v_leftBelow, .long v_guessAbove, .long v_guessBelow, .int v_sign, .int v_power2, .long v_bits])), (q_w, .inl (cI, 418, .inl o_v_w))] r0) (some .int) l yX12_mix cX12_mix 6 { frames := 2, cells := 0, slots := 0, locals := 46 } D cI cJ cQ tp [.ref q, .int x1, .int x2, .int x3] [(q, .inr (11, [.ref q_w, .int v_known, .int v_kept, .int v_seed, .ref q_imageSeed, .ref q_bookOf, .ref q_bookAt, .ref q_bookIs, .int v_written, .ref q_rs, .ref q_cs, .long v_above, .long v_below, .ref q_zs, .long v_leftAbove, .long v_leftBelow, .long v_guessAbove, .long v_guessBelow, .int v_sign, .int v_power2, .long v_bits])), (q_w, .inl (cI, 418, .inl v_w))] := by
  refine kM_of (by decide) (Nat.le_of_ble_eq_true rfl) ?_
  intro p e s m args below meth c A ls R Q hR hQ hat hP hD hS hl
  obtain ⟨hx, hb, hr, hml, hown, hts, hT, hlk, hK, hA, hZ⟩ := id hat
  have hown : s.vm.findClass RX12 = some m.cls := hown
  have hl : lv_has ls 6 [(0, .ref q), (1, .int x1), (2, .int x2), (3, .int x3)] := hl
  have hL45 : ∀ (x1 : Int32) (x2 : Int32) (x3 : Int32) (v_known : Int32) (v_kept : Int32) (v_seed : Int32) (v_written : Int32) (v_above : Int64) (v_below : Int64) (v_leftAbove : Int64) (v_leftBelow : Int64) (v_guessAbove : Int64) (v_guessBelow : Int64) (v_sign : Int32) (v_power2 : Int32) (v_bits : Int64) (v_w : (Nat → Int32)) (fu : Nat) (x4 : Int32) (u : Unit ⊕ Unit), L_X12_mix_45 x1 x2 x3 v_w fu x4 = some u → (u = .inl () → ∀ (H : Heap) (locs : List Loc) (ls : Array Slot), va_P D vwCl [(q, .inr (11, [.ref q_w, .int v_known, .int v_kept, .int v_seed, .ref q_imageSeed, .ref q_bookOf, .ref q_bookAt, .ref q_bookIs, .int v_written, .ref q_rs, .ref q_cs, .long v_above, .long v_below, .ref q_zs, .long v_leftAbove, .long v_leftBelow, .long v_guessAbove, .long v_guessBelow, .int v_sign, .int v_power2, .long v_bits])), (q_w, .inl (cI, 418, .inl v_w))] H → va_D A [(q, .inr (11, [.ref q_w, .int v_known, .int v_kept, .int v_seed, .ref q_imageSeed, .ref q_bookOf, .ref q_bookAt, .ref q_bookIs, .int v_written, .ref q_rs, .ref q_cs, .long v_above, .long v_below, .ref q_zs, .long v_leftAbove, .long v_leftBelow, .long v_guessAbove, .long v_guessBelow, .int v_sign, .int v_power2, .long v_bits])), (q_w, .inl (cI, 418, .inl v_w))] → va_S A s.heap H locs → lv_has ls 6 [] → W p l e R s m args below meth c H locs 0 0 Q (F0 m 97 ls [])) → (u = .inr () → ∀ (H : Heap) (locs : List Loc) (ls : Array Slot), va_P D vwCl [(q, .inr (11, [.ref q_w, .int v_known, .int v_kept, .int v_seed, .ref q_imageSeed, .ref q_bookOf, .ref q_bookAt, .ref q_bookIs, .int v_written, .ref q_rs, .ref q_cs, .long v_above, .long v_below, .ref q_zs, .long v_leftAbove, .long v_leftBelow, .long v_guessAbove, .long v_guessBelow, .int v_sign, .int v_power2, .long v_bits])), (q_w, .inl (cI, 418, .inl v_w))] H → va_D A [(q, .inr (11, [.ref q_w, .int v_known, .int v_kept, .int v_seed, .ref q_imageSeed, .ref q_bookOf, .ref q_bookAt, .ref q_bookIs, .int v_written, .ref q_rs, .ref q_cs, .long v_above, .long v_below, .ref q_zs, .long v_leftAbove, .long v_leftBelow, .long v_guessAbove, .long v_guessBelow, .int v_sign, .int v_power2, .long v_bits])), (q_w, .inl (cI, 418, .inl v_w))] → va_S A s.heap H locs → lv_has ls 6 [(0, .ref q), (1, .int x1), (2, .int x2), (3, .int x3)] → W p l e R s m args below meth c H locs 0 0 Q (F0 m 107 ls [])) → ∀ (H : Heap) (locs : List Loc) (ls : Array Slot), va_P D vwCl [(q, .inr (11, [.ref q_w, .int v_known, .int v_kept, .int v_seed, .ref q_imageSeed, .ref q_bookOf, .ref q_bookAt, .ref q_bookIs, .int v_written, .ref q_rs, .ref q_cs, .long v_above, .long v_below, .ref q_zs, .long v_leftAbove, .long v_leftBelow, .long v_guessAbove, .long v_guessBelow, .int v_sign, .int v_power2, .long v_bits])), (q_w, .inl (cI, 418, .inl v_w))] H → va_D A [(q, .inr (11, [.ref q_w, .int v_known, .int v_kept, .int v_seed, .ref q_imageSeed, .ref q_bookOf, .ref q_bookAt, .ref q_bookIs, .int v_written, .ref q_rs, .ref q_cs, .long v_above, .long v_below, .ref q_zs, .long v_leftAbove, .long v_leftBelow, .long v_guessAbove, .long v_guessBelow, .int v_sign, .int v_power2, .long v_bits])), (q_w, .inl (cI, 418, .inl v_w))] → va_S A s.heap H locs → lv_has ls 6 [(0, .ref q), (1, .int x1), (2, .int x2), (3, .int x3), (4, .int x4)] → W p l e R s m args below meth c H locs 0 0 Q (F0 m 45 ls []) := by
    intro x1 x2 x3 v_known v_kept v_seed v_written v_above v_below v_leftAbove v_leftBelow v_guessAbove v_guessBelow v_sign v_power2 v_bits v_w fu
    induction fu with
    | zero =>
      intro x4 u hf
      cases hf
    | succ fu ih =>
      intro x4 u hf hk0 hk1 H locs ls hP hD hS hl
      rw [L_X12_mix_45] at hf
      refine lv_iload hx hb dX12_mix_45 (lv_at hl 4 rfl) ?_
      refine lv_iconst (v := 5) hx hb dX12_mix_47 (by decide) ?_
      refine lv_icmp_ge (tgt := 107) hx hb dX12_mix_48 (by decide) (fun c11 => ?_) (fun c11 => ?_)
      · have hf := kp_e hf c11
        exact hk1  (Option.some.inj hf).symm _ _ _ hP hD hS (lv_sub hl [0, 1, 2, 3] rfl)
      · have hf := kn_e hf c11
        refine lv_iload hx hb dX12_mix_51 (lv_at hl 4 rfl) ?_
        refine lv_iconst (v := 4) hx hb dX12_mix_53 (by decide) ?_
        obtain ⟨J13, hJ13_, hf⟩ := kj1_e hf
        have hJ13 : ∀ (t12 : Int32), J13 t12 = some u → ∀ (H : Heap) (locs : List Loc) (ls : Array Slot), va_P D vwCl [(q, .inr (11, [.ref q_w, .int v_known, .int v_kept, .int v_seed, .ref q_imageSeed, .ref q_bookOf, .ref q_bookAt, .ref q_bookIs, .int v_written, .ref q_rs, .ref q_cs, .long v_above, .long v_below, .ref q_zs, .long v_leftAbove, .long v_leftBelow, .long v_guessAbove, .long v_guessBelow, .int v_sign, .int v_power2, .long v_bits])), (q_w, .inl (cI, 418, .inl v_w))] H → va_D A [(q, .inr (11, [.ref q_w, .int v_known, .int v_kept, .int v_seed, .ref q_imageSeed, .ref q_bookOf, .ref q_bookAt, .ref q_bookIs, .int v_written, .ref q_rs, .ref q_cs, .long v_above, .long v_below, .ref q_zs, .long v_leftAbove, .long v_leftBelow, .long v_guessAbove, .long v_guessBelow, .int v_sign, .int v_power2, .long v_bits])), (q_w, .inl (cI, 418, .inl v_w))] → va_S A s.heap H locs → lv_has ls 6 [(0, .ref q), (1, .int x1), (2, .int x2), (3, .int x3), (4, .int x4)] → W p l e R s m args below meth c H locs 0 0 Q (F0 m 64 ls [.int t12]) := by
          intro t12 hf H locs ls hP hD hS hl
          rw [hJ13_] at hf
          refine lv_istore (lv' := [(5, .int t12), (0, .ref q), (1, .int x1), (2, .int x2), (3, .int x3), (4, .int x4)]) hx hb dX12_mix_64 hl (by decide) rfl (fun ls hl => ?_)
          refine lv_aload_n hx hb dX12_mix_66 rfl (lv_at hl 1 rfl) ?_
          refine lv_iload_n hx hb dX12_mix_67 rfl (lv_at hl 2 rfl) ?_
          refine lv_iload hx hb dX12_mix_68 (lv_at hl 5 rfl) ?_
          obtain ⟨r14, h15, hf⟩ := kb1_e hf
          refine k_gl (k_runV (rest := []) hat hP hD hS hl.1 (c_X12_cell q q_w q_imageSeed q_bookOf q_bookAt q_bookIs q_rs q_cs q_zs v_known v_kept v_seed v_written v_above v_below v_leftAbove v_leftBelow v_guessAbove v_guessBelow v_sign v_power2 v_bits v_w x1 x4 r14 h15) [0, 1] (by decide) rfl kw952 kw954 kw26 kw79 kw955 kdVX12_cell ⟨rfl, rfl⟩ (by rw [hR]; exact ⟨Nat.le_of_ble_eq_true rfl, Nat.le_of_ble_eq_true rfl⟩) ⟨Nat.zero_le _, Nat.zero_le _⟩ 0 11 rfl rfl rfl rfl (Nat.le_of_ble_eq_true rfl) dX12_mix_70) hat hP hD hS [0, 1] rfl rfl (fun H locs hP hD hS => ?_)
          have hP : va_P D vwCl [(q, .inr (11, [.ref q_w, .int v_known, .int v_kept, .int v_seed, .ref q_imageSeed, .ref q_bookOf, .ref q_bookAt, .ref q_bookIs, .int v_written, .ref q_rs, .ref q_cs, .long v_above, .long v_below, .ref q_zs, .long v_leftAbove, .long v_leftBelow, .long v_guessAbove, .long v_guessBelow, .int v_sign, .int v_power2, .long v_bits])), (q_w, .inl (cI, 418, .inl v_w))] H := hP
          have hD : va_D A [(q, .inr (11, [.ref q_w, .int v_known, .int v_kept, .int v_seed, .ref q_imageSeed, .ref q_bookOf, .ref q_bookAt, .ref q_bookIs, .int v_written, .ref q_rs, .ref q_cs, .long v_above, .long v_below, .ref q_zs, .long v_leftAbove, .long v_leftBelow, .long v_guessAbove, .long v_guessBelow, .int v_sign, .int v_power2, .long v_bits])), (q_w, .inl (cI, 418, .inl v_w))] := hD
          refine lv_iload_n hx hb dX12_mix_73 rfl (lv_at hl 4 rfl) ?_
          refine lv_i2l hx hb dX12_mix_74 rfl ?_
          refine lv_aload_n hx hb dX12_mix_75 rfl (lv_at hl 1 rfl) ?_
          refine lv_iload_n hx hb dX12_mix_76 rfl (lv_at hl 3 rfl) ?_
          refine lv_iload hx hb dX12_mix_77 (lv_at hl 5 rfl) ?_
          obtain ⟨r16, h17, hf⟩ := kb1_e hf
          refine k_gl (k_runV (rest := [.long (x3.toInt64), .long r14]) hat hP hD hS hl.1 (c_X12_cell q q_w q_imageSeed q_bookOf q_bookAt q_bookIs q_rs q_cs q_zs v_known v_kept v_seed v_written v_above v_below v_leftAbove v_leftBelow v_guessAbove v_guessBelow v_sign v_power2 v_bits v_w x2 x4 r16 h17) [0, 1] (by decide) rfl kw952 kw954 kw26 kw79 kw955 kdVX12_cell ⟨rfl, rfl⟩ (by rw [hR]; exact ⟨Nat.le_of_ble_eq_true rfl, Nat.le_of_ble_eq_true rfl⟩) ⟨Nat.zero_le _, Nat.zero_le _⟩ 0 11 rfl rfl rfl rfl (Nat.le_of_ble_eq_true rfl) dX12_mix_79) hat hP hD hS [0, 1] rfl rfl (fun H locs hP hD hS => ?_)
          have hP : va_P D vwCl [(q, .inr (11, [.ref q_w, .int v_known, .int v_kept, .int v_seed, .ref q_imageSeed, .ref q_bookOf, .ref q_bookAt, .ref q_bookIs, .int v_written, .ref q_rs, .ref q_cs, .long v_above, .long v_below, .ref q_zs, .long v_leftAbove, .long v_leftBelow, .long v_guessAbove, .long v_guessBelow, .int v_sign, .int v_power2, .long v_bits])), (q_w, .inl (cI, 418, .inl v_w))] H := hP
          have hD : va_D A [(q, .inr (11, [.ref q_w, .int v_known, .int v_kept, .int v_seed, .ref q_imageSeed, .ref q_bookOf, .ref q_bookAt, .ref q_bookIs, .int v_written, .ref q_rs, .ref q_cs, .long v_above, .long v_below, .ref q_zs, .long v_leftAbove, .long v_leftBelow, .long v_guessAbove, .long v_guessBelow, .int v_sign, .int v_power2, .long v_bits])), (q_w, .inl (cI, 418, .inl v_w))] := hD
          refine lv_lmul hx hb dX12_mix_82 ?_
          refine lv_ladd hx hb dX12_mix_83 ?_
          refine lv_iload hx hb dX12_mix_84 (lv_at hl 0 rfl) ?_
          refine lv_ineg hx hb dX12_mix_86 ?_
          refine lv_i2l hx hb dX12_mix_87 rfl ?_
          refine lv_iload hx hb dX12_mix_88 (lv_at hl 0 rfl) ?_
          refine lv_i2l hx hb dX12_mix_90 rfl ?_
          obtain ⟨r18, h19, hf⟩ := kb1_e hf
          refine k_gi (k_runS (rest := []) hat hP hD hS hl.1 (c_X12_in (r14 + ((x3.toInt64) * r16)) ((-t12).toInt64) (t12.toInt64) r18 h19) [] (by decide) rfl kw1058 kw1059 kw79 kw1060 kdX12_in ⟨rfl, rfl⟩ (by rw [hR]; exact ⟨Nat.le_of_ble_eq_true rfl, Nat.le_of_ble_eq_true rfl⟩) ⟨Nat.zero_le _, Nat.zero_le _⟩ rfl rfl (Nat.le_of_ble_eq_true rfl) dX12_mix_91) hat hP hD hS [] rfl rfl (fun H locs hP hD hS => ?_)
          have hP : va_P D vwCl [(q, .inr (11, [.ref q_w, .int v_known, .int v_kept, .int v_seed, .ref q_imageSeed, .ref q_bookOf, .ref q_bookAt, .ref q_bookIs, .int v_written, .ref q_rs, .ref q_cs, .long v_above, .long v_below, .ref q_zs, .long v_leftAbove, .long v_leftBelow, .long v_guessAbove, .long v_guessBelow, .int v_sign, .int v_power2, .long v_bits])), (q_w, .inl (cI, 418, .inl v_w))] H := hP
          have hD : va_D A [(q, .inr (11, [.ref q_w, .int v_known, .int v_kept, .int v_seed, .ref q_imageSeed, .ref q_bookOf, .ref q_bookAt, .ref q_bookIs, .int v_written, .ref q_rs, .ref q_cs, .long v_above, .long v_below, .ref q_zs, .long v_leftAbove, .long v_leftBelow, .long v_guessAbove, .long v_guessBelow, .int v_sign, .int v_power2, .long v_bits])), (q_w, .inl (cI, 418, .inl v_w))] := hD
          refine lv_if_ne (tgt := 101) hx hb dX12_mix_94 (by decide) (fun c20 => ?_) (fun c20 => ?_)
          · have hf := kn_e hf c20
            obtain ⟨t21, et21⟩ : ∃ z : Int32, z = (x4 + (1 : Int32)) := ⟨_, rfl⟩
            have hf := kl_e hf t21 et21
            refine lv_iinc (v := t21) (lv' := [(4, .int t21), (5, .int t12), (0, .ref q), (1, .int x1), (2, .int x2), (3, .int x3)]) hx hb dX12_mix_101 hl (k := 5) rfl (by rw [et21]; rfl) (by decide) rfl (fun ls hl => ?_)
            refine lv_goto (tgt := 45) hx hb dX12_mix_104 (by decide) ?_
            exact ih t21 u hf hk0 hk1 _ _ _ hP hD hS (lv_sub hl [2, 3, 4, 5, 0] rfl)
          · have hf := kp_e hf c20
            exact hk0  (Option.some.inj hf).symm _ _ _ hP hD hS (lv_sub hl [] rfl)
        refine lv_icmp_ne (tgt := 62) hx hb dX12_mix_54 (by decide) (fun c22 => ?_) (fun c22 => ?_)
        · have hf := kn_e hf c22
          refine lv_bipush (v := 9) hx hb dX12_mix_62 (by decide) ?_
          exact hJ13 (9 : Int32) hf _ _ _ hP hD hS hl
        · have hf := kp_e hf c22
          refine lv_bipush (v := 99) hx hb dX12_mix_57 (by decide) ?_
          refine lv_goto (tgt := 64) hx hb dX12_mix_59 (by decide) ?_
          exact hJ13 (99 : Int32) hf _ _ _ hP hD hS hl
  have hL114 : ∀ (x1 : Int32) (x2 : Int32) (x3 : Int32) (v_known : Int32) (v_kept : Int32) (v_seed : Int32) (v_written : Int32) (v_above : Int64) (v_below : Int64) (v_leftAbove : Int64) (v_leftBelow : Int64) (v_guessAbove : Int64) (v_guessBelow : Int64) (v_sign : Int32) (v_power2 : Int32) (v_bits : Int64) (fu : Nat) (x4 : Int32) (v_w : (Nat → Int32)) (o0 : (Nat → Int32)), L_X12_mix_114 x1 x2 x3 fu x4 v_w = some o0 → (∀ (H : Heap) (locs : List Loc) (ls : Array Slot), va_P D vwCl [(q, .inr (11, [.ref q_w, .int v_known, .int v_kept, .int v_seed, .ref q_imageSeed, .ref q_bookOf, .ref q_bookAt, .ref q_bookIs, .int v_written, .ref q_rs, .ref q_cs, .long v_above, .long v_below, .ref q_zs, .long v_leftAbove, .long v_leftBelow, .long v_guessAbove, .long v_guessBelow, .int v_sign, .int v_power2, .long v_bits])), (q_w, .inl (cI, 418, .inl o0))] H → va_D A [(q, .inr (11, [.ref q_w, .int v_known, .int v_kept, .int v_seed, .ref q_imageSeed, .ref q_bookOf, .ref q_bookAt, .ref q_bookIs, .int v_written, .ref q_rs, .ref q_cs, .long v_above, .long v_below, .ref q_zs, .long v_leftAbove, .long v_leftBelow, .long v_guessAbove, .long v_guessBelow, .int v_sign, .int v_power2, .long v_bits])), (q_w, .inl (cI, 418, .inl o0))] → va_S A s.heap H locs → lv_has ls 6 [] → W p l e R s m args below meth c H locs 0 0 Q (F0 m 152 ls [])) → ∀ (H : Heap) (locs : List Loc) (ls : Array Slot), va_P D vwCl [(q, .inr (11, [.ref q_w, .int v_known, .int v_kept, .int v_seed, .ref q_imageSeed, .ref q_bookOf, .ref q_bookAt, .ref q_bookIs, .int v_written, .ref q_rs, .ref q_cs, .long v_above, .long v_below, .ref q_zs, .long v_leftAbove, .long v_leftBelow, .long v_guessAbove, .long v_guessBelow, .int v_sign, .int v_power2, .long v_bits])), (q_w, .inl (cI, 418, .inl v_w))] H → va_D A [(q, .inr (11, [.ref q_w, .int v_known, .int v_kept, .int v_seed, .ref q_imageSeed, .ref q_bookOf, .ref q_bookAt, .ref q_bookIs, .int v_written, .ref q_rs, .ref q_cs, .long v_above, .long v_below, .ref q_zs, .long v_leftAbove, .long v_leftBelow, .long v_guessAbove, .long v_guessBelow, .int v_sign, .int v_power2, .long v_bits])), (q_w, .inl (cI, 418, .inl v_w))] → va_S A s.heap H locs → lv_has ls 6 [(0, .ref q), (1, .int x1), (2, .int x2), (3, .int x3), (4, .int x4)] → W p l e R s m args below meth c H locs 0 0 Q (F0 m 114 ls []) := by
    intro x1 x2 x3 v_known v_kept v_seed v_written v_above v_below v_leftAbove v_leftBelow v_guessAbove v_guessBelow v_sign v_power2 v_bits fu
    induction fu with
    | zero =>
      intro x4 v_w o0 hf
      cases hf
    | succ fu ih =>
      intro x4 v_w o0 hf hk0 H locs ls hP hD hS hl
      rw [L_X12_mix_114] at hf
      refine lv_iload hx hb dX12_mix_114 (lv_at hl 4 rfl) ?_
      refine lv_iconst (v := 5) hx hb dX12_mix_116 (by decide) ?_
      refine lv_icmp_ge (tgt := 152) hx hb dX12_mix_117 (by decide) (fun c26 => ?_) (fun c26 => ?_)
      · have hf := kp_e hf c26
        obtain rfl := ki1 hf
        exact hk0 _ _ _ hP hD hS (lv_sub hl [] rfl)
      · have hf := kn_e hf c26
        refine lv_aload_n hx hb dX12_mix_120 rfl (lv_at hl 0 rfl) ?_
        refine lv_iload_n hx hb dX12_mix_121 rfl (lv_at hl 1 rfl) ?_
        refine lv_iload hx hb dX12_mix_122 (lv_at hl 4 rfl) ?_
        refine lv_aload_n hx hb dX12_mix_124 rfl (lv_at hl 0 rfl) ?_
        refine lv_iload_n hx hb dX12_mix_125 rfl (lv_at hl 1 rfl) ?_
        refine lv_iload hx hb dX12_mix_126 (lv_at hl 4 rfl) ?_
        obtain ⟨r27, h28, hf⟩ := kb1_e hf
        refine k_gl (k_runV (rest := [.int x4, .int x1, .ref q]) hat hP hD hS hl.1 (c_X12_cell q q_w q_imageSeed q_bookOf q_bookAt q_bookIs q_rs q_cs q_zs v_known v_kept v_seed v_written v_above v_below v_leftAbove v_leftBelow v_guessAbove v_guessBelow v_sign v_power2 v_bits v_w x1 x4 r27 h28) [0, 1] (by decide) rfl kw952 kw954 kw26 kw79 kw955 kdVX12_cell ⟨rfl, rfl⟩ (by rw [hR]; exact ⟨Nat.le_of_ble_eq_true rfl, Nat.le_of_ble_eq_true rfl⟩) ⟨Nat.zero_le _, Nat.zero_le _⟩ 0 11 rfl rfl rfl rfl (Nat.le_of_ble_eq_true rfl) dX12_mix_128) hat hP hD hS [0, 1] rfl rfl (fun H locs hP hD hS => ?_)
        have hP : va_P D vwCl [(q, .inr (11, [.ref q_w, .int v_known, .int v_kept, .int v_seed, .ref q_imageSeed, .ref q_bookOf, .ref q_bookAt, .ref q_bookIs, .int v_written, .ref q_rs, .ref q_cs, .long v_above, .long v_below, .ref q_zs, .long v_leftAbove, .long v_leftBelow, .long v_guessAbove, .long v_guessBelow, .int v_sign, .int v_power2, .long v_bits])), (q_w, .inl (cI, 418, .inl v_w))] H := hP
        have hD : va_D A [(q, .inr (11, [.ref q_w, .int v_known, .int v_kept, .int v_seed, .ref q_imageSeed, .ref q_bookOf, .ref q_bookAt, .ref q_bookIs, .int v_written, .ref q_rs, .ref q_cs, .long v_above, .long v_below, .ref q_zs, .long v_leftAbove, .long v_leftBelow, .long v_guessAbove, .long v_guessBelow, .int v_sign, .int v_power2, .long v_bits])), (q_w, .inl (cI, 418, .inl v_w))] := hD
        refine lv_iload_n hx hb dX12_mix_131 rfl (lv_at hl 3 rfl) ?_
        refine lv_i2l hx hb dX12_mix_132 rfl ?_
        refine lv_aload_n hx hb dX12_mix_133 rfl (lv_at hl 0 rfl) ?_
        refine lv_iload_n hx hb dX12_mix_134 rfl (lv_at hl 2 rfl) ?_
        refine lv_iload hx hb dX12_mix_135 (lv_at hl 4 rfl) ?_
        obtain ⟨r29, h30, hf⟩ := kb1_e hf
        refine k_gl (k_runV (rest := [.long (x3.toInt64), .long r27, .int x4, .int x1, .ref q]) hat hP hD hS hl.1 (c_X12_cell q q_w q_imageSeed q_bookOf q_bookAt q_bookIs q_rs q_cs q_zs v_known v_kept v_seed v_written v_above v_below v_leftAbove v_leftBelow v_guessAbove v_guessBelow v_sign v_power2 v_bits v_w x2 x4 r29 h30) [0, 1] (by decide) rfl kw952 kw954 kw26 kw79 kw955 kdVX12_cell ⟨rfl, rfl⟩ (by rw [hR]; exact ⟨Nat.le_of_ble_eq_true rfl, Nat.le_of_ble_eq_true rfl⟩) ⟨Nat.zero_le _, Nat.zero_le _⟩ 0 11 rfl rfl rfl rfl (Nat.le_of_ble_eq_true rfl) dX12_mix_137) hat hP hD hS [0, 1] rfl rfl (fun H locs hP hD hS => ?_)
        have hP : va_P D vwCl [(q, .inr (11, [.ref q_w, .int v_known, .int v_kept, .int v_seed, .ref q_imageSeed, .ref q_bookOf, .ref q_bookAt, .ref q_bookIs, .int v_written, .ref q_rs, .ref q_cs, .long v_above, .long v_below, .ref q_zs, .long v_leftAbove, .long v_leftBelow, .long v_guessAbove, .long v_guessBelow, .int v_sign, .int v_power2, .long v_bits])), (q_w, .inl (cI, 418, .inl v_w))] H := hP
        have hD : va_D A [(q, .inr (11, [.ref q_w, .int v_known, .int v_kept, .int v_seed, .ref q_imageSeed, .ref q_bookOf, .ref q_bookAt, .ref q_bookIs, .int v_written, .ref q_rs, .ref q_cs, .long v_above, .long v_below, .ref q_zs, .long v_leftAbove, .long v_leftBelow, .long v_guessAbove, .long v_guessBelow, .int v_sign, .int v_power2, .long v_bits])), (q_w, .inl (cI, 418, .inl v_w))] := hD
        refine lv_lmul hx hb dX12_mix_140 ?_
        refine lv_ladd hx hb dX12_mix_141 ?_
        refine lv_l2i hx hb dX12_mix_142 rfl ?_
        obtain ⟨w31, h32, hf⟩ := kb1_e hf
        refine k_gv (k_runV (rest := []) hat hP hD hS hl.1 (c_X12_set q q_w q_imageSeed q_bookOf q_bookAt q_bookIs q_rs q_cs q_zs v_known v_kept v_seed v_written v_above v_below v_leftAbove v_leftBelow v_guessAbove v_guessBelow v_sign v_power2 v_bits v_w x1 x4 ((r27 + ((x3.toInt64) * r29)).toInt32) w31 h32) [0, 1] (by decide) rfl kw1203 kw1205 kw64 kw79 kw1206 kdVX12_set ⟨rfl, rfl⟩ (by rw [hR]; exact ⟨Nat.le_of_ble_eq_true rfl, Nat.le_of_ble_eq_true rfl⟩) ⟨Nat.zero_le _, Nat.zero_le _⟩ 0 11 rfl rfl rfl rfl (Nat.le_of_ble_eq_true rfl) dX12_mix_143) hat hP hD hS [0, 1] rfl rfl (fun H locs hP hD hS => ?_)
        have hP : va_P D vwCl [(q, .inr (11, [.ref q_w, .int v_known, .int v_kept, .int v_seed, .ref q_imageSeed, .ref q_bookOf, .ref q_bookAt, .ref q_bookIs, .int v_written, .ref q_rs, .ref q_cs, .long v_above, .long v_below, .ref q_zs, .long v_leftAbove, .long v_leftBelow, .long v_guessAbove, .long v_guessBelow, .int v_sign, .int v_power2, .long v_bits])), (q_w, .inl (cI, 418, .inl w31))] H := hP
        have hD : va_D A [(q, .inr (11, [.ref q_w, .int v_known, .int v_kept, .int v_seed, .ref q_imageSeed, .ref q_bookOf, .ref q_bookAt, .ref q_bookIs, .int v_written, .ref q_rs, .ref q_cs, .long v_above, .long v_below, .ref q_zs, .long v_leftAbove, .long v_leftBelow, .long v_guessAbove, .long v_guessBelow, .int v_sign, .int v_power2, .long v_bits])), (q_w, .inl (cI, 418, .inl w31))] := hD
        obtain ⟨t33, et33⟩ : ∃ z : Int32, z = (x4 + (1 : Int32)) := ⟨_, rfl⟩
        have hf := kl_e hf t33 et33
        refine lv_iinc (v := t33) (lv' := [(4, .int t33), (0, .ref q), (1, .int x1), (2, .int x2), (3, .int x3)]) hx hb dX12_mix_146 hl (k := 4) rfl (by rw [et33]; rfl) (by decide) rfl (fun ls hl => ?_)
        refine lv_goto (tgt := 114) hx hb dX12_mix_149 (by decide) ?_
        exact ih t33 w31 o0 hf hk0 _ _ _ hP hD hS (lv_sub hl [1, 2, 3, 4, 0] rfl)
  unfold f_X12_mix at hf
  refine lv_aload_n hx hb dX12_mix_0 rfl (lv_at hl 0 rfl) ?_
  refine lv_iload_n hx hb dX12_mix_1 rfl (lv_at hl 1 rfl) ?_
  obtain ⟨r1, h2, hf⟩ := kb1_e hf
  refine k_gi (k_runV (rest := []) hat hP hD hS hl.1 (c_X12_isRow q q_w q_imageSeed q_bookOf q_bookAt q_bookIs q_rs q_cs q_zs v_known v_kept v_seed v_written v_above v_below v_leftAbove v_leftBelow v_guessAbove v_guessBelow v_sign v_power2 v_bits v_w x1 r1 h2) [0, 1] (by decide) rfl kw1069 kw1071 kw50 kw79 kw1072 kdVX12_isRow ⟨rfl, rfl⟩ (by rw [hR]; exact ⟨Nat.le_of_ble_eq_true rfl, Nat.le_of_ble_eq_true rfl⟩) ⟨Nat.zero_le _, Nat.zero_le _⟩ 0 11 rfl rfl rfl rfl (Nat.le_of_ble_eq_true rfl) dX12_mix_2) hat hP hD hS [0, 1] rfl rfl (fun H locs hP hD hS => ?_)
  have hP : va_P D vwCl [(q, .inr (11, [.ref q_w, .int v_known, .int v_kept, .int v_seed, .ref q_imageSeed, .ref q_bookOf, .ref q_bookAt, .ref q_bookIs, .int v_written, .ref q_rs, .ref q_cs, .long v_above, .long v_below, .ref q_zs, .long v_leftAbove, .long v_leftBelow, .long v_guessAbove, .long v_guessBelow, .int v_sign, .int v_power2, .long v_bits])), (q_w, .inl (cI, 418, .inl v_w))] H := hP
  have hD : va_D A [(q, .inr (11, [.ref q_w, .int v_known, .int v_kept, .int v_seed, .ref q_imageSeed, .ref q_bookOf, .ref q_bookAt, .ref q_bookIs, .int v_written, .ref q_rs, .ref q_cs, .long v_above, .long v_below, .ref q_zs, .long v_leftAbove, .long v_leftBelow, .long v_guessAbove, .long v_guessBelow, .int v_sign, .int v_power2, .long v_bits])), (q_w, .inl (cI, 418, .inl v_w))] := hD
  refine lv_if_eq (tgt := 21) hx hb dX12_mix_5 (by decide) (fun c3 => ?_) (fun c3 => ?_)
  · have hf := kp_e hf c3
    refine lv_ldcw hx hb hown (hts _ kw1082) dX12_mix_21 ?_
    obtain ⟨rfl, rfl, rfl⟩ := ki3 hf
    rw [hQ]
    exact k_iret hat hP hS rfl dX12_mix_24
  · have hf := kn_e hf c3
    refine lv_aload_n hx hb dX12_mix_8 rfl (lv_at hl 0 rfl) ?_
    refine lv_iload_n hx hb dX12_mix_9 rfl (lv_at hl 2 rfl) ?_
    obtain ⟨r4, h5, hf⟩ := kb1_e hf
    refine k_gi (k_runV (rest := []) hat hP hD hS hl.1 (c_X12_isRow q q_w q_imageSeed q_bookOf q_bookAt q_bookIs q_rs q_cs q_zs v_known v_kept v_seed v_written v_above v_below v_leftAbove v_leftBelow v_guessAbove v_guessBelow v_sign v_power2 v_bits v_w x2 r4 h5) [0, 1] (by decide) rfl kw1069 kw1071 kw50 kw79 kw1072 kdVX12_isRow ⟨rfl, rfl⟩ (by rw [hR]; exact ⟨Nat.le_of_ble_eq_true rfl, Nat.le_of_ble_eq_true rfl⟩) ⟨Nat.zero_le _, Nat.zero_le _⟩ 0 11 rfl rfl rfl rfl (Nat.le_of_ble_eq_true rfl) dX12_mix_10) hat hP hD hS [0, 1] rfl rfl (fun H locs hP hD hS => ?_)
    have hP : va_P D vwCl [(q, .inr (11, [.ref q_w, .int v_known, .int v_kept, .int v_seed, .ref q_imageSeed, .ref q_bookOf, .ref q_bookAt, .ref q_bookIs, .int v_written, .ref q_rs, .ref q_cs, .long v_above, .long v_below, .ref q_zs, .long v_leftAbove, .long v_leftBelow, .long v_guessAbove, .long v_guessBelow, .int v_sign, .int v_power2, .long v_bits])), (q_w, .inl (cI, 418, .inl v_w))] H := hP
    have hD : va_D A [(q, .inr (11, [.ref q_w, .int v_known, .int v_kept, .int v_seed, .ref q_imageSeed, .ref q_bookOf, .ref q_bookAt, .ref q_bookIs, .int v_written, .ref q_rs, .ref q_cs, .long v_above, .long v_below, .ref q_zs, .long v_leftAbove, .long v_leftBelow, .long v_guessAbove, .long v_guessBelow, .int v_sign, .int v_power2, .long v_bits])), (q_w, .inl (cI, 418, .inl v_w))] := hD
    refine lv_if_eq (tgt := 21) hx hb dX12_mix_13 (by decide) (fun c6 => ?_) (fun c6 => ?_)
    · have hf := kp_e hf c6
      refine lv_ldcw hx hb hown (hts _ kw1082) dX12_mix_21 ?_
      obtain ⟨rfl, rfl, rfl⟩ := ki3 hf
      rw [hQ]
      exact k_iret hat hP hS rfl dX12_mix_24
    · have hf := kn_e hf c6
      refine lv_iload_n hx hb dX12_mix_16 rfl (lv_at hl 1 rfl) ?_
      refine lv_iload_n hx hb dX12_mix_17 rfl (lv_at hl 2 rfl) ?_
      refine lv_icmp_ne (tgt := 25) hx hb dX12_mix_18 (by decide) (fun c7 => ?_) (fun c7 => ?_)
      · have hf := kn_e hf c7
        refine lv_iload_n hx hb dX12_mix_25 rfl (lv_at hl 3 rfl) ?_
        refine lv_i2l hx hb dX12_mix_26 rfl ?_
        refine lv_ldc2 hx hb hown (hts _ kw1220) dX12_mix_27 ?_
        refine lv_ldc2 hx hb hown (hts _ kw1221) dX12_mix_30 ?_
        obtain ⟨r8, h9, hf⟩ := kb1_e hf
        refine k_gi (k_runS (rest := []) hat hP hD hS hl.1 (c_X12_in (x3.toInt64) (-3 : Int64) (3 : Int64) r8 h9) [] (by decide) rfl kw1058 kw1059 kw79 kw1060 kdX12_in ⟨rfl, rfl⟩ (by rw [hR]; exact ⟨Nat.le_of_ble_eq_true rfl, Nat.le_of_ble_eq_true rfl⟩) ⟨Nat.zero_le _, Nat.zero_le _⟩ rfl rfl (Nat.le_of_ble_eq_true rfl) dX12_mix_33) hat hP hD hS [] rfl rfl (fun H locs hP hD hS => ?_)
        have hP : va_P D vwCl [(q, .inr (11, [.ref q_w, .int v_known, .int v_kept, .int v_seed, .ref q_imageSeed, .ref q_bookOf, .ref q_bookAt, .ref q_bookIs, .int v_written, .ref q_rs, .ref q_cs, .long v_above, .long v_below, .ref q_zs, .long v_leftAbove, .long v_leftBelow, .long v_guessAbove, .long v_guessBelow, .int v_sign, .int v_power2, .long v_bits])), (q_w, .inl (cI, 418, .inl v_w))] H := hP
        have hD : va_D A [(q, .inr (11, [.ref q_w, .int v_known, .int v_kept, .int v_seed, .ref q_imageSeed, .ref q_bookOf, .ref q_bookAt, .ref q_bookIs, .int v_written, .ref q_rs, .ref q_cs, .long v_above, .long v_below, .ref q_zs, .long v_leftAbove, .long v_leftBelow, .long v_guessAbove, .long v_guessBelow, .int v_sign, .int v_power2, .long v_bits])), (q_w, .inl (cI, 418, .inl v_w))] := hD
        refine lv_if_ne (tgt := 42) hx hb dX12_mix_36 (by decide) (fun c10 => ?_) (fun c10 => ?_)
        · have hf := kn_e hf c10
          refine lv_iconst (v := 0) hx hb dX12_mix_42 (by decide) ?_
          refine lv_istore (lv' := [(4, .int (0 : Int32)), (0, .ref q), (1, .int x1), (2, .int x2), (3, .int x3)]) hx hb dX12_mix_43 hl (by decide) rfl (fun ls hl => ?_)
          obtain ⟨u35, hu, hf0, hf1⟩ := ks_e hf
          refine hL45 x1 x2 x3 v_known v_kept v_seed v_written v_above v_below v_leftAbove v_leftBelow v_guessAbove v_guessBelow v_sign v_power2 v_bits v_w F (0 : Int32) u35 hu (fun hu2 H locs ls hP hD hS hl => ?_) (fun hu2 H locs ls hP hD hS hl => ?_) _ _ _ hP hD hS (lv_sub hl [1, 2, 3, 4, 0] rfl)
          · have hf := hf0 _ hu2
            refine lv_ldcw hx hb hown (hts _ kw1222) dX12_mix_97 ?_
            obtain ⟨rfl, rfl, rfl⟩ := ki3 hf
            rw [hQ]
            exact k_iret hat hP hS rfl dX12_mix_100
          · have hf := hf1 _ hu2
            refine lv_aload_n hx hb dX12_mix_107 rfl (lv_at hl 0 rfl) ?_
            obtain ⟨w23, w24, h25, hf⟩ := kb2_e hf
            refine k_gv (k_runV (rest := []) hat hP hD hS hl.1 (c_X12_remember q q_w q_imageSeed q_bookOf q_bookAt q_bookIs q_rs q_cs q_zs v_known v_kept v_seed v_written v_above v_below v_leftAbove v_leftBelow v_guessAbove v_guessBelow v_sign v_power2 v_bits v_w F w23 w24 h25) [0, 1] (by decide) rfl kw1189 kw1191 kw62 kw79 kw1192 kdVX12_remember ⟨rfl, rfl⟩ (by rw [hR]; exact ⟨Nat.le_of_ble_eq_true rfl, Nat.le_of_ble_eq_true rfl⟩) ⟨Nat.zero_le _, Nat.zero_le _⟩ 0 11 rfl rfl rfl rfl (Nat.le_of_ble_eq_true rfl) dX12_mix_108) hat hP hD hS [0, 1] rfl rfl (fun H locs hP hD hS => ?_)
            have hP : va_P D vwCl [(q, .inr (11, [.ref q_w, .int w23, .int v_kept, .int v_seed, .ref q_imageSeed, .ref q_bookOf, .ref q_bookAt, .ref q_bookIs, .int v_written, .ref q_rs, .ref q_cs, .long v_above, .long v_below, .ref q_zs, .long v_leftAbove, .long v_leftBelow, .long v_guessAbove, .long v_guessBelow, .int v_sign, .int v_power2, .long v_bits])), (q_w, .inl (cI, 418, .inl w24))] H := hP
            have hD : va_D A [(q, .inr (11, [.ref q_w, .int w23, .int v_kept, .int v_seed, .ref q_imageSeed, .ref q_bookOf, .ref q_bookAt, .ref q_bookIs, .int v_written, .ref q_rs, .ref q_cs, .long v_above, .long v_below, .ref q_zs, .long v_leftAbove, .long v_leftBelow, .long v_guessAbove, .long v_guessBelow, .int v_sign, .int v_power2, .long v_bits])), (q_w, .inl (cI, 418, .inl w24))] := hD
            refine lv_iconst (v := 0) hx hb dX12_mix_111 (by decide) ?_
            refine lv_istore (lv' := [(4, .int (0 : Int32)), (0, .ref q), (1, .int x1), (2, .int x2), (3, .int x3)]) hx hb dX12_mix_112 hl (by decide) rfl (fun ls hl => ?_)
            obtain ⟨w34, hu, hf⟩ := kb1_e hf
            refine hL114 x1 x2 x3 w23 v_kept v_seed v_written v_above v_below v_leftAbove v_leftBelow v_guessAbove v_guessBelow v_sign v_power2 v_bits F (0 : Int32) w24 w34 hu (fun H locs ls hP hD hS hl => ?_) _ _ _ hP hD hS (lv_sub hl [1, 2, 3, 4, 0] rfl)
            refine lv_iconst (v := 1) hx hb dX12_mix_152 (by decide) ?_
            obtain ⟨rfl, rfl, rfl⟩ := ki3 hf
            rw [hQ]
            exact k_iret hat hP hS rfl dX12_mix_153
        · have hf := kp_e hf c10
          refine lv_ldc hx hb hown (hts _ kw1077) dX12_mix_39 ?_
          obtain ⟨rfl, rfl, rfl⟩ := ki3 hf
          rw [hQ]
          exact k_iret hat hP hS rfl dX12_mix_41
      · have hf := kp_e hf c7
        refine lv_ldcw hx hb hown (hts _ kw1082) dX12_mix_21 ?_
        obtain ⟨rfl, rfl, rfl⟩ := ki3 hf
        rw [hQ]
        exact k_iret hat hP hS rfl dX12_mix_24
