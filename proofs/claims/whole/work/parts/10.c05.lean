set_option maxHeartbeats 4000000 in
set_option maxRecDepth 100000 in
theorem c_X12_digitOf {l : Launch} {D : va_G} {cI cJ cQ : ClassId} {tp : Nat} (q : Nat) (q_w : Nat) (q_imageSeed : Nat) (q_bookOf : Nat) (q_bookAt : Nat) (q_bookIs : Nat) (q_rs : Nat) (q_cs : Nat) (q_zs : Nat) (v_known : Int32) (v_kept : Int32) (v_seed : Int32) (v_written : Int32) (v_above : Int64) (v_below : Int64) (v_leftAbove : Int64) (v_leftBelow : Int64) (v_guessAbove : Int64) (v_guessBelow : Int64) (v_sign : Int32) (v_power2 : Int32) (v_bits : Int64) (v_w : (Nat → Int32)) (v_rs : (Nat → Int32)) (v_cs : (Nat → Int32)) (F : Nat) (x1 : Int32) (x2 : Int32) (r0 : Int32) (o_v_above : Int64) (o_v_below : Int64) (o_v_leftAbove : Int64) (o_v_leftBelow : Int64) (o_v_rs : (Nat → Int32)) (o_v_cs : (Nat → Int32)) (hf : f_X12_digitOf F v_above v_below v_leftAbove v_leftBelow v_w v_rs v_cs x1 x2 = some (r0, o_v_above, o_v_below, o_v_leftAbove, o_v_leftBelow, o_v_rs, o_v_cs)) : kM (fun A => kQi D A [(q, .inr (11, [.ref q_w, .int v_known, .int v_kept, .int v_seed, .ref q_imageSeed, .ref q_bookOf, .ref q_bookAt, .ref q_bookIs, .int v_written, .ref q_rs, .ref q_cs, .long o_v_above, .long o_v_below, .ref q_zs, .long o_v_leftAbove, .long o_v_leftBelow, .long v_guessAbove, .long v_guessBelow, .int v_sign, .int v_power2, .long v_bits])), (q_w, .inl (cI, 418, .inl v_w)), (q_rs, .inl (cI, 4, .inl o_v_rs)), (q_cs, .inl (cI, 4, .inl o_v_cs))] r0) (some .int) l yX12_digitOf cX12_digitOf 10 { frames := 10, cells := 0, slots := 0, locals := 236 } D cI cJ cQ tp [.ref q, .int x1, .int x2] [(q, .inr (11, [.ref q_w, .int v_known, .int v_kept, .int v_seed, .ref q_imageSeed, .ref q_bookOf, .ref q_bookAt, .ref q_bookIs, .int v_written, .ref q_rs, .ref q_cs, .long v_above, .long v_below, .ref q_zs, .long v_leftAbove, .long v_leftBelow, .long v_guessAbove, .long v_guessBelow, .int v_sign, .int v_power2, .long v_bits])), (q_w, .inl (cI, 418, .inl v_w)), (q_rs, .inl (cI, 4, .inl v_rs)), (q_cs, .inl (cI, 4, .inl v_cs))] := by
  refine kM_of (by decide +kernel) (Nat.le_of_ble_eq_true rfl) ?_
  intro p e s m args below meth c A ls R Q hR hQ hat hP hD hS hl
  obtain ⟨hx, hb, hr, hml, hown, hts, hT, hlk, hK, hA, hZ⟩ := id hat
  have hown : s.vm.findClass RX12 = some m.cls := hown
  have hl : lv_has ls 10 [(0, .ref q), (1, .int x1), (2, .int x2)] := hl
  have hL43 : ∀ (x2 : Int32) (x3 : Int64) (x5 : Int64) (v_known : Int32) (v_kept : Int32) (v_seed : Int32) (v_written : Int32) (v_above : Int64) (v_below : Int64) (v_leftBelow : Int64) (v_guessAbove : Int64) (v_guessBelow : Int64) (v_sign : Int32) (v_power2 : Int32) (v_bits : Int64) (v_w : (Nat → Int32)) (v_rs : (Nat → Int32)) (v_cs : (Nat → Int32)) (fu : Nat) (x7 : Int64) (x9 : Int32) (v_leftAbove : Int64) (o0 : Int64) (o1 : Int64), L_X12_digitOf_43 x2 x3 x5 v_leftBelow fu x7 x9 v_leftAbove = some (o0, o1) → (∀ (H : Heap) (locs : List Loc) (ls : Array Slot), va_P D vwCl [(q, .inr (11, [.ref q_w, .int v_known, .int v_kept, .int v_seed, .ref q_imageSeed, .ref q_bookOf, .ref q_bookAt, .ref q_bookIs, .int v_written, .ref q_rs, .ref q_cs, .long v_above, .long v_below, .ref q_zs, .long o1, .long v_leftBelow, .long v_guessAbove, .long v_guessBelow, .int v_sign, .int v_power2, .long v_bits])), (q_w, .inl (cI, 418, .inl v_w)), (q_rs, .inl (cI, 4, .inl v_rs)), (q_cs, .inl (cI, 4, .inl v_cs))] H → va_D A [(q, .inr (11, [.ref q_w, .int v_known, .int v_kept, .int v_seed, .ref q_imageSeed, .ref q_bookOf, .ref q_bookAt, .ref q_bookIs, .int v_written, .ref q_rs, .ref q_cs, .long v_above, .long v_below, .ref q_zs, .long o1, .long v_leftBelow, .long v_guessAbove, .long v_guessBelow, .int v_sign, .int v_power2, .long v_bits])), (q_w, .inl (cI, 418, .inl v_w)), (q_rs, .inl (cI, 4, .inl v_rs)), (q_cs, .inl (cI, 4, .inl v_cs))] → va_S A s.heap H locs → lv_has ls 10 [(7, .long o0)] → W p l e R s m args below meth c H locs 0 0 Q (F0 m 88 ls [])) → ∀ (H : Heap) (locs : List Loc) (ls : Array Slot), va_P D vwCl [(q, .inr (11, [.ref q_w, .int v_known, .int v_kept, .int v_seed, .ref q_imageSeed, .ref q_bookOf, .ref q_bookAt, .ref q_bookIs, .int v_written, .ref q_rs, .ref q_cs, .long v_above, .long v_below, .ref q_zs, .long v_leftAbove, .long v_leftBelow, .long v_guessAbove, .long v_guessBelow, .int v_sign, .int v_power2, .long v_bits])), (q_w, .inl (cI, 418, .inl v_w)), (q_rs, .inl (cI, 4, .inl v_rs)), (q_cs, .inl (cI, 4, .inl v_cs))] H → va_D A [(q, .inr (11, [.ref q_w, .int v_known, .int v_kept, .int v_seed, .ref q_imageSeed, .ref q_bookOf, .ref q_bookAt, .ref q_bookIs, .int v_written, .ref q_rs, .ref q_cs, .long v_above, .long v_below, .ref q_zs, .long v_leftAbove, .long v_leftBelow, .long v_guessAbove, .long v_guessBelow, .int v_sign, .int v_power2, .long v_bits])), (q_w, .inl (cI, 418, .inl v_w)), (q_rs, .inl (cI, 4, .inl v_rs)), (q_cs, .inl (cI, 4, .inl v_cs))] → va_S A s.heap H locs → lv_has ls 10 [(0, .ref q), (2, .int x2), (3, .long x3), (5, .long x5), (7, .long x7), (9, .int x9)] → W p l e R s m args below meth c H locs 0 0 Q (F0 m 43 ls []) := by
    intro x2 x3 x5 v_known v_kept v_seed v_written v_above v_below v_leftBelow v_guessAbove v_guessBelow v_sign v_power2 v_bits v_w v_rs v_cs fu
    induction fu with
    | zero =>
      intro x7 x9 v_leftAbove o0 o1 hf
      cases hf
    | succ fu ih =>
      intro x7 x9 v_leftAbove o0 o1 hf hk0 H locs ls hP hD hS hl
      rw [L_X12_digitOf_43] at hf
      refine lv_iload hx hb dX12_digitOf_43 (lv_at hl 5 rfl) ?_
      refine lv_iload_n hx hb dX12_digitOf_45 rfl (lv_at hl 1 rfl) ?_
      refine lv_icmp_gt (tgt := 88) hx hb dX12_digitOf_46 (by decide) (fun c11 => ?_) (fun c11 => ?_)
      · have hf := kp_e hf c11
        obtain ⟨rfl, rfl⟩ := ki2 hf
        exact hk0 _ _ _ hP hD hS (lv_sub hl [4] rfl)
      · have hf := kn_e hf c11
        refine lv_aload_n hx hb dX12_digitOf_49 rfl (lv_at hl 0 rfl) ?_
        refine va_get (D := D) (ci := 11) (v := .long v_leftAbove) (C := RX12) (T := TX12) (N := 21) hx hb hts kinX12 hown hK hP 0 rfl rfl 14 (by decide) (hts _ kw858) (fun _ h9 => h9) rfl dX12_digitOf_50 ?_
        refine lv_lload_n hx hb dX12_digitOf_53 rfl (lv_at hl 2 rfl) ?_
        obtain ⟨r12, h13, hf⟩ := kb1_e hf
        refine k_gl (nW := 4) (ws' := [(q, .inr (11, [.ref q_w, .int v_known, .int v_kept, .int v_seed, .ref q_imageSeed, .ref q_bookOf, .ref q_bookAt, .ref q_bookIs, .int v_written, .ref q_rs, .ref q_cs, .long v_above, .long v_below, .ref q_zs, .long v_leftAbove, .long v_leftBelow, .long v_guessAbove, .long v_guessBelow, .int v_sign, .int v_power2, .long v_bits])), (q_w, .inl (cI, 418, .inl v_w)), (q_rs, .inl (cI, 4, .inl v_rs)), (q_cs, .inl (cI, 4, .inl v_cs))]) (wr := [(q, .inr (11, [.ref q_w, .int v_known, .int v_kept, .int v_seed, .ref q_imageSeed, .ref q_bookOf, .ref q_bookAt, .ref q_bookIs, .int v_written, .ref q_rs, .ref q_cs, .long v_above, .long v_below, .ref q_zs, .long v_leftAbove, .long v_leftBelow, .long v_guessAbove, .long v_guessBelow, .int v_sign, .int v_power2, .long v_bits])), (q_w, .inl (cI, 418, .inl v_w)), (q_rs, .inl (cI, 4, .inl v_rs)), (q_cs, .inl (cI, 4, .inl v_cs))]) (k_runS (rest := []) hat hP hD hS hl.1 (c_X12_leftOver v_leftAbove x3 r12 h13) [] (by decide) rfl kw1055 kw1056 kw79 kw1057 kdX12_leftOver ⟨rfl, rfl⟩ (by rw [hR]; exact ⟨Nat.le_of_ble_eq_true rfl, Nat.le_of_ble_eq_true rfl⟩) ⟨Nat.zero_le _, Nat.zero_le _⟩ rfl rfl (Nat.le_of_ble_eq_true rfl) dX12_digitOf_54) hat hP hD hS [] rfl [0, 1, 2, 3] rfl rfl rfl rfl rfl (by decide) (fun H locs hP hD hS => ?_)
        refine lv_lload hx hb dX12_digitOf_57 (lv_at hl 3 rfl) ?_
        refine lv_lmul hx hb dX12_digitOf_59 ?_
        refine lv_lload_n hx hb dX12_digitOf_60 rfl (lv_at hl 2 rfl) ?_
        obtain ⟨c14, hf⟩ := kc_e hf
        refine lv_lrem hx hb dX12_digitOf_61 c14 ?_
        refine lv_topl (fun t15 et15 => ?_)
        have hf := kl_e hf t15 et15
        refine lv_lstore (lv' := [(7, .long t15), (0, .ref q), (2, .int x2), (3, .long x3), (5, .long x5), (9, .int x9)]) hx hb dX12_digitOf_62 hl (by decide) rfl (fun ls hl => ?_)
        refine lv_aload_n hx hb dX12_digitOf_64 rfl (lv_at hl 1 rfl) ?_
        refine lv_aload_n hx hb dX12_digitOf_65 rfl (lv_at hl 1 rfl) ?_
        refine va_get (D := D) (ci := 11) (v := .long v_leftAbove) (C := RX12) (T := TX12) (N := 21) hx hb hts kinX12 hown hK hP 0 rfl rfl 14 (by decide) (hts _ kw858) (fun _ h9 => h9) rfl dX12_digitOf_66 ?_
        refine lv_lload hx hb dX12_digitOf_69 (lv_at hl 0 rfl) ?_
        refine lv_aload_n hx hb dX12_digitOf_71 rfl (lv_at hl 1 rfl) ?_
        refine va_get (D := D) (ci := 11) (v := .long v_leftBelow) (C := RX12) (T := TX12) (N := 21) hx hb hts kinX12 hown hK hP 0 rfl rfl 15 (by decide) (hts _ kw859) (fun _ h9 => h9) rfl dX12_digitOf_72 ?_
        refine lv_lmul hx hb dX12_digitOf_75 ?_
        refine lv_lsub hx hb dX12_digitOf_76 ?_
        refine lv_lload_n hx hb dX12_digitOf_77 rfl (lv_at hl 3 rfl) ?_
        obtain ⟨c16, hf⟩ := kc_e hf
        refine lv_ldiv hx hb dX12_digitOf_78 c16 ?_
        refine lv_topl (fun t17 et17 => ?_)
        have hf := kl_e hf t17 et17
        refine va_put (D := D) (ci := 11) (v := .long t17) (ty := .long) (C := RX12) (T := TX12) (N := 21) hx hb hts kinX12 tyX12 tyX12_ok nmX12 hown hK hP hD hS 0 rfl rfl 14 (by decide) (hts _ kw858) (fun _ h9 => h9) rfl (by decide +kernel) rfl rfl (Nat.le_of_ble_eq_true rfl) dX12_digitOf_79 (fun H locs hP hD hS => ?_)
        have hP : va_P D vwCl [(q, .inr (11, [.ref q_w, .int v_known, .int v_kept, .int v_seed, .ref q_imageSeed, .ref q_bookOf, .ref q_bookAt, .ref q_bookIs, .int v_written, .ref q_rs, .ref q_cs, .long v_above, .long v_below, .ref q_zs, .long t17, .long v_leftBelow, .long v_guessAbove, .long v_guessBelow, .int v_sign, .int v_power2, .long v_bits])), (q_w, .inl (cI, 418, .inl v_w)), (q_rs, .inl (cI, 4, .inl v_rs)), (q_cs, .inl (cI, 4, .inl v_cs))] H := hP
        have hD : va_D A [(q, .inr (11, [.ref q_w, .int v_known, .int v_kept, .int v_seed, .ref q_imageSeed, .ref q_bookOf, .ref q_bookAt, .ref q_bookIs, .int v_written, .ref q_rs, .ref q_cs, .long v_above, .long v_below, .ref q_zs, .long t17, .long v_leftBelow, .long v_guessAbove, .long v_guessBelow, .int v_sign, .int v_power2, .long v_bits])), (q_w, .inl (cI, 418, .inl v_w)), (q_rs, .inl (cI, 4, .inl v_rs)), (q_cs, .inl (cI, 4, .inl v_cs))] := hD
        obtain ⟨t18, et18⟩ : ∃ z : Int32, z = (x9 + (1 : Int32)) := ⟨_, rfl⟩
        have hf := kl_e hf t18 et18
        refine lv_iinc (v := t18) (lv' := [(9, .int t18), (7, .long t15), (0, .ref q), (2, .int x2), (3, .long x3), (5, .long x5)]) hx hb dX12_digitOf_82 hl (k := 5) rfl (by rw [et18]; rfl) (by decide) rfl (fun ls hl => ?_)
        refine lv_goto (tgt := 43) hx hb dX12_digitOf_85 (by decide) ?_
        exact ih t15 t18 t17 o0 o1 hf hk0 _ _ _ hP hD hS (lv_sub hl [2, 3, 4, 5, 1, 0] rfl)
  unfold f_X12_digitOf at hf
  refine lv_aload_n hx hb dX12_digitOf_0 rfl (lv_at hl 0 rfl) ?_
  obtain ⟨r1, h2, hf⟩ := kb1_e hf
  refine k_gi (nW := 4) (ws' := [(q, .inr (11, [.ref q_w, .int v_known, .int v_kept, .int v_seed, .ref q_imageSeed, .ref q_bookOf, .ref q_bookAt, .ref q_bookIs, .int v_written, .ref q_rs, .ref q_cs, .long v_above, .long v_below, .ref q_zs, .long v_leftAbove, .long v_leftBelow, .long v_guessAbove, .long v_guessBelow, .int v_sign, .int v_power2, .long v_bits])), (q_w, .inl (cI, 418, .inl v_w)), (q_rs, .inl (cI, 4, .inl v_rs)), (q_cs, .inl (cI, 4, .inl v_cs))]) (wr := [(q_rs, .inl (cI, 4, .inl v_rs)), (q_cs, .inl (cI, 4, .inl v_cs))]) (k_runV (rest := []) hat hP hD hS hl.1 (c_X12_p q q_w q_imageSeed q_bookOf q_bookAt q_bookIs q_rs q_cs q_zs v_known v_kept v_seed v_written v_above v_below v_leftAbove v_leftBelow v_guessAbove v_guessBelow v_sign v_power2 v_bits v_w F r1 h2) [0, 1] (by decide) rfl kw916 kw918 kw20 kw79 kw919 kdVX12_p ⟨rfl, rfl⟩ (by rw [hR]; exact ⟨Nat.le_of_ble_eq_true rfl, Nat.le_of_ble_eq_true rfl⟩) ⟨Nat.zero_le _, Nat.zero_le _⟩ 0 11 rfl rfl rfl rfl (Nat.le_of_ble_eq_true rfl) dX12_digitOf_1) hat hP hD hS [0, 1] rfl [2, 3] rfl rfl rfl rfl rfl (by decide) (fun H locs hP hD hS => ?_)
  refine lv_i2l hx hb dX12_digitOf_4 rfl ?_
  refine lv_topl (fun t3 et3 => ?_)
  have hf := kl_e hf t3 et3
  refine lv_lstore_n (lv' := [(3, .long t3), (0, .ref q), (1, .int x1), (2, .int x2)]) hx hb dX12_digitOf_5 rfl hl (by decide) rfl (fun ls hl => ?_)
  refine lv_aload_n hx hb dX12_digitOf_6 rfl (lv_at hl 1 rfl) ?_
  refine lv_iload_n hx hb dX12_digitOf_7 rfl (lv_at hl 2 rfl) ?_
  obtain ⟨w4, w5, w6, w7, h8, hf⟩ := kb4_e hf
  refine k_gv (nW := 4) (ws' := [(q, .inr (11, [.ref q_w, .int v_known, .int v_kept, .int v_seed, .ref q_imageSeed, .ref q_bookOf, .ref q_bookAt, .ref q_bookIs, .int v_written, .ref q_rs, .ref q_cs, .long w4, .long w5, .ref q_zs, .long v_leftAbove, .long v_leftBelow, .long v_guessAbove, .long v_guessBelow, .int v_sign, .int v_power2, .long v_bits])), (q_w, .inl (cI, 418, .inl v_w)), (q_rs, .inl (cI, 4, .inl w6)), (q_cs, .inl (cI, 4, .inl w7))]) (wr := []) (k_runV (rest := []) hat hP hD hS hl.1 (c_X12_laySolution q q_w q_imageSeed q_bookOf q_bookAt q_bookIs q_rs q_cs q_zs v_known v_kept v_seed v_written v_above v_below v_leftAbove v_leftBelow v_guessAbove v_guessBelow v_sign v_power2 v_bits v_w v_rs v_cs F x1 w4 w5 w6 w7 h8) [0, 1, 2, 3] (by decide) rfl kw1048 kw1050 kw47 kw79 kw1051 kdVX12_laySolution ⟨rfl, rfl⟩ (by rw [hR]; exact ⟨Nat.le_of_ble_eq_true rfl, Nat.le_of_ble_eq_true rfl⟩) ⟨Nat.zero_le _, Nat.zero_le _⟩ 0 11 rfl rfl rfl rfl (Nat.le_of_ble_eq_true rfl) dX12_digitOf_8) hat hP hD hS [0, 1, 2, 3] rfl [] rfl rfl rfl rfl rfl (by decide) (fun H locs hP hD hS => ?_)
  refine lv_aload_n hx hb dX12_digitOf_11 rfl (lv_at hl 1 rfl) ?_
  refine lv_aload_n hx hb dX12_digitOf_12 rfl (lv_at hl 1 rfl) ?_
  refine va_get (D := D) (ci := 11) (v := .long w4) (C := RX12) (T := TX12) (N := 21) hx hb hts kinX12 hown hK hP 0 rfl rfl 11 (by decide) (hts _ kw855) (fun _ h9 => h9) rfl dX12_digitOf_13 ?_
  refine va_put (D := D) (ci := 11) (v := .long w4) (ty := .long) (C := RX12) (T := TX12) (N := 21) hx hb hts kinX12 tyX12 tyX12_ok nmX12 hown hK hP hD hS 0 rfl rfl 14 (by decide) (hts _ kw858) (fun _ h9 => h9) rfl (by decide +kernel) rfl rfl (Nat.le_of_ble_eq_true rfl) dX12_digitOf_16 (fun H locs hP hD hS => ?_)
  have hP : va_P D vwCl [(q, .inr (11, [.ref q_w, .int v_known, .int v_kept, .int v_seed, .ref q_imageSeed, .ref q_bookOf, .ref q_bookAt, .ref q_bookIs, .int v_written, .ref q_rs, .ref q_cs, .long w4, .long w5, .ref q_zs, .long w4, .long v_leftBelow, .long v_guessAbove, .long v_guessBelow, .int v_sign, .int v_power2, .long v_bits])), (q_w, .inl (cI, 418, .inl v_w)), (q_rs, .inl (cI, 4, .inl w6)), (q_cs, .inl (cI, 4, .inl w7))] H := hP
  have hD : va_D A [(q, .inr (11, [.ref q_w, .int v_known, .int v_kept, .int v_seed, .ref q_imageSeed, .ref q_bookOf, .ref q_bookAt, .ref q_bookIs, .int v_written, .ref q_rs, .ref q_cs, .long w4, .long w5, .ref q_zs, .long w4, .long v_leftBelow, .long v_guessAbove, .long v_guessBelow, .int v_sign, .int v_power2, .long v_bits])), (q_w, .inl (cI, 418, .inl v_w)), (q_rs, .inl (cI, 4, .inl w6)), (q_cs, .inl (cI, 4, .inl w7))] := hD
  refine lv_aload_n hx hb dX12_digitOf_19 rfl (lv_at hl 1 rfl) ?_
  refine lv_aload_n hx hb dX12_digitOf_20 rfl (lv_at hl 1 rfl) ?_
  refine va_get (D := D) (ci := 11) (v := .long w5) (C := RX12) (T := TX12) (N := 21) hx hb hts kinX12 hown hK hP 0 rfl rfl 12 (by decide) (hts _ kw856) (fun _ h9 => h9) rfl dX12_digitOf_21 ?_
  refine va_put (D := D) (ci := 11) (v := .long w5) (ty := .long) (C := RX12) (T := TX12) (N := 21) hx hb hts kinX12 tyX12 tyX12_ok nmX12 hown hK hP hD hS 0 rfl rfl 15 (by decide) (hts _ kw859) (fun _ h9 => h9) rfl (by decide +kernel) rfl rfl (Nat.le_of_ble_eq_true rfl) dX12_digitOf_24 (fun H locs hP hD hS => ?_)
  have hP : va_P D vwCl [(q, .inr (11, [.ref q_w, .int v_known, .int v_kept, .int v_seed, .ref q_imageSeed, .ref q_bookOf, .ref q_bookAt, .ref q_bookIs, .int v_written, .ref q_rs, .ref q_cs, .long w4, .long w5, .ref q_zs, .long w4, .long w5, .long v_guessAbove, .long v_guessBelow, .int v_sign, .int v_power2, .long v_bits])), (q_w, .inl (cI, 418, .inl v_w)), (q_rs, .inl (cI, 4, .inl w6)), (q_cs, .inl (cI, 4, .inl w7))] H := hP
  have hD : va_D A [(q, .inr (11, [.ref q_w, .int v_known, .int v_kept, .int v_seed, .ref q_imageSeed, .ref q_bookOf, .ref q_bookAt, .ref q_bookIs, .int v_written, .ref q_rs, .ref q_cs, .long w4, .long w5, .ref q_zs, .long w4, .long w5, .long v_guessAbove, .long v_guessBelow, .int v_sign, .int v_power2, .long v_bits])), (q_w, .inl (cI, 418, .inl v_w)), (q_rs, .inl (cI, 4, .inl w6)), (q_cs, .inl (cI, 4, .inl w7))] := hD
  refine lv_aload_n hx hb dX12_digitOf_27 rfl (lv_at hl 1 rfl) ?_
  refine va_get (D := D) (ci := 11) (v := .long w5) (C := RX12) (T := TX12) (N := 21) hx hb hts kinX12 hown hK hP 0 rfl rfl 15 (by decide) (hts _ kw859) (fun _ h9 => h9) rfl dX12_digitOf_28 ?_
  refine lv_lload_n hx hb dX12_digitOf_31 rfl (lv_at hl 0 rfl) ?_
  obtain ⟨r9, h10, hf⟩ := kb1_e hf
  refine k_gl (nW := 4) (ws' := [(q, .inr (11, [.ref q_w, .int v_known, .int v_kept, .int v_seed, .ref q_imageSeed, .ref q_bookOf, .ref q_bookAt, .ref q_bookIs, .int v_written, .ref q_rs, .ref q_cs, .long w4, .long w5, .ref q_zs, .long w4, .long w5, .long v_guessAbove, .long v_guessBelow, .int v_sign, .int v_power2, .long v_bits])), (q_w, .inl (cI, 418, .inl v_w)), (q_rs, .inl (cI, 4, .inl w6)), (q_cs, .inl (cI, 4, .inl w7))]) (wr := [(q, .inr (11, [.ref q_w, .int v_known, .int v_kept, .int v_seed, .ref q_imageSeed, .ref q_bookOf, .ref q_bookAt, .ref q_bookIs, .int v_written, .ref q_rs, .ref q_cs, .long w4, .long w5, .ref q_zs, .long w4, .long w5, .long v_guessAbove, .long v_guessBelow, .int v_sign, .int v_power2, .long v_bits])), (q_w, .inl (cI, 418, .inl v_w)), (q_rs, .inl (cI, 4, .inl w6)), (q_cs, .inl (cI, 4, .inl w7))]) (k_runS (rest := []) hat hP hD hS hl.1 (c_X12_inverse F w5 t3 r9 h10) [] (by decide) rfl kw1052 kw1053 kw79 kw1054 kdX12_inverse ⟨rfl, rfl⟩ (by rw [hR]; exact ⟨Nat.le_of_ble_eq_true rfl, Nat.le_of_ble_eq_true rfl⟩) ⟨Nat.zero_le _, Nat.zero_le _⟩ rfl rfl (Nat.le_of_ble_eq_true rfl) dX12_digitOf_32) hat hP hD hS [] rfl [0, 1, 2, 3] rfl rfl rfl rfl rfl (by decide) (fun H locs hP hD hS => ?_)
  refine lv_lstore (lv' := [(5, .long r9), (3, .long t3), (0, .ref q), (1, .int x1), (2, .int x2)]) hx hb dX12_digitOf_35 hl (by decide) rfl (fun ls hl => ?_)
  refine lv_lconst (v := 0) hx hb dX12_digitOf_37 (by decide) ?_
  refine lv_lstore (lv' := [(7, .long (0 : Int64)), (5, .long r9), (3, .long t3), (0, .ref q), (1, .int x1), (2, .int x2)]) hx hb dX12_digitOf_38 hl (by decide) rfl (fun ls hl => ?_)
  refine lv_iconst (v := 0) hx hb dX12_digitOf_40 (by decide) ?_
  refine lv_istore (lv' := [(9, .int (0 : Int32)), (7, .long (0 : Int64)), (5, .long r9), (3, .long t3), (0, .ref q), (1, .int x1), (2, .int x2)]) hx hb dX12_digitOf_41 hl (by decide) rfl (fun ls hl => ?_)
  obtain ⟨y19, w20, hu, hf⟩ := kb2_e hf
  refine hL43 x2 t3 r9 v_known v_kept v_seed v_written w4 w5 w5 v_guessAbove v_guessBelow v_sign v_power2 v_bits v_w w6 w7 F (0 : Int64) (0 : Int32) w4 y19 w20 hu (fun H locs ls hP hD hS hl => ?_) _ _ _ hP hD hS (lv_sub hl [4, 6, 3, 2, 1, 0] rfl)
  refine lv_lload hx hb dX12_digitOf_88 (lv_at hl 0 rfl) ?_
  refine lv_l2i hx hb dX12_digitOf_90 rfl ?_
  obtain ⟨rfl, rfl, rfl, rfl, rfl, rfl, rfl⟩ := ki7 hf
  rw [hQ]
  exact k_iret hat hP hS rfl dX12_digitOf_91
set_option maxHeartbeats 4000000 in
set_option maxRecDepth 100000 in
theorem c_X12_restOf {l : Launch} {D : va_G} {cI cJ cQ : ClassId} {tp : Nat} (q : Nat) (q_w : Nat) (q_imageSeed : Nat) (q_bookOf : Nat) (q_bookAt : Nat) (q_bookIs : Nat) (q_rs : Nat) (q_cs : Nat) (q_zs : Nat) (v_known : Int32) (v_kept : Int32) (v_seed : Int32) (v_written : Int32) (v_above : Int64) (v_below : Int64) (v_leftAbove : Int64) (v_leftBelow : Int64) (v_guessAbove : Int64) (v_guessBelow : Int64) (v_sign : Int32) (v_power2 : Int32) (v_bits : Int64) (v_w : (Nat → Int32)) (v_rs : (Nat → Int32)) (v_cs : (Nat → Int32)) (F : Nat) (x1 : Int32) (x2 : Int32) (r0 : Int64) (o_v_above : Int64) (o_v_below : Int64) (o_v_leftAbove : Int64) (o_v_leftBelow : Int64) (o_v_rs : (Nat → Int32)) (o_v_cs : (Nat → Int32)) (hf : f_X12_restOf F v_above v_below v_leftAbove v_leftBelow v_w v_rs v_cs x1 x2 = some (r0, o_v_above, o_v_below, o_v_leftAbove, o_v_leftBelow, o_v_rs, o_v_cs)) : kM (fun A => kQl D A [(q, .inr (11, [.ref q_w, .int v_known, .int v_kept, .int v_seed, .ref q_imageSeed, .ref q_bookOf, .ref q_bookAt, .ref q_bookIs, .int v_written, .ref q_rs, .ref q_cs, .long o_v_above, .long o_v_below, .ref q_zs, .long o_v_leftAbove, .long o_v_leftBelow, .long v_guessAbove, .long v_guessBelow, .int v_sign, .int v_power2, .long v_bits])), (q_w, .inl (cI, 418, .inl v_w)), (q_rs, .inl (cI, 4, .inl o_v_rs)), (q_cs, .inl (cI, 4, .inl o_v_cs))] r0) (some .long) l yX12_restOf cX12_restOf 9 { frames := 11, cells := 0, slots := 0, locals := 265 } D cI cJ cQ tp [.ref q, .int x1, .int x2] [(q, .inr (11, [.ref q_w, .int v_known, .int v_kept, .int v_seed, .ref q_imageSeed, .ref q_bookOf, .ref q_bookAt, .ref q_bookIs, .int v_written, .ref q_rs, .ref q_cs, .long v_above, .long v_below, .ref q_zs, .long v_leftAbove, .long v_leftBelow, .long v_guessAbove, .long v_guessBelow, .int v_sign, .int v_power2, .long v_bits])), (q_w, .inl (cI, 418, .inl v_w)), (q_rs, .inl (cI, 4, .inl v_rs)), (q_cs, .inl (cI, 4, .inl v_cs))] := by
  refine kM_of (by decide +kernel) (Nat.le_of_ble_eq_true rfl) ?_
  intro p e s m args below meth c A ls R Q hR hQ hat hP hD hS hl
  obtain ⟨hx, hb, hr, hml, hown, hts, hT, hlk, hK, hA, hZ⟩ := id hat
  have hown : s.vm.findClass RX12 = some m.cls := hown
  have hl : lv_has ls 9 [(0, .ref q), (1, .int x1), (2, .int x2)] := hl
  have hL22 : ∀ (x1 : Int32) (x2 : Int32) (x3 : Int64) (v_known : Int32) (v_kept : Int32) (v_seed : Int32) (v_written : Int32) (v_guessAbove : Int64) (v_guessBelow : Int64) (v_sign : Int32) (v_power2 : Int32) (v_bits : Int64) (v_w : (Nat → Int32)) (fu : Nat) (x5 : Int64) (x7 : Int32) (v_above : Int64) (v_below : Int64) (v_leftAbove : Int64) (v_leftBelow : Int64) (v_rs : (Nat → Int32)) (v_cs : (Nat → Int32)) (o0 : Int64) (o1 : Int64) (o2 : Int64) (o3 : Int64) (o4 : Int64) (o5 : (Nat → Int32)) (o6 : (Nat → Int32)), L_X12_restOf_22 F x1 x2 x3 v_w fu x5 x7 v_above v_below v_leftAbove v_leftBelow v_rs v_cs = some (o0, o1, o2, o3, o4, o5, o6) → (∀ (H : Heap) (locs : List Loc) (ls : Array Slot), va_P D vwCl [(q, .inr (11, [.ref q_w, .int v_known, .int v_kept, .int v_seed, .ref q_imageSeed, .ref q_bookOf, .ref q_bookAt, .ref q_bookIs, .int v_written, .ref q_rs, .ref q_cs, .long o1, .long o2, .ref q_zs, .long o3, .long o4, .long v_guessAbove, .long v_guessBelow, .int v_sign, .int v_power2, .long v_bits])), (q_w, .inl (cI, 418, .inl v_w)), (q_rs, .inl (cI, 4, .inl o5)), (q_cs, .inl (cI, 4, .inl o6))] H → va_D A [(q, .inr (11, [.ref q_w, .int v_known, .int v_kept, .int v_seed, .ref q_imageSeed, .ref q_bookOf, .ref q_bookAt, .ref q_bookIs, .int v_written, .ref q_rs, .ref q_cs, .long o1, .long o2, .ref q_zs, .long o3, .long o4, .long v_guessAbove, .long v_guessBelow, .int v_sign, .int v_power2, .long v_bits])), (q_w, .inl (cI, 418, .inl v_w)), (q_rs, .inl (cI, 4, .inl o5)), (q_cs, .inl (cI, 4, .inl o6))] → va_S A s.heap H locs → lv_has ls 9 [(3, .long x3), (5, .long o0)] → W p l e R s m args below meth c H locs 0 0 Q (F0 m 81 ls [])) → ∀ (H : Heap) (locs : List Loc) (ls : Array Slot), va_P D vwCl [(q, .inr (11, [.ref q_w, .int v_known, .int v_kept, .int v_seed, .ref q_imageSeed, .ref q_bookOf, .ref q_bookAt, .ref q_bookIs, .int v_written, .ref q_rs, .ref q_cs, .long v_above, .long v_below, .ref q_zs, .long v_leftAbove, .long v_leftBelow, .long v_guessAbove, .long v_guessBelow, .int v_sign, .int v_power2, .long v_bits])), (q_w, .inl (cI, 418, .inl v_w)), (q_rs, .inl (cI, 4, .inl v_rs)), (q_cs, .inl (cI, 4, .inl v_cs))] H → va_D A [(q, .inr (11, [.ref q_w, .int v_known, .int v_kept, .int v_seed, .ref q_imageSeed, .ref q_bookOf, .ref q_bookAt, .ref q_bookIs, .int v_written, .ref q_rs, .ref q_cs, .long v_above, .long v_below, .ref q_zs, .long v_leftAbove, .long v_leftBelow, .long v_guessAbove, .long v_guessBelow, .int v_sign, .int v_power2, .long v_bits])), (q_w, .inl (cI, 418, .inl v_w)), (q_rs, .inl (cI, 4, .inl v_rs)), (q_cs, .inl (cI, 4, .inl v_cs))] → va_S A s.heap H locs → lv_has ls 9 [(0, .ref q), (1, .int x1), (2, .int x2), (3, .long x3), (5, .long x5), (7, .int x7)] → W p l e R s m args below meth c H locs 0 0 Q (F0 m 22 ls []) := by
    intro x1 x2 x3 v_known v_kept v_seed v_written v_guessAbove v_guessBelow v_sign v_power2 v_bits v_w fu
    induction fu with
    | zero =>
      intro x5 x7 v_above v_below v_leftAbove v_leftBelow v_rs v_cs o0 o1 o2 o3 o4 o5 o6 hf
      cases hf
    | succ fu ih =>
      intro x5 x7 v_above v_below v_leftAbove v_leftBelow v_rs v_cs o0 o1 o2 o3 o4 o5 o6 hf hk0 H locs ls hP hD hS hl
      rw [L_X12_restOf_22] at hf
      refine lv_iload hx hb dX12_restOf_22 (lv_at hl 5 rfl) ?_
      refine lv_aload_n hx hb dX12_restOf_24 rfl (lv_at hl 0 rfl) ?_
      obtain ⟨r6, h7, hf⟩ := kb1_e hf
      refine k_gi (nW := 4) (ws' := [(q, .inr (11, [.ref q_w, .int v_known, .int v_kept, .int v_seed, .ref q_imageSeed, .ref q_bookOf, .ref q_bookAt, .ref q_bookIs, .int v_written, .ref q_rs, .ref q_cs, .long v_above, .long v_below, .ref q_zs, .long v_leftAbove, .long v_leftBelow, .long v_guessAbove, .long v_guessBelow, .int v_sign, .int v_power2, .long v_bits])), (q_w, .inl (cI, 418, .inl v_w)), (q_rs, .inl (cI, 4, .inl v_rs)), (q_cs, .inl (cI, 4, .inl v_cs))]) (wr := [(q_rs, .inl (cI, 4, .inl v_rs)), (q_cs, .inl (cI, 4, .inl v_cs))]) (k_runV (rest := [.int x7]) hat hP hD hS hl.1 (c_X12_n q q_w q_imageSeed q_bookOf q_bookAt q_bookIs q_rs q_cs q_zs v_known v_kept v_seed v_written v_above v_below v_leftAbove v_leftBelow v_guessAbove v_guessBelow v_sign v_power2 v_bits v_w r6 h7) [0, 1] (by decide) rfl kw912 kw914 kw19 kw79 kw915 kdVX12_n ⟨rfl, rfl⟩ (by rw [hR]; exact ⟨Nat.le_of_ble_eq_true rfl, Nat.le_of_ble_eq_true rfl⟩) ⟨Nat.zero_le _, Nat.zero_le _⟩ 0 11 rfl rfl rfl rfl (Nat.le_of_ble_eq_true rfl) dX12_restOf_25) hat hP hD hS [0, 1] rfl [2, 3] rfl rfl rfl rfl rfl (by decide) (fun H locs hP hD hS => ?_)
      refine lv_icmp_ge (tgt := 81) hx hb dX12_restOf_28 (by decide) (fun c8 => ?_) (fun c8 => ?_)
      · have hf := kp_e hf c8
        obtain ⟨rfl, rfl, rfl, rfl, rfl, rfl, rfl⟩ := ki7 hf
        exact hk0 _ _ _ hP hD hS (lv_sub hl [3, 4] rfl)
      · have hf := kn_e hf c8
        refine lv_aload_n hx hb dX12_restOf_31 rfl (lv_at hl 0 rfl) ?_
        refine lv_iload hx hb dX12_restOf_32 (lv_at hl 5 rfl) ?_
        refine lv_iload_n hx hb dX12_restOf_34 rfl (lv_at hl 2 rfl) ?_
        refine lv_iconst (v := 1) hx hb dX12_restOf_35 (by decide) ?_
        refine lv_isub hx hb dX12_restOf_36 ?_
        obtain ⟨r9, w10, w11, w12, w13, w14, w15, h16, hf⟩ := kb7_e hf
        refine k_gi (nW := 4) (ws' := [(q, .inr (11, [.ref q_w, .int v_known, .int v_kept, .int v_seed, .ref q_imageSeed, .ref q_bookOf, .ref q_bookAt, .ref q_bookIs, .int v_written, .ref q_rs, .ref q_cs, .long w10, .long w11, .ref q_zs, .long w12, .long w13, .long v_guessAbove, .long v_guessBelow, .int v_sign, .int v_power2, .long v_bits])), (q_w, .inl (cI, 418, .inl v_w)), (q_rs, .inl (cI, 4, .inl w14)), (q_cs, .inl (cI, 4, .inl w15))]) (wr := []) (k_runV (rest := []) hat hP hD hS hl.1 (c_X12_digitOf q q_w q_imageSeed q_bookOf q_bookAt q_bookIs q_rs q_cs q_zs v_known v_kept v_seed v_written v_above v_below v_leftAbove v_leftBelow v_guessAbove v_guessBelow v_sign v_power2 v_bits v_w v_rs v_cs F x7 (x2 - (1 : Int32)) r9 w10 w11 w12 w13 w14 w15 h16) [0, 1, 2, 3] (by decide) rfl kw1073 kw1075 kw51 kw79 kw1076 kdVX12_digitOf ⟨rfl, rfl⟩ (by rw [hR]; exact ⟨Nat.le_of_ble_eq_true rfl, Nat.le_of_ble_eq_true rfl⟩) ⟨Nat.zero_le _, Nat.zero_le _⟩ 0 11 rfl rfl rfl rfl (Nat.le_of_ble_eq_true rfl) dX12_restOf_37) hat hP hD hS [0, 1, 2, 3] rfl [] rfl rfl rfl rfl rfl (by decide) (fun H locs hP hD hS => ?_)
        refine lv_istore (lv' := [(8, .int r9), (0, .ref q), (1, .int x1), (2, .int x2), (3, .long x3), (5, .long x5), (7, .int x7)]) hx hb dX12_restOf_40 hl (by decide) rfl (fun ls hl => ?_)
        refine lv_lload hx hb dX12_restOf_42 (lv_at hl 5 rfl) ?_
        refine lv_iload hx hb dX12_restOf_44 (lv_at hl 0 rfl) ?_
        refine lv_if_ge (tgt := 53) hx hb dX12_restOf_46 (by decide) (fun c17 => ?_) (fun c17 => ?_)
        · have hf := kp_e hf c17
          refine lv_aload_n hx hb dX12_restOf_53 rfl (lv_at hl 1 rfl) ?_
          refine lv_iload_n hx hb dX12_restOf_54 rfl (lv_at hl 2 rfl) ?_
          refine lv_iload hx hb dX12_restOf_55 (lv_at hl 6 rfl) ?_
          obtain ⟨r18, h19, hf⟩ := kb1_e hf
          refine k_gl (nW := 4) (ws' := [(q, .inr (11, [.ref q_w, .int v_known, .int v_kept, .int v_seed, .ref q_imageSeed, .ref q_bookOf, .ref q_bookAt, .ref q_bookIs, .int v_written, .ref q_rs, .ref q_cs, .long w10, .long w11, .ref q_zs, .long w12, .long w13, .long v_guessAbove, .long v_guessBelow, .int v_sign, .int v_power2, .long v_bits])), (q_w, .inl (cI, 418, .inl v_w)), (q_rs, .inl (cI, 4, .inl w14)), (q_cs, .inl (cI, 4, .inl w15))]) (wr := [(q_rs, .inl (cI, 4, .inl w14)), (q_cs, .inl (cI, 4, .inl w15))]) (k_runV (rest := [.long x5]) hat hP hD hS hl.1 (c_X12_cell q q_w q_imageSeed q_bookOf q_bookAt q_bookIs q_rs q_cs q_zs v_known v_kept v_seed v_written w10 w11 w12 w13 v_guessAbove v_guessBelow v_sign v_power2 v_bits v_w x1 x7 r18 h19) [0, 1] (by decide) rfl kw952 kw954 kw26 kw79 kw955 kdVX12_cell ⟨rfl, rfl⟩ (by rw [hR]; exact ⟨Nat.le_of_ble_eq_true rfl, Nat.le_of_ble_eq_true rfl⟩) ⟨Nat.zero_le _, Nat.zero_le _⟩ 0 11 rfl rfl rfl rfl (Nat.le_of_ble_eq_true rfl) dX12_restOf_57) hat hP hD hS [0, 1] rfl [2, 3] rfl rfl rfl rfl rfl (by decide) (fun H locs hP hD hS => ?_)
          refine lv_aload_n hx hb dX12_restOf_60 rfl (lv_at hl 1 rfl) ?_
          refine va_get (D := D) (ci := 11) (v := .long w12) (C := RX12) (T := TX12) (N := 21) hx hb hts kinX12 hown hK hP 0 rfl rfl 14 (by decide) (hts _ kw858) (fun _ h9 => h9) rfl dX12_restOf_61 ?_
          refine lv_lmul hx hb dX12_restOf_64 ?_
          refine lv_lload_n hx hb dX12_restOf_65 rfl (lv_at hl 4 rfl) ?_
          refine lv_aload_n hx hb dX12_restOf_66 rfl (lv_at hl 1 rfl) ?_
          refine va_get (D := D) (ci := 11) (v := .long w13) (C := RX12) (T := TX12) (N := 21) hx hb hts kinX12 hown hK hP 0 rfl rfl 15 (by decide) (hts _ kw859) (fun _ h9 => h9) rfl dX12_restOf_67 ?_
          obtain ⟨c20, hf⟩ := kc_e hf
          refine lv_ldiv hx hb dX12_restOf_70 c20 ?_
          refine lv_lmul hx hb dX12_restOf_71 ?_
          refine lv_ladd hx hb dX12_restOf_72 ?_
          refine lv_topl (fun t21 et21 => ?_)
          have hf := kl_e hf t21 et21
          refine lv_lstore (lv' := [(5, .long t21), (8, .int r9), (0, .ref q), (1, .int x1), (2, .int x2), (3, .long x3), (7, .int x7)]) hx hb dX12_restOf_73 hl (by decide) rfl (fun ls hl => ?_)
          obtain ⟨t22, et22⟩ : ∃ z : Int32, z = (x7 + (1 : Int32)) := ⟨_, rfl⟩
          have hf := kl_e hf t22 et22
          refine lv_iinc (v := t22) (lv' := [(7, .int t22), (5, .long t21), (8, .int r9), (0, .ref q), (1, .int x1), (2, .int x2), (3, .long x3)]) hx hb dX12_restOf_75 hl (k := 6) rfl (by rw [et22]; rfl) (by decide) rfl (fun ls hl => ?_)
          refine lv_goto (tgt := 22) hx hb dX12_restOf_78 (by decide) ?_
          exact ih t21 t22 w10 w11 w12 w13 w14 w15 o0 o1 o2 o3 o4 o5 o6 hf hk0 _ _ _ hP hD hS (lv_sub hl [3, 4, 5, 6, 1, 0] rfl)
        · have hf := kn_e hf c17
          refine lv_lconst (v := 0) hx hb dX12_restOf_49 (by decide) ?_
          refine lv_goto (tgt := 72) hx hb dX12_restOf_50 (by decide) ?_
          refine lv_ladd hx hb dX12_restOf_72 ?_
          refine lv_topl (fun t23 et23 => ?_)
          have hf := kl_e hf t23 et23
          refine lv_lstore (lv' := [(5, .long t23), (8, .int r9), (0, .ref q), (1, .int x1), (2, .int x2), (3, .long x3), (7, .int x7)]) hx hb dX12_restOf_73 hl (by decide) rfl (fun ls hl => ?_)
          obtain ⟨t24, et24⟩ : ∃ z : Int32, z = (x7 + (1 : Int32)) := ⟨_, rfl⟩
          have hf := kl_e hf t24 et24
          refine lv_iinc (v := t24) (lv' := [(7, .int t24), (5, .long t23), (8, .int r9), (0, .ref q), (1, .int x1), (2, .int x2), (3, .long x3)]) hx hb dX12_restOf_75 hl (k := 6) rfl (by rw [et24]; rfl) (by decide) rfl (fun ls hl => ?_)
          refine lv_goto (tgt := 22) hx hb dX12_restOf_78 (by decide) ?_
          exact ih t23 t24 w10 w11 w12 w13 w14 w15 o0 o1 o2 o3 o4 o5 o6 hf hk0 _ _ _ hP hD hS (lv_sub hl [3, 4, 5, 6, 1, 0] rfl)
  unfold f_X12_restOf at hf
  refine lv_iload_n hx hb dX12_restOf_0 rfl (lv_at hl 2 rfl) ?_
  refine lv_if_ne (tgt := 11) hx hb dX12_restOf_1 (by decide) (fun c1 => ?_) (fun c1 => ?_)
  · have hf := kn_e hf c1
    refine lv_aload_n hx hb dX12_restOf_11 rfl (lv_at hl 0 rfl) ?_
    obtain ⟨r2, w3, w4, h5, hf⟩ := kb3_e hf
    refine k_gl (nW := 4) (ws' := [(q, .inr (11, [.ref q_w, .int v_known, .int v_kept, .int v_seed, .ref q_imageSeed, .ref q_bookOf, .ref q_bookAt, .ref q_bookIs, .int v_written, .ref q_rs, .ref q_cs, .long v_above, .long v_below, .ref q_zs, .long v_leftAbove, .long v_leftBelow, .long v_guessAbove, .long v_guessBelow, .int v_sign, .int v_power2, .long v_bits])), (q_w, .inl (cI, 418, .inl v_w)), (q_rs, .inl (cI, 4, .inl w3)), (q_cs, .inl (cI, 4, .inl w4))]) (wr := []) (k_runV (rest := []) hat hP hD hS hl.1 (c_X12_determinant q q_w q_imageSeed q_bookOf q_bookAt q_bookIs q_rs q_cs q_zs v_known v_kept v_seed v_written v_above v_below v_leftAbove v_leftBelow v_guessAbove v_guessBelow v_sign v_power2 v_bits v_w v_rs v_cs F r2 w3 w4 h5) [0, 1, 2, 3] (by decide) rfl kw923 kw925 kw21 kw79 kw926 kdVX12_determinant ⟨rfl, rfl⟩ (by rw [hR]; exact ⟨Nat.le_of_ble_eq_true rfl, Nat.le_of_ble_eq_true rfl⟩) ⟨Nat.zero_le _, Nat.zero_le _⟩ 0 11 rfl rfl rfl rfl (Nat.le_of_ble_eq_true rfl) dX12_restOf_12) hat hP hD hS [0, 1, 2, 3] rfl [] rfl rfl rfl rfl rfl (by decide) (fun H locs hP hD hS => ?_)
    refine lv_lstore_n (lv' := [(3, .long r2), (0, .ref q), (1, .int x1), (2, .int x2)]) hx hb dX12_restOf_15 rfl hl (by decide) rfl (fun ls hl => ?_)
    refine lv_lconst (v := 0) hx hb dX12_restOf_16 (by decide) ?_
    refine lv_lstore (lv' := [(5, .long (0 : Int64)), (3, .long r2), (0, .ref q), (1, .int x1), (2, .int x2)]) hx hb dX12_restOf_17 hl (by decide) rfl (fun ls hl => ?_)
    refine lv_iconst (v := 0) hx hb dX12_restOf_19 (by decide) ?_
    refine lv_istore (lv' := [(7, .int (0 : Int32)), (5, .long (0 : Int64)), (3, .long r2), (0, .ref q), (1, .int x1), (2, .int x2)]) hx hb dX12_restOf_20 hl (by decide) rfl (fun ls hl => ?_)
    obtain ⟨y25, w26, w27, w28, w29, w30, w31, hu, hf⟩ := kb7_e hf
    refine hL22 x1 x2 r2 v_known v_kept v_seed v_written v_guessAbove v_guessBelow v_sign v_power2 v_bits v_w F (0 : Int64) (0 : Int32) v_above v_below v_leftAbove v_leftBelow w3 w4 y25 w26 w27 w28 w29 w30 w31 hu (fun H locs ls hP hD hS hl => ?_) _ _ _ hP hD hS (lv_sub hl [3, 4, 5, 2, 1, 0] rfl)
    refine lv_lload hx hb dX12_restOf_81 (lv_at hl 1 rfl) ?_
    refine lv_lload_n hx hb dX12_restOf_83 rfl (lv_at hl 0 rfl) ?_
    obtain ⟨c32, hf⟩ := kc_e hf
    refine lv_ldiv hx hb dX12_restOf_84 c32 ?_
    obtain ⟨rfl, rfl, rfl, rfl, rfl, rfl, rfl⟩ := ki7 hf
    rw [hQ]
    exact k_lret hat hP hS rfl dX12_restOf_85
  · have hf := kp_e hf c1
    refine lv_aload_n hx hb dX12_restOf_4 rfl (lv_at hl 0 rfl) ?_
    refine lv_iload_n hx hb dX12_restOf_5 rfl (lv_at hl 1 rfl) ?_
    refine lv_iconst (v := 4) hx hb dX12_restOf_6 (by decide) ?_
    obtain ⟨r33, h34, hf⟩ := kb1_e hf
    refine k_gl (nW := 4) (ws' := [(q, .inr (11, [.ref q_w, .int v_known, .int v_kept, .int v_seed, .ref q_imageSeed, .ref q_bookOf, .ref q_bookAt, .ref q_bookIs, .int v_written, .ref q_rs, .ref q_cs, .long v_above, .long v_below, .ref q_zs, .long v_leftAbove, .long v_leftBelow, .long v_guessAbove, .long v_guessBelow, .int v_sign, .int v_power2, .long v_bits])), (q_w, .inl (cI, 418, .inl v_w)), (q_rs, .inl (cI, 4, .inl v_rs)), (q_cs, .inl (cI, 4, .inl v_cs))]) (wr := [(q_rs, .inl (cI, 4, .inl v_rs)), (q_cs, .inl (cI, 4, .inl v_cs))]) (k_runV (rest := []) hat hP hD hS hl.1 (c_X12_cell q q_w q_imageSeed q_bookOf q_bookAt q_bookIs q_rs q_cs q_zs v_known v_kept v_seed v_written v_above v_below v_leftAbove v_leftBelow v_guessAbove v_guessBelow v_sign v_power2 v_bits v_w x1 (4 : Int32) r33 h34) [0, 1] (by decide) rfl kw952 kw954 kw26 kw79 kw955 kdVX12_cell ⟨rfl, rfl⟩ (by rw [hR]; exact ⟨Nat.le_of_ble_eq_true rfl, Nat.le_of_ble_eq_true rfl⟩) ⟨Nat.zero_le _, Nat.zero_le _⟩ 0 11 rfl rfl rfl rfl (Nat.le_of_ble_eq_true rfl) dX12_restOf_7) hat hP hD hS [0, 1] rfl [2, 3] rfl rfl rfl rfl rfl (by decide) (fun H locs hP hD hS => ?_)
    obtain ⟨rfl, rfl, rfl, rfl, rfl, rfl, rfl⟩ := ki7 hf
    rw [hQ]
    exact k_lret hat hP hS rfl dX12_restOf_10
set_option maxHeartbeats 4000000 in
set_option maxRecDepth 100000 in
theorem c_X12_power {l : Launch} {D : va_G} {cI cJ cQ : ClassId} {tp : Nat} (F : Nat) (x0 : Int64) (x2 : Int32) (r0 : Int64) (hf : f_X12_power F x0 x2 = some r0) : kM (fun A => kQl D A [] r0) (some .long) l yX12_power cX12_power 6 { frames := 0, cells := 0, slots := 0, locals := 0 } D cI cJ cQ tp [.long x0, .int x2] [] := by
  refine kM_of (by decide +kernel) (Nat.le_of_ble_eq_true rfl) ?_
  intro p e s m args below meth c A ls R Q hR hQ hat hP hD hS hl
  obtain ⟨hx, hb, hr, hml, hown, hts, hT, hlk, hK, hA, hZ⟩ := id hat
  have hown : s.vm.findClass RX12 = some m.cls := hown
  have hl : lv_has ls 6 [(0, .long x0), (2, .int x2)] := hl
  have hL5 : ∀ (x0 : Int64) (x2 : Int32) (fu : Nat) (x3 : Int64) (x5 : Int32) (o0 : Int64), L_X12_power_5 x0 x2 fu x3 x5 = some o0 → (∀ (H : Heap) (locs : List Loc) (ls : Array Slot), va_P D vwCl [] H → va_D A [] → va_S A s.heap H locs → lv_has ls 6 [(3, .long o0)] → W p l e R s m args below meth c H locs 0 0 Q (F0 m 41 ls [])) → ∀ (H : Heap) (locs : List Loc) (ls : Array Slot), va_P D vwCl [] H → va_D A [] → va_S A s.heap H locs → lv_has ls 6 [(0, .long x0), (2, .int x2), (3, .long x3), (5, .int x5)] → W p l e R s m args below meth c H locs 0 0 Q (F0 m 5 ls []) := by
    intro x0 x2 fu
    induction fu with
    | zero =>
      intro x3 x5 o0 hf
      cases hf
    | succ fu ih =>
      intro x3 x5 o0 hf hk0 H locs ls hP hD hS hl
      rw [L_X12_power_5] at hf
      refine lv_iload hx hb dX12_power_5 (lv_at hl 3 rfl) ?_
      refine lv_iload_n hx hb dX12_power_7 rfl (lv_at hl 1 rfl) ?_
      refine lv_icmp_ge (tgt := 41) hx hb dX12_power_8 (by decide) (fun c1 => ?_) (fun c1 => ?_)
      · have hf := kp_e hf c1
        obtain rfl := ki1 hf
        exact hk0 _ _ _ hP hD hS (lv_sub hl [2] rfl)
      · have hf := kn_e hf c1
        refine lv_lload_n hx hb dX12_power_11 rfl (lv_at hl 2 rfl) ?_
        refine lv_lconst (v := 0) hx hb dX12_power_12 (by decide) ?_
        refine k_lcmp_le (tgt := 41) hx hb dX12_power_13 dX12_power_14 (by decide) (fun c2 => ?_) (fun c2 => ?_)
        · have hf := kp_e hf c2
          obtain rfl := ki1 hf
          exact hk0 _ _ _ hP hD hS (lv_sub hl [2] rfl)
        · have hf := kn_e hf c2
          refine lv_lload_n hx hb dX12_power_17 rfl (lv_at hl 2 rfl) ?_
          refine lv_ldc2 hx hb hown (hts _ kw1028) dX12_power_18 ?_
          refine lv_lload_n hx hb dX12_power_21 rfl (lv_at hl 0 rfl) ?_
          obtain ⟨c3, hf⟩ := kc_e hf
          refine lv_ldiv hx hb dX12_power_22 c3 ?_
          refine k_lcmp_le (tgt := 31) hx hb dX12_power_23 dX12_power_24 (by decide) (fun c4 => ?_) (fun c4 => ?_)
          · have hf := kp_e hf c4
            refine lv_lload_n hx hb dX12_power_31 rfl (lv_at hl 2 rfl) ?_
            refine lv_lload_n hx hb dX12_power_32 rfl (lv_at hl 0 rfl) ?_
            refine lv_lmul hx hb dX12_power_33 ?_
            refine lv_topl (fun t5 et5 => ?_)
            have hf := kl_e hf t5 et5
            refine lv_lstore_n (lv' := [(3, .long t5), (0, .long x0), (2, .int x2), (5, .int x5)]) hx hb dX12_power_34 rfl hl (by decide) rfl (fun ls hl => ?_)
            obtain ⟨t6, et6⟩ : ∃ z : Int32, z = (x5 + (1 : Int32)) := ⟨_, rfl⟩
            have hf := kl_e hf t6 et6
            refine lv_iinc (v := t6) (lv' := [(5, .int t6), (3, .long t5), (0, .long x0), (2, .int x2)]) hx hb dX12_power_35 hl (k := 3) rfl (by rw [et6]; rfl) (by decide) rfl (fun ls hl => ?_)
            refine lv_goto (tgt := 5) hx hb dX12_power_38 (by decide) ?_
            exact ih t5 t6 o0 hf hk0 _ _ _ hP hD hS (lv_sub hl [2, 3, 1, 0] rfl)
          · have hf := kn_e hf c4
            refine lv_lconst (v := 0) hx hb dX12_power_27 (by decide) ?_
            refine lv_goto (tgt := 34) hx hb dX12_power_28 (by decide) ?_
            refine lv_lstore_n (lv' := [(3, .long (0 : Int64)), (0, .long x0), (2, .int x2), (5, .int x5)]) hx hb dX12_power_34 rfl hl (by decide) rfl (fun ls hl => ?_)
            obtain ⟨t7, et7⟩ : ∃ z : Int32, z = (x5 + (1 : Int32)) := ⟨_, rfl⟩
            have hf := kl_e hf t7 et7
            refine lv_iinc (v := t7) (lv' := [(5, .int t7), (3, .long (0 : Int64)), (0, .long x0), (2, .int x2)]) hx hb dX12_power_35 hl (k := 3) rfl (by rw [et7]; rfl) (by decide) rfl (fun ls hl => ?_)
            refine lv_goto (tgt := 5) hx hb dX12_power_38 (by decide) ?_
            exact ih (0 : Int64) t7 o0 hf hk0 _ _ _ hP hD hS (lv_sub hl [2, 3, 1, 0] rfl)
  unfold f_X12_power at hf
  refine lv_lconst (v := 1) hx hb dX12_power_0 (by decide) ?_
  refine lv_lstore_n (lv' := [(3, .long (1 : Int64)), (0, .long x0), (2, .int x2)]) hx hb dX12_power_1 rfl hl (by decide) rfl (fun ls hl => ?_)
  refine lv_iconst (v := 0) hx hb dX12_power_2 (by decide) ?_
  refine lv_istore (lv' := [(5, .int (0 : Int32)), (3, .long (1 : Int64)), (0, .long x0), (2, .int x2)]) hx hb dX12_power_3 hl (by decide) rfl (fun ls hl => ?_)
  obtain ⟨y8, hu, hf⟩ := kb1_e hf
  refine hL5 x0 x2 F (1 : Int64) (0 : Int32) y8 hu (fun H locs ls hP hD hS hl => ?_) _ _ _ hP hD hS (lv_sub hl [2, 3, 1, 0] rfl)
  refine lv_lload_n hx hb dX12_power_41 rfl (lv_at hl 0 rfl) ?_
  obtain rfl := ki1 hf
  rw [hQ]
  exact k_lret hat hP hS rfl dX12_power_42
set_option maxHeartbeats 4000000 in
set_option maxRecDepth 100000 in
theorem c_X12_halfRoot {l : Launch} {D : va_G} {cI cJ cQ : ClassId} {tp : Nat} (F : Nat) (x0 : Int64) (r0 : Int64) (hf : f_X12_halfRoot F x0 = some r0) : kM (fun A => kQl D A [] r0) (some .long) l yX12_halfRoot cX12_halfRoot 7 { frames := 0, cells := 0, slots := 0, locals := 0 } D cI cJ cQ tp [.long x0] [] := by
  refine kM_of (by decide +kernel) (Nat.le_of_ble_eq_true rfl) ?_
  intro p e s m args below meth c A ls R Q hR hQ hat hP hD hS hl
  obtain ⟨hx, hb, hr, hml, hown, hts, hT, hlk, hK, hA, hZ⟩ := id hat
  have hown : s.vm.findClass RX12 = some m.cls := hown
  have hl : lv_has ls 7 [(0, .long x0)] := hl
  have hL6 : ∀ (x0 : Int64) (fu : Nat) (x2 : Int64) (x4 : Int32) (o0 : Int64), L_X12_halfRoot_6 x0 fu x2 x4 = some o0 → (∀ (H : Heap) (locs : List Loc) (ls : Array Slot), va_P D vwCl [] H → va_D A [] → va_S A s.heap H locs → lv_has ls 7 [(2, .long o0)] → W p l e R s m args below meth c H locs 0 0 Q (F0 m 46 ls [])) → ∀ (H : Heap) (locs : List Loc) (ls : Array Slot), va_P D vwCl [] H → va_D A [] → va_S A s.heap H locs → lv_has ls 7 [(0, .long x0), (2, .long x2), (4, .int x4)] → W p l e R s m args below meth c H locs 0 0 Q (F0 m 6 ls []) := by
    intro x0 fu
    induction fu with
    | zero =>
      intro x2 x4 o0 hf
      cases hf
    | succ fu ih =>
      intro x2 x4 o0 hf hk0 H locs ls hP hD hS hl
      rw [L_X12_halfRoot_6] at hf
      refine lv_iload hx hb dX12_halfRoot_6 (lv_at hl 2 rfl) ?_
      refine lv_if_lt (tgt := 46) hx hb dX12_halfRoot_8 (by decide) (fun c1 => ?_) (fun c1 => ?_)
      · have hf := kp_e hf c1
        obtain rfl := ki1 hf
        exact hk0 _ _ _ hP hD hS (lv_sub hl [1] rfl)
      · have hf := kn_e hf c1
        refine lv_lload_n hx hb dX12_halfRoot_11 rfl (lv_at hl 1 rfl) ?_
        refine lv_lconst (v := 1) hx hb dX12_halfRoot_12 (by decide) ?_
        refine lv_iload hx hb dX12_halfRoot_13 (lv_at hl 2 rfl) ?_
        refine lv_lshl hx hb dX12_halfRoot_15 rfl ?_
        refine lv_ladd hx hb dX12_halfRoot_16 ?_
        refine lv_topl (fun t2 et2 => ?_)
        have hf := kl_e hf t2 et2
        refine lv_lstore (lv' := [(5, .long t2), (0, .long x0), (2, .long x2), (4, .int x4)]) hx hb dX12_halfRoot_17 hl (by decide) rfl (fun ls hl => ?_)
        refine lv_ldc2 hx hb hown (hts _ kw1024) dX12_halfRoot_19 ?_
        refine lv_lload hx hb dX12_halfRoot_22 (lv_at hl 0 rfl) ?_
        refine lv_lmul hx hb dX12_halfRoot_24 ?_
        refine lv_lload hx hb dX12_halfRoot_25 (lv_at hl 0 rfl) ?_
        refine lv_lmul hx hb dX12_halfRoot_27 ?_
        refine lv_lload_n hx hb dX12_halfRoot_28 rfl (lv_at hl 1 rfl) ?_
        refine k_lcmp_ge (tgt := 38) hx hb dX12_halfRoot_29 dX12_halfRoot_30 (by decide) (fun c3 => ?_) (fun c3 => ?_)
        · have hf := kp_e hf c3
          refine lv_lload_n hx hb dX12_halfRoot_38 rfl (lv_at hl 2 rfl) ?_
          refine lv_lstore_n (lv' := [(2, .long x2), (5, .long t2), (0, .long x0), (4, .int x4)]) hx hb dX12_halfRoot_39 rfl hl (by decide) rfl (fun ls hl => ?_)
          obtain ⟨t4, et4⟩ : ∃ z : Int32, z = (x4 + (-1 : Int32)) := ⟨_, rfl⟩
          have hf := kl_e hf t4 et4
          refine lv_iinc (v := t4) (lv' := [(4, .int t4), (2, .long x2), (5, .long t2), (0, .long x0)]) hx hb dX12_halfRoot_40 hl (k := 3) rfl (by rw [et4]; rfl) (by decide) rfl (fun ls hl => ?_)
          refine lv_goto (tgt := 6) hx hb dX12_halfRoot_43 (by decide) ?_
          exact ih x2 t4 o0 hf hk0 _ _ _ hP hD hS (lv_sub hl [3, 1, 0] rfl)
        · have hf := kn_e hf c3
          refine lv_lload hx hb dX12_halfRoot_33 (lv_at hl 0 rfl) ?_
          refine lv_goto (tgt := 39) hx hb dX12_halfRoot_35 (by decide) ?_
          refine lv_lstore_n (lv' := [(2, .long t2), (5, .long t2), (0, .long x0), (4, .int x4)]) hx hb dX12_halfRoot_39 rfl hl (by decide) rfl (fun ls hl => ?_)
          obtain ⟨t5, et5⟩ : ∃ z : Int32, z = (x4 + (-1 : Int32)) := ⟨_, rfl⟩
          have hf := kl_e hf t5 et5
          refine lv_iinc (v := t5) (lv' := [(4, .int t5), (2, .long t2), (5, .long t2), (0, .long x0)]) hx hb dX12_halfRoot_40 hl (k := 3) rfl (by rw [et5]; rfl) (by decide) rfl (fun ls hl => ?_)
          refine lv_goto (tgt := 6) hx hb dX12_halfRoot_43 (by decide) ?_
          exact ih t2 t5 o0 hf hk0 _ _ _ hP hD hS (lv_sub hl [3, 1, 0] rfl)
  unfold f_X12_halfRoot at hf
  refine lv_lconst (v := 0) hx hb dX12_halfRoot_0 (by decide) ?_
  refine lv_lstore_n (lv' := [(2, .long (0 : Int64)), (0, .long x0)]) hx hb dX12_halfRoot_1 rfl hl (by decide) rfl (fun ls hl => ?_)
  refine lv_bipush (v := 30) hx hb dX12_halfRoot_2 (by decide) ?_
  refine lv_istore (lv' := [(4, .int (30 : Int32)), (2, .long (0 : Int64)), (0, .long x0)]) hx hb dX12_halfRoot_4 hl (by decide) rfl (fun ls hl => ?_)
  obtain ⟨y6, hu, hf⟩ := kb1_e hf
  refine hL6 x0 F (0 : Int64) (30 : Int32) y6 hu (fun H locs ls hP hD hS hl => ?_) _ _ _ hP hD hS (lv_sub hl [2, 1, 0] rfl)
  refine lv_lload_n hx hb dX12_halfRoot_46 rfl (lv_at hl 0 rfl) ?_
  obtain rfl := ki1 hf
  rw [hQ]
  exact k_lret hat hP hS rfl dX12_halfRoot_47
set_option maxHeartbeats 4000000 in
set_option maxRecDepth 100000 in
theorem c_X12_firstDigits {l : Launch} {D : va_G} {cI cJ cQ : ClassId} {tp : Nat} (q : Nat) (q_w : Nat) (q_imageSeed : Nat) (q_bookOf : Nat) (q_bookAt : Nat) (q_bookIs : Nat) (q_rs : Nat) (q_cs : Nat) (q_zs : Nat) (v_known : Int32) (v_kept : Int32) (v_seed : Int32) (v_written : Int32) (v_above : Int64) (v_below : Int64) (v_leftAbove : Int64) (v_leftBelow : Int64) (v_guessAbove : Int64) (v_guessBelow : Int64) (v_sign : Int32) (v_power2 : Int32) (v_bits : Int64) (v_w : (Nat → Int32)) (v_rs : (Nat → Int32)) (v_cs : (Nat → Int32)) (F : Nat) (x1 : Int32) (x2 : Int32) (r0 : Int64) (o_v_above : Int64) (o_v_below : Int64) (o_v_rs : (Nat → Int32)) (o_v_cs : (Nat → Int32)) (hf : f_X12_firstDigits F v_above v_below v_w v_rs v_cs x1 x2 = some (r0, o_v_above, o_v_below, o_v_rs, o_v_cs)) : kM (fun A => kQl D A [(q, .inr (11, [.ref q_w, .int v_known, .int v_kept, .int v_seed, .ref q_imageSeed, .ref q_bookOf, .ref q_bookAt, .ref q_bookIs, .int v_written, .ref q_rs, .ref q_cs, .long o_v_above, .long o_v_below, .ref q_zs, .long v_leftAbove, .long v_leftBelow, .long v_guessAbove, .long v_guessBelow, .int v_sign, .int v_power2, .long v_bits])), (q_w, .inl (cI, 418, .inl v_w)), (q_rs, .inl (cI, 4, .inl o_v_rs)), (q_cs, .inl (cI, 4, .inl o_v_cs))] r0) (some .long) l yX12_firstDigits cX12_firstDigits 16 { frames := 10, cells := 0, slots := 0, locals := 236 } D cI cJ cQ tp [.ref q, .int x1, .int x2] [(q, .inr (11, [.ref q_w, .int v_known, .int v_kept, .int v_seed, .ref q_imageSeed, .ref q_bookOf, .ref q_bookAt, .ref q_bookIs, .int v_written, .ref q_rs, .ref q_cs, .long v_above, .long v_below, .ref q_zs, .long v_leftAbove, .long v_leftBelow, .long v_guessAbove, .long v_guessBelow, .int v_sign, .int v_power2, .long v_bits])), (q_w, .inl (cI, 418, .inl v_w)), (q_rs, .inl (cI, 4, .inl v_rs)), (q_cs, .inl (cI, 4, .inl v_cs))] := by
  refine kM_of (by decide +kernel) (Nat.le_of_ble_eq_true rfl) ?_
  intro p e s m args below meth c A ls R Q hR hQ hat hP hD hS hl
  obtain ⟨hx, hb, hr, hml, hown, hts, hT, hlk, hK, hA, hZ⟩ := id hat
  have hown : s.vm.findClass RX12 = some m.cls := hown
  have hl : lv_has ls 16 [(0, .ref q), (1, .int x1), (2, .int x2)] := hl
  have hL36 : ∀ (x2 : Int32) (x3 : Int64) (x5 : Int64) (v_known : Int32) (v_kept : Int32) (v_seed : Int32) (v_written : Int32) (v_above : Int64) (v_below : Int64) (v_leftAbove : Int64) (v_leftBelow : Int64) (v_guessAbove : Int64) (v_guessBelow : Int64) (v_sign : Int32) (v_power2 : Int32) (v_bits : Int64) (v_w : (Nat → Int32)) (v_rs : (Nat → Int32)) (v_cs : (Nat → Int32)) (fu : Nat) (x7 : Int64) (x9 : Int64) (x11 : Int64) (x13 : Int32) (o0 : Int64), L_X12_firstDigits_36 x2 x3 x5 v_below fu x7 x9 x11 x13 = some o0 → (∀ (H : Heap) (locs : List Loc) (ls : Array Slot), va_P D vwCl [(q, .inr (11, [.ref q_w, .int v_known, .int v_kept, .int v_seed, .ref q_imageSeed, .ref q_bookOf, .ref q_bookAt, .ref q_bookIs, .int v_written, .ref q_rs, .ref q_cs, .long v_above, .long v_below, .ref q_zs, .long v_leftAbove, .long v_leftBelow, .long v_guessAbove, .long v_guessBelow, .int v_sign, .int v_power2, .long v_bits])), (q_w, .inl (cI, 418, .inl v_w)), (q_rs, .inl (cI, 4, .inl v_rs)), (q_cs, .inl (cI, 4, .inl v_cs))] H → va_D A [(q, .inr (11, [.ref q_w, .int v_known, .int v_kept, .int v_seed, .ref q_imageSeed, .ref q_bookOf, .ref q_bookAt, .ref q_bookIs, .int v_written, .ref q_rs, .ref q_cs, .long v_above, .long v_below, .ref q_zs, .long v_leftAbove, .long v_leftBelow, .long v_guessAbove, .long v_guessBelow, .int v_sign, .int v_power2, .long v_bits])), (q_w, .inl (cI, 418, .inl v_w)), (q_rs, .inl (cI, 4, .inl v_rs)), (q_cs, .inl (cI, 4, .inl v_cs))] → va_S A s.heap H locs → lv_has ls 16 [(9, .long o0)] → W p l e R s m args below meth c H locs 0 0 Q (F0 m 91 ls [])) → ∀ (H : Heap) (locs : List Loc) (ls : Array Slot), va_P D vwCl [(q, .inr (11, [.ref q_w, .int v_known, .int v_kept, .int v_seed, .ref q_imageSeed, .ref q_bookOf, .ref q_bookAt, .ref q_bookIs, .int v_written, .ref q_rs, .ref q_cs, .long v_above, .long v_below, .ref q_zs, .long v_leftAbove, .long v_leftBelow, .long v_guessAbove, .long v_guessBelow, .int v_sign, .int v_power2, .long v_bits])), (q_w, .inl (cI, 418, .inl v_w)), (q_rs, .inl (cI, 4, .inl v_rs)), (q_cs, .inl (cI, 4, .inl v_cs))] H → va_D A [(q, .inr (11, [.ref q_w, .int v_known, .int v_kept, .int v_seed, .ref q_imageSeed, .ref q_bookOf, .ref q_bookAt, .ref q_bookIs, .int v_written, .ref q_rs, .ref q_cs, .long v_above, .long v_below, .ref q_zs, .long v_leftAbove, .long v_leftBelow, .long v_guessAbove, .long v_guessBelow, .int v_sign, .int v_power2, .long v_bits])), (q_w, .inl (cI, 418, .inl v_w)), (q_rs, .inl (cI, 4, .inl v_rs)), (q_cs, .inl (cI, 4, .inl v_cs))] → va_S A s.heap H locs → lv_has ls 16 [(0, .ref q), (2, .int x2), (3, .long x3), (5, .long x5), (7, .long x7), (9, .long x9), (11, .long x11), (13, .int x13)] → W p l e R s m args below meth c H locs 0 0 Q (F0 m 36 ls []) := by
    intro x2 x3 x5 v_known v_kept v_seed v_written v_above v_below v_leftAbove v_leftBelow v_guessAbove v_guessBelow v_sign v_power2 v_bits v_w v_rs v_cs fu
    induction fu with
    | zero =>
      intro x7 x9 x11 x13 o0 hf
      cases hf
    | succ fu ih =>
      intro x7 x9 x11 x13 o0 hf hk0 H locs ls hP hD hS hl
      rw [L_X12_firstDigits_36] at hf
      refine lv_iload hx hb dX12_firstDigits_36 (lv_at hl 7 rfl) ?_
      refine lv_iload_n hx hb dX12_firstDigits_38 rfl (lv_at hl 1 rfl) ?_
      refine lv_icmp_ge (tgt := 91) hx hb dX12_firstDigits_39 (by decide) (fun c11 => ?_) (fun c11 => ?_)
      · have hf := kp_e hf c11
        obtain rfl := ki1 hf
        exact hk0 _ _ _ hP hD hS (lv_sub hl [5] rfl)
      · have hf := kn_e hf c11
        refine lv_lload hx hb dX12_firstDigits_42 (lv_at hl 4 rfl) ?_
        refine lv_lload_n hx hb dX12_firstDigits_44 rfl (lv_at hl 2 rfl) ?_
        obtain ⟨r12, h13, hf⟩ := kb1_e hf
        refine k_gl (nW := 4) (ws' := [(q, .inr (11, [.ref q_w, .int v_known, .int v_kept, .int v_seed, .ref q_imageSeed, .ref q_bookOf, .ref q_bookAt, .ref q_bookIs, .int v_written, .ref q_rs, .ref q_cs, .long v_above, .long v_below, .ref q_zs, .long v_leftAbove, .long v_leftBelow, .long v_guessAbove, .long v_guessBelow, .int v_sign, .int v_power2, .long v_bits])), (q_w, .inl (cI, 418, .inl v_w)), (q_rs, .inl (cI, 4, .inl v_rs)), (q_cs, .inl (cI, 4, .inl v_cs))]) (wr := [(q, .inr (11, [.ref q_w, .int v_known, .int v_kept, .int v_seed, .ref q_imageSeed, .ref q_bookOf, .ref q_bookAt, .ref q_bookIs, .int v_written, .ref q_rs, .ref q_cs, .long v_above, .long v_below, .ref q_zs, .long v_leftAbove, .long v_leftBelow, .long v_guessAbove, .long v_guessBelow, .int v_sign, .int v_power2, .long v_bits])), (q_w, .inl (cI, 418, .inl v_w)), (q_rs, .inl (cI, 4, .inl v_rs)), (q_cs, .inl (cI, 4, .inl v_cs))]) (k_runS (rest := []) hat hP hD hS hl.1 (c_X12_leftOver x7 x3 r12 h13) [] (by decide) rfl kw1055 kw1056 kw79 kw1057 kdX12_leftOver ⟨rfl, rfl⟩ (by rw [hR]; exact ⟨Nat.le_of_ble_eq_true rfl, Nat.le_of_ble_eq_true rfl⟩) ⟨Nat.zero_le _, Nat.zero_le _⟩ rfl rfl (Nat.le_of_ble_eq_true rfl) dX12_firstDigits_45) hat hP hD hS [] rfl [0, 1, 2, 3] rfl rfl rfl rfl rfl (by decide) (fun H locs hP hD hS => ?_)
        refine lv_lload hx hb dX12_firstDigits_48 (lv_at hl 3 rfl) ?_
        refine lv_lmul hx hb dX12_firstDigits_50 ?_
        refine lv_lload_n hx hb dX12_firstDigits_51 rfl (lv_at hl 2 rfl) ?_
        obtain ⟨c14, hf⟩ := kc_e hf
        refine lv_lrem hx hb dX12_firstDigits_52 c14 ?_
        refine lv_topl (fun t15 et15 => ?_)
        have hf := kl_e hf t15 et15
        refine lv_lstore (lv' := [(14, .long t15), (0, .ref q), (2, .int x2), (3, .long x3), (5, .long x5), (7, .long x7), (9, .long x9), (11, .long x11), (13, .int x13)]) hx hb dX12_firstDigits_53 hl (by decide) rfl (fun ls hl => ?_)
        refine lv_lload hx hb dX12_firstDigits_55 (lv_at hl 5 rfl) ?_
        refine lv_lload hx hb dX12_firstDigits_57 (lv_at hl 0 rfl) ?_
        refine lv_aload_n hx hb dX12_firstDigits_59 rfl (lv_at hl 1 rfl) ?_
        refine va_get (D := D) (ci := 11) (v := .long v_below) (C := RX12) (T := TX12) (N := 21) hx hb hts kinX12 hown hK hP 0 rfl rfl 12 (by decide) (hts _ kw856) (fun _ h9 => h9) rfl dX12_firstDigits_60 ?_
        refine lv_lmul hx hb dX12_firstDigits_63 ?_
        refine lv_lsub hx hb dX12_firstDigits_64 ?_
        refine lv_lload_n hx hb dX12_firstDigits_65 rfl (lv_at hl 3 rfl) ?_
        obtain ⟨c16, hf⟩ := kc_e hf
        refine lv_ldiv hx hb dX12_firstDigits_66 c16 ?_
        refine lv_topl (fun t17 et17 => ?_)
        have hf := kl_e hf t17 et17
        refine lv_lstore (lv' := [(7, .long t17), (14, .long t15), (0, .ref q), (2, .int x2), (3, .long x3), (5, .long x5), (9, .long x9), (11, .long x11), (13, .int x13)]) hx hb dX12_firstDigits_67 hl (by decide) rfl (fun ls hl => ?_)
        refine lv_lload hx hb dX12_firstDigits_69 (lv_at hl 6 rfl) ?_
        refine lv_lload hx hb dX12_firstDigits_71 (lv_at hl 1 rfl) ?_
        refine lv_lload hx hb dX12_firstDigits_73 (lv_at hl 7 rfl) ?_
        refine lv_lmul hx hb dX12_firstDigits_75 ?_
        refine lv_ladd hx hb dX12_firstDigits_76 ?_
        refine lv_topl (fun t18 et18 => ?_)
        have hf := kl_e hf t18 et18
        refine lv_lstore (lv' := [(9, .long t18), (7, .long t17), (14, .long t15), (0, .ref q), (2, .int x2), (3, .long x3), (5, .long x5), (11, .long x11), (13, .int x13)]) hx hb dX12_firstDigits_77 hl (by decide) rfl (fun ls hl => ?_)
        refine lv_lload hx hb dX12_firstDigits_79 (lv_at hl 7 rfl) ?_
        refine lv_lload_n hx hb dX12_firstDigits_81 rfl (lv_at hl 5 rfl) ?_
        refine lv_lmul hx hb dX12_firstDigits_82 ?_
        refine lv_topl (fun t19 et19 => ?_)
        have hf := kl_e hf t19 et19
        refine lv_lstore (lv' := [(11, .long t19), (9, .long t18), (7, .long t17), (14, .long t15), (0, .ref q), (2, .int x2), (3, .long x3), (5, .long x5), (13, .int x13)]) hx hb dX12_firstDigits_83 hl (by decide) rfl (fun ls hl => ?_)
        obtain ⟨t20, et20⟩ : ∃ z : Int32, z = (x13 + (1 : Int32)) := ⟨_, rfl⟩
        have hf := kl_e hf t20 et20
        refine lv_iinc (v := t20) (lv' := [(13, .int t20), (11, .long t19), (9, .long t18), (7, .long t17), (14, .long t15), (0, .ref q), (2, .int x2), (3, .long x3), (5, .long x5)]) hx hb dX12_firstDigits_85 hl (k := 8) rfl (by rw [et20]; rfl) (by decide) rfl (fun ls hl => ?_)
        refine lv_goto (tgt := 36) hx hb dX12_firstDigits_88 (by decide) ?_
        exact ih t17 t18 t19 t20 o0 hf hk0 _ _ _ hP hD hS (lv_sub hl [5, 6, 7, 8, 3, 2, 1, 0] rfl)
  unfold f_X12_firstDigits at hf
  refine lv_aload_n hx hb dX12_firstDigits_0 rfl (lv_at hl 0 rfl) ?_
  obtain ⟨r1, h2, hf⟩ := kb1_e hf
  refine k_gi (nW := 4) (ws' := [(q, .inr (11, [.ref q_w, .int v_known, .int v_kept, .int v_seed, .ref q_imageSeed, .ref q_bookOf, .ref q_bookAt, .ref q_bookIs, .int v_written, .ref q_rs, .ref q_cs, .long v_above, .long v_below, .ref q_zs, .long v_leftAbove, .long v_leftBelow, .long v_guessAbove, .long v_guessBelow, .int v_sign, .int v_power2, .long v_bits])), (q_w, .inl (cI, 418, .inl v_w)), (q_rs, .inl (cI, 4, .inl v_rs)), (q_cs, .inl (cI, 4, .inl v_cs))]) (wr := [(q_rs, .inl (cI, 4, .inl v_rs)), (q_cs, .inl (cI, 4, .inl v_cs))]) (k_runV (rest := []) hat hP hD hS hl.1 (c_X12_p q q_w q_imageSeed q_bookOf q_bookAt q_bookIs q_rs q_cs q_zs v_known v_kept v_seed v_written v_above v_below v_leftAbove v_leftBelow v_guessAbove v_guessBelow v_sign v_power2 v_bits v_w F r1 h2) [0, 1] (by decide) rfl kw916 kw918 kw20 kw79 kw919 kdVX12_p ⟨rfl, rfl⟩ (by rw [hR]; exact ⟨Nat.le_of_ble_eq_true rfl, Nat.le_of_ble_eq_true rfl⟩) ⟨Nat.zero_le _, Nat.zero_le _⟩ 0 11 rfl rfl rfl rfl (Nat.le_of_ble_eq_true rfl) dX12_firstDigits_1) hat hP hD hS [0, 1] rfl [2, 3] rfl rfl rfl rfl rfl (by decide) (fun H locs hP hD hS => ?_)
  refine lv_i2l hx hb dX12_firstDigits_4 rfl ?_
  refine lv_topl (fun t3 et3 => ?_)
  have hf := kl_e hf t3 et3
  refine lv_lstore_n (lv' := [(3, .long t3), (0, .ref q), (1, .int x1), (2, .int x2)]) hx hb dX12_firstDigits_5 rfl hl (by decide) rfl (fun ls hl => ?_)
  refine lv_aload_n hx hb dX12_firstDigits_6 rfl (lv_at hl 1 rfl) ?_
  refine lv_iload_n hx hb dX12_firstDigits_7 rfl (lv_at hl 2 rfl) ?_
  obtain ⟨w4, w5, w6, w7, h8, hf⟩ := kb4_e hf
  refine k_gv (nW := 4) (ws' := [(q, .inr (11, [.ref q_w, .int v_known, .int v_kept, .int v_seed, .ref q_imageSeed, .ref q_bookOf, .ref q_bookAt, .ref q_bookIs, .int v_written, .ref q_rs, .ref q_cs, .long w4, .long w5, .ref q_zs, .long v_leftAbove, .long v_leftBelow, .long v_guessAbove, .long v_guessBelow, .int v_sign, .int v_power2, .long v_bits])), (q_w, .inl (cI, 418, .inl v_w)), (q_rs, .inl (cI, 4, .inl w6)), (q_cs, .inl (cI, 4, .inl w7))]) (wr := []) (k_runV (rest := []) hat hP hD hS hl.1 (c_X12_laySolution q q_w q_imageSeed q_bookOf q_bookAt q_bookIs q_rs q_cs q_zs v_known v_kept v_seed v_written v_above v_below v_leftAbove v_leftBelow v_guessAbove v_guessBelow v_sign v_power2 v_bits v_w v_rs v_cs F x1 w4 w5 w6 w7 h8) [0, 1, 2, 3] (by decide) rfl kw1048 kw1050 kw47 kw79 kw1051 kdVX12_laySolution ⟨rfl, rfl⟩ (by rw [hR]; exact ⟨Nat.le_of_ble_eq_true rfl, Nat.le_of_ble_eq_true rfl⟩) ⟨Nat.zero_le _, Nat.zero_le _⟩ 0 11 rfl rfl rfl rfl (Nat.le_of_ble_eq_true rfl) dX12_firstDigits_8) hat hP hD hS [0, 1, 2, 3] rfl [] rfl rfl rfl rfl rfl (by decide) (fun H locs hP hD hS => ?_)
  refine lv_aload_n hx hb dX12_firstDigits_11 rfl (lv_at hl 1 rfl) ?_
  refine va_get (D := D) (ci := 11) (v := .long w5) (C := RX12) (T := TX12) (N := 21) hx hb hts kinX12 hown hK hP 0 rfl rfl 12 (by decide) (hts _ kw856) (fun _ h9 => h9) rfl dX12_firstDigits_12 ?_
  refine lv_lload_n hx hb dX12_firstDigits_15 rfl (lv_at hl 0 rfl) ?_
  obtain ⟨r9, h10, hf⟩ := kb1_e hf
  refine k_gl (nW := 4) (ws' := [(q, .inr (11, [.ref q_w, .int v_known, .int v_kept, .int v_seed, .ref q_imageSeed, .ref q_bookOf, .ref q_bookAt, .ref q_bookIs, .int v_written, .ref q_rs, .ref q_cs, .long w4, .long w5, .ref q_zs, .long v_leftAbove, .long v_leftBelow, .long v_guessAbove, .long v_guessBelow, .int v_sign, .int v_power2, .long v_bits])), (q_w, .inl (cI, 418, .inl v_w)), (q_rs, .inl (cI, 4, .inl w6)), (q_cs, .inl (cI, 4, .inl w7))]) (wr := [(q, .inr (11, [.ref q_w, .int v_known, .int v_kept, .int v_seed, .ref q_imageSeed, .ref q_bookOf, .ref q_bookAt, .ref q_bookIs, .int v_written, .ref q_rs, .ref q_cs, .long w4, .long w5, .ref q_zs, .long v_leftAbove, .long v_leftBelow, .long v_guessAbove, .long v_guessBelow, .int v_sign, .int v_power2, .long v_bits])), (q_w, .inl (cI, 418, .inl v_w)), (q_rs, .inl (cI, 4, .inl w6)), (q_cs, .inl (cI, 4, .inl w7))]) (k_runS (rest := []) hat hP hD hS hl.1 (c_X12_inverse F w5 t3 r9 h10) [] (by decide) rfl kw1052 kw1053 kw79 kw1054 kdX12_inverse ⟨rfl, rfl⟩ (by rw [hR]; exact ⟨Nat.le_of_ble_eq_true rfl, Nat.le_of_ble_eq_true rfl⟩) ⟨Nat.zero_le _, Nat.zero_le _⟩ rfl rfl (Nat.le_of_ble_eq_true rfl) dX12_firstDigits_16) hat hP hD hS [] rfl [0, 1, 2, 3] rfl rfl rfl rfl rfl (by decide) (fun H locs hP hD hS => ?_)
  refine lv_lstore (lv' := [(5, .long r9), (3, .long t3), (0, .ref q), (1, .int x1), (2, .int x2)]) hx hb dX12_firstDigits_19 hl (by decide) rfl (fun ls hl => ?_)
  refine lv_aload_n hx hb dX12_firstDigits_21 rfl (lv_at hl 2 rfl) ?_
  refine va_get (D := D) (ci := 11) (v := .long w4) (C := RX12) (T := TX12) (N := 21) hx hb hts kinX12 hown hK hP 0 rfl rfl 11 (by decide) (hts _ kw855) (fun _ h9 => h9) rfl dX12_firstDigits_22 ?_
  refine lv_lstore (lv' := [(7, .long w4), (5, .long r9), (3, .long t3), (0, .ref q), (1, .int x1), (2, .int x2)]) hx hb dX12_firstDigits_25 hl (by decide) rfl (fun ls hl => ?_)
  refine lv_lconst (v := 0) hx hb dX12_firstDigits_27 (by decide) ?_
  refine lv_lstore (lv' := [(9, .long (0 : Int64)), (7, .long w4), (5, .long r9), (3, .long t3), (0, .ref q), (1, .int x1), (2, .int x2)]) hx hb dX12_firstDigits_28 hl (by decide) rfl (fun ls hl => ?_)
  refine lv_lconst (v := 1) hx hb dX12_firstDigits_30 (by decide) ?_
  refine lv_lstore (lv' := [(11, .long (1 : Int64)), (9, .long (0 : Int64)), (7, .long w4), (5, .long r9), (3, .long t3), (0, .ref q), (1, .int x1), (2, .int x2)]) hx hb dX12_firstDigits_31 hl (by decide) rfl (fun ls hl => ?_)
  refine lv_iconst (v := 0) hx hb dX12_firstDigits_33 (by decide) ?_
  refine lv_istore (lv' := [(13, .int (0 : Int32)), (11, .long (1 : Int64)), (9, .long (0 : Int64)), (7, .long w4), (5, .long r9), (3, .long t3), (0, .ref q), (1, .int x1), (2, .int x2)]) hx hb dX12_firstDigits_34 hl (by decide) rfl (fun ls hl => ?_)
  obtain ⟨y21, hu, hf⟩ := kb1_e hf
  refine hL36 x2 t3 r9 v_known v_kept v_seed v_written w4 w5 v_leftAbove v_leftBelow v_guessAbove v_guessBelow v_sign v_power2 v_bits v_w w6 w7 F w4 (0 : Int64) (1 : Int64) (0 : Int32) y21 hu (fun H locs ls hP hD hS hl => ?_) _ _ _ hP hD hS (lv_sub hl [6, 8, 5, 4, 3, 2, 1, 0] rfl)
  refine lv_lload hx hb dX12_firstDigits_91 (lv_at hl 0 rfl) ?_
  obtain ⟨rfl, rfl, rfl, rfl, rfl⟩ := ki5 hf
  rw [hQ]
  exact k_lret hat hP hS rfl dX12_firstDigits_93
set_option maxHeartbeats 4000000 in
set_option maxRecDepth 100000 in
theorem c_X12_layGuess {l : Launch} {D : va_G} {cI cJ cQ : ClassId} {tp : Nat} (q : Nat) (q_w : Nat) (q_imageSeed : Nat) (q_bookOf : Nat) (q_bookAt : Nat) (q_bookIs : Nat) (q_rs : Nat) (q_cs : Nat) (q_zs : Nat) (v_known : Int32) (v_kept : Int32) (v_seed : Int32) (v_written : Int32) (v_above : Int64) (v_below : Int64) (v_leftAbove : Int64) (v_leftBelow : Int64) (v_guessAbove : Int64) (v_guessBelow : Int64) (v_sign : Int32) (v_power2 : Int32) (v_bits : Int64) (v_w : (Nat → Int32)) (v_rs : (Nat → Int32)) (v_cs : (Nat → Int32)) (F : Nat) (x1 : Int32) (x2 : Int32) (r0 : Int32) (o_v_above : Int64) (o_v_below : Int64) (o_v_guessAbove : Int64) (o_v_guessBelow : Int64) (o_v_rs : (Nat → Int32)) (o_v_cs : (Nat → Int32)) (hf : f_X12_layGuess F v_above v_below v_guessAbove v_guessBelow v_w v_rs v_cs x1 x2 = some (r0, o_v_above, o_v_below, o_v_guessAbove, o_v_guessBelow, o_v_rs, o_v_cs)) : kM (fun A => kQi D A [(q, .inr (11, [.ref q_w, .int v_known, .int v_kept, .int v_seed, .ref q_imageSeed, .ref q_bookOf, .ref q_bookAt, .ref q_bookIs, .int v_written, .ref q_rs, .ref q_cs, .long o_v_above, .long o_v_below, .ref q_zs, .long v_leftAbove, .long v_leftBelow, .long o_v_guessAbove, .long o_v_guessBelow, .int v_sign, .int v_power2, .long v_bits])), (q_w, .inl (cI, 418, .inl v_w)), (q_rs, .inl (cI, 4, .inl o_v_rs)), (q_cs, .inl (cI, 4, .inl o_v_cs))] r0) (some .boolean) l yX12_layGuess cX12_layGuess 32 { frames := 11, cells := 0, slots := 0, locals := 271 } D cI cJ cQ tp [.ref q, .int x1, .int x2] [(q, .inr (11, [.ref q_w, .int v_known, .int v_kept, .int v_seed, .ref q_imageSeed, .ref q_bookOf, .ref q_bookAt, .ref q_bookIs, .int v_written, .ref q_rs, .ref q_cs, .long v_above, .long v_below, .ref q_zs, .long v_leftAbove, .long v_leftBelow, .long v_guessAbove, .long v_guessBelow, .int v_sign, .int v_power2, .long v_bits])), (q_w, .inl (cI, 418, .inl v_w)), (q_rs, .inl (cI, 4, .inl v_rs)), (q_cs, .inl (cI, 4, .inl v_cs))] := by
  refine kM_of (by decide +kernel) (Nat.le_of_ble_eq_true rfl) ?_
  intro p e s m args below meth c A ls R Q hR hQ hat hP hD hS hl
  obtain ⟨hx, hb, hr, hml, hown, hts, hT, hlk, hK, hA, hZ⟩ := id hat
  have hown : s.vm.findClass RX12 = some m.cls := hown
  have hl : lv_has ls 32 [(0, .ref q), (1, .int x1), (2, .int x2)] := hl
  have hL54 : ∀ (x3 : Int64) (x7 : Int64) (v_known : Int32) (v_kept : Int32) (v_seed : Int32) (v_written : Int32) (v_above : Int64) (v_below : Int64) (v_leftAbove : Int64) (v_leftBelow : Int64) (v_sign : Int32) (v_power2 : Int32) (v_bits : Int64) (v_w : (Nat → Int32)) (v_rs : (Nat → Int32)) (v_cs : (Nat → Int32)) (fu : Nat) (x11 : Int64) (x13 : Int64) (x15 : Int64) (x17 : Int64) (x19 : Int64) (x21 : Int64) (x23 : Int32) (v_guessAbove : Int64) (v_guessBelow : Int64) (o0 : Int32) (o1 : Int64) (o2 : Int64), L_X12_layGuess_54 x3 x7 fu x11 x13 x15 x17 x19 x21 x23 v_guessAbove v_guessBelow = some (o0, o1, o2) → (∀ (H : Heap) (locs : List Loc) (ls : Array Slot), va_P D vwCl [(q, .inr (11, [.ref q_w, .int v_known, .int v_kept, .int v_seed, .ref q_imageSeed, .ref q_bookOf, .ref q_bookAt, .ref q_bookIs, .int v_written, .ref q_rs, .ref q_cs, .long v_above, .long v_below, .ref q_zs, .long v_leftAbove, .long v_leftBelow, .long o1, .long o2, .int v_sign, .int v_power2, .long v_bits])), (q_w, .inl (cI, 418, .inl v_w)), (q_rs, .inl (cI, 4, .inl v_rs)), (q_cs, .inl (cI, 4, .inl v_cs))] H → va_D A [(q, .inr (11, [.ref q_w, .int v_known, .int v_kept, .int v_seed, .ref q_imageSeed, .ref q_bookOf, .ref q_bookAt, .ref q_bookIs, .int v_written, .ref q_rs, .ref q_cs, .long v_above, .long v_below, .ref q_zs, .long v_leftAbove, .long v_leftBelow, .long o1, .long o2, .int v_sign, .int v_power2, .long v_bits])), (q_w, .inl (cI, 418, .inl v_w)), (q_rs, .inl (cI, 4, .inl v_rs)), (q_cs, .inl (cI, 4, .inl v_cs))] → va_S A s.heap H locs → lv_has ls 32 [(23, .int o0)] → W p l e R s m args below meth c H locs 0 0 Q (F0 m 206 ls [])) → ∀ (H : Heap) (locs : List Loc) (ls : Array Slot), va_P D vwCl [(q, .inr (11, [.ref q_w, .int v_known, .int v_kept, .int v_seed, .ref q_imageSeed, .ref q_bookOf, .ref q_bookAt, .ref q_bookIs, .int v_written, .ref q_rs, .ref q_cs, .long v_above, .long v_below, .ref q_zs, .long v_leftAbove, .long v_leftBelow, .long v_guessAbove, .long v_guessBelow, .int v_sign, .int v_power2, .long v_bits])), (q_w, .inl (cI, 418, .inl v_w)), (q_rs, .inl (cI, 4, .inl v_rs)), (q_cs, .inl (cI, 4, .inl v_cs))] H → va_D A [(q, .inr (11, [.ref q_w, .int v_known, .int v_kept, .int v_seed, .ref q_imageSeed, .ref q_bookOf, .ref q_bookAt, .ref q_bookIs, .int v_written, .ref q_rs, .ref q_cs, .long v_above, .long v_below, .ref q_zs, .long v_leftAbove, .long v_leftBelow, .long v_guessAbove, .long v_guessBelow, .int v_sign, .int v_power2, .long v_bits])), (q_w, .inl (cI, 418, .inl v_w)), (q_rs, .inl (cI, 4, .inl v_rs)), (q_cs, .inl (cI, 4, .inl v_cs))] → va_S A s.heap H locs → lv_has ls 32 [(0, .ref q), (3, .long x3), (7, .long x7), (11, .long x11), (13, .long x13), (15, .long x15), (17, .long x17), (19, .long x19), (21, .long x21), (23, .int x23)] → W p l e R s m args below meth c H locs 0 0 Q (F0 m 54 ls []) := by
    intro x3 x7 v_known v_kept v_seed v_written v_above v_below v_leftAbove v_leftBelow v_sign v_power2 v_bits v_w v_rs v_cs fu
    induction fu with
    | zero =>
      intro x11 x13 x15 x17 x19 x21 x23 v_guessAbove v_guessBelow o0 o1 o2 hf
      cases hf
    | succ fu ih =>
      intro x11 x13 x15 x17 x19 x21 x23 v_guessAbove v_guessBelow o0 o1 o2 hf hk0 H locs ls hP hD hS hl
      rw [L_X12_layGuess_54] at hf
      refine lv_lload hx hb dX12_layGuess_54 (lv_at hl 5 rfl) ?_
      refine lv_lload hx hb dX12_layGuess_56 (lv_at hl 2 rfl) ?_
      refine k_lcmp_gt (tgt := 206) hx hb dX12_layGuess_58 dX12_layGuess_59 (by decide) (fun c15 => ?_) (fun c15 => ?_)
      · have hf := kp_e hf c15
        obtain ⟨rfl, rfl, rfl⟩ := ki3 hf
        exact hk0 _ _ _ hP hD hS (lv_sub hl [9] rfl)
      · have hf := kn_e hf c15
        refine lv_iload hx hb dX12_layGuess_62 (lv_at hl 9 rfl) ?_
        refine lv_if_ne (tgt := 206) hx hb dX12_layGuess_64 (by decide) (fun c16 => ?_) (fun c16 => ?_)
        · have hf := kn_e hf c16
          obtain ⟨rfl, rfl, rfl⟩ := ki3 hf
          exact hk0 _ _ _ hP hD hS (lv_sub hl [9] rfl)
        · have hf := kp_e hf c16
          refine lv_lload hx hb dX12_layGuess_67 (lv_at hl 7 rfl) ?_
          refine lv_lload hx hb dX12_layGuess_69 (lv_at hl 2 rfl) ?_
          refine lv_lneg hx hb dX12_layGuess_71 ?_
          refine lv_lload hx hb dX12_layGuess_72 (lv_at hl 2 rfl) ?_
          obtain ⟨r17, h18, hf⟩ := kb1_e hf
          refine k_gi (nW := 4) (ws' := [(q, .inr (11, [.ref q_w, .int v_known, .int v_kept, .int v_seed, .ref q_imageSeed, .ref q_bookOf, .ref q_bookAt, .ref q_bookIs, .int v_written, .ref q_rs, .ref q_cs, .long v_above, .long v_below, .ref q_zs, .long v_leftAbove, .long v_leftBelow, .long v_guessAbove, .long v_guessBelow, .int v_sign, .int v_power2, .long v_bits])), (q_w, .inl (cI, 418, .inl v_w)), (q_rs, .inl (cI, 4, .inl v_rs)), (q_cs, .inl (cI, 4, .inl v_cs))]) (wr := [(q, .inr (11, [.ref q_w, .int v_known, .int v_kept, .int v_seed, .ref q_imageSeed, .ref q_bookOf, .ref q_bookAt, .ref q_bookIs, .int v_written, .ref q_rs, .ref q_cs, .long v_above, .long v_below, .ref q_zs, .long v_leftAbove, .long v_leftBelow, .long v_guessAbove, .long v_guessBelow, .int v_sign, .int v_power2, .long v_bits])), (q_w, .inl (cI, 418, .inl v_w)), (q_rs, .inl (cI, 4, .inl v_rs)), (q_cs, .inl (cI, 4, .inl v_cs))]) (k_runS (rest := []) hat hP hD hS hl.1 (c_X12_in x19 (-x7) x7 r17 h18) [] (by decide) rfl kw1058 kw1059 kw79 kw1060 kdX12_in ⟨rfl, rfl⟩ (by rw [hR]; exact ⟨Nat.le_of_ble_eq_true rfl, Nat.le_of_ble_eq_true rfl⟩) ⟨Nat.zero_le _, Nat.zero_le _⟩ rfl rfl (Nat.le_of_ble_eq_true rfl) dX12_layGuess_74) hat hP hD hS [] rfl [0, 1, 2, 3] rfl rfl rfl rfl rfl (by decide) (fun H locs hP hD hS => ?_)
          obtain ⟨J20, hJ20_, hf⟩ := kj1_e hf
          have hJ20 : ∀ (t19 : Int32), J20 t19 = some (o0, o1, o2) → ∀ (H : Heap) (locs : List Loc) (ls : Array Slot), va_P D vwCl [(q, .inr (11, [.ref q_w, .int v_known, .int v_kept, .int v_seed, .ref q_imageSeed, .ref q_bookOf, .ref q_bookAt, .ref q_bookIs, .int v_written, .ref q_rs, .ref q_cs, .long v_above, .long v_below, .ref q_zs, .long v_leftAbove, .long v_leftBelow, .long v_guessAbove, .long v_guessBelow, .int v_sign, .int v_power2, .long v_bits])), (q_w, .inl (cI, 418, .inl v_w)), (q_rs, .inl (cI, 4, .inl v_rs)), (q_cs, .inl (cI, 4, .inl v_cs))] H → va_D A [(q, .inr (11, [.ref q_w, .int v_known, .int v_kept, .int v_seed, .ref q_imageSeed, .ref q_bookOf, .ref q_bookAt, .ref q_bookIs, .int v_written, .ref q_rs, .ref q_cs, .long v_above, .long v_below, .ref q_zs, .long v_leftAbove, .long v_leftBelow, .long v_guessAbove, .long v_guessBelow, .int v_sign, .int v_power2, .long v_bits])), (q_w, .inl (cI, 418, .inl v_w)), (q_rs, .inl (cI, 4, .inl v_rs)), (q_cs, .inl (cI, 4, .inl v_cs))] → va_S A s.heap H locs → lv_has ls 32 [(0, .ref q), (3, .long x3), (7, .long x7), (11, .long x11), (13, .long x13), (15, .long x15), (17, .long x17), (19, .long x19), (21, .long x21)] → W p l e R s m args below meth c H locs 0 0 Q (F0 m 94 ls [.int t19]) := by
            intro t19 hf H locs ls hP hD hS hl
            rw [hJ20_] at hf
            refine lv_istore (lv' := [(23, .int t19), (0, .ref q), (3, .long x3), (7, .long x7), (11, .long x11), (13, .long x13), (15, .long x15), (17, .long x17), (19, .long x19), (21, .long x21)]) hx hb dX12_layGuess_94 hl (by decide) rfl (fun ls hl => ?_)
            refine lv_aload_n hx hb dX12_layGuess_96 rfl (lv_at hl 1 rfl) ?_
            refine lv_lload hx hb dX12_layGuess_97 (lv_at hl 8 rfl) ?_
            refine va_put (D := D) (ci := 11) (v := .long x19) (ty := .long) (C := RX12) (T := TX12) (N := 21) hx hb hts kinX12 tyX12 tyX12_ok nmX12 hown hK hP hD hS 0 rfl rfl 16 (by decide) (hts _ kw860) (fun _ h9 => h9) rfl (by decide +kernel) rfl rfl (Nat.le_of_ble_eq_true rfl) dX12_layGuess_99 (fun H locs hP hD hS => ?_)
            have hP : va_P D vwCl [(q, .inr (11, [.ref q_w, .int v_known, .int v_kept, .int v_seed, .ref q_imageSeed, .ref q_bookOf, .ref q_bookAt, .ref q_bookIs, .int v_written, .ref q_rs, .ref q_cs, .long v_above, .long v_below, .ref q_zs, .long v_leftAbove, .long v_leftBelow, .long x19, .long v_guessBelow, .int v_sign, .int v_power2, .long v_bits])), (q_w, .inl (cI, 418, .inl v_w)), (q_rs, .inl (cI, 4, .inl v_rs)), (q_cs, .inl (cI, 4, .inl v_cs))] H := hP
            have hD : va_D A [(q, .inr (11, [.ref q_w, .int v_known, .int v_kept, .int v_seed, .ref q_imageSeed, .ref q_bookOf, .ref q_bookAt, .ref q_bookIs, .int v_written, .ref q_rs, .ref q_cs, .long v_above, .long v_below, .ref q_zs, .long v_leftAbove, .long v_leftBelow, .long x19, .long v_guessBelow, .int v_sign, .int v_power2, .long v_bits])), (q_w, .inl (cI, 418, .inl v_w)), (q_rs, .inl (cI, 4, .inl v_rs)), (q_cs, .inl (cI, 4, .inl v_cs))] := hD
            refine lv_aload_n hx hb dX12_layGuess_102 rfl (lv_at hl 1 rfl) ?_
            refine lv_lload hx hb dX12_layGuess_103 (lv_at hl 6 rfl) ?_
            refine va_put (D := D) (ci := 11) (v := .long x15) (ty := .long) (C := RX12) (T := TX12) (N := 21) hx hb hts kinX12 tyX12 tyX12_ok nmX12 hown hK hP hD hS 0 rfl rfl 17 (by decide) (hts _ kw861) (fun _ h9 => h9) rfl (by decide +kernel) rfl rfl (Nat.le_of_ble_eq_true rfl) dX12_layGuess_105 (fun H locs hP hD hS => ?_)
            have hP : va_P D vwCl [(q, .inr (11, [.ref q_w, .int v_known, .int v_kept, .int v_seed, .ref q_imageSeed, .ref q_bookOf, .ref q_bookAt, .ref q_bookIs, .int v_written, .ref q_rs, .ref q_cs, .long v_above, .long v_below, .ref q_zs, .long v_leftAbove, .long v_leftBelow, .long x19, .long x15, .int v_sign, .int v_power2, .long v_bits])), (q_w, .inl (cI, 418, .inl v_w)), (q_rs, .inl (cI, 4, .inl v_rs)), (q_cs, .inl (cI, 4, .inl v_cs))] H := hP
            have hD : va_D A [(q, .inr (11, [.ref q_w, .int v_known, .int v_kept, .int v_seed, .ref q_imageSeed, .ref q_bookOf, .ref q_bookAt, .ref q_bookIs, .int v_written, .ref q_rs, .ref q_cs, .long v_above, .long v_below, .ref q_zs, .long v_leftAbove, .long v_leftBelow, .long x19, .long x15, .int v_sign, .int v_power2, .long v_bits])), (q_w, .inl (cI, 418, .inl v_w)), (q_rs, .inl (cI, 4, .inl v_rs)), (q_cs, .inl (cI, 4, .inl v_cs))] := hD
            refine lv_lload hx hb dX12_layGuess_108 (lv_at hl 4 rfl) ?_
            refine lv_lconst (v := 0) hx hb dX12_layGuess_110 (by decide) ?_
            refine k_lcmp_ne (tgt := 124) hx hb dX12_layGuess_111 dX12_layGuess_112 (by decide) (fun c21 => ?_) (fun c21 => ?_)
            · have hf := kn_e hf c21
              refine lv_lload hx hb dX12_layGuess_124 (lv_at hl 5 rfl) ?_
              refine lv_lload hx hb dX12_layGuess_126 (lv_at hl 4 rfl) ?_
              obtain ⟨c22, hf⟩ := kc_e hf
              refine lv_ldiv hx hb dX12_layGuess_128 c22 ?_
              refine lv_topl (fun t23 et23 => ?_)
              have hf := kl_e hf t23 et23
              refine lv_lstore (lv' := [(24, .long t23), (23, .int t19), (0, .ref q), (3, .long x3), (7, .long x7), (11, .long x11), (13, .long x13), (15, .long x15), (17, .long x17), (19, .long x19), (21, .long x21)]) hx hb dX12_layGuess_129 hl (by decide) rfl (fun ls hl => ?_)
              refine lv_lload hx hb dX12_layGuess_131 (lv_at hl 6 rfl) ?_
              refine lv_lload hx hb dX12_layGuess_133 (lv_at hl 5 rfl) ?_
              obtain ⟨c24, hf⟩ := kc_e hf
              refine lv_lrem hx hb dX12_layGuess_135 c24 ?_
              refine lv_topl (fun t25 et25 => ?_)
              have hf := kl_e hf t25 et25
              refine lv_lstore (lv' := [(26, .long t25), (24, .long t23), (23, .int t19), (0, .ref q), (3, .long x3), (7, .long x7), (11, .long x11), (13, .long x13), (15, .long x15), (17, .long x17), (19, .long x19), (21, .long x21)]) hx hb dX12_layGuess_136 hl (by decide) rfl (fun ls hl => ?_)
              refine lv_lload hx hb dX12_layGuess_138 (lv_at hl 6 rfl) ?_
              refine lv_lstore (lv' := [(13, .long x11), (26, .long t25), (24, .long t23), (23, .int t19), (0, .ref q), (3, .long x3), (7, .long x7), (11, .long x11), (15, .long x15), (17, .long x17), (19, .long x19), (21, .long x21)]) hx hb dX12_layGuess_140 hl (by decide) rfl (fun ls hl => ?_)
              refine lv_lload hx hb dX12_layGuess_142 (lv_at hl 1 rfl) ?_
              refine lv_lstore (lv' := [(11, .long t25), (13, .long x11), (26, .long t25), (24, .long t23), (23, .int t19), (0, .ref q), (3, .long x3), (7, .long x7), (15, .long x15), (17, .long x17), (19, .long x19), (21, .long x21)]) hx hb dX12_layGuess_144 hl (by decide) rfl (fun ls hl => ?_)
              refine lv_lload hx hb dX12_layGuess_146 (lv_at hl 3 rfl) ?_
              refine lv_lload hx hb dX12_layGuess_148 (lv_at hl 7 rfl) ?_
              refine lv_lload hx hb dX12_layGuess_150 (lv_at hl 9 rfl) ?_
              refine lv_lsub hx hb dX12_layGuess_152 ?_
              refine lv_lload hx hb dX12_layGuess_153 (lv_at hl 8 rfl) ?_
              obtain ⟨c26, hf⟩ := kc_e hf
              refine lv_ldiv hx hb dX12_layGuess_155 c26 ?_
              refine k_lcmp_le (tgt := 167) hx hb dX12_layGuess_156 dX12_layGuess_157 (by decide) (fun c27 => ?_) (fun c27 => ?_)
              · have hf := kp_e hf c27
                refine lv_lload hx hb dX12_layGuess_167 (lv_at hl 3 rfl) ?_
                refine lv_lload hx hb dX12_layGuess_169 (lv_at hl 8 rfl) ?_
                refine lv_lmul hx hb dX12_layGuess_171 ?_
                refine lv_lload hx hb dX12_layGuess_172 (lv_at hl 9 rfl) ?_
                refine lv_ladd hx hb dX12_layGuess_174 ?_
                refine lv_topl (fun t28 et28 => ?_)
                have hf := kl_e hf t28 et28
                refine lv_lstore (lv' := [(28, .long t28), (11, .long t25), (13, .long x11), (26, .long t25), (24, .long t23), (23, .int t19), (0, .ref q), (3, .long x3), (7, .long x7), (15, .long x15), (17, .long x17), (19, .long x19), (21, .long x21)]) hx hb dX12_layGuess_175 hl (by decide) rfl (fun ls hl => ?_)
                refine lv_lload hx hb dX12_layGuess_177 (lv_at hl 4 rfl) ?_
                refine lv_lload hx hb dX12_layGuess_179 (lv_at hl 11 rfl) ?_
                refine lv_lmul hx hb dX12_layGuess_181 ?_
                refine lv_lload hx hb dX12_layGuess_182 (lv_at hl 12 rfl) ?_
                refine lv_ladd hx hb dX12_layGuess_184 ?_
                refine lv_topl (fun t29 et29 => ?_)
                have hf := kl_e hf t29 et29
                refine lv_lstore (lv' := [(30, .long t29), (28, .long t28), (11, .long t25), (13, .long x11), (26, .long t25), (24, .long t23), (23, .int t19), (0, .ref q), (3, .long x3), (7, .long x7), (15, .long x15), (17, .long x17), (19, .long x19), (21, .long x21)]) hx hb dX12_layGuess_185 hl (by decide) rfl (fun ls hl => ?_)
                refine lv_lload hx hb dX12_layGuess_187 (lv_at hl 10 rfl) ?_
                refine lv_lstore (lv' := [(17, .long x15), (30, .long t29), (28, .long t28), (11, .long t25), (13, .long x11), (26, .long t25), (24, .long t23), (23, .int t19), (0, .ref q), (3, .long x3), (7, .long x7), (15, .long x15), (19, .long x19), (21, .long x21)]) hx hb dX12_layGuess_189 hl (by decide) rfl (fun ls hl => ?_)
                refine lv_lload hx hb dX12_layGuess_191 (lv_at hl 2 rfl) ?_
                refine lv_lstore (lv' := [(15, .long t28), (17, .long x15), (30, .long t29), (28, .long t28), (11, .long t25), (13, .long x11), (26, .long t25), (24, .long t23), (23, .int t19), (0, .ref q), (3, .long x3), (7, .long x7), (19, .long x19), (21, .long x21)]) hx hb dX12_layGuess_193 hl (by decide) rfl (fun ls hl => ?_)
                refine lv_lload hx hb dX12_layGuess_195 (lv_at hl 12 rfl) ?_
                refine lv_lstore (lv' := [(21, .long x19), (15, .long t28), (17, .long x15), (30, .long t29), (28, .long t28), (11, .long t25), (13, .long x11), (26, .long t25), (24, .long t23), (23, .int t19), (0, .ref q), (3, .long x3), (7, .long x7), (19, .long x19)]) hx hb dX12_layGuess_197 hl (by decide) rfl (fun ls hl => ?_)
                refine lv_lload hx hb dX12_layGuess_199 (lv_at hl 3 rfl) ?_
                refine lv_lstore (lv' := [(19, .long t29), (21, .long x19), (15, .long t28), (17, .long x15), (30, .long t29), (28, .long t28), (11, .long t25), (13, .long x11), (26, .long t25), (24, .long t23), (23, .int t19), (0, .ref q), (3, .long x3), (7, .long x7)]) hx hb dX12_layGuess_201 hl (by decide) rfl (fun ls hl => ?_)
                refine lv_goto (tgt := 54) hx hb dX12_layGuess_203 (by decide) ?_
                exact ih t25 x11 t28 x15 t29 x19 t19 x19 x15 o0 o1 o2 hf hk0 _ _ _ hP hD hS (lv_sub hl [11, 12, 13, 6, 7, 2, 3, 0, 1, 10] rfl)
              · have hf := kn_e hf c27
                refine lv_lload hx hb dX12_layGuess_160 (lv_at hl 7 rfl) ?_
                refine lv_lconst (v := 1) hx hb dX12_layGuess_162 (by decide) ?_
                refine lv_ladd hx hb dX12_layGuess_163 ?_
                refine lv_goto (tgt := 175) hx hb dX12_layGuess_164 (by decide) ?_
                refine lv_topl (fun t30 et30 => ?_)
                have hf := kl_e hf t30 et30
                refine lv_lstore (lv' := [(28, .long t30), (11, .long t25), (13, .long x11), (26, .long t25), (24, .long t23), (23, .int t19), (0, .ref q), (3, .long x3), (7, .long x7), (15, .long x15), (17, .long x17), (19, .long x19), (21, .long x21)]) hx hb dX12_layGuess_175 hl (by decide) rfl (fun ls hl => ?_)
                refine lv_lload hx hb dX12_layGuess_177 (lv_at hl 4 rfl) ?_
                refine lv_lload hx hb dX12_layGuess_179 (lv_at hl 11 rfl) ?_
                refine lv_lmul hx hb dX12_layGuess_181 ?_
                refine lv_lload hx hb dX12_layGuess_182 (lv_at hl 12 rfl) ?_
                refine lv_ladd hx hb dX12_layGuess_184 ?_
                refine lv_topl (fun t31 et31 => ?_)
                have hf := kl_e hf t31 et31
                refine lv_lstore (lv' := [(30, .long t31), (28, .long t30), (11, .long t25), (13, .long x11), (26, .long t25), (24, .long t23), (23, .int t19), (0, .ref q), (3, .long x3), (7, .long x7), (15, .long x15), (17, .long x17), (19, .long x19), (21, .long x21)]) hx hb dX12_layGuess_185 hl (by decide) rfl (fun ls hl => ?_)
                refine lv_lload hx hb dX12_layGuess_187 (lv_at hl 10 rfl) ?_
                refine lv_lstore (lv' := [(17, .long x15), (30, .long t31), (28, .long t30), (11, .long t25), (13, .long x11), (26, .long t25), (24, .long t23), (23, .int t19), (0, .ref q), (3, .long x3), (7, .long x7), (15, .long x15), (19, .long x19), (21, .long x21)]) hx hb dX12_layGuess_189 hl (by decide) rfl (fun ls hl => ?_)
                refine lv_lload hx hb dX12_layGuess_191 (lv_at hl 2 rfl) ?_
                refine lv_lstore (lv' := [(15, .long t30), (17, .long x15), (30, .long t31), (28, .long t30), (11, .long t25), (13, .long x11), (26, .long t25), (24, .long t23), (23, .int t19), (0, .ref q), (3, .long x3), (7, .long x7), (19, .long x19), (21, .long x21)]) hx hb dX12_layGuess_193 hl (by decide) rfl (fun ls hl => ?_)
                refine lv_lload hx hb dX12_layGuess_195 (lv_at hl 12 rfl) ?_
                refine lv_lstore (lv' := [(21, .long x19), (15, .long t30), (17, .long x15), (30, .long t31), (28, .long t30), (11, .long t25), (13, .long x11), (26, .long t25), (24, .long t23), (23, .int t19), (0, .ref q), (3, .long x3), (7, .long x7), (19, .long x19)]) hx hb dX12_layGuess_197 hl (by decide) rfl (fun ls hl => ?_)
                refine lv_lload hx hb dX12_layGuess_199 (lv_at hl 3 rfl) ?_
                refine lv_lstore (lv' := [(19, .long t31), (21, .long x19), (15, .long t30), (17, .long x15), (30, .long t31), (28, .long t30), (11, .long t25), (13, .long x11), (26, .long t25), (24, .long t23), (23, .int t19), (0, .ref q), (3, .long x3), (7, .long x7)]) hx hb dX12_layGuess_201 hl (by decide) rfl (fun ls hl => ?_)
                refine lv_goto (tgt := 54) hx hb dX12_layGuess_203 (by decide) ?_
                exact ih t25 x11 t30 x15 t31 x19 t19 x19 x15 o0 o1 o2 hf hk0 _ _ _ hP hD hS (lv_sub hl [11, 12, 13, 6, 7, 2, 3, 0, 1, 10] rfl)
            · have hf := kp_e hf c21
              refine lv_lload hx hb dX12_layGuess_115 (lv_at hl 3 rfl) ?_
              refine lv_lconst (v := 1) hx hb dX12_layGuess_117 (by decide) ?_
              refine lv_ladd hx hb dX12_layGuess_118 ?_
              refine lv_topl (fun t32 et32 => ?_)
              have hf := kl_e hf t32 et32
              refine lv_lstore (lv' := [(15, .long t32), (23, .int t19), (0, .ref q), (3, .long x3), (7, .long x7), (11, .long x11), (13, .long x13), (17, .long x17), (19, .long x19), (21, .long x21)]) hx hb dX12_layGuess_119 hl (by decide) rfl (fun ls hl => ?_)
              refine lv_goto (tgt := 54) hx hb dX12_layGuess_121 (by decide) ?_
              exact ih x11 x13 t32 x17 x19 x21 t19 x19 x15 o0 o1 o2 hf hk0 _ _ _ hP hD hS (lv_sub hl [2, 3, 4, 5, 6, 0, 7, 8, 9, 1] rfl)
          obtain ⟨J33, hJ33_, hf⟩ := kj0_e hf
          have hJ33 : J33 = some (o0, o1, o2) → ∀ (H : Heap) (locs : List Loc) (ls : Array Slot), va_P D vwCl [(q, .inr (11, [.ref q_w, .int v_known, .int v_kept, .int v_seed, .ref q_imageSeed, .ref q_bookOf, .ref q_bookAt, .ref q_bookIs, .int v_written, .ref q_rs, .ref q_cs, .long v_above, .long v_below, .ref q_zs, .long v_leftAbove, .long v_leftBelow, .long v_guessAbove, .long v_guessBelow, .int v_sign, .int v_power2, .long v_bits])), (q_w, .inl (cI, 418, .inl v_w)), (q_rs, .inl (cI, 4, .inl v_rs)), (q_cs, .inl (cI, 4, .inl v_cs))] H → va_D A [(q, .inr (11, [.ref q_w, .int v_known, .int v_kept, .int v_seed, .ref q_imageSeed, .ref q_bookOf, .ref q_bookAt, .ref q_bookIs, .int v_written, .ref q_rs, .ref q_cs, .long v_above, .long v_below, .ref q_zs, .long v_leftAbove, .long v_leftBelow, .long v_guessAbove, .long v_guessBelow, .int v_sign, .int v_power2, .long v_bits])), (q_w, .inl (cI, 418, .inl v_w)), (q_rs, .inl (cI, 4, .inl v_rs)), (q_cs, .inl (cI, 4, .inl v_cs))] → va_S A s.heap H locs → lv_has ls 32 [(0, .ref q), (3, .long x3), (7, .long x7), (11, .long x11), (13, .long x13), (15, .long x15), (17, .long x17), (19, .long x19), (21, .long x21)] → W p l e R s m args below meth c H locs 0 0 Q (F0 m 93 ls []) := by
            intro  hf H locs ls hP hD hS hl
            rw [hJ33_] at hf
            refine lv_iconst (v := 0) hx hb dX12_layGuess_93 (by decide) ?_
            exact hJ20 (0 : Int32) hf _ _ _ hP hD hS hl
          refine lv_if_eq (tgt := 93) hx hb dX12_layGuess_77 (by decide) (fun c34 => ?_) (fun c34 => ?_)
          · have hf := kp_e hf c34
            exact hJ33  hf _ _ _ hP hD hS (lv_sub hl [0, 1, 2, 3, 4, 5, 6, 7, 8] rfl)
          · have hf := kn_e hf c34
            refine lv_lload hx hb dX12_layGuess_80 (lv_at hl 5 rfl) ?_
            refine lv_lload_n hx hb dX12_layGuess_82 rfl (lv_at hl 1 rfl) ?_
            obtain ⟨c35, hf⟩ := kc_e hf
            refine lv_lrem hx hb dX12_layGuess_83 c35 ?_
            refine lv_lconst (v := 0) hx hb dX12_layGuess_84 (by decide) ?_
            refine k_lcmp_eq (tgt := 93) hx hb dX12_layGuess_85 dX12_layGuess_86 (by decide) (fun c36 => ?_) (fun c36 => ?_)
            · have hf := kp_e hf c36
              exact hJ33  hf _ _ _ hP hD hS (lv_sub hl [0, 1, 2, 3, 4, 5, 6, 7, 8] rfl)
            · have hf := kn_e hf c36
              refine lv_iconst (v := 1) hx hb dX12_layGuess_89 (by decide) ?_
              refine lv_goto (tgt := 94) hx hb dX12_layGuess_90 (by decide) ?_
              exact hJ20 (1 : Int32) hf _ _ _ hP hD hS (lv_sub hl [0, 1, 2, 3, 4, 5, 6, 7, 8] rfl)
  unfold f_X12_layGuess at hf
  refine lv_aload_n hx hb dX12_layGuess_0 rfl (lv_at hl 0 rfl) ?_
  obtain ⟨r1, h2, hf⟩ := kb1_e hf
  refine k_gi (nW := 4) (ws' := [(q, .inr (11, [.ref q_w, .int v_known, .int v_kept, .int v_seed, .ref q_imageSeed, .ref q_bookOf, .ref q_bookAt, .ref q_bookIs, .int v_written, .ref q_rs, .ref q_cs, .long v_above, .long v_below, .ref q_zs, .long v_leftAbove, .long v_leftBelow, .long v_guessAbove, .long v_guessBelow, .int v_sign, .int v_power2, .long v_bits])), (q_w, .inl (cI, 418, .inl v_w)), (q_rs, .inl (cI, 4, .inl v_rs)), (q_cs, .inl (cI, 4, .inl v_cs))]) (wr := [(q_rs, .inl (cI, 4, .inl v_rs)), (q_cs, .inl (cI, 4, .inl v_cs))]) (k_runV (rest := []) hat hP hD hS hl.1 (c_X12_p q q_w q_imageSeed q_bookOf q_bookAt q_bookIs q_rs q_cs q_zs v_known v_kept v_seed v_written v_above v_below v_leftAbove v_leftBelow v_guessAbove v_guessBelow v_sign v_power2 v_bits v_w F r1 h2) [0, 1] (by decide) rfl kw916 kw918 kw20 kw79 kw919 kdVX12_p ⟨rfl, rfl⟩ (by rw [hR]; exact ⟨Nat.le_of_ble_eq_true rfl, Nat.le_of_ble_eq_true rfl⟩) ⟨Nat.zero_le _, Nat.zero_le _⟩ 0 11 rfl rfl rfl rfl (Nat.le_of_ble_eq_true rfl) dX12_layGuess_1) hat hP hD hS [0, 1] rfl [2, 3] rfl rfl rfl rfl rfl (by decide) (fun H locs hP hD hS => ?_)
  refine lv_i2l hx hb dX12_layGuess_4 rfl ?_
  refine lv_topl (fun t3 et3 => ?_)
  have hf := kl_e hf t3 et3
  refine lv_lstore_n (lv' := [(3, .long t3), (0, .ref q), (1, .int x1), (2, .int x2)]) hx hb dX12_layGuess_5 rfl hl (by decide) rfl (fun ls hl => ?_)
  refine lv_lload_n hx hb dX12_layGuess_6 rfl (lv_at hl 0 rfl) ?_
  refine lv_iload_n hx hb dX12_layGuess_7 rfl (lv_at hl 3 rfl) ?_
  obtain ⟨r4, h5, hf⟩ := kb1_e hf
  refine k_gl (nW := 4) (ws' := [(q, .inr (11, [.ref q_w, .int v_known, .int v_kept, .int v_seed, .ref q_imageSeed, .ref q_bookOf, .ref q_bookAt, .ref q_bookIs, .int v_written, .ref q_rs, .ref q_cs, .long v_above, .long v_below, .ref q_zs, .long v_leftAbove, .long v_leftBelow, .long v_guessAbove, .long v_guessBelow, .int v_sign, .int v_power2, .long v_bits])), (q_w, .inl (cI, 418, .inl v_w)), (q_rs, .inl (cI, 4, .inl v_rs)), (q_cs, .inl (cI, 4, .inl v_cs))]) (wr := [(q, .inr (11, [.ref q_w, .int v_known, .int v_kept, .int v_seed, .ref q_imageSeed, .ref q_bookOf, .ref q_bookAt, .ref q_bookIs, .int v_written, .ref q_rs, .ref q_cs, .long v_above, .long v_below, .ref q_zs, .long v_leftAbove, .long v_leftBelow, .long v_guessAbove, .long v_guessBelow, .int v_sign, .int v_power2, .long v_bits])), (q_w, .inl (cI, 418, .inl v_w)), (q_rs, .inl (cI, 4, .inl v_rs)), (q_cs, .inl (cI, 4, .inl v_cs))]) (k_runS (rest := []) hat hP hD hS hl.1 (c_X12_power F t3 x2 r4 h5) [] (by decide) rfl kw1025 kw1026 kw79 kw1027 kdX12_power ⟨rfl, rfl⟩ (by rw [hR]; exact ⟨Nat.le_of_ble_eq_true rfl, Nat.le_of_ble_eq_true rfl⟩) ⟨Nat.zero_le _, Nat.zero_le _⟩ rfl rfl (Nat.le_of_ble_eq_true rfl) dX12_layGuess_8) hat hP hD hS [] rfl [0, 1, 2, 3] rfl rfl rfl rfl rfl (by decide) (fun H locs hP hD hS => ?_)
  refine lv_lstore (lv' := [(5, .long r4), (3, .long t3), (0, .ref q), (1, .int x1), (2, .int x2)]) hx hb dX12_layGuess_11 hl (by decide) rfl (fun ls hl => ?_)
  refine lv_lload hx hb dX12_layGuess_13 (lv_at hl 0 rfl) ?_
  obtain ⟨r6, h7, hf⟩ := kb1_e hf
  refine k_gl (nW := 4) (ws' := [(q, .inr (11, [.ref q_w, .int v_known, .int v_kept, .int v_seed, .ref q_imageSeed, .ref q_bookOf, .ref q_bookAt, .ref q_bookIs, .int v_written, .ref q_rs, .ref q_cs, .long v_above, .long v_below, .ref q_zs, .long v_leftAbove, .long v_leftBelow, .long v_guessAbove, .long v_guessBelow, .int v_sign, .int v_power2, .long v_bits])), (q_w, .inl (cI, 418, .inl v_w)), (q_rs, .inl (cI, 4, .inl v_rs)), (q_cs, .inl (cI, 4, .inl v_cs))]) (wr := [(q, .inr (11, [.ref q_w, .int v_known, .int v_kept, .int v_seed, .ref q_imageSeed, .ref q_bookOf, .ref q_bookAt, .ref q_bookIs, .int v_written, .ref q_rs, .ref q_cs, .long v_above, .long v_below, .ref q_zs, .long v_leftAbove, .long v_leftBelow, .long v_guessAbove, .long v_guessBelow, .int v_sign, .int v_power2, .long v_bits])), (q_w, .inl (cI, 418, .inl v_w)), (q_rs, .inl (cI, 4, .inl v_rs)), (q_cs, .inl (cI, 4, .inl v_cs))]) (k_runS (rest := []) hat hP hD hS hl.1 (c_X12_halfRoot F r4 r6 h7) [] (by decide) rfl kw1041 kw1042 kw79 kw1043 kdX12_halfRoot ⟨rfl, rfl⟩ (by rw [hR]; exact ⟨Nat.le_of_ble_eq_true rfl, Nat.le_of_ble_eq_true rfl⟩) ⟨Nat.zero_le _, Nat.zero_le _⟩ rfl rfl (Nat.le_of_ble_eq_true rfl) dX12_layGuess_15) hat hP hD hS [] rfl [0, 1, 2, 3] rfl rfl rfl rfl rfl (by decide) (fun H locs hP hD hS => ?_)
  refine lv_lstore (lv' := [(7, .long r6), (5, .long r4), (3, .long t3), (0, .ref q), (1, .int x1), (2, .int x2)]) hx hb dX12_layGuess_18 hl (by decide) rfl (fun ls hl => ?_)
  refine lv_aload_n hx hb dX12_layGuess_20 rfl (lv_at hl 3 rfl) ?_
  refine lv_iload_n hx hb dX12_layGuess_21 rfl (lv_at hl 4 rfl) ?_
  refine lv_iload_n hx hb dX12_layGuess_22 rfl (lv_at hl 5 rfl) ?_
  obtain ⟨r8, w9, w10, w11, w12, h13, hf⟩ := kb5_e hf
  refine k_gl (nW := 4) (ws' := [(q, .inr (11, [.ref q_w, .int v_known, .int v_kept, .int v_seed, .ref q_imageSeed, .ref q_bookOf, .ref q_bookAt, .ref q_bookIs, .int v_written, .ref q_rs, .ref q_cs, .long w9, .long w10, .ref q_zs, .long v_leftAbove, .long v_leftBelow, .long v_guessAbove, .long v_guessBelow, .int v_sign, .int v_power2, .long v_bits])), (q_w, .inl (cI, 418, .inl v_w)), (q_rs, .inl (cI, 4, .inl w11)), (q_cs, .inl (cI, 4, .inl w12))]) (wr := []) (k_runV (rest := []) hat hP hD hS hl.1 (c_X12_firstDigits q q_w q_imageSeed q_bookOf q_bookAt q_bookIs q_rs q_cs q_zs v_known v_kept v_seed v_written v_above v_below v_leftAbove v_leftBelow v_guessAbove v_guessBelow v_sign v_power2 v_bits v_w v_rs v_cs F x1 x2 r8 w9 w10 w11 w12 h13) [0, 1, 2, 3] (by decide) rfl kw1044 kw1046 kw46 kw79 kw1047 kdVX12_firstDigits ⟨rfl, rfl⟩ (by rw [hR]; exact ⟨Nat.le_of_ble_eq_true rfl, Nat.le_of_ble_eq_true rfl⟩) ⟨Nat.zero_le _, Nat.zero_le _⟩ 0 11 rfl rfl rfl rfl (Nat.le_of_ble_eq_true rfl) dX12_layGuess_23) hat hP hD hS [0, 1, 2, 3] rfl [] rfl rfl rfl rfl rfl (by decide) (fun H locs hP hD hS => ?_)
  refine lv_lstore (lv' := [(9, .long r8), (7, .long r6), (5, .long r4), (3, .long t3), (0, .ref q), (1, .int x1), (2, .int x2)]) hx hb dX12_layGuess_26 hl (by decide) rfl (fun ls hl => ?_)
  refine lv_lload hx hb dX12_layGuess_28 (lv_at hl 0 rfl) ?_
  refine lv_lstore (lv' := [(11, .long r8), (9, .long r8), (7, .long r6), (5, .long r4), (3, .long t3), (0, .ref q), (1, .int x1), (2, .int x2)]) hx hb dX12_layGuess_30 hl (by decide) rfl (fun ls hl => ?_)
  refine lv_lload hx hb dX12_layGuess_32 (lv_at hl 3 rfl) ?_
  refine lv_lstore (lv' := [(13, .long r4), (11, .long r8), (9, .long r8), (7, .long r6), (5, .long r4), (3, .long t3), (0, .ref q), (1, .int x1), (2, .int x2)]) hx hb dX12_layGuess_34 hl (by decide) rfl (fun ls hl => ?_)
  refine lv_lconst (v := 1) hx hb dX12_layGuess_36 (by decide) ?_
  refine lv_lstore (lv' := [(15, .long (1 : Int64)), (13, .long r4), (11, .long r8), (9, .long r8), (7, .long r6), (5, .long r4), (3, .long t3), (0, .ref q), (1, .int x1), (2, .int x2)]) hx hb dX12_layGuess_37 hl (by decide) rfl (fun ls hl => ?_)
  refine lv_lconst (v := 0) hx hb dX12_layGuess_39 (by decide) ?_
  refine lv_lstore (lv' := [(17, .long (0 : Int64)), (15, .long (1 : Int64)), (13, .long r4), (11, .long r8), (9, .long r8), (7, .long r6), (5, .long r4), (3, .long t3), (0, .ref q), (1, .int x1), (2, .int x2)]) hx hb dX12_layGuess_40 hl (by decide) rfl (fun ls hl => ?_)
  refine lv_lload hx hb dX12_layGuess_42 (lv_at hl 4 rfl) ?_
  refine lv_lstore (lv' := [(19, .long r8), (17, .long (0 : Int64)), (15, .long (1 : Int64)), (13, .long r4), (11, .long r8), (9, .long r8), (7, .long r6), (5, .long r4), (3, .long t3), (0, .ref q), (1, .int x1), (2, .int x2)]) hx hb dX12_layGuess_44 hl (by decide) rfl (fun ls hl => ?_)
  refine lv_lload hx hb dX12_layGuess_46 (lv_at hl 7 rfl) ?_
  refine lv_lneg hx hb dX12_layGuess_48 ?_
  refine lv_topl (fun t14 et14 => ?_)
  have hf := kl_e hf t14 et14
  refine lv_lstore (lv' := [(21, .long t14), (19, .long r8), (17, .long (0 : Int64)), (15, .long (1 : Int64)), (13, .long r4), (11, .long r8), (9, .long r8), (7, .long r6), (5, .long r4), (3, .long t3), (0, .ref q), (1, .int x1), (2, .int x2)]) hx hb dX12_layGuess_49 hl (by decide) rfl (fun ls hl => ?_)
  refine lv_iconst (v := 0) hx hb dX12_layGuess_51 (by decide) ?_
  refine lv_istore (lv' := [(23, .int (0 : Int32)), (21, .long t14), (19, .long r8), (17, .long (0 : Int64)), (15, .long (1 : Int64)), (13, .long r4), (11, .long r8), (9, .long r8), (7, .long r6), (5, .long r4), (3, .long t3), (0, .ref q), (1, .int x1), (2, .int x2)]) hx hb dX12_layGuess_52 hl (by decide) rfl (fun ls hl => ?_)
  obtain ⟨y37, w38, w39, hu, hf⟩ := kb3_e hf
  refine hL54 t3 r6 v_known v_kept v_seed v_written w9 w10 v_leftAbove v_leftBelow v_sign v_power2 v_bits v_w w11 w12 F r8 r4 (1 : Int64) (0 : Int64) r8 t14 (0 : Int32) v_guessAbove v_guessBelow y37 w38 w39 hu (fun H locs ls hP hD hS hl => ?_) _ _ _ hP hD hS (lv_sub hl [11, 10, 8, 6, 5, 4, 3, 2, 1, 0] rfl)
  refine lv_iload hx hb dX12_layGuess_206 (lv_at hl 0 rfl) ?_
  obtain ⟨c40, hf⟩ := kc_e hf
  obtain ⟨rfl, rfl, rfl, rfl, rfl, rfl, rfl⟩ := ki7 hf
  rw [hQ]
  exact k_zret hat hP hS rfl c40 dX12_layGuess_208
