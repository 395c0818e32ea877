set_option maxHeartbeats 4000000 in
set_option maxRecDepth 100000 in
theorem c_X12_isBad {l : Launch} {D : va_G} {cI cJ cQ : ClassId} {tp : Nat} (q : Nat) (q_w : Nat) (q_imageSeed : Nat) (q_bookOf : Nat) (q_bookAt : Nat) (q_bookIs : Nat) (q_rs : Nat) (q_cs : Nat) (q_zs : Nat) (v_known : Int32) (v_kept : Int32) (v_seed : Int32) (v_written : Int32) (v_above : Int64) (v_below : Int64) (v_leftAbove : Int64) (v_leftBelow : Int64) (v_guessAbove : Int64) (v_guessBelow : Int64) (v_sign : Int32) (v_power2 : Int32) (v_bits : Int64) (v_w : (Nat → Int32)) (v_rs : (Nat → Int32)) (v_cs : (Nat → Int32)) (F : Nat) (r0 : Int32) (o_v_rs : (Nat → Int32)) (o_v_cs : (Nat → Int32)) (hf : f_X12_isBad F v_w v_rs v_cs = some (r0, o_v_rs, o_v_cs)) : kM (fun A => kQi D A [(q, .inr (11, [.ref q_w, .int v_known, .int v_kept, .int v_seed, .ref q_imageSeed, .ref q_bookOf, .ref q_bookAt, .ref q_bookIs, .int v_written, .ref q_rs, .ref q_cs, .long v_above, .long v_below, .ref q_zs, .long v_leftAbove, .long v_leftBelow, .long v_guessAbove, .long v_guessBelow, .int v_sign, .int v_power2, .long v_bits])), (q_w, .inl (cI, 418, .inl v_w)), (q_rs, .inl (cI, 4, .inl o_v_rs)), (q_cs, .inl (cI, 4, .inl o_v_cs))] r0) (some .boolean) l yX12_isBad cX12_isBad 1 { frames := 7, cells := 0, slots := 0, locals := 157 } D cI cJ cQ tp [.ref q] [(q, .inr (11, [.ref q_w, .int v_known, .int v_kept, .int v_seed, .ref q_imageSeed, .ref q_bookOf, .ref q_bookAt, .ref q_bookIs, .int v_written, .ref q_rs, .ref q_cs, .long v_above, .long v_below, .ref q_zs, .long v_leftAbove, .long v_leftBelow, .long v_guessAbove, .long v_guessBelow, .int v_sign, .int v_power2, .long v_bits])), (q_w, .inl (cI, 418, .inl v_w)), (q_rs, .inl (cI, 4, .inl v_rs)), (q_cs, .inl (cI, 4, .inl v_cs))] := by
  refine kM_of (by decide) (Nat.le_of_ble_eq_true rfl) ?_
  intro p e s m args below meth c A ls R Q hR hQ hat hP hD hS hl
  obtain ⟨hx, hb, hr, hml, hown, hts, hT, hlk, hK, hA, hZ⟩ := id hat
  have hown : s.vm.findClass RX12 = some m.cls := hown
  have hl : lv_has ls 1 [(0, .ref q)] := hl
  unfold f_X12_isBad at hf
  refine lv_aload_n hx hb dX12_isBad_0 rfl (lv_at hl 0 rfl) ?_
  obtain ⟨r1, w2, w3, h4, hf⟩ := kb3_e hf
  refine k_gl (ws' := [(q, .inr (11, [.ref q_w, .int v_known, .int v_kept, .int v_seed, .ref q_imageSeed, .ref q_bookOf, .ref q_bookAt, .ref q_bookIs, .int v_written, .ref q_rs, .ref q_cs, .long v_above, .long v_below, .ref q_zs, .long v_leftAbove, .long v_leftBelow, .long v_guessAbove, .long v_guessBelow, .int v_sign, .int v_power2, .long v_bits])), (q_w, .inl (cI, 418, .inl v_w)), (q_rs, .inl (cI, 4, .inl w2)), (q_cs, .inl (cI, 4, .inl w3))]) (k_runV (rest := []) hat hP hD hS hl.1 (c_X12_determinant q q_w q_imageSeed q_bookOf q_bookAt q_bookIs q_rs q_cs q_zs v_known v_kept v_seed v_written v_above v_below v_leftAbove v_leftBelow v_guessAbove v_guessBelow v_sign v_power2 v_bits v_w v_rs v_cs F r1 w2 w3 h4) [0, 1, 2, 3] (by decide) rfl kw923 kw925 kw21 kw79 kw926 kdVX12_determinant ⟨rfl, rfl⟩ (by rw [hR]; exact ⟨Nat.le_of_ble_eq_true rfl, Nat.le_of_ble_eq_true rfl⟩) ⟨Nat.zero_le _, Nat.zero_le _⟩ 0 11 rfl rfl rfl rfl (Nat.le_of_ble_eq_true rfl) dX12_isBad_1) hat hP hD hS [0, 1, 2, 3] rfl [] rfl rfl rfl rfl (by decide) (fun H locs hP hD hS => ?_)
  refine lv_aload_n hx hb dX12_isBad_4 rfl (lv_at hl 0 rfl) ?_
  obtain ⟨r5, h6, hf⟩ := kb1_e hf
  refine k_gi (ws' := [(q, .inr (11, [.ref q_w, .int v_known, .int v_kept, .int v_seed, .ref q_imageSeed, .ref q_bookOf, .ref q_bookAt, .ref q_bookIs, .int v_written, .ref q_rs, .ref q_cs, .long v_above, .long v_below, .ref q_zs, .long v_leftAbove, .long v_leftBelow, .long v_guessAbove, .long v_guessBelow, .int v_sign, .int v_power2, .long v_bits])), (q_w, .inl (cI, 418, .inl v_w)), (q_rs, .inl (cI, 4, .inl w2)), (q_cs, .inl (cI, 4, .inl w3))]) (k_runV (rest := [.long r1]) hat hP hD hS hl.1 (c_X12_p q q_w q_imageSeed q_bookOf q_bookAt q_bookIs q_rs q_cs q_zs v_known v_kept v_seed v_written v_above v_below v_leftAbove v_leftBelow v_guessAbove v_guessBelow v_sign v_power2 v_bits v_w F r5 h6) [0, 1] (by decide) rfl kw916 kw918 kw20 kw79 kw919 kdVX12_p ⟨rfl, rfl⟩ (by rw [hR]; exact ⟨Nat.le_of_ble_eq_true rfl, Nat.le_of_ble_eq_true rfl⟩) ⟨Nat.zero_le _, Nat.zero_le _⟩ 0 11 rfl rfl rfl rfl (Nat.le_of_ble_eq_true rfl) dX12_isBad_5) hat hP hD hS [0, 1] rfl [2, 3] rfl rfl rfl rfl (by decide) (fun H locs hP hD hS => ?_)
  refine lv_i2l hx hb dX12_isBad_8 rfl ?_
  obtain ⟨c7, hf⟩ := kc_e hf
  refine lv_lrem hx hb dX12_isBad_9 c7 ?_
  refine lv_lconst (v := 0) hx hb dX12_isBad_10 (by decide) ?_
  refine k_lcmp_ne (tgt := 19) hx hb dX12_isBad_11 dX12_isBad_12 (by decide) (fun c8 => ?_) (fun c8 => ?_)
  · have hf := kn_e hf c8
    refine lv_iconst (v := 0) hx hb dX12_isBad_19 (by decide) ?_
    obtain ⟨rfl, rfl, rfl⟩ := ki3 hf
    rw [hQ]
    exact k_zret hat hP hS rfl (by decide) dX12_isBad_20
  · have hf := kp_e hf c8
    refine lv_iconst (v := 1) hx hb dX12_isBad_15 (by decide) ?_
    refine lv_goto (tgt := 20) hx hb dX12_isBad_16 (by decide) ?_
    obtain ⟨rfl, rfl, rfl⟩ := ki3 hf
    rw [hQ]
    exact k_zret hat hP hS rfl (by decide) dX12_isBad_20
set_option maxHeartbeats 4000000 in
set_option maxRecDepth 100000 in
theorem c_X12_badMany {l : Launch} {D : va_G} {cI cJ cQ : ClassId} {tp : Nat} (q : Nat) (q_w : Nat) (q_imageSeed : Nat) (q_bookOf : Nat) (q_bookAt : Nat) (q_bookIs : Nat) (q_rs : Nat) (q_cs : Nat) (q_zs : Nat) (v_known : Int32) (v_kept : Int32) (v_seed : Int32) (v_written : Int32) (v_above : Int64) (v_below : Int64) (v_leftAbove : Int64) (v_leftBelow : Int64) (v_guessAbove : Int64) (v_guessBelow : Int64) (v_sign : Int32) (v_power2 : Int32) (v_bits : Int64) (v_w : (Nat → Int32)) (v_rs : (Nat → Int32)) (v_cs : (Nat → Int32)) (F : Nat) (r0 : Int32) (o_v_rs : (Nat → Int32)) (o_v_cs : (Nat → Int32)) (hf : f_X12_badMany F v_w v_rs v_cs = some (r0, o_v_rs, o_v_cs)) : kM (fun A => kQi D A [(q, .inr (11, [.ref q_w, .int v_known, .int v_kept, .int v_seed, .ref q_imageSeed, .ref q_bookOf, .ref q_bookAt, .ref q_bookIs, .int v_written, .ref q_rs, .ref q_cs, .long v_above, .long v_below, .ref q_zs, .long v_leftAbove, .long v_leftBelow, .long v_guessAbove, .long v_guessBelow, .int v_sign, .int v_power2, .long v_bits])), (q_w, .inl (cI, 418, .inl v_w)), (q_rs, .inl (cI, 4, .inl o_v_rs)), (q_cs, .inl (cI, 4, .inl o_v_cs))] r0) (some .int) l yX12_badMany cX12_badMany 5 { frames := 7, cells := 0, slots := 0, locals := 157 } D cI cJ cQ tp [.ref q] [(q, .inr (11, [.ref q_w, .int v_known, .int v_kept, .int v_seed, .ref q_imageSeed, .ref q_bookOf, .ref q_bookAt, .ref q_bookIs, .int v_written, .ref q_rs, .ref q_cs, .long v_above, .long v_below, .ref q_zs, .long v_leftAbove, .long v_leftBelow, .long v_guessAbove, .long v_guessBelow, .int v_sign, .int v_power2, .long v_bits])), (q_w, .inl (cI, 418, .inl v_w)), (q_rs, .inl (cI, 4, .inl v_rs)), (q_cs, .inl (cI, 4, .inl v_cs))] := by
  refine kM_of (by decide) (Nat.le_of_ble_eq_true rfl) ?_
  intro p e s m args below meth c A ls R Q hR hQ hat hP hD hS hl
  obtain ⟨hx, hb, hr, hml, hown, hts, hT, hlk, hK, hA, hZ⟩ := id hat
  have hown : s.vm.findClass RX12 = some m.cls := hown
  have hl : lv_has ls 5 [(0, .ref q)] := hl
  have hL10 : ∀ (x2 : Int64) (v_known : Int32) (v_kept : Int32) (v_seed : Int32) (v_written : Int32) (v_above : Int64) (v_below : Int64) (v_leftAbove : Int64) (v_leftBelow : Int64) (v_guessAbove : Int64) (v_guessBelow : Int64) (v_sign : Int32) (v_power2 : Int32) (v_bits : Int64) (v_w : (Nat → Int32)) (v_rs : (Nat → Int32)) (v_cs : (Nat → Int32)) (fu : Nat) (x1 : Int32) (x4 : Int32) (o0 : Int32), L_X12_badMany_10 F x2 fu x1 x4 = some o0 → (∀ (H : Heap) (locs : List Loc) (ls : Array Slot), va_P D vwCl [(q, .inr (11, [.ref q_w, .int v_known, .int v_kept, .int v_seed, .ref q_imageSeed, .ref q_bookOf, .ref q_bookAt, .ref q_bookIs, .int v_written, .ref q_rs, .ref q_cs, .long v_above, .long v_below, .ref q_zs, .long v_leftAbove, .long v_leftBelow, .long v_guessAbove, .long v_guessBelow, .int v_sign, .int v_power2, .long v_bits])), (q_w, .inl (cI, 418, .inl v_w)), (q_rs, .inl (cI, 4, .inl v_rs)), (q_cs, .inl (cI, 4, .inl v_cs))] H → va_D A [(q, .inr (11, [.ref q_w, .int v_known, .int v_kept, .int v_seed, .ref q_imageSeed, .ref q_bookOf, .ref q_bookAt, .ref q_bookIs, .int v_written, .ref q_rs, .ref q_cs, .long v_above, .long v_below, .ref q_zs, .long v_leftAbove, .long v_leftBelow, .long v_guessAbove, .long v_guessBelow, .int v_sign, .int v_power2, .long v_bits])), (q_w, .inl (cI, 418, .inl v_w)), (q_rs, .inl (cI, 4, .inl v_rs)), (q_cs, .inl (cI, 4, .inl v_cs))] → va_S A s.heap H locs → lv_has ls 5 [(1, .int o0)] → W p l e R s m args below meth c H locs 0 0 Q (F0 m 49 ls [])) → ∀ (H : Heap) (locs : List Loc) (ls : Array Slot), va_P D vwCl [(q, .inr (11, [.ref q_w, .int v_known, .int v_kept, .int v_seed, .ref q_imageSeed, .ref q_bookOf, .ref q_bookAt, .ref q_bookIs, .int v_written, .ref q_rs, .ref q_cs, .long v_above, .long v_below, .ref q_zs, .long v_leftAbove, .long v_leftBelow, .long v_guessAbove, .long v_guessBelow, .int v_sign, .int v_power2, .long v_bits])), (q_w, .inl (cI, 418, .inl v_w)), (q_rs, .inl (cI, 4, .inl v_rs)), (q_cs, .inl (cI, 4, .inl v_cs))] H → va_D A [(q, .inr (11, [.ref q_w, .int v_known, .int v_kept, .int v_seed, .ref q_imageSeed, .ref q_bookOf, .ref q_bookAt, .ref q_bookIs, .int v_written, .ref q_rs, .ref q_cs, .long v_above, .long v_below, .ref q_zs, .long v_leftAbove, .long v_leftBelow, .long v_guessAbove, .long v_guessBelow, .int v_sign, .int v_power2, .long v_bits])), (q_w, .inl (cI, 418, .inl v_w)), (q_rs, .inl (cI, 4, .inl v_rs)), (q_cs, .inl (cI, 4, .inl v_cs))] → va_S A s.heap H locs → lv_has ls 5 [(1, .int x1), (2, .long x2), (4, .int x4)] → W p l e R s m args below meth c H locs 0 0 Q (F0 m 10 ls []) := by
    intro x2 v_known v_kept v_seed v_written v_above v_below v_leftAbove v_leftBelow v_guessAbove v_guessBelow v_sign v_power2 v_bits v_w v_rs v_cs fu
    induction fu with
    | zero =>
      intro x1 x4 o0 hf
      cases hf
    | succ fu ih =>
      intro x1 x4 o0 hf hk0 H locs ls hP hD hS hl
      rw [L_X12_badMany_10] at hf
      refine lv_iload hx hb dX12_badMany_10 (lv_at hl 2 rfl) ?_
      refine lv_bipush (v := 98) hx hb dX12_badMany_12 (by decide) ?_
      refine lv_icmp_ge (tgt := 49) hx hb dX12_badMany_14 (by decide) (fun c5 => ?_) (fun c5 => ?_)
      · have hf := kp_e hf c5
        obtain rfl := ki1 hf
        exact hk0 _ _ _ hP hD hS (lv_sub hl [0] rfl)
      · have hf := kn_e hf c5
        refine lv_iload_n hx hb dX12_badMany_17 rfl (lv_at hl 0 rfl) ?_
        refine lv_iload hx hb dX12_badMany_18 (lv_at hl 2 rfl) ?_
        obtain ⟨r6, h7, hf⟩ := kb1_e hf
        refine k_gi (ws' := [(q, .inr (11, [.ref q_w, .int v_known, .int v_kept, .int v_seed, .ref q_imageSeed, .ref q_bookOf, .ref q_bookAt, .ref q_bookIs, .int v_written, .ref q_rs, .ref q_cs, .long v_above, .long v_below, .ref q_zs, .long v_leftAbove, .long v_leftBelow, .long v_guessAbove, .long v_guessBelow, .int v_sign, .int v_power2, .long v_bits])), (q_w, .inl (cI, 418, .inl v_w)), (q_rs, .inl (cI, 4, .inl v_rs)), (q_cs, .inl (cI, 4, .inl v_cs))]) (k_runS (rest := [.int x1]) hat hP hD hS hl.1 (c_X12_isPrime F x4 r6 h7) [] (by decide) rfl kw920 kw921 kw79 kw922 kdX12_isPrime ⟨rfl, rfl⟩ (by rw [hR]; exact ⟨Nat.le_of_ble_eq_true rfl, Nat.le_of_ble_eq_true rfl⟩) ⟨Nat.zero_le _, Nat.zero_le _⟩ rfl rfl (Nat.le_of_ble_eq_true rfl) dX12_badMany_20) hat hP hD hS [] rfl [0, 1, 2, 3] rfl rfl rfl rfl (by decide) (fun H locs hP hD hS => ?_)
        refine lv_if_eq (tgt := 40) hx hb dX12_badMany_23 (by decide) (fun c8 => ?_) (fun c8 => ?_)
        · have hf := kp_e hf c8
          refine lv_iconst (v := 0) hx hb dX12_badMany_40 (by decide) ?_
          refine lv_iadd hx hb dX12_badMany_41 ?_
          refine lv_topi (fun t9 et9 => ?_)
          have hf := kl_e hf t9 et9
          refine lv_istore_n (lv' := [(1, .int t9), (2, .long x2), (4, .int x4)]) hx hb dX12_badMany_42 rfl hl (by decide) rfl (fun ls hl => ?_)
          obtain ⟨t10, et10⟩ : ∃ z : Int32, z = (x4 + (1 : Int32)) := ⟨_, rfl⟩
          have hf := kl_e hf t10 et10
          refine lv_iinc (v := t10) (lv' := [(4, .int t10), (1, .int t9), (2, .long x2)]) hx hb dX12_badMany_43 hl (k := 2) rfl (by rw [et10]; rfl) (by decide) rfl (fun ls hl => ?_)
          refine lv_goto (tgt := 10) hx hb dX12_badMany_46 (by decide) ?_
          exact ih t9 t10 o0 hf hk0 _ _ _ hP hD hS (lv_sub hl [1, 2, 0] rfl)
        · have hf := kn_e hf c8
          refine lv_lload_n hx hb dX12_badMany_26 rfl (lv_at hl 1 rfl) ?_
          refine lv_iload hx hb dX12_badMany_27 (lv_at hl 2 rfl) ?_
          refine lv_i2l hx hb dX12_badMany_29 rfl ?_
          obtain ⟨c11, hf⟩ := kc_e hf
          refine lv_lrem hx hb dX12_badMany_30 c11 ?_
          refine lv_lconst (v := 0) hx hb dX12_badMany_31 (by decide) ?_
          refine k_lcmp_ne (tgt := 40) hx hb dX12_badMany_32 dX12_badMany_33 (by decide) (fun c12 => ?_) (fun c12 => ?_)
          · have hf := kn_e hf c12
            refine lv_iconst (v := 0) hx hb dX12_badMany_40 (by decide) ?_
            refine lv_iadd hx hb dX12_badMany_41 ?_
            refine lv_topi (fun t13 et13 => ?_)
            have hf := kl_e hf t13 et13
            refine lv_istore_n (lv' := [(1, .int t13), (2, .long x2), (4, .int x4)]) hx hb dX12_badMany_42 rfl hl (by decide) rfl (fun ls hl => ?_)
            obtain ⟨t14, et14⟩ : ∃ z : Int32, z = (x4 + (1 : Int32)) := ⟨_, rfl⟩
            have hf := kl_e hf t14 et14
            refine lv_iinc (v := t14) (lv' := [(4, .int t14), (1, .int t13), (2, .long x2)]) hx hb dX12_badMany_43 hl (k := 2) rfl (by rw [et14]; rfl) (by decide) rfl (fun ls hl => ?_)
            refine lv_goto (tgt := 10) hx hb dX12_badMany_46 (by decide) ?_
            exact ih t13 t14 o0 hf hk0 _ _ _ hP hD hS (lv_sub hl [1, 2, 0] rfl)
          · have hf := kp_e hf c12
            refine lv_iconst (v := 1) hx hb dX12_badMany_36 (by decide) ?_
            refine lv_goto (tgt := 41) hx hb dX12_badMany_37 (by decide) ?_
            refine lv_iadd hx hb dX12_badMany_41 ?_
            refine lv_topi (fun t15 et15 => ?_)
            have hf := kl_e hf t15 et15
            refine lv_istore_n (lv' := [(1, .int t15), (2, .long x2), (4, .int x4)]) hx hb dX12_badMany_42 rfl hl (by decide) rfl (fun ls hl => ?_)
            obtain ⟨t16, et16⟩ : ∃ z : Int32, z = (x4 + (1 : Int32)) := ⟨_, rfl⟩
            have hf := kl_e hf t16 et16
            refine lv_iinc (v := t16) (lv' := [(4, .int t16), (1, .int t15), (2, .long x2)]) hx hb dX12_badMany_43 hl (k := 2) rfl (by rw [et16]; rfl) (by decide) rfl (fun ls hl => ?_)
            refine lv_goto (tgt := 10) hx hb dX12_badMany_46 (by decide) ?_
            exact ih t15 t16 o0 hf hk0 _ _ _ hP hD hS (lv_sub hl [1, 2, 0] rfl)
  unfold f_X12_badMany at hf
  refine lv_iconst (v := 0) hx hb dX12_badMany_0 (by decide) ?_
  refine lv_istore_n (lv' := [(1, .int (0 : Int32)), (0, .ref q)]) hx hb dX12_badMany_1 rfl hl (by decide) rfl (fun ls hl => ?_)
  refine lv_aload_n hx hb dX12_badMany_2 rfl (lv_at hl 1 rfl) ?_
  obtain ⟨r1, w2, w3, h4, hf⟩ := kb3_e hf
  refine k_gl (ws' := [(q, .inr (11, [.ref q_w, .int v_known, .int v_kept, .int v_seed, .ref q_imageSeed, .ref q_bookOf, .ref q_bookAt, .ref q_bookIs, .int v_written, .ref q_rs, .ref q_cs, .long v_above, .long v_below, .ref q_zs, .long v_leftAbove, .long v_leftBelow, .long v_guessAbove, .long v_guessBelow, .int v_sign, .int v_power2, .long v_bits])), (q_w, .inl (cI, 418, .inl v_w)), (q_rs, .inl (cI, 4, .inl w2)), (q_cs, .inl (cI, 4, .inl w3))]) (k_runV (rest := []) hat hP hD hS hl.1 (c_X12_determinant q q_w q_imageSeed q_bookOf q_bookAt q_bookIs q_rs q_cs q_zs v_known v_kept v_seed v_written v_above v_below v_leftAbove v_leftBelow v_guessAbove v_guessBelow v_sign v_power2 v_bits v_w v_rs v_cs F r1 w2 w3 h4) [0, 1, 2, 3] (by decide) rfl kw923 kw925 kw21 kw79 kw926 kdVX12_determinant ⟨rfl, rfl⟩ (by rw [hR]; exact ⟨Nat.le_of_ble_eq_true rfl, Nat.le_of_ble_eq_true rfl⟩) ⟨Nat.zero_le _, Nat.zero_le _⟩ 0 11 rfl rfl rfl rfl (Nat.le_of_ble_eq_true rfl) dX12_badMany_3) hat hP hD hS [0, 1, 2, 3] rfl [] rfl rfl rfl rfl (by decide) (fun H locs hP hD hS => ?_)
  refine lv_lstore_n (lv' := [(2, .long r1), (1, .int (0 : Int32)), (0, .ref q)]) hx hb dX12_badMany_6 rfl hl (by decide) rfl (fun ls hl => ?_)
  refine lv_iconst (v := 2) hx hb dX12_badMany_7 (by decide) ?_
  refine lv_istore (lv' := [(4, .int (2 : Int32)), (2, .long r1), (1, .int (0 : Int32)), (0, .ref q)]) hx hb dX12_badMany_8 hl (by decide) rfl (fun ls hl => ?_)
  obtain ⟨y17, hu, hf⟩ := kb1_e hf
  refine hL10 r1 v_known v_kept v_seed v_written v_above v_below v_leftAbove v_leftBelow v_guessAbove v_guessBelow v_sign v_power2 v_bits v_w w2 w3 F (0 : Int32) (2 : Int32) y17 hu (fun H locs ls hP hD hS hl => ?_) _ _ _ hP hD hS (lv_sub hl [2, 1, 0] rfl)
  refine lv_iload_n hx hb dX12_badMany_49 rfl (lv_at hl 0 rfl) ?_
  obtain ⟨rfl, rfl, rfl⟩ := ki3 hf
  rw [hQ]
  exact k_iret hat hP hS rfl dX12_badMany_50
set_option maxHeartbeats 4000000 in
set_option maxRecDepth 100000 in
theorem c_X12_leftOver {l : Launch} {D : va_G} {cI cJ cQ : ClassId} {tp : Nat} (x0 : Int64) (x2 : Int64) (r0 : Int64) (hf : f_X12_leftOver x0 x2 = some r0) : kM (fun A => kQl D A [] r0) (some .long) l yX12_leftOver cX12_leftOver 4 { frames := 0, cells := 0, slots := 0, locals := 0 } D cI cJ cQ tp [.long x0, .long x2] [] := by
  refine kM_of (by decide) (Nat.le_of_ble_eq_true rfl) ?_
  intro p e s m args below meth c A ls R Q hR hQ hat hP hD hS hl
  obtain ⟨hx, hb, hr, hml, hown, hts, hT, hlk, hK, hA, hZ⟩ := id hat
  have hown : s.vm.findClass RX12 = some m.cls := hown
  have hl : lv_has ls 4 [(0, .long x0), (2, .long x2)] := hl
  unfold f_X12_leftOver at hf
  refine lv_lload_n hx hb dX12_leftOver_0 rfl (lv_at hl 0 rfl) ?_
  refine lv_lload_n hx hb dX12_leftOver_1 rfl (lv_at hl 1 rfl) ?_
  obtain ⟨c1, hf⟩ := kc_e hf
  refine lv_lrem hx hb dX12_leftOver_2 c1 ?_
  refine lv_lload_n hx hb dX12_leftOver_3 rfl (lv_at hl 1 rfl) ?_
  refine lv_ladd hx hb dX12_leftOver_4 ?_
  refine lv_lload_n hx hb dX12_leftOver_5 rfl (lv_at hl 1 rfl) ?_
  obtain ⟨c2, hf⟩ := kc_e hf
  refine lv_lrem hx hb dX12_leftOver_6 c2 ?_
  obtain rfl := ki1 hf
  rw [hQ]
  exact k_lret hat hP hS rfl dX12_leftOver_7
set_option maxHeartbeats 4000000 in
set_option maxRecDepth 100000 in
theorem c_X12_waysNow {l : Launch} {D : va_G} {cI cJ cQ : ClassId} {tp : Nat} (q : Nat) (q_w : Nat) (q_imageSeed : Nat) (q_bookOf : Nat) (q_bookAt : Nat) (q_bookIs : Nat) (q_rs : Nat) (q_cs : Nat) (q_zs : Nat) (v_known : Int32) (v_kept : Int32) (v_seed : Int32) (v_written : Int32) (v_above : Int64) (v_below : Int64) (v_leftAbove : Int64) (v_leftBelow : Int64) (v_guessAbove : Int64) (v_guessBelow : Int64) (v_sign : Int32) (v_power2 : Int32) (v_bits : Int64) (v_w : (Nat → Int32)) (v_rs : (Nat → Int32)) (v_cs : (Nat → Int32)) (F : Nat) (r0 : Int32) (o_v_rs : (Nat → Int32)) (o_v_cs : (Nat → Int32)) (hf : f_X12_waysNow F v_w v_rs v_cs = some (r0, o_v_rs, o_v_cs)) : kM (fun A => kQi D A [(q, .inr (11, [.ref q_w, .int v_known, .int v_kept, .int v_seed, .ref q_imageSeed, .ref q_bookOf, .ref q_bookAt, .ref q_bookIs, .int v_written, .ref q_rs, .ref q_cs, .long v_above, .long v_below, .ref q_zs, .long v_leftAbove, .long v_leftBelow, .long v_guessAbove, .long v_guessBelow, .int v_sign, .int v_power2, .long v_bits])), (q_w, .inl (cI, 418, .inl v_w)), (q_rs, .inl (cI, 4, .inl o_v_rs)), (q_cs, .inl (cI, 4, .inl o_v_cs))] r0) (some .int) l yX12_waysNow cX12_waysNow 5 { frames := 8, cells := 0, slots := 0, locals := 185 } D cI cJ cQ tp [.ref q] [(q, .inr (11, [.ref q_w, .int v_known, .int v_kept, .int v_seed, .ref q_imageSeed, .ref q_bookOf, .ref q_bookAt, .ref q_bookIs, .int v_written, .ref q_rs, .ref q_cs, .long v_above, .long v_below, .ref q_zs, .long v_leftAbove, .long v_leftBelow, .long v_guessAbove, .long v_guessBelow, .int v_sign, .int v_power2, .long v_bits])), (q_w, .inl (cI, 418, .inl v_w)), (q_rs, .inl (cI, 4, .inl v_rs)), (q_cs, .inl (cI, 4, .inl v_cs))] := by
  refine kM_of (by decide) (Nat.le_of_ble_eq_true rfl) ?_
  intro p e s m args below meth c A ls R Q hR hQ hat hP hD hS hl
  obtain ⟨hx, hb, hr, hml, hown, hts, hT, hlk, hK, hA, hZ⟩ := id hat
  have hown : s.vm.findClass RX12 = some m.cls := hown
  have hl : lv_has ls 5 [(0, .ref q)] := hl
  have hL33 : ∀ (x1 : Int32) (v_known : Int32) (v_kept : Int32) (v_seed : Int32) (v_written : Int32) (v_above : Int64) (v_below : Int64) (v_leftAbove : Int64) (v_leftBelow : Int64) (v_guessAbove : Int64) (v_guessBelow : Int64) (v_sign : Int32) (v_power2 : Int32) (v_bits : Int64) (v_w : (Nat → Int32)) (v_rs : (Nat → Int32)) (v_cs : (Nat → Int32)) (fu : Nat) (x3 : Int32) (x4 : Int32) (o0 : Int32), L_X12_waysNow_33 x1 v_w fu x3 x4 = some o0 → (∀ (H : Heap) (locs : List Loc) (ls : Array Slot), va_P D vwCl [(q, .inr (11, [.ref q_w, .int v_known, .int v_kept, .int v_seed, .ref q_imageSeed, .ref q_bookOf, .ref q_bookAt, .ref q_bookIs, .int v_written, .ref q_rs, .ref q_cs, .long v_above, .long v_below, .ref q_zs, .long v_leftAbove, .long v_leftBelow, .long v_guessAbove, .long v_guessBelow, .int v_sign, .int v_power2, .long v_bits])), (q_w, .inl (cI, 418, .inl v_w)), (q_rs, .inl (cI, 4, .inl v_rs)), (q_cs, .inl (cI, 4, .inl v_cs))] H → va_D A [(q, .inr (11, [.ref q_w, .int v_known, .int v_kept, .int v_seed, .ref q_imageSeed, .ref q_bookOf, .ref q_bookAt, .ref q_bookIs, .int v_written, .ref q_rs, .ref q_cs, .long v_above, .long v_below, .ref q_zs, .long v_leftAbove, .long v_leftBelow, .long v_guessAbove, .long v_guessBelow, .int v_sign, .int v_power2, .long v_bits])), (q_w, .inl (cI, 418, .inl v_w)), (q_rs, .inl (cI, 4, .inl v_rs)), (q_cs, .inl (cI, 4, .inl v_cs))] → va_S A s.heap H locs → lv_has ls 5 [(3, .int o0)] → W p l e R s m args below meth c H locs 0 0 Q (F0 m 52 ls [])) → ∀ (H : Heap) (locs : List Loc) (ls : Array Slot), va_P D vwCl [(q, .inr (11, [.ref q_w, .int v_known, .int v_kept, .int v_seed, .ref q_imageSeed, .ref q_bookOf, .ref q_bookAt, .ref q_bookIs, .int v_written, .ref q_rs, .ref q_cs, .long v_above, .long v_below, .ref q_zs, .long v_leftAbove, .long v_leftBelow, .long v_guessAbove, .long v_guessBelow, .int v_sign, .int v_power2, .long v_bits])), (q_w, .inl (cI, 418, .inl v_w)), (q_rs, .inl (cI, 4, .inl v_rs)), (q_cs, .inl (cI, 4, .inl v_cs))] H → va_D A [(q, .inr (11, [.ref q_w, .int v_known, .int v_kept, .int v_seed, .ref q_imageSeed, .ref q_bookOf, .ref q_bookAt, .ref q_bookIs, .int v_written, .ref q_rs, .ref q_cs, .long v_above, .long v_below, .ref q_zs, .long v_leftAbove, .long v_leftBelow, .long v_guessAbove, .long v_guessBelow, .int v_sign, .int v_power2, .long v_bits])), (q_w, .inl (cI, 418, .inl v_w)), (q_rs, .inl (cI, 4, .inl v_rs)), (q_cs, .inl (cI, 4, .inl v_cs))] → va_S A s.heap H locs → lv_has ls 5 [(0, .ref q), (1, .int x1), (3, .int x3), (4, .int x4)] → W p l e R s m args below meth c H locs 0 0 Q (F0 m 33 ls []) := by
    intro x1 v_known v_kept v_seed v_written v_above v_below v_leftAbove v_leftBelow v_guessAbove v_guessBelow v_sign v_power2 v_bits v_w v_rs v_cs fu
    induction fu with
    | zero =>
      intro x3 x4 o0 hf
      cases hf
    | succ fu ih =>
      intro x3 x4 o0 hf hk0 H locs ls hP hD hS hl
      rw [L_X12_waysNow_33] at hf
      refine lv_iload hx hb dX12_waysNow_33 (lv_at hl 3 rfl) ?_
      refine lv_aload_n hx hb dX12_waysNow_35 rfl (lv_at hl 0 rfl) ?_
      obtain ⟨r14, h15, hf⟩ := kb1_e hf
      refine k_gi (ws' := [(q, .inr (11, [.ref q_w, .int v_known, .int v_kept, .int v_seed, .ref q_imageSeed, .ref q_bookOf, .ref q_bookAt, .ref q_bookIs, .int v_written, .ref q_rs, .ref q_cs, .long v_above, .long v_below, .ref q_zs, .long v_leftAbove, .long v_leftBelow, .long v_guessAbove, .long v_guessBelow, .int v_sign, .int v_power2, .long v_bits])), (q_w, .inl (cI, 418, .inl v_w)), (q_rs, .inl (cI, 4, .inl v_rs)), (q_cs, .inl (cI, 4, .inl v_cs))]) (k_runV (rest := [.int x4]) hat hP hD hS hl.1 (c_X12_n q q_w q_imageSeed q_bookOf q_bookAt q_bookIs q_rs q_cs q_zs v_known v_kept v_seed v_written v_above v_below v_leftAbove v_leftBelow v_guessAbove v_guessBelow v_sign v_power2 v_bits v_w r14 h15) [0, 1] (by decide) rfl kw912 kw914 kw19 kw79 kw915 kdVX12_n ⟨rfl, rfl⟩ (by rw [hR]; exact ⟨Nat.le_of_ble_eq_true rfl, Nat.le_of_ble_eq_true rfl⟩) ⟨Nat.zero_le _, Nat.zero_le _⟩ 0 11 rfl rfl rfl rfl (Nat.le_of_ble_eq_true rfl) dX12_waysNow_36) hat hP hD hS [0, 1] rfl [2, 3] rfl rfl rfl rfl (by decide) (fun H locs hP hD hS => ?_)
      refine lv_icmp_ge (tgt := 52) hx hb dX12_waysNow_39 (by decide) (fun c16 => ?_) (fun c16 => ?_)
      · have hf := kp_e hf c16
        obtain rfl := ki1 hf
        exact hk0 _ _ _ hP hD hS (lv_sub hl [2] rfl)
      · have hf := kn_e hf c16
        refine lv_iload_n hx hb dX12_waysNow_42 rfl (lv_at hl 2 rfl) ?_
        refine lv_iload_n hx hb dX12_waysNow_43 rfl (lv_at hl 1 rfl) ?_
        refine lv_imul hx hb dX12_waysNow_44 ?_
        refine lv_topi (fun t17 et17 => ?_)
        have hf := kl_e hf t17 et17
        refine lv_istore_n (lv' := [(3, .int t17), (0, .ref q), (1, .int x1), (4, .int x4)]) hx hb dX12_waysNow_45 rfl hl (by decide) rfl (fun ls hl => ?_)
        obtain ⟨t18, et18⟩ : ∃ z : Int32, z = (x4 + (1 : Int32)) := ⟨_, rfl⟩
        have hf := kl_e hf t18 et18
        refine lv_iinc (v := t18) (lv' := [(4, .int t18), (3, .int t17), (0, .ref q), (1, .int x1)]) hx hb dX12_waysNow_46 hl (k := 3) rfl (by rw [et18]; rfl) (by decide) rfl (fun ls hl => ?_)
        refine lv_goto (tgt := 33) hx hb dX12_waysNow_49 (by decide) ?_
        exact ih t17 t18 o0 hf hk0 _ _ _ hP hD hS (lv_sub hl [2, 3, 1, 0] rfl)
  unfold f_X12_waysNow at hf
  refine lv_aload_n hx hb dX12_waysNow_0 rfl (lv_at hl 0 rfl) ?_
  obtain ⟨r1, h2, hf⟩ := kb1_e hf
  refine k_gi (ws' := [(q, .inr (11, [.ref q_w, .int v_known, .int v_kept, .int v_seed, .ref q_imageSeed, .ref q_bookOf, .ref q_bookAt, .ref q_bookIs, .int v_written, .ref q_rs, .ref q_cs, .long v_above, .long v_below, .ref q_zs, .long v_leftAbove, .long v_leftBelow, .long v_guessAbove, .long v_guessBelow, .int v_sign, .int v_power2, .long v_bits])), (q_w, .inl (cI, 418, .inl v_w)), (q_rs, .inl (cI, 4, .inl v_rs)), (q_cs, .inl (cI, 4, .inl v_cs))]) (k_runV (rest := []) hat hP hD hS hl.1 (c_X12_p q q_w q_imageSeed q_bookOf q_bookAt q_bookIs q_rs q_cs q_zs v_known v_kept v_seed v_written v_above v_below v_leftAbove v_leftBelow v_guessAbove v_guessBelow v_sign v_power2 v_bits v_w F r1 h2) [0, 1] (by decide) rfl kw916 kw918 kw20 kw79 kw919 kdVX12_p ⟨rfl, rfl⟩ (by rw [hR]; exact ⟨Nat.le_of_ble_eq_true rfl, Nat.le_of_ble_eq_true rfl⟩) ⟨Nat.zero_le _, Nat.zero_le _⟩ 0 11 rfl rfl rfl rfl (Nat.le_of_ble_eq_true rfl) dX12_waysNow_1) hat hP hD hS [0, 1] rfl [2, 3] rfl rfl rfl rfl (by decide) (fun H locs hP hD hS => ?_)
  refine lv_istore_n (lv' := [(1, .int r1), (0, .ref q)]) hx hb dX12_waysNow_4 rfl hl (by decide) rfl (fun ls hl => ?_)
  refine lv_aload_n hx hb dX12_waysNow_5 rfl (lv_at hl 1 rfl) ?_
  refine lv_aload_n hx hb dX12_waysNow_6 rfl (lv_at hl 1 rfl) ?_
  obtain ⟨r3, h4, hf⟩ := kb1_e hf
  refine k_gi (ws' := [(q, .inr (11, [.ref q_w, .int v_known, .int v_kept, .int v_seed, .ref q_imageSeed, .ref q_bookOf, .ref q_bookAt, .ref q_bookIs, .int v_written, .ref q_rs, .ref q_cs, .long v_above, .long v_below, .ref q_zs, .long v_leftAbove, .long v_leftBelow, .long v_guessAbove, .long v_guessBelow, .int v_sign, .int v_power2, .long v_bits])), (q_w, .inl (cI, 418, .inl v_w)), (q_rs, .inl (cI, 4, .inl v_rs)), (q_cs, .inl (cI, 4, .inl v_cs))]) (k_runV (rest := [.ref q]) hat hP hD hS hl.1 (c_X12_allColumns q q_w q_imageSeed q_bookOf q_bookAt q_bookIs q_rs q_cs q_zs v_known v_kept v_seed v_written v_above v_below v_leftAbove v_leftBelow v_guessAbove v_guessBelow v_sign v_power2 v_bits v_w r3 h4) [0, 1] (by decide) rfl kw927 kw929 kw22 kw79 kw930 kdVX12_allColumns ⟨rfl, rfl⟩ (by rw [hR]; exact ⟨Nat.le_of_ble_eq_true rfl, Nat.le_of_ble_eq_true rfl⟩) ⟨Nat.zero_le _, Nat.zero_le _⟩ 0 11 rfl rfl rfl rfl (Nat.le_of_ble_eq_true rfl) dX12_waysNow_7) hat hP hD hS [0, 1] rfl [2, 3] rfl rfl rfl rfl (by decide) (fun H locs hP hD hS => ?_)
  refine lv_iload_n hx hb dX12_waysNow_10 rfl (lv_at hl 0 rfl) ?_
  obtain ⟨r5, w6, w7, h8, hf⟩ := kb3_e hf
  refine k_gi (ws' := [(q, .inr (11, [.ref q_w, .int v_known, .int v_kept, .int v_seed, .ref q_imageSeed, .ref q_bookOf, .ref q_bookAt, .ref q_bookIs, .int v_written, .ref q_rs, .ref q_cs, .long v_above, .long v_below, .ref q_zs, .long v_leftAbove, .long v_leftBelow, .long v_guessAbove, .long v_guessBelow, .int v_sign, .int v_power2, .long v_bits])), (q_w, .inl (cI, 418, .inl v_w)), (q_rs, .inl (cI, 4, .inl w6)), (q_cs, .inl (cI, 4, .inl w7))]) (k_runV (rest := []) hat hP hD hS hl.1 (c_X12_rankOf q q_w q_imageSeed q_bookOf q_bookAt q_bookIs q_rs q_cs q_zs v_known v_kept v_seed v_written v_above v_below v_leftAbove v_leftBelow v_guessAbove v_guessBelow v_sign v_power2 v_bits v_w v_rs v_cs F r3 r1 r5 w6 w7 h8) [0, 1, 2, 3] (by decide) rfl kw969 kw971 kw30 kw79 kw972 kdVX12_rankOf ⟨rfl, rfl⟩ (by rw [hR]; exact ⟨Nat.le_of_ble_eq_true rfl, Nat.le_of_ble_eq_true rfl⟩) ⟨Nat.zero_le _, Nat.zero_le _⟩ 0 11 rfl rfl rfl rfl (Nat.le_of_ble_eq_true rfl) dX12_waysNow_11) hat hP hD hS [0, 1, 2, 3] rfl [] rfl rfl rfl rfl (by decide) (fun H locs hP hD hS => ?_)
  refine lv_istore_n (lv' := [(2, .int r5), (1, .int r1), (0, .ref q)]) hx hb dX12_waysNow_14 rfl hl (by decide) rfl (fun ls hl => ?_)
  refine lv_aload_n hx hb dX12_waysNow_15 rfl (lv_at hl 2 rfl) ?_
  refine lv_iload_n hx hb dX12_waysNow_16 rfl (lv_at hl 1 rfl) ?_
  obtain ⟨r9, w10, w11, h12, hf⟩ := kb3_e hf
  refine k_gi (ws' := [(q, .inr (11, [.ref q_w, .int v_known, .int v_kept, .int v_seed, .ref q_imageSeed, .ref q_bookOf, .ref q_bookAt, .ref q_bookIs, .int v_written, .ref q_rs, .ref q_cs, .long v_above, .long v_below, .ref q_zs, .long v_leftAbove, .long v_leftBelow, .long v_guessAbove, .long v_guessBelow, .int v_sign, .int v_power2, .long v_bits])), (q_w, .inl (cI, 418, .inl v_w)), (q_rs, .inl (cI, 4, .inl w10)), (q_cs, .inl (cI, 4, .inl w11))]) (k_runV (rest := []) hat hP hD hS hl.1 (c_X12_wideRank q q_w q_imageSeed q_bookOf q_bookAt q_bookIs q_rs q_cs q_zs v_known v_kept v_seed v_written v_above v_below v_leftAbove v_leftBelow v_guessAbove v_guessBelow v_sign v_power2 v_bits v_w w6 w7 F r1 r9 w10 w11 h12) [0, 1, 2, 3] (by decide) rfl kw973 kw975 kw31 kw79 kw976 kdVX12_wideRank ⟨rfl, rfl⟩ (by rw [hR]; exact ⟨Nat.le_of_ble_eq_true rfl, Nat.le_of_ble_eq_true rfl⟩) ⟨Nat.zero_le _, Nat.zero_le _⟩ 0 11 rfl rfl rfl rfl (Nat.le_of_ble_eq_true rfl) dX12_waysNow_17) hat hP hD hS [0, 1, 2, 3] rfl [] rfl rfl rfl rfl (by decide) (fun H locs hP hD hS => ?_)
  refine lv_iload_n hx hb dX12_waysNow_20 rfl (lv_at hl 0 rfl) ?_
  refine lv_icmp_le (tgt := 28) hx hb dX12_waysNow_21 (by decide) (fun c13 => ?_) (fun c13 => ?_)
  · have hf := kp_e hf c13
    refine lv_iconst (v := 1) hx hb dX12_waysNow_28 (by decide) ?_
    refine lv_istore_n (lv' := [(3, .int (1 : Int32)), (2, .int r5), (1, .int r1), (0, .ref q)]) hx hb dX12_waysNow_29 rfl hl (by decide) rfl (fun ls hl => ?_)
    refine lv_iload_n hx hb dX12_waysNow_30 rfl (lv_at hl 1 rfl) ?_
    refine lv_istore (lv' := [(4, .int r5), (3, .int (1 : Int32)), (2, .int r5), (1, .int r1), (0, .ref q)]) hx hb dX12_waysNow_31 hl (by decide) rfl (fun ls hl => ?_)
    obtain ⟨y19, hu, hf⟩ := kb1_e hf
    refine hL33 r1 v_known v_kept v_seed v_written v_above v_below v_leftAbove v_leftBelow v_guessAbove v_guessBelow v_sign v_power2 v_bits v_w w10 w11 F (1 : Int32) r5 y19 hu (fun H locs ls hP hD hS hl => ?_) _ _ _ hP hD hS (lv_sub hl [4, 3, 1, 0] rfl)
    refine lv_iload_n hx hb dX12_waysNow_52 rfl (lv_at hl 0 rfl) ?_
    obtain ⟨rfl, rfl, rfl⟩ := ki3 hf
    rw [hQ]
    exact k_iret hat hP hS rfl dX12_waysNow_53
  · have hf := kn_e hf c13
    refine lv_iconst (v := 0) hx hb dX12_waysNow_24 (by decide) ?_
    refine lv_goto (tgt := 29) hx hb dX12_waysNow_25 (by decide) ?_
    refine lv_istore_n (lv' := [(3, .int (0 : Int32)), (2, .int r5), (1, .int r1), (0, .ref q)]) hx hb dX12_waysNow_29 rfl hl (by decide) rfl (fun ls hl => ?_)
    refine lv_iload_n hx hb dX12_waysNow_30 rfl (lv_at hl 1 rfl) ?_
    refine lv_istore (lv' := [(4, .int r5), (3, .int (0 : Int32)), (2, .int r5), (1, .int r1), (0, .ref q)]) hx hb dX12_waysNow_31 hl (by decide) rfl (fun ls hl => ?_)
    obtain ⟨y20, hu, hf⟩ := kb1_e hf
    refine hL33 r1 v_known v_kept v_seed v_written v_above v_below v_leftAbove v_leftBelow v_guessAbove v_guessBelow v_sign v_power2 v_bits v_w w10 w11 F (0 : Int32) r5 y20 hu (fun H locs ls hP hD hS hl => ?_) _ _ _ hP hD hS (lv_sub hl [4, 3, 1, 0] rfl)
    refine lv_iload_n hx hb dX12_waysNow_52 rfl (lv_at hl 0 rfl) ?_
    obtain ⟨rfl, rfl, rfl⟩ := ki3 hf
    rw [hQ]
    exact k_iret hat hP hS rfl dX12_waysNow_53
set_option maxHeartbeats 4000000 in
set_option maxRecDepth 100000 in
theorem c_X12_inverse {l : Launch} {D : va_G} {cI cJ cQ : ClassId} {tp : Nat} (F : Nat) (x0 : Int64) (x2 : Int64) (r0 : Int64) (hf : f_X12_inverse F x0 x2 = some r0) : kM (fun A => kQl D A [] r0) (some .long) l yX12_inverse cX12_inverse 8 { frames := 1, cells := 0, slots := 0, locals := 23 } D cI cJ cQ tp [.long x0, .long x2] [] := by
  refine kM_of (by decide) (Nat.le_of_ble_eq_true rfl) ?_
  intro p e s m args below meth c A ls R Q hR hQ hat hP hD hS hl
  obtain ⟨hx, hb, hr, hml, hown, hts, hT, hlk, hK, hA, hZ⟩ := id hat
  have hown : s.vm.findClass RX12 = some m.cls := hown
  have hl : lv_has ls 8 [(0, .long x0), (2, .long x2)] := hl
  have hL6 : ∀ (x0 : Int64) (x2 : Int64) (fu : Nat) (x4 : Int64) (x6 : Int64) (o0 : Int64), L_X12_inverse_6 x0 x2 fu x4 x6 = some o0 → (∀ (H : Heap) (locs : List Loc) (ls : Array Slot), va_P D vwCl [] H → va_D A [] → va_S A s.heap H locs → lv_has ls 8 [(4, .long o0)] → W p l e R s m args below meth c H locs 0 0 Q (F0 m 46 ls [])) → ∀ (H : Heap) (locs : List Loc) (ls : Array Slot), va_P D vwCl [] H → va_D A [] → va_S A s.heap H locs → lv_has ls 8 [(0, .long x0), (2, .long x2), (4, .long x4), (6, .long x6)] → W p l e R s m args below meth c H locs 0 0 Q (F0 m 6 ls []) := by
    intro x0 x2 fu
    induction fu with
    | zero =>
      intro x4 x6 o0 hf
      cases hf
    | succ fu ih =>
      intro x4 x6 o0 hf hk0 H locs ls hP hD hS hl
      rw [L_X12_inverse_6] at hf
      refine lv_lload hx hb dX12_inverse_6 (lv_at hl 3 rfl) ?_
      refine lv_lload_n hx hb dX12_inverse_8 rfl (lv_at hl 1 rfl) ?_
      refine k_lcmp_ge (tgt := 46) hx hb dX12_inverse_9 dX12_inverse_10 (by decide) (fun c1 => ?_) (fun c1 => ?_)
      · have hf := kp_e hf c1
        obtain rfl := ki1 hf
        exact hk0 _ _ _ hP hD hS (lv_sub hl [2] rfl)
      · have hf := kn_e hf c1
        refine lv_lload_n hx hb dX12_inverse_13 rfl (lv_at hl 0 rfl) ?_
        refine lv_lload_n hx hb dX12_inverse_14 rfl (lv_at hl 1 rfl) ?_
        obtain ⟨r2, h3, hf⟩ := kb1_e hf
        refine k_gl (ws' := []) (k_runS (rest := []) hat hP hD hS hl.1 (c_X12_leftOver x0 x2 r2 h3) [] (by decide) rfl kw1055 kw1056 kw79 kw1057 kdX12_leftOver ⟨rfl, rfl⟩ (by rw [hR]; exact ⟨Nat.le_of_ble_eq_true rfl, Nat.le_of_ble_eq_true rfl⟩) ⟨Nat.zero_le _, Nat.zero_le _⟩ rfl rfl (Nat.le_of_ble_eq_true rfl) dX12_inverse_15) hat hP hD hS [] rfl [] rfl rfl rfl rfl (by decide) (fun H locs hP hD hS => ?_)
        refine lv_lload hx hb dX12_inverse_18 (lv_at hl 3 rfl) ?_
        refine lv_lmul hx hb dX12_inverse_20 ?_
        refine lv_lload_n hx hb dX12_inverse_21 rfl (lv_at hl 1 rfl) ?_
        obtain ⟨c4, hf⟩ := kc_e hf
        refine lv_lrem hx hb dX12_inverse_22 c4 ?_
        refine lv_lconst (v := 1) hx hb dX12_inverse_23 (by decide) ?_
        refine k_lcmp_ne (tgt := 33) hx hb dX12_inverse_24 dX12_inverse_25 (by decide) (fun c5 => ?_) (fun c5 => ?_)
        · have hf := kn_e hf c5
          refine lv_lload hx hb dX12_inverse_33 (lv_at hl 2 rfl) ?_
          refine lv_lstore (lv' := [(4, .long x4), (0, .long x0), (2, .long x2), (6, .long x6)]) hx hb dX12_inverse_35 hl (by decide) rfl (fun ls hl => ?_)
          refine lv_lload hx hb dX12_inverse_37 (lv_at hl 3 rfl) ?_
          refine lv_lconst (v := 1) hx hb dX12_inverse_39 (by decide) ?_
          refine lv_ladd hx hb dX12_inverse_40 ?_
          refine lv_topl (fun t6 et6 => ?_)
          have hf := kl_e hf t6 et6
          refine lv_lstore (lv' := [(6, .long t6), (4, .long x4), (0, .long x0), (2, .long x2)]) hx hb dX12_inverse_41 hl (by decide) rfl (fun ls hl => ?_)
          refine lv_goto (tgt := 6) hx hb dX12_inverse_43 (by decide) ?_
          exact ih x4 t6 o0 hf hk0 _ _ _ hP hD hS (lv_sub hl [2, 3, 1, 0] rfl)
        · have hf := kp_e hf c5
          refine lv_lload hx hb dX12_inverse_28 (lv_at hl 3 rfl) ?_
          refine lv_goto (tgt := 35) hx hb dX12_inverse_30 (by decide) ?_
          refine lv_lstore (lv' := [(4, .long x6), (0, .long x0), (2, .long x2), (6, .long x6)]) hx hb dX12_inverse_35 hl (by decide) rfl (fun ls hl => ?_)
          refine lv_lload hx hb dX12_inverse_37 (lv_at hl 3 rfl) ?_
          refine lv_lconst (v := 1) hx hb dX12_inverse_39 (by decide) ?_
          refine lv_ladd hx hb dX12_inverse_40 ?_
          refine lv_topl (fun t7 et7 => ?_)
          have hf := kl_e hf t7 et7
          refine lv_lstore (lv' := [(6, .long t7), (4, .long x6), (0, .long x0), (2, .long x2)]) hx hb dX12_inverse_41 hl (by decide) rfl (fun ls hl => ?_)
          refine lv_goto (tgt := 6) hx hb dX12_inverse_43 (by decide) ?_
          exact ih x6 t7 o0 hf hk0 _ _ _ hP hD hS (lv_sub hl [2, 3, 1, 0] rfl)
  unfold f_X12_inverse at hf
  refine lv_lconst (v := 1) hx hb dX12_inverse_0 (by decide) ?_
  refine lv_lstore (lv' := [(4, .long (1 : Int64)), (0, .long x0), (2, .long x2)]) hx hb dX12_inverse_1 hl (by decide) rfl (fun ls hl => ?_)
  refine lv_lconst (v := 1) hx hb dX12_inverse_3 (by decide) ?_
  refine lv_lstore (lv' := [(6, .long (1 : Int64)), (4, .long (1 : Int64)), (0, .long x0), (2, .long x2)]) hx hb dX12_inverse_4 hl (by decide) rfl (fun ls hl => ?_)
  obtain ⟨y8, hu, hf⟩ := kb1_e hf
  refine hL6 x0 x2 F (1 : Int64) (1 : Int64) y8 hu (fun H locs ls hP hD hS hl => ?_) _ _ _ hP hD hS (lv_sub hl [2, 3, 1, 0] rfl)
  refine lv_lload hx hb dX12_inverse_46 (lv_at hl 0 rfl) ?_
  obtain rfl := ki1 hf
  rw [hQ]
  exact k_lret hat hP hS rfl dX12_inverse_48
set_option maxHeartbeats 4000000 in
set_option maxRecDepth 100000 in
theorem c_X12_backOf {l : Launch} {D : va_G} {cI cJ cQ : ClassId} {tp : Nat} (q : Nat) (q_w : Nat) (q_imageSeed : Nat) (q_bookOf : Nat) (q_bookAt : Nat) (q_bookIs : Nat) (q_rs : Nat) (q_cs : Nat) (q_zs : Nat) (v_known : Int32) (v_kept : Int32) (v_seed : Int32) (v_written : Int32) (v_above : Int64) (v_below : Int64) (v_leftAbove : Int64) (v_leftBelow : Int64) (v_guessAbove : Int64) (v_guessBelow : Int64) (v_sign : Int32) (v_power2 : Int32) (v_bits : Int64) (v_w : (Nat → Int32)) (v_rs : (Nat → Int32)) (v_cs : (Nat → Int32)) (F : Nat) (x1 : Int32) (x2 : Int32) (r0 : Int64) (o_v_rs : (Nat → Int32)) (o_v_cs : (Nat → Int32)) (hf : f_X12_backOf F v_w v_rs v_cs x1 x2 = some (r0, o_v_rs, o_v_cs)) : kM (fun A => kQl D A [(q, .inr (11, [.ref q_w, .int v_known, .int v_kept, .int v_seed, .ref q_imageSeed, .ref q_bookOf, .ref q_bookAt, .ref q_bookIs, .int v_written, .ref q_rs, .ref q_cs, .long v_above, .long v_below, .ref q_zs, .long v_leftAbove, .long v_leftBelow, .long v_guessAbove, .long v_guessBelow, .int v_sign, .int v_power2, .long v_bits])), (q_w, .inl (cI, 418, .inl v_w)), (q_rs, .inl (cI, 4, .inl o_v_rs)), (q_cs, .inl (cI, 4, .inl o_v_cs))] r0) (some .long) l yX12_backOf cX12_backOf 7 { frames := 7, cells := 0, slots := 0, locals := 157 } D cI cJ cQ tp [.ref q, .int x1, .int x2] [(q, .inr (11, [.ref q_w, .int v_known, .int v_kept, .int v_seed, .ref q_imageSeed, .ref q_bookOf, .ref q_bookAt, .ref q_bookIs, .int v_written, .ref q_rs, .ref q_cs, .long v_above, .long v_below, .ref q_zs, .long v_leftAbove, .long v_leftBelow, .long v_guessAbove, .long v_guessBelow, .int v_sign, .int v_power2, .long v_bits])), (q_w, .inl (cI, 418, .inl v_w)), (q_rs, .inl (cI, 4, .inl v_rs)), (q_cs, .inl (cI, 4, .inl v_cs))] := by
  refine kM_of (by decide) (Nat.le_of_ble_eq_true rfl) ?_
  intro p e s m args below meth c A ls R Q hR hQ hat hP hD hS hl
  obtain ⟨hx, hb, hr, hml, hown, hts, hT, hlk, hK, hA, hZ⟩ := id hat
  have hown : s.vm.findClass RX12 = some m.cls := hown
  have hl : lv_has ls 7 [(0, .ref q), (1, .int x1), (2, .int x2)] := hl
  unfold f_X12_backOf at hf
  refine lv_aload_n hx hb dX12_backOf_0 rfl (lv_at hl 0 rfl) ?_
  obtain ⟨r1, h2, hf⟩ := kb1_e hf
  refine k_gi (ws' := [(q, .inr (11, [.ref q_w, .int v_known, .int v_kept, .int v_seed, .ref q_imageSeed, .ref q_bookOf, .ref q_bookAt, .ref q_bookIs, .int v_written, .ref q_rs, .ref q_cs, .long v_above, .long v_below, .ref q_zs, .long v_leftAbove, .long v_leftBelow, .long v_guessAbove, .long v_guessBelow, .int v_sign, .int v_power2, .long v_bits])), (q_w, .inl (cI, 418, .inl v_w)), (q_rs, .inl (cI, 4, .inl v_rs)), (q_cs, .inl (cI, 4, .inl v_cs))]) (k_runV (rest := []) hat hP hD hS hl.1 (c_X12_p q q_w q_imageSeed q_bookOf q_bookAt q_bookIs q_rs q_cs q_zs v_known v_kept v_seed v_written v_above v_below v_leftAbove v_leftBelow v_guessAbove v_guessBelow v_sign v_power2 v_bits v_w F r1 h2) [0, 1] (by decide) rfl kw916 kw918 kw20 kw79 kw919 kdVX12_p ⟨rfl, rfl⟩ (by rw [hR]; exact ⟨Nat.le_of_ble_eq_true rfl, Nat.le_of_ble_eq_true rfl⟩) ⟨Nat.zero_le _, Nat.zero_le _⟩ 0 11 rfl rfl rfl rfl (Nat.le_of_ble_eq_true rfl) dX12_backOf_1) hat hP hD hS [0, 1] rfl [2, 3] rfl rfl rfl rfl (by decide) (fun H locs hP hD hS => ?_)
  refine lv_i2l hx hb dX12_backOf_4 rfl ?_
  refine lv_topl (fun t3 et3 => ?_)
  have hf := kl_e hf t3 et3
  refine lv_lstore_n (lv' := [(3, .long t3), (0, .ref q), (1, .int x1), (2, .int x2)]) hx hb dX12_backOf_5 rfl hl (by decide) rfl (fun ls hl => ?_)
  refine lv_aload_n hx hb dX12_backOf_6 rfl (lv_at hl 1 rfl) ?_
  refine lv_aload_n hx hb dX12_backOf_7 rfl (lv_at hl 1 rfl) ?_
  obtain ⟨r4, h5, hf⟩ := kb1_e hf
  refine k_gi (ws' := [(q, .inr (11, [.ref q_w, .int v_known, .int v_kept, .int v_seed, .ref q_imageSeed, .ref q_bookOf, .ref q_bookAt, .ref q_bookIs, .int v_written, .ref q_rs, .ref q_cs, .long v_above, .long v_below, .ref q_zs, .long v_leftAbove, .long v_leftBelow, .long v_guessAbove, .long v_guessBelow, .int v_sign, .int v_power2, .long v_bits])), (q_w, .inl (cI, 418, .inl v_w)), (q_rs, .inl (cI, 4, .inl v_rs)), (q_cs, .inl (cI, 4, .inl v_cs))]) (k_runV (rest := [.ref q]) hat hP hD hS hl.1 (c_X12_allColumns q q_w q_imageSeed q_bookOf q_bookAt q_bookIs q_rs q_cs q_zs v_known v_kept v_seed v_written v_above v_below v_leftAbove v_leftBelow v_guessAbove v_guessBelow v_sign v_power2 v_bits v_w r4 h5) [0, 1] (by decide) rfl kw927 kw929 kw22 kw79 kw930 kdVX12_allColumns ⟨rfl, rfl⟩ (by rw [hR]; exact ⟨Nat.le_of_ble_eq_true rfl, Nat.le_of_ble_eq_true rfl⟩) ⟨Nat.zero_le _, Nat.zero_le _⟩ 0 11 rfl rfl rfl rfl (Nat.le_of_ble_eq_true rfl) dX12_backOf_8) hat hP hD hS [0, 1] rfl [2, 3] rfl rfl rfl rfl (by decide) (fun H locs hP hD hS => ?_)
  refine lv_iconst (v := 1) hx hb dX12_backOf_11 (by decide) ?_
  refine lv_iload_n hx hb dX12_backOf_12 rfl (lv_at hl 3 rfl) ?_
  refine lv_ishl hx hb dX12_backOf_13 ?_
  refine lv_iconst (v := -1) hx hb dX12_backOf_14 (by decide) ?_
  refine lv_ixor hx hb dX12_backOf_15 ?_
  refine lv_iand hx hb dX12_backOf_16 ?_
  refine lv_aload_n hx hb dX12_backOf_17 rfl (lv_at hl 1 rfl) ?_
  obtain ⟨r6, h7, hf⟩ := kb1_e hf
  refine k_gi (ws' := [(q, .inr (11, [.ref q_w, .int v_known, .int v_kept, .int v_seed, .ref q_imageSeed, .ref q_bookOf, .ref q_bookAt, .ref q_bookIs, .int v_written, .ref q_rs, .ref q_cs, .long v_above, .long v_below, .ref q_zs, .long v_leftAbove, .long v_leftBelow, .long v_guessAbove, .long v_guessBelow, .int v_sign, .int v_power2, .long v_bits])), (q_w, .inl (cI, 418, .inl v_w)), (q_rs, .inl (cI, 4, .inl v_rs)), (q_cs, .inl (cI, 4, .inl v_cs))]) (k_runV (rest := [.int (r4 &&& (((1 : Int32) <<< (x2 &&& 31)) ^^^ (-1 : Int32))), .ref q]) hat hP hD hS hl.1 (c_X12_allColumns q q_w q_imageSeed q_bookOf q_bookAt q_bookIs q_rs q_cs q_zs v_known v_kept v_seed v_written v_above v_below v_leftAbove v_leftBelow v_guessAbove v_guessBelow v_sign v_power2 v_bits v_w r6 h7) [0, 1] (by decide) rfl kw927 kw929 kw22 kw79 kw930 kdVX12_allColumns ⟨rfl, rfl⟩ (by rw [hR]; exact ⟨Nat.le_of_ble_eq_true rfl, Nat.le_of_ble_eq_true rfl⟩) ⟨Nat.zero_le _, Nat.zero_le _⟩ 0 11 rfl rfl rfl rfl (Nat.le_of_ble_eq_true rfl) dX12_backOf_18) hat hP hD hS [0, 1] rfl [2, 3] rfl rfl rfl rfl (by decide) (fun H locs hP hD hS => ?_)
  refine lv_iconst (v := 1) hx hb dX12_backOf_21 (by decide) ?_
  refine lv_iload_n hx hb dX12_backOf_22 rfl (lv_at hl 2 rfl) ?_
  refine lv_ishl hx hb dX12_backOf_23 ?_
  refine lv_iconst (v := -1) hx hb dX12_backOf_24 (by decide) ?_
  refine lv_ixor hx hb dX12_backOf_25 ?_
  refine lv_iand hx hb dX12_backOf_26 ?_
  obtain ⟨r8, w9, w10, h11, hf⟩ := kb3_e hf
  refine k_gl (ws' := [(q, .inr (11, [.ref q_w, .int v_known, .int v_kept, .int v_seed, .ref q_imageSeed, .ref q_bookOf, .ref q_bookAt, .ref q_bookIs, .int v_written, .ref q_rs, .ref q_cs, .long v_above, .long v_below, .ref q_zs, .long v_leftAbove, .long v_leftBelow, .long v_guessAbove, .long v_guessBelow, .int v_sign, .int v_power2, .long v_bits])), (q_w, .inl (cI, 418, .inl v_w)), (q_rs, .inl (cI, 4, .inl w9)), (q_cs, .inl (cI, 4, .inl w10))]) (k_runV (rest := []) hat hP hD hS hl.1 (c_X12_minor q q_w q_imageSeed q_bookOf q_bookAt q_bookIs q_rs q_cs q_zs v_known v_kept v_seed v_written v_above v_below v_leftAbove v_leftBelow v_guessAbove v_guessBelow v_sign v_power2 v_bits v_w v_rs v_cs F (r4 &&& (((1 : Int32) <<< (x2 &&& 31)) ^^^ (-1 : Int32))) (r6 &&& (((1 : Int32) <<< (x1 &&& 31)) ^^^ (-1 : Int32))) r8 w9 w10 h11) [0, 1, 2, 3] (by decide) rfl kw931 kw933 kw23 kw79 kw934 kdVX12_minor ⟨rfl, rfl⟩ (by rw [hR]; exact ⟨Nat.le_of_ble_eq_true rfl, Nat.le_of_ble_eq_true rfl⟩) ⟨Nat.zero_le _, Nat.zero_le _⟩ 0 11 rfl rfl rfl rfl (Nat.le_of_ble_eq_true rfl) dX12_backOf_27) hat hP hD hS [0, 1, 2, 3] rfl [] rfl rfl rfl rfl (by decide) (fun H locs hP hD hS => ?_)
  refine lv_lstore (lv' := [(5, .long r8), (3, .long t3), (0, .ref q), (1, .int x1), (2, .int x2)]) hx hb dX12_backOf_30 hl (by decide) rfl (fun ls hl => ?_)
  refine lv_iload_n hx hb dX12_backOf_32 rfl (lv_at hl 3 rfl) ?_
  refine lv_iload_n hx hb dX12_backOf_33 rfl (lv_at hl 4 rfl) ?_
  refine lv_iadd hx hb dX12_backOf_34 ?_
  refine lv_iconst (v := 2) hx hb dX12_backOf_35 (by decide) ?_
  refine lv_irem hx hb dX12_backOf_36 (by decide) ?_
  obtain ⟨J13, hJ13_, hf⟩ := kj1_e hf
  have hJ13 : ∀ (t12 : Int64), J13 t12 = some (r0, o_v_rs, o_v_cs) → ∀ (H : Heap) (locs : List Loc) (ls : Array Slot), va_P D vwCl [(q, .inr (11, [.ref q_w, .int v_known, .int v_kept, .int v_seed, .ref q_imageSeed, .ref q_bookOf, .ref q_bookAt, .ref q_bookIs, .int v_written, .ref q_rs, .ref q_cs, .long v_above, .long v_below, .ref q_zs, .long v_leftAbove, .long v_leftBelow, .long v_guessAbove, .long v_guessBelow, .int v_sign, .int v_power2, .long v_bits])), (q_w, .inl (cI, 418, .inl v_w)), (q_rs, .inl (cI, 4, .inl w9)), (q_cs, .inl (cI, 4, .inl w10))] H → va_D A [(q, .inr (11, [.ref q_w, .int v_known, .int v_kept, .int v_seed, .ref q_imageSeed, .ref q_bookOf, .ref q_bookAt, .ref q_bookIs, .int v_written, .ref q_rs, .ref q_cs, .long v_above, .long v_below, .ref q_zs, .long v_leftAbove, .long v_leftBelow, .long v_guessAbove, .long v_guessBelow, .int v_sign, .int v_power2, .long v_bits])), (q_w, .inl (cI, 418, .inl v_w)), (q_rs, .inl (cI, 4, .inl w9)), (q_cs, .inl (cI, 4, .inl w10))] → va_S A s.heap H locs → lv_has ls 7 [(0, .ref q), (3, .long t3)] → W p l e R s m args below meth c H locs 0 0 Q (F0 m 48 ls [.long t12]) := by
    intro t12 hf H locs ls hP hD hS hl
    rw [hJ13_] at hf
    refine lv_lstore (lv' := [(5, .long t12), (0, .ref q), (3, .long t3)]) hx hb dX12_backOf_48 hl (by decide) rfl (fun ls hl => ?_)
    refine lv_lload hx hb dX12_backOf_50 (lv_at hl 0 rfl) ?_
    refine lv_lload_n hx hb dX12_backOf_52 rfl (lv_at hl 2 rfl) ?_
    obtain ⟨r14, h15, hf⟩ := kb1_e hf
    refine k_gl (ws' := [(q, .inr (11, [.ref q_w, .int v_known, .int v_kept, .int v_seed, .ref q_imageSeed, .ref q_bookOf, .ref q_bookAt, .ref q_bookIs, .int v_written, .ref q_rs, .ref q_cs, .long v_above, .long v_below, .ref q_zs, .long v_leftAbove, .long v_leftBelow, .long v_guessAbove, .long v_guessBelow, .int v_sign, .int v_power2, .long v_bits])), (q_w, .inl (cI, 418, .inl v_w)), (q_rs, .inl (cI, 4, .inl w9)), (q_cs, .inl (cI, 4, .inl w10))]) (k_runS (rest := []) hat hP hD hS hl.1 (c_X12_leftOver t12 t3 r14 h15) [] (by decide) rfl kw1055 kw1056 kw79 kw1057 kdX12_leftOver ⟨rfl, rfl⟩ (by rw [hR]; exact ⟨Nat.le_of_ble_eq_true rfl, Nat.le_of_ble_eq_true rfl⟩) ⟨Nat.zero_le _, Nat.zero_le _⟩ rfl rfl (Nat.le_of_ble_eq_true rfl) dX12_backOf_53) hat hP hD hS [] rfl [0, 1, 2, 3] rfl rfl rfl rfl (by decide) (fun H locs hP hD hS => ?_)
    refine lv_aload_n hx hb dX12_backOf_56 rfl (lv_at hl 1 rfl) ?_
    obtain ⟨r16, w17, w18, h19, hf⟩ := kb3_e hf
    refine k_gl (ws' := [(q, .inr (11, [.ref q_w, .int v_known, .int v_kept, .int v_seed, .ref q_imageSeed, .ref q_bookOf, .ref q_bookAt, .ref q_bookIs, .int v_written, .ref q_rs, .ref q_cs, .long v_above, .long v_below, .ref q_zs, .long v_leftAbove, .long v_leftBelow, .long v_guessAbove, .long v_guessBelow, .int v_sign, .int v_power2, .long v_bits])), (q_w, .inl (cI, 418, .inl v_w)), (q_rs, .inl (cI, 4, .inl w17)), (q_cs, .inl (cI, 4, .inl w18))]) (k_runV (rest := [.long r14]) hat hP hD hS hl.1 (c_X12_determinant q q_w q_imageSeed q_bookOf q_bookAt q_bookIs q_rs q_cs q_zs v_known v_kept v_seed v_written v_above v_below v_leftAbove v_leftBelow v_guessAbove v_guessBelow v_sign v_power2 v_bits v_w w9 w10 F r16 w17 w18 h19) [0, 1, 2, 3] (by decide) rfl kw923 kw925 kw21 kw79 kw926 kdVX12_determinant ⟨rfl, rfl⟩ (by rw [hR]; exact ⟨Nat.le_of_ble_eq_true rfl, Nat.le_of_ble_eq_true rfl⟩) ⟨Nat.zero_le _, Nat.zero_le _⟩ 0 11 rfl rfl rfl rfl (Nat.le_of_ble_eq_true rfl) dX12_backOf_57) hat hP hD hS [0, 1, 2, 3] rfl [] rfl rfl rfl rfl (by decide) (fun H locs hP hD hS => ?_)
    refine lv_lload_n hx hb dX12_backOf_60 rfl (lv_at hl 2 rfl) ?_
    obtain ⟨r20, h21, hf⟩ := kb1_e hf
    refine k_gl (ws' := [(q, .inr (11, [.ref q_w, .int v_known, .int v_kept, .int v_seed, .ref q_imageSeed, .ref q_bookOf, .ref q_bookAt, .ref q_bookIs, .int v_written, .ref q_rs, .ref q_cs, .long v_above, .long v_below, .ref q_zs, .long v_leftAbove, .long v_leftBelow, .long v_guessAbove, .long v_guessBelow, .int v_sign, .int v_power2, .long v_bits])), (q_w, .inl (cI, 418, .inl v_w)), (q_rs, .inl (cI, 4, .inl w17)), (q_cs, .inl (cI, 4, .inl w18))]) (k_runS (rest := [.long r14]) hat hP hD hS hl.1 (c_X12_inverse F r16 t3 r20 h21) [] (by decide) rfl kw1052 kw1053 kw79 kw1054 kdX12_inverse ⟨rfl, rfl⟩ (by rw [hR]; exact ⟨Nat.le_of_ble_eq_true rfl, Nat.le_of_ble_eq_true rfl⟩) ⟨Nat.zero_le _, Nat.zero_le _⟩ rfl rfl (Nat.le_of_ble_eq_true rfl) dX12_backOf_61) hat hP hD hS [] rfl [0, 1, 2, 3] rfl rfl rfl rfl (by decide) (fun H locs hP hD hS => ?_)
    refine lv_lmul hx hb dX12_backOf_64 ?_
    refine lv_lload_n hx hb dX12_backOf_65 rfl (lv_at hl 2 rfl) ?_
    obtain ⟨c22, hf⟩ := kc_e hf
    refine lv_lrem hx hb dX12_backOf_66 c22 ?_
    obtain ⟨rfl, rfl, rfl⟩ := ki3 hf
    rw [hQ]
    exact k_lret hat hP hS rfl dX12_backOf_67
  refine lv_if_ne (tgt := 45) hx hb dX12_backOf_37 (by decide) (fun c23 => ?_) (fun c23 => ?_)
  · have hf := kn_e hf c23
    refine lv_lload hx hb dX12_backOf_45 (lv_at hl 0 rfl) ?_
    refine lv_lneg hx hb dX12_backOf_47 ?_
    exact hJ13 (-r8) hf _ _ _ hP hD hS (lv_sub hl [2, 1] rfl)
  · have hf := kp_e hf c23
    refine lv_lload hx hb dX12_backOf_40 (lv_at hl 0 rfl) ?_
    refine lv_goto (tgt := 48) hx hb dX12_backOf_42 (by decide) ?_
    exact hJ13 r8 hf _ _ _ hP hD hS (lv_sub hl [2, 1] rfl)
set_option maxHeartbeats 4000000 in
set_option maxRecDepth 100000 in
theorem c_X12_digitOf {l : Launch} {D : va_G} {cI cJ cQ : ClassId} {tp : Nat} (q : Nat) (q_w : Nat) (q_imageSeed : Nat) (q_bookOf : Nat) (q_bookAt : Nat) (q_bookIs : Nat) (q_rs : Nat) (q_cs : Nat) (q_zs : Nat) (v_known : Int32) (v_kept : Int32) (v_seed : Int32) (v_written : Int32) (v_above : Int64) (v_below : Int64) (v_leftAbove : Int64) (v_leftBelow : Int64) (v_guessAbove : Int64) (v_guessBelow : Int64) (v_sign : Int32) (v_power2 : Int32) (v_bits : Int64) (v_w : (Nat → Int32)) (v_rs : (Nat → Int32)) (v_cs : (Nat → Int32)) (F : Nat) (x1 : Int32) (x2 : Int32) (r0 : Int32) (o_v_above : Int64) (o_v_below : Int64) (o_v_leftAbove : Int64) (o_v_leftBelow : Int64) (o_v_rs : (Nat → Int32)) (o_v_cs : (Nat → Int32)) (hf : f_X12_digitOf F v_above v_below v_leftAbove v_leftBelow v_w v_rs v_cs x1 x2 = some (r0, o_v_above, o_v_below, o_v_leftAbove, o_v_leftBelow, o_v_rs, o_v_cs)) : kM (fun A => kQi D A [(q, .inr (11, [.ref q_w, .int v_known, .int v_kept, .int v_seed, .ref q_imageSeed, .ref q_bookOf, .ref q_bookAt, .ref q_bookIs, .int v_written, .ref q_rs, .ref q_cs, .long o_v_above, .long o_v_below, .ref q_zs, .long o_v_leftAbove, .long o_v_leftBelow, .long v_guessAbove, .long v_guessBelow, .int v_sign, .int v_power2, .long v_bits])), (q_w, .inl (cI, 418, .inl v_w)), (q_rs, .inl (cI, 4, .inl o_v_rs)), (q_cs, .inl (cI, 4, .inl o_v_cs))] r0) (some .int) l yX12_digitOf cX12_digitOf 10 { frames := 10, cells := 0, slots := 0, locals := 236 } D cI cJ cQ tp [.ref q, .int x1, .int x2] [(q, .inr (11, [.ref q_w, .int v_known, .int v_kept, .int v_seed, .ref q_imageSeed, .ref q_bookOf, .ref q_bookAt, .ref q_bookIs, .int v_written, .ref q_rs, .ref q_cs, .long v_above, .long v_below, .ref q_zs, .long v_leftAbove, .long v_leftBelow, .long v_guessAbove, .long v_guessBelow, .int v_sign, .int v_power2, .long v_bits])), (q_w, .inl (cI, 418, .inl v_w)), (q_rs, .inl (cI, 4, .inl v_rs)), (q_cs, .inl (cI, 4, .inl v_cs))] := by
  refine kM_of (by decide) (Nat.le_of_ble_eq_true rfl) ?_
  intro p e s m args below meth c A ls R Q hR hQ hat hP hD hS hl
  obtain ⟨hx, hb, hr, hml, hown, hts, hT, hlk, hK, hA, hZ⟩ := id hat
  have hown : s.vm.findClass RX12 = some m.cls := hown
  have hl : lv_has ls 10 [(0, .ref q), (1, .int x1), (2, .int x2)] := hl
  have hL43 : ∀ (x2 : Int32) (x3 : Int64) (x5 : Int64) (v_known : Int32) (v_kept : Int32) (v_seed : Int32) (v_written : Int32) (v_above : Int64) (v_below : Int64) (v_leftBelow : Int64) (v_guessAbove : Int64) (v_guessBelow : Int64) (v_sign : Int32) (v_power2 : Int32) (v_bits : Int64) (v_w : (Nat → Int32)) (v_rs : (Nat → Int32)) (v_cs : (Nat → Int32)) (fu : Nat) (x7 : Int64) (x9 : Int32) (v_leftAbove : Int64) (o0 : Int64) (o1 : Int64), L_X12_digitOf_43 x2 x3 x5 v_leftBelow fu x7 x9 v_leftAbove = some (o0, o1) → (∀ (H : Heap) (locs : List Loc) (ls : Array Slot), va_P D vwCl [(q, .inr (11, [.ref q_w, .int v_known, .int v_kept, .int v_seed, .ref q_imageSeed, .ref q_bookOf, .ref q_bookAt, .ref q_bookIs, .int v_written, .ref q_rs, .ref q_cs, .long v_above, .long v_below, .ref q_zs, .long o1, .long v_leftBelow, .long v_guessAbove, .long v_guessBelow, .int v_sign, .int v_power2, .long v_bits])), (q_w, .inl (cI, 418, .inl v_w)), (q_rs, .inl (cI, 4, .inl v_rs)), (q_cs, .inl (cI, 4, .inl v_cs))] H → va_D A [(q, .inr (11, [.ref q_w, .int v_known, .int v_kept, .int v_seed, .ref q_imageSeed, .ref q_bookOf, .ref q_bookAt, .ref q_bookIs, .int v_written, .ref q_rs, .ref q_cs, .long v_above, .long v_below, .ref q_zs, .long o1, .long v_leftBelow, .long v_guessAbove, .long v_guessBelow, .int v_sign, .int v_power2, .long v_bits])), (q_w, .inl (cI, 418, .inl v_w)), (q_rs, .inl (cI, 4, .inl v_rs)), (q_cs, .inl (cI, 4, .inl v_cs))] → va_S A s.heap H locs → lv_has ls 10 [(7, .long o0)] → W p l e R s m args below meth c H locs 0 0 Q (F0 m 88 ls [])) → ∀ (H : Heap) (locs : List Loc) (ls : Array Slot), va_P D vwCl [(q, .inr (11, [.ref q_w, .int v_known, .int v_kept, .int v_seed, .ref q_imageSeed, .ref q_bookOf, .ref q_bookAt, .ref q_bookIs, .int v_written, .ref q_rs, .ref q_cs, .long v_above, .long v_below, .ref q_zs, .long v_leftAbove, .long v_leftBelow, .long v_guessAbove, .long v_guessBelow, .int v_sign, .int v_power2, .long v_bits])), (q_w, .inl (cI, 418, .inl v_w)), (q_rs, .inl (cI, 4, .inl v_rs)), (q_cs, .inl (cI, 4, .inl v_cs))] H → va_D A [(q, .inr (11, [.ref q_w, .int v_known, .int v_kept, .int v_seed, .ref q_imageSeed, .ref q_bookOf, .ref q_bookAt, .ref q_bookIs, .int v_written, .ref q_rs, .ref q_cs, .long v_above, .long v_below, .ref q_zs, .long v_leftAbove, .long v_leftBelow, .long v_guessAbove, .long v_guessBelow, .int v_sign, .int v_power2, .long v_bits])), (q_w, .inl (cI, 418, .inl v_w)), (q_rs, .inl (cI, 4, .inl v_rs)), (q_cs, .inl (cI, 4, .inl v_cs))] → va_S A s.heap H locs → lv_has ls 10 [(0, .ref q), (2, .int x2), (3, .long x3), (5, .long x5), (7, .long x7), (9, .int x9)] → W p l e R s m args below meth c H locs 0 0 Q (F0 m 43 ls []) := by
    intro x2 x3 x5 v_known v_kept v_seed v_written v_above v_below v_leftBelow v_guessAbove v_guessBelow v_sign v_power2 v_bits v_w v_rs v_cs fu
    induction fu with
    | zero =>
      intro x7 x9 v_leftAbove o0 o1 hf
      cases hf
    | succ fu ih =>
      intro x7 x9 v_leftAbove o0 o1 hf hk0 H locs ls hP hD hS hl
      rw [L_X12_digitOf_43] at hf
      refine lv_iload hx hb dX12_digitOf_43 (lv_at hl 5 rfl) ?_
      refine lv_iload_n hx hb dX12_digitOf_45 rfl (lv_at hl 1 rfl) ?_
      refine lv_icmp_gt (tgt := 88) hx hb dX12_digitOf_46 (by decide) (fun c11 => ?_) (fun c11 => ?_)
      · have hf := kp_e hf c11
        obtain ⟨rfl, rfl⟩ := ki2 hf
        exact hk0 _ _ _ hP hD hS (lv_sub hl [4] rfl)
      · have hf := kn_e hf c11
        refine lv_aload_n hx hb dX12_digitOf_49 rfl (lv_at hl 0 rfl) ?_
        refine va_get (D := D) (ci := 11) (v := .long v_leftAbove) (C := RX12) (T := TX12) (N := 21) hx hb hts kinX12 hown hK hP 0 rfl rfl 14 (by decide) (hts _ kw858) (fun _ h9 => h9) rfl dX12_digitOf_50 ?_
        refine lv_lload_n hx hb dX12_digitOf_53 rfl (lv_at hl 2 rfl) ?_
        obtain ⟨r12, h13, hf⟩ := kb1_e hf
        refine k_gl (ws' := [(q, .inr (11, [.ref q_w, .int v_known, .int v_kept, .int v_seed, .ref q_imageSeed, .ref q_bookOf, .ref q_bookAt, .ref q_bookIs, .int v_written, .ref q_rs, .ref q_cs, .long v_above, .long v_below, .ref q_zs, .long v_leftAbove, .long v_leftBelow, .long v_guessAbove, .long v_guessBelow, .int v_sign, .int v_power2, .long v_bits])), (q_w, .inl (cI, 418, .inl v_w)), (q_rs, .inl (cI, 4, .inl v_rs)), (q_cs, .inl (cI, 4, .inl v_cs))]) (k_runS (rest := []) hat hP hD hS hl.1 (c_X12_leftOver v_leftAbove x3 r12 h13) [] (by decide) rfl kw1055 kw1056 kw79 kw1057 kdX12_leftOver ⟨rfl, rfl⟩ (by rw [hR]; exact ⟨Nat.le_of_ble_eq_true rfl, Nat.le_of_ble_eq_true rfl⟩) ⟨Nat.zero_le _, Nat.zero_le _⟩ rfl rfl (Nat.le_of_ble_eq_true rfl) dX12_digitOf_54) hat hP hD hS [] rfl [0, 1, 2, 3] rfl rfl rfl rfl (by decide) (fun H locs hP hD hS => ?_)
        refine lv_lload hx hb dX12_digitOf_57 (lv_at hl 3 rfl) ?_
        refine lv_lmul hx hb dX12_digitOf_59 ?_
        refine lv_lload_n hx hb dX12_digitOf_60 rfl (lv_at hl 2 rfl) ?_
        obtain ⟨c14, hf⟩ := kc_e hf
        refine lv_lrem hx hb dX12_digitOf_61 c14 ?_
        refine lv_topl (fun t15 et15 => ?_)
        have hf := kl_e hf t15 et15
        refine lv_lstore (lv' := [(7, .long t15), (0, .ref q), (2, .int x2), (3, .long x3), (5, .long x5), (9, .int x9)]) hx hb dX12_digitOf_62 hl (by decide) rfl (fun ls hl => ?_)
        refine lv_aload_n hx hb dX12_digitOf_64 rfl (lv_at hl 1 rfl) ?_
        refine lv_aload_n hx hb dX12_digitOf_65 rfl (lv_at hl 1 rfl) ?_
        refine va_get (D := D) (ci := 11) (v := .long v_leftAbove) (C := RX12) (T := TX12) (N := 21) hx hb hts kinX12 hown hK hP 0 rfl rfl 14 (by decide) (hts _ kw858) (fun _ h9 => h9) rfl dX12_digitOf_66 ?_
        refine lv_lload hx hb dX12_digitOf_69 (lv_at hl 0 rfl) ?_
        refine lv_aload_n hx hb dX12_digitOf_71 rfl (lv_at hl 1 rfl) ?_
        refine va_get (D := D) (ci := 11) (v := .long v_leftBelow) (C := RX12) (T := TX12) (N := 21) hx hb hts kinX12 hown hK hP 0 rfl rfl 15 (by decide) (hts _ kw859) (fun _ h9 => h9) rfl dX12_digitOf_72 ?_
        refine lv_lmul hx hb dX12_digitOf_75 ?_
        refine lv_lsub hx hb dX12_digitOf_76 ?_
        refine lv_lload_n hx hb dX12_digitOf_77 rfl (lv_at hl 3 rfl) ?_
        obtain ⟨c16, hf⟩ := kc_e hf
        refine lv_ldiv hx hb dX12_digitOf_78 c16 ?_
        refine lv_topl (fun t17 et17 => ?_)
        have hf := kl_e hf t17 et17
        refine va_put (D := D) (ci := 11) (v := .long t17) (ty := .long) (C := RX12) (T := TX12) (N := 21) hx hb hts kinX12 tyX12 tyX12_ok nmX12 hown hK hP hD hS 0 rfl rfl 14 (by decide) (hts _ kw858) (fun _ h9 => h9) rfl (by decide +kernel) rfl rfl (Nat.le_of_ble_eq_true rfl) dX12_digitOf_79 (fun H locs hP hD hS => ?_)
        have hP : va_P D vwCl [(q, .inr (11, [.ref q_w, .int v_known, .int v_kept, .int v_seed, .ref q_imageSeed, .ref q_bookOf, .ref q_bookAt, .ref q_bookIs, .int v_written, .ref q_rs, .ref q_cs, .long v_above, .long v_below, .ref q_zs, .long t17, .long v_leftBelow, .long v_guessAbove, .long v_guessBelow, .int v_sign, .int v_power2, .long v_bits])), (q_w, .inl (cI, 418, .inl v_w)), (q_rs, .inl (cI, 4, .inl v_rs)), (q_cs, .inl (cI, 4, .inl v_cs))] H := hP
        have hD : va_D A [(q, .inr (11, [.ref q_w, .int v_known, .int v_kept, .int v_seed, .ref q_imageSeed, .ref q_bookOf, .ref q_bookAt, .ref q_bookIs, .int v_written, .ref q_rs, .ref q_cs, .long v_above, .long v_below, .ref q_zs, .long t17, .long v_leftBelow, .long v_guessAbove, .long v_guessBelow, .int v_sign, .int v_power2, .long v_bits])), (q_w, .inl (cI, 418, .inl v_w)), (q_rs, .inl (cI, 4, .inl v_rs)), (q_cs, .inl (cI, 4, .inl v_cs))] := hD
        obtain ⟨t18, et18⟩ : ∃ z : Int32, z = (x9 + (1 : Int32)) := ⟨_, rfl⟩
        have hf := kl_e hf t18 et18
        refine lv_iinc (v := t18) (lv' := [(9, .int t18), (7, .long t15), (0, .ref q), (2, .int x2), (3, .long x3), (5, .long x5)]) hx hb dX12_digitOf_82 hl (k := 5) rfl (by rw [et18]; rfl) (by decide) rfl (fun ls hl => ?_)
        refine lv_goto (tgt := 43) hx hb dX12_digitOf_85 (by decide) ?_
        exact ih t15 t18 t17 o0 o1 hf hk0 _ _ _ hP hD hS (lv_sub hl [2, 3, 4, 5, 1, 0] rfl)
  unfold f_X12_digitOf at hf
  refine lv_aload_n hx hb dX12_digitOf_0 rfl (lv_at hl 0 rfl) ?_
  obtain ⟨r1, h2, hf⟩ := kb1_e hf
  refine k_gi (ws' := [(q, .inr (11, [.ref q_w, .int v_known, .int v_kept, .int v_seed, .ref q_imageSeed, .ref q_bookOf, .ref q_bookAt, .ref q_bookIs, .int v_written, .ref q_rs, .ref q_cs, .long v_above, .long v_below, .ref q_zs, .long v_leftAbove, .long v_leftBelow, .long v_guessAbove, .long v_guessBelow, .int v_sign, .int v_power2, .long v_bits])), (q_w, .inl (cI, 418, .inl v_w)), (q_rs, .inl (cI, 4, .inl v_rs)), (q_cs, .inl (cI, 4, .inl v_cs))]) (k_runV (rest := []) hat hP hD hS hl.1 (c_X12_p q q_w q_imageSeed q_bookOf q_bookAt q_bookIs q_rs q_cs q_zs v_known v_kept v_seed v_written v_above v_below v_leftAbove v_leftBelow v_guessAbove v_guessBelow v_sign v_power2 v_bits v_w F r1 h2) [0, 1] (by decide) rfl kw916 kw918 kw20 kw79 kw919 kdVX12_p ⟨rfl, rfl⟩ (by rw [hR]; exact ⟨Nat.le_of_ble_eq_true rfl, Nat.le_of_ble_eq_true rfl⟩) ⟨Nat.zero_le _, Nat.zero_le _⟩ 0 11 rfl rfl rfl rfl (Nat.le_of_ble_eq_true rfl) dX12_digitOf_1) hat hP hD hS [0, 1] rfl [2, 3] rfl rfl rfl rfl (by decide) (fun H locs hP hD hS => ?_)
  refine lv_i2l hx hb dX12_digitOf_4 rfl ?_
  refine lv_topl (fun t3 et3 => ?_)
  have hf := kl_e hf t3 et3
  refine lv_lstore_n (lv' := [(3, .long t3), (0, .ref q), (1, .int x1), (2, .int x2)]) hx hb dX12_digitOf_5 rfl hl (by decide) rfl (fun ls hl => ?_)
  refine lv_aload_n hx hb dX12_digitOf_6 rfl (lv_at hl 1 rfl) ?_
  refine lv_iload_n hx hb dX12_digitOf_7 rfl (lv_at hl 2 rfl) ?_
  obtain ⟨w4, w5, w6, w7, h8, hf⟩ := kb4_e hf
  refine k_gv (ws' := [(q, .inr (11, [.ref q_w, .int v_known, .int v_kept, .int v_seed, .ref q_imageSeed, .ref q_bookOf, .ref q_bookAt, .ref q_bookIs, .int v_written, .ref q_rs, .ref q_cs, .long w4, .long w5, .ref q_zs, .long v_leftAbove, .long v_leftBelow, .long v_guessAbove, .long v_guessBelow, .int v_sign, .int v_power2, .long v_bits])), (q_w, .inl (cI, 418, .inl v_w)), (q_rs, .inl (cI, 4, .inl w6)), (q_cs, .inl (cI, 4, .inl w7))]) (k_runV (rest := []) hat hP hD hS hl.1 (c_X12_laySolution q q_w q_imageSeed q_bookOf q_bookAt q_bookIs q_rs q_cs q_zs v_known v_kept v_seed v_written v_above v_below v_leftAbove v_leftBelow v_guessAbove v_guessBelow v_sign v_power2 v_bits v_w v_rs v_cs F x1 w4 w5 w6 w7 h8) [0, 1, 2, 3] (by decide) rfl kw1048 kw1050 kw47 kw79 kw1051 kdVX12_laySolution ⟨rfl, rfl⟩ (by rw [hR]; exact ⟨Nat.le_of_ble_eq_true rfl, Nat.le_of_ble_eq_true rfl⟩) ⟨Nat.zero_le _, Nat.zero_le _⟩ 0 11 rfl rfl rfl rfl (Nat.le_of_ble_eq_true rfl) dX12_digitOf_8) hat hP hD hS [0, 1, 2, 3] rfl [] rfl rfl rfl rfl (by decide) (fun H locs hP hD hS => ?_)
  refine lv_aload_n hx hb dX12_digitOf_11 rfl (lv_at hl 1 rfl) ?_
  refine lv_aload_n hx hb dX12_digitOf_12 rfl (lv_at hl 1 rfl) ?_
  refine va_get (D := D) (ci := 11) (v := .long w4) (C := RX12) (T := TX12) (N := 21) hx hb hts kinX12 hown hK hP 0 rfl rfl 11 (by decide) (hts _ kw855) (fun _ h9 => h9) rfl dX12_digitOf_13 ?_
  refine va_put (D := D) (ci := 11) (v := .long w4) (ty := .long) (C := RX12) (T := TX12) (N := 21) hx hb hts kinX12 tyX12 tyX12_ok nmX12 hown hK hP hD hS 0 rfl rfl 14 (by decide) (hts _ kw858) (fun _ h9 => h9) rfl (by decide +kernel) rfl rfl (Nat.le_of_ble_eq_true rfl) dX12_digitOf_16 (fun H locs hP hD hS => ?_)
  have hP : va_P D vwCl [(q, .inr (11, [.ref q_w, .int v_known, .int v_kept, .int v_seed, .ref q_imageSeed, .ref q_bookOf, .ref q_bookAt, .ref q_bookIs, .int v_written, .ref q_rs, .ref q_cs, .long w4, .long w5, .ref q_zs, .long w4, .long v_leftBelow, .long v_guessAbove, .long v_guessBelow, .int v_sign, .int v_power2, .long v_bits])), (q_w, .inl (cI, 418, .inl v_w)), (q_rs, .inl (cI, 4, .inl w6)), (q_cs, .inl (cI, 4, .inl w7))] H := hP
  have hD : va_D A [(q, .inr (11, [.ref q_w, .int v_known, .int v_kept, .int v_seed, .ref q_imageSeed, .ref q_bookOf, .ref q_bookAt, .ref q_bookIs, .int v_written, .ref q_rs, .ref q_cs, .long w4, .long w5, .ref q_zs, .long w4, .long v_leftBelow, .long v_guessAbove, .long v_guessBelow, .int v_sign, .int v_power2, .long v_bits])), (q_w, .inl (cI, 418, .inl v_w)), (q_rs, .inl (cI, 4, .inl w6)), (q_cs, .inl (cI, 4, .inl w7))] := hD
  refine lv_aload_n hx hb dX12_digitOf_19 rfl (lv_at hl 1 rfl) ?_
  refine lv_aload_n hx hb dX12_digitOf_20 rfl (lv_at hl 1 rfl) ?_
  refine va_get (D := D) (ci := 11) (v := .long w5) (C := RX12) (T := TX12) (N := 21) hx hb hts kinX12 hown hK hP 0 rfl rfl 12 (by decide) (hts _ kw856) (fun _ h9 => h9) rfl dX12_digitOf_21 ?_
  refine va_put (D := D) (ci := 11) (v := .long w5) (ty := .long) (C := RX12) (T := TX12) (N := 21) hx hb hts kinX12 tyX12 tyX12_ok nmX12 hown hK hP hD hS 0 rfl rfl 15 (by decide) (hts _ kw859) (fun _ h9 => h9) rfl (by decide +kernel) rfl rfl (Nat.le_of_ble_eq_true rfl) dX12_digitOf_24 (fun H locs hP hD hS => ?_)
  have hP : va_P D vwCl [(q, .inr (11, [.ref q_w, .int v_known, .int v_kept, .int v_seed, .ref q_imageSeed, .ref q_bookOf, .ref q_bookAt, .ref q_bookIs, .int v_written, .ref q_rs, .ref q_cs, .long w4, .long w5, .ref q_zs, .long w4, .long w5, .long v_guessAbove, .long v_guessBelow, .int v_sign, .int v_power2, .long v_bits])), (q_w, .inl (cI, 418, .inl v_w)), (q_rs, .inl (cI, 4, .inl w6)), (q_cs, .inl (cI, 4, .inl w7))] H := hP
  have hD : va_D A [(q, .inr (11, [.ref q_w, .int v_known, .int v_kept, .int v_seed, .ref q_imageSeed, .ref q_bookOf, .ref q_bookAt, .ref q_bookIs, .int v_written, .ref q_rs, .ref q_cs, .long w4, .long w5, .ref q_zs, .long w4, .long w5, .long v_guessAbove, .long v_guessBelow, .int v_sign, .int v_power2, .long v_bits])), (q_w, .inl (cI, 418, .inl v_w)), (q_rs, .inl (cI, 4, .inl w6)), (q_cs, .inl (cI, 4, .inl w7))] := hD
  refine lv_aload_n hx hb dX12_digitOf_27 rfl (lv_at hl 1 rfl) ?_
  refine va_get (D := D) (ci := 11) (v := .long w5) (C := RX12) (T := TX12) (N := 21) hx hb hts kinX12 hown hK hP 0 rfl rfl 15 (by decide) (hts _ kw859) (fun _ h9 => h9) rfl dX12_digitOf_28 ?_
  refine lv_lload_n hx hb dX12_digitOf_31 rfl (lv_at hl 0 rfl) ?_
  obtain ⟨r9, h10, hf⟩ := kb1_e hf
  refine k_gl (ws' := [(q, .inr (11, [.ref q_w, .int v_known, .int v_kept, .int v_seed, .ref q_imageSeed, .ref q_bookOf, .ref q_bookAt, .ref q_bookIs, .int v_written, .ref q_rs, .ref q_cs, .long w4, .long w5, .ref q_zs, .long w4, .long w5, .long v_guessAbove, .long v_guessBelow, .int v_sign, .int v_power2, .long v_bits])), (q_w, .inl (cI, 418, .inl v_w)), (q_rs, .inl (cI, 4, .inl w6)), (q_cs, .inl (cI, 4, .inl w7))]) (k_runS (rest := []) hat hP hD hS hl.1 (c_X12_inverse F w5 t3 r9 h10) [] (by decide) rfl kw1052 kw1053 kw79 kw1054 kdX12_inverse ⟨rfl, rfl⟩ (by rw [hR]; exact ⟨Nat.le_of_ble_eq_true rfl, Nat.le_of_ble_eq_true rfl⟩) ⟨Nat.zero_le _, Nat.zero_le _⟩ rfl rfl (Nat.le_of_ble_eq_true rfl) dX12_digitOf_32) hat hP hD hS [] rfl [0, 1, 2, 3] rfl rfl rfl rfl (by decide) (fun H locs hP hD hS => ?_)
  refine lv_lstore (lv' := [(5, .long r9), (3, .long t3), (0, .ref q), (1, .int x1), (2, .int x2)]) hx hb dX12_digitOf_35 hl (by decide) rfl (fun ls hl => ?_)
  refine lv_lconst (v := 0) hx hb dX12_digitOf_37 (by decide) ?_
  refine lv_lstore (lv' := [(7, .long (0 : Int64)), (5, .long r9), (3, .long t3), (0, .ref q), (1, .int x1), (2, .int x2)]) hx hb dX12_digitOf_38 hl (by decide) rfl (fun ls hl => ?_)
  refine lv_iconst (v := 0) hx hb dX12_digitOf_40 (by decide) ?_
  refine lv_istore (lv' := [(9, .int (0 : Int32)), (7, .long (0 : Int64)), (5, .long r9), (3, .long t3), (0, .ref q), (1, .int x1), (2, .int x2)]) hx hb dX12_digitOf_41 hl (by decide) rfl (fun ls hl => ?_)
  obtain ⟨y19, w20, hu, hf⟩ := kb2_e hf
  refine hL43 x2 t3 r9 v_known v_kept v_seed v_written w4 w5 w5 v_guessAbove v_guessBelow v_sign v_power2 v_bits v_w w6 w7 F (0 : Int64) (0 : Int32) w4 y19 w20 hu (fun H locs ls hP hD hS hl => ?_) _ _ _ hP hD hS (lv_sub hl [4, 6, 3, 2, 1, 0] rfl)
  refine lv_lload hx hb dX12_digitOf_88 (lv_at hl 0 rfl) ?_
  refine lv_l2i hx hb dX12_digitOf_90 rfl ?_
  obtain ⟨rfl, rfl, rfl, rfl, rfl, rfl, rfl⟩ := ki7 hf
  rw [hQ]
  exact k_iret hat hP hS rfl dX12_digitOf_91
set_option maxHeartbeats 4000000 in
set_option maxRecDepth 100000 in
theorem c_X12_restOf {l : Launch} {D : va_G} {cI cJ cQ : ClassId} {tp : Nat} (q : Nat) (q_w : Nat) (q_imageSeed : Nat) (q_bookOf : Nat) (q_bookAt : Nat) (q_bookIs : Nat) (q_rs : Nat) (q_cs : Nat) (q_zs : Nat) (v_known : Int32) (v_kept : Int32) (v_seed : Int32) (v_written : Int32) (v_above : Int64) (v_below : Int64) (v_leftAbove : Int64) (v_leftBelow : Int64) (v_guessAbove : Int64) (v_guessBelow : Int64) (v_sign : Int32) (v_power2 : Int32) (v_bits : Int64) (v_w : (Nat → Int32)) (v_rs : (Nat → Int32)) (v_cs : (Nat → Int32)) (F : Nat) (x1 : Int32) (x2 : Int32) (r0 : Int64) (o_v_above : Int64) (o_v_below : Int64) (o_v_leftAbove : Int64) (o_v_leftBelow : Int64) (o_v_rs : (Nat → Int32)) (o_v_cs : (Nat → Int32)) (hf : f_X12_restOf F v_above v_below v_leftAbove v_leftBelow v_w v_rs v_cs x1 x2 = some (r0, o_v_above, o_v_below, o_v_leftAbove, o_v_leftBelow, o_v_rs, o_v_cs)) : kM (fun A => kQl D A [(q, .inr (11, [.ref q_w, .int v_known, .int v_kept, .int v_seed, .ref q_imageSeed, .ref q_bookOf, .ref q_bookAt, .ref q_bookIs, .int v_written, .ref q_rs, .ref q_cs, .long o_v_above, .long o_v_below, .ref q_zs, .long o_v_leftAbove, .long o_v_leftBelow, .long v_guessAbove, .long v_guessBelow, .int v_sign, .int v_power2, .long v_bits])), (q_w, .inl (cI, 418, .inl v_w)), (q_rs, .inl (cI, 4, .inl o_v_rs)), (q_cs, .inl (cI, 4, .inl o_v_cs))] r0) (some .long) l yX12_restOf cX12_restOf 9 { frames := 11, cells := 0, slots := 0, locals := 265 } D cI cJ cQ tp [.ref q, .int x1, .int x2] [(q, .inr (11, [.ref q_w, .int v_known, .int v_kept, .int v_seed, .ref q_imageSeed, .ref q_bookOf, .ref q_bookAt, .ref q_bookIs, .int v_written, .ref q_rs, .ref q_cs, .long v_above, .long v_below, .ref q_zs, .long v_leftAbove, .long v_leftBelow, .long v_guessAbove, .long v_guessBelow, .int v_sign, .int v_power2, .long v_bits])), (q_w, .inl (cI, 418, .inl v_w)), (q_rs, .inl (cI, 4, .inl v_rs)), (q_cs, .inl (cI, 4, .inl v_cs))] := by
  refine kM_of (by decide) (Nat.le_of_ble_eq_true rfl) ?_
  intro p e s m args below meth c A ls R Q hR hQ hat hP hD hS hl
  obtain ⟨hx, hb, hr, hml, hown, hts, hT, hlk, hK, hA, hZ⟩ := id hat
  have hown : s.vm.findClass RX12 = some m.cls := hown
  have hl : lv_has ls 9 [(0, .ref q), (1, .int x1), (2, .int x2)] := hl
  have hL22 : ∀ (x1 : Int32) (x2 : Int32) (x3 : Int64) (v_known : Int32) (v_kept : Int32) (v_seed : Int32) (v_written : Int32) (v_guessAbove : Int64) (v_guessBelow : Int64) (v_sign : Int32) (v_power2 : Int32) (v_bits : Int64) (v_w : (Nat → Int32)) (fu : Nat) (x5 : Int64) (x7 : Int32) (v_above : Int64) (v_below : Int64) (v_leftAbove : Int64) (v_leftBelow : Int64) (v_rs : (Nat → Int32)) (v_cs : (Nat → Int32)) (o0 : Int64) (o1 : Int64) (o2 : Int64) (o3 : Int64) (o4 : Int64) (o5 : (Nat → Int32)) (o6 : (Nat → Int32)), L_X12_restOf_22 F x1 x2 x3 v_w fu x5 x7 v_above v_below v_leftAbove v_leftBelow v_rs v_cs = some (o0, o1, o2, o3, o4, o5, o6) → (∀ (H : Heap) (locs : List Loc) (ls : Array Slot), va_P D vwCl [(q, .inr (11, [.ref q_w, .int v_known, .int v_kept, .int v_seed, .ref q_imageSeed, .ref q_bookOf, .ref q_bookAt, .ref q_bookIs, .int v_written, .ref q_rs, .ref q_cs, .long o1, .long o2, .ref q_zs, .long o3, .long o4, .long v_guessAbove, .long v_guessBelow, .int v_sign, .int v_power2, .long v_bits])), (q_w, .inl (cI, 418, .inl v_w)), (q_rs, .inl (cI, 4, .inl o5)), (q_cs, .inl (cI, 4, .inl o6))] H → va_D A [(q, .inr (11, [.ref q_w, .int v_known, .int v_kept, .int v_seed, .ref q_imageSeed, .ref q_bookOf, .ref q_bookAt, .ref q_bookIs, .int v_written, .ref q_rs, .ref q_cs, .long o1, .long o2, .ref q_zs, .long o3, .long o4, .long v_guessAbove, .long v_guessBelow, .int v_sign, .int v_power2, .long v_bits])), (q_w, .inl (cI, 418, .inl v_w)), (q_rs, .inl (cI, 4, .inl o5)), (q_cs, .inl (cI, 4, .inl o6))] → va_S A s.heap H locs → lv_has ls 9 [(3, .long x3), (5, .long o0)] → W p l e R s m args below meth c H locs 0 0 Q (F0 m 81 ls [])) → ∀ (H : Heap) (locs : List Loc) (ls : Array Slot), va_P D vwCl [(q, .inr (11, [.ref q_w, .int v_known, .int v_kept, .int v_seed, .ref q_imageSeed, .ref q_bookOf, .ref q_bookAt, .ref q_bookIs, .int v_written, .ref q_rs, .ref q_cs, .long v_above, .long v_below, .ref q_zs, .long v_leftAbove, .long v_leftBelow, .long v_guessAbove, .long v_guessBelow, .int v_sign, .int v_power2, .long v_bits])), (q_w, .inl (cI, 418, .inl v_w)), (q_rs, .inl (cI, 4, .inl v_rs)), (q_cs, .inl (cI, 4, .inl v_cs))] H → va_D A [(q, .inr (11, [.ref q_w, .int v_known, .int v_kept, .int v_seed, .ref q_imageSeed, .ref q_bookOf, .ref q_bookAt, .ref q_bookIs, .int v_written, .ref q_rs, .ref q_cs, .long v_above, .long v_below, .ref q_zs, .long v_leftAbove, .long v_leftBelow, .long v_guessAbove, .long v_guessBelow, .int v_sign, .int v_power2, .long v_bits])), (q_w, .inl (cI, 418, .inl v_w)), (q_rs, .inl (cI, 4, .inl v_rs)), (q_cs, .inl (cI, 4, .inl v_cs))] → va_S A s.heap H locs → lv_has ls 9 [(0, .ref q), (1, .int x1), (2, .int x2), (3, .long x3), (5, .long x5), (7, .int x7)] → W p l e R s m args below meth c H locs 0 0 Q (F0 m 22 ls []) := by
    intro x1 x2 x3 v_known v_kept v_seed v_written v_guessAbove v_guessBelow v_sign v_power2 v_bits v_w fu
    induction fu with
    | zero =>
      intro x5 x7 v_above v_below v_leftAbove v_leftBelow v_rs v_cs o0 o1 o2 o3 o4 o5 o6 hf
      cases hf
    | succ fu ih =>
      intro x5 x7 v_above v_below v_leftAbove v_leftBelow v_rs v_cs o0 o1 o2 o3 o4 o5 o6 hf hk0 H locs ls hP hD hS hl
      rw [L_X12_restOf_22] at hf
      refine lv_iload hx hb dX12_restOf_22 (lv_at hl 5 rfl) ?_
      refine lv_aload_n hx hb dX12_restOf_24 rfl (lv_at hl 0 rfl) ?_
      obtain ⟨r6, h7, hf⟩ := kb1_e hf
      refine k_gi (ws' := [(q, .inr (11, [.ref q_w, .int v_known, .int v_kept, .int v_seed, .ref q_imageSeed, .ref q_bookOf, .ref q_bookAt, .ref q_bookIs, .int v_written, .ref q_rs, .ref q_cs, .long v_above, .long v_below, .ref q_zs, .long v_leftAbove, .long v_leftBelow, .long v_guessAbove, .long v_guessBelow, .int v_sign, .int v_power2, .long v_bits])), (q_w, .inl (cI, 418, .inl v_w)), (q_rs, .inl (cI, 4, .inl v_rs)), (q_cs, .inl (cI, 4, .inl v_cs))]) (k_runV (rest := [.int x7]) hat hP hD hS hl.1 (c_X12_n q q_w q_imageSeed q_bookOf q_bookAt q_bookIs q_rs q_cs q_zs v_known v_kept v_seed v_written v_above v_below v_leftAbove v_leftBelow v_guessAbove v_guessBelow v_sign v_power2 v_bits v_w r6 h7) [0, 1] (by decide) rfl kw912 kw914 kw19 kw79 kw915 kdVX12_n ⟨rfl, rfl⟩ (by rw [hR]; exact ⟨Nat.le_of_ble_eq_true rfl, Nat.le_of_ble_eq_true rfl⟩) ⟨Nat.zero_le _, Nat.zero_le _⟩ 0 11 rfl rfl rfl rfl (Nat.le_of_ble_eq_true rfl) dX12_restOf_25) hat hP hD hS [0, 1] rfl [2, 3] rfl rfl rfl rfl (by decide) (fun H locs hP hD hS => ?_)
      refine lv_icmp_ge (tgt := 81) hx hb dX12_restOf_28 (by decide) (fun c8 => ?_) (fun c8 => ?_)
      · have hf := kp_e hf c8
        obtain ⟨rfl, rfl, rfl, rfl, rfl, rfl, rfl⟩ := ki7 hf
        exact hk0 _ _ _ hP hD hS (lv_sub hl [3, 4] rfl)
      · have hf := kn_e hf c8
        refine lv_aload_n hx hb dX12_restOf_31 rfl (lv_at hl 0 rfl) ?_
        refine lv_iload hx hb dX12_restOf_32 (lv_at hl 5 rfl) ?_
        refine lv_iload_n hx hb dX12_restOf_34 rfl (lv_at hl 2 rfl) ?_
        refine lv_iconst (v := 1) hx hb dX12_restOf_35 (by decide) ?_
        refine lv_isub hx hb dX12_restOf_36 ?_
        obtain ⟨r9, w10, w11, w12, w13, w14, w15, h16, hf⟩ := kb7_e hf
        refine k_gi (ws' := [(q, .inr (11, [.ref q_w, .int v_known, .int v_kept, .int v_seed, .ref q_imageSeed, .ref q_bookOf, .ref q_bookAt, .ref q_bookIs, .int v_written, .ref q_rs, .ref q_cs, .long w10, .long w11, .ref q_zs, .long w12, .long w13, .long v_guessAbove, .long v_guessBelow, .int v_sign, .int v_power2, .long v_bits])), (q_w, .inl (cI, 418, .inl v_w)), (q_rs, .inl (cI, 4, .inl w14)), (q_cs, .inl (cI, 4, .inl w15))]) (k_runV (rest := []) hat hP hD hS hl.1 (c_X12_digitOf q q_w q_imageSeed q_bookOf q_bookAt q_bookIs q_rs q_cs q_zs v_known v_kept v_seed v_written v_above v_below v_leftAbove v_leftBelow v_guessAbove v_guessBelow v_sign v_power2 v_bits v_w v_rs v_cs F x7 (x2 - (1 : Int32)) r9 w10 w11 w12 w13 w14 w15 h16) [0, 1, 2, 3] (by decide) rfl kw1073 kw1075 kw51 kw79 kw1076 kdVX12_digitOf ⟨rfl, rfl⟩ (by rw [hR]; exact ⟨Nat.le_of_ble_eq_true rfl, Nat.le_of_ble_eq_true rfl⟩) ⟨Nat.zero_le _, Nat.zero_le _⟩ 0 11 rfl rfl rfl rfl (Nat.le_of_ble_eq_true rfl) dX12_restOf_37) hat hP hD hS [0, 1, 2, 3] rfl [] rfl rfl rfl rfl (by decide) (fun H locs hP hD hS => ?_)
        refine lv_istore (lv' := [(8, .int r9), (0, .ref q), (1, .int x1), (2, .int x2), (3, .long x3), (5, .long x5), (7, .int x7)]) hx hb dX12_restOf_40 hl (by decide) rfl (fun ls hl => ?_)
        refine lv_lload hx hb dX12_restOf_42 (lv_at hl 5 rfl) ?_
        refine lv_iload hx hb dX12_restOf_44 (lv_at hl 0 rfl) ?_
        refine lv_if_ge (tgt := 53) hx hb dX12_restOf_46 (by decide) (fun c17 => ?_) (fun c17 => ?_)
        · have hf := kp_e hf c17
          refine lv_aload_n hx hb dX12_restOf_53 rfl (lv_at hl 1 rfl) ?_
          refine lv_iload_n hx hb dX12_restOf_54 rfl (lv_at hl 2 rfl) ?_
          refine lv_iload hx hb dX12_restOf_55 (lv_at hl 6 rfl) ?_
          obtain ⟨r18, h19, hf⟩ := kb1_e hf
          refine k_gl (ws' := [(q, .inr (11, [.ref q_w, .int v_known, .int v_kept, .int v_seed, .ref q_imageSeed, .ref q_bookOf, .ref q_bookAt, .ref q_bookIs, .int v_written, .ref q_rs, .ref q_cs, .long w10, .long w11, .ref q_zs, .long w12, .long w13, .long v_guessAbove, .long v_guessBelow, .int v_sign, .int v_power2, .long v_bits])), (q_w, .inl (cI, 418, .inl v_w)), (q_rs, .inl (cI, 4, .inl w14)), (q_cs, .inl (cI, 4, .inl w15))]) (k_runV (rest := [.long x5]) hat hP hD hS hl.1 (c_X12_cell q q_w q_imageSeed q_bookOf q_bookAt q_bookIs q_rs q_cs q_zs v_known v_kept v_seed v_written w10 w11 w12 w13 v_guessAbove v_guessBelow v_sign v_power2 v_bits v_w x1 x7 r18 h19) [0, 1] (by decide) rfl kw952 kw954 kw26 kw79 kw955 kdVX12_cell ⟨rfl, rfl⟩ (by rw [hR]; exact ⟨Nat.le_of_ble_eq_true rfl, Nat.le_of_ble_eq_true rfl⟩) ⟨Nat.zero_le _, Nat.zero_le _⟩ 0 11 rfl rfl rfl rfl (Nat.le_of_ble_eq_true rfl) dX12_restOf_57) hat hP hD hS [0, 1] rfl [2, 3] rfl rfl rfl rfl (by decide) (fun H locs hP hD hS => ?_)
          refine lv_aload_n hx hb dX12_restOf_60 rfl (lv_at hl 1 rfl) ?_
          refine va_get (D := D) (ci := 11) (v := .long w12) (C := RX12) (T := TX12) (N := 21) hx hb hts kinX12 hown hK hP 0 rfl rfl 14 (by decide) (hts _ kw858) (fun _ h9 => h9) rfl dX12_restOf_61 ?_
          refine lv_lmul hx hb dX12_restOf_64 ?_
          refine lv_lload_n hx hb dX12_restOf_65 rfl (lv_at hl 4 rfl) ?_
          refine lv_aload_n hx hb dX12_restOf_66 rfl (lv_at hl 1 rfl) ?_
          refine va_get (D := D) (ci := 11) (v := .long w13) (C := RX12) (T := TX12) (N := 21) hx hb hts kinX12 hown hK hP 0 rfl rfl 15 (by decide) (hts _ kw859) (fun _ h9 => h9) rfl dX12_restOf_67 ?_
          obtain ⟨c20, hf⟩ := kc_e hf
          refine lv_ldiv hx hb dX12_restOf_70 c20 ?_
          refine lv_lmul hx hb dX12_restOf_71 ?_
          refine lv_ladd hx hb dX12_restOf_72 ?_
          refine lv_topl (fun t21 et21 => ?_)
          have hf := kl_e hf t21 et21
          refine lv_lstore (lv' := [(5, .long t21), (8, .int r9), (0, .ref q), (1, .int x1), (2, .int x2), (3, .long x3), (7, .int x7)]) hx hb dX12_restOf_73 hl (by decide) rfl (fun ls hl => ?_)
          obtain ⟨t22, et22⟩ : ∃ z : Int32, z = (x7 + (1 : Int32)) := ⟨_, rfl⟩
          have hf := kl_e hf t22 et22
          refine lv_iinc (v := t22) (lv' := [(7, .int t22), (5, .long t21), (8, .int r9), (0, .ref q), (1, .int x1), (2, .int x2), (3, .long x3)]) hx hb dX12_restOf_75 hl (k := 6) rfl (by rw [et22]; rfl) (by decide) rfl (fun ls hl => ?_)
          refine lv_goto (tgt := 22) hx hb dX12_restOf_78 (by decide) ?_
          exact ih t21 t22 w10 w11 w12 w13 w14 w15 o0 o1 o2 o3 o4 o5 o6 hf hk0 _ _ _ hP hD hS (lv_sub hl [3, 4, 5, 6, 1, 0] rfl)
        · have hf := kn_e hf c17
          refine lv_lconst (v := 0) hx hb dX12_restOf_49 (by decide) ?_
          refine lv_goto (tgt := 72) hx hb dX12_restOf_50 (by decide) ?_
          refine lv_ladd hx hb dX12_restOf_72 ?_
          refine lv_topl (fun t23 et23 => ?_)
          have hf := kl_e hf t23 et23
          refine lv_lstore (lv' := [(5, .long t23), (8, .int r9), (0, .ref q), (1, .int x1), (2, .int x2), (3, .long x3), (7, .int x7)]) hx hb dX12_restOf_73 hl (by decide) rfl (fun ls hl => ?_)
          obtain ⟨t24, et24⟩ : ∃ z : Int32, z = (x7 + (1 : Int32)) := ⟨_, rfl⟩
          have hf := kl_e hf t24 et24
          refine lv_iinc (v := t24) (lv' := [(7, .int t24), (5, .long t23), (8, .int r9), (0, .ref q), (1, .int x1), (2, .int x2), (3, .long x3)]) hx hb dX12_restOf_75 hl (k := 6) rfl (by rw [et24]; rfl) (by decide) rfl (fun ls hl => ?_)
          refine lv_goto (tgt := 22) hx hb dX12_restOf_78 (by decide) ?_
          exact ih t23 t24 w10 w11 w12 w13 w14 w15 o0 o1 o2 o3 o4 o5 o6 hf hk0 _ _ _ hP hD hS (lv_sub hl [3, 4, 5, 6, 1, 0] rfl)
  unfold f_X12_restOf at hf
  refine lv_iload_n hx hb dX12_restOf_0 rfl (lv_at hl 2 rfl) ?_
  refine lv_if_ne (tgt := 11) hx hb dX12_restOf_1 (by decide) (fun c1 => ?_) (fun c1 => ?_)
  · have hf := kn_e hf c1
    refine lv_aload_n hx hb dX12_restOf_11 rfl (lv_at hl 0 rfl) ?_
    obtain ⟨r2, w3, w4, h5, hf⟩ := kb3_e hf
    refine k_gl (ws' := [(q, .inr (11, [.ref q_w, .int v_known, .int v_kept, .int v_seed, .ref q_imageSeed, .ref q_bookOf, .ref q_bookAt, .ref q_bookIs, .int v_written, .ref q_rs, .ref q_cs, .long v_above, .long v_below, .ref q_zs, .long v_leftAbove, .long v_leftBelow, .long v_guessAbove, .long v_guessBelow, .int v_sign, .int v_power2, .long v_bits])), (q_w, .inl (cI, 418, .inl v_w)), (q_rs, .inl (cI, 4, .inl w3)), (q_cs, .inl (cI, 4, .inl w4))]) (k_runV (rest := []) hat hP hD hS hl.1 (c_X12_determinant q q_w q_imageSeed q_bookOf q_bookAt q_bookIs q_rs q_cs q_zs v_known v_kept v_seed v_written v_above v_below v_leftAbove v_leftBelow v_guessAbove v_guessBelow v_sign v_power2 v_bits v_w v_rs v_cs F r2 w3 w4 h5) [0, 1, 2, 3] (by decide) rfl kw923 kw925 kw21 kw79 kw926 kdVX12_determinant ⟨rfl, rfl⟩ (by rw [hR]; exact ⟨Nat.le_of_ble_eq_true rfl, Nat.le_of_ble_eq_true rfl⟩) ⟨Nat.zero_le _, Nat.zero_le _⟩ 0 11 rfl rfl rfl rfl (Nat.le_of_ble_eq_true rfl) dX12_restOf_12) hat hP hD hS [0, 1, 2, 3] rfl [] rfl rfl rfl rfl (by decide) (fun H locs hP hD hS => ?_)
    refine lv_lstore_n (lv' := [(3, .long r2), (0, .ref q), (1, .int x1), (2, .int x2)]) hx hb dX12_restOf_15 rfl hl (by decide) rfl (fun ls hl => ?_)
    refine lv_lconst (v := 0) hx hb dX12_restOf_16 (by decide) ?_
    refine lv_lstore (lv' := [(5, .long (0 : Int64)), (3, .long r2), (0, .ref q), (1, .int x1), (2, .int x2)]) hx hb dX12_restOf_17 hl (by decide) rfl (fun ls hl => ?_)
    refine lv_iconst (v := 0) hx hb dX12_restOf_19 (by decide) ?_
    refine lv_istore (lv' := [(7, .int (0 : Int32)), (5, .long (0 : Int64)), (3, .long r2), (0, .ref q), (1, .int x1), (2, .int x2)]) hx hb dX12_restOf_20 hl (by decide) rfl (fun ls hl => ?_)
    obtain ⟨y25, w26, w27, w28, w29, w30, w31, hu, hf⟩ := kb7_e hf
    refine hL22 x1 x2 r2 v_known v_kept v_seed v_written v_guessAbove v_guessBelow v_sign v_power2 v_bits v_w F (0 : Int64) (0 : Int32) v_above v_below v_leftAbove v_leftBelow w3 w4 y25 w26 w27 w28 w29 w30 w31 hu (fun H locs ls hP hD hS hl => ?_) _ _ _ hP hD hS (lv_sub hl [3, 4, 5, 2, 1, 0] rfl)
    refine lv_lload hx hb dX12_restOf_81 (lv_at hl 1 rfl) ?_
    refine lv_lload_n hx hb dX12_restOf_83 rfl (lv_at hl 0 rfl) ?_
    obtain ⟨c32, hf⟩ := kc_e hf
    refine lv_ldiv hx hb dX12_restOf_84 c32 ?_
    obtain ⟨rfl, rfl, rfl, rfl, rfl, rfl, rfl⟩ := ki7 hf
    rw [hQ]
    exact k_lret hat hP hS rfl dX12_restOf_85
  · have hf := kp_e hf c1
    refine lv_aload_n hx hb dX12_restOf_4 rfl (lv_at hl 0 rfl) ?_
    refine lv_iload_n hx hb dX12_restOf_5 rfl (lv_at hl 1 rfl) ?_
    refine lv_iconst (v := 4) hx hb dX12_restOf_6 (by decide) ?_
    obtain ⟨r33, h34, hf⟩ := kb1_e hf
    refine k_gl (ws' := [(q, .inr (11, [.ref q_w, .int v_known, .int v_kept, .int v_seed, .ref q_imageSeed, .ref q_bookOf, .ref q_bookAt, .ref q_bookIs, .int v_written, .ref q_rs, .ref q_cs, .long v_above, .long v_below, .ref q_zs, .long v_leftAbove, .long v_leftBelow, .long v_guessAbove, .long v_guessBelow, .int v_sign, .int v_power2, .long v_bits])), (q_w, .inl (cI, 418, .inl v_w)), (q_rs, .inl (cI, 4, .inl v_rs)), (q_cs, .inl (cI, 4, .inl v_cs))]) (k_runV (rest := []) hat hP hD hS hl.1 (c_X12_cell q q_w q_imageSeed q_bookOf q_bookAt q_bookIs q_rs q_cs q_zs v_known v_kept v_seed v_written v_above v_below v_leftAbove v_leftBelow v_guessAbove v_guessBelow v_sign v_power2 v_bits v_w x1 (4 : Int32) r33 h34) [0, 1] (by decide) rfl kw952 kw954 kw26 kw79 kw955 kdVX12_cell ⟨rfl, rfl⟩ (by rw [hR]; exact ⟨Nat.le_of_ble_eq_true rfl, Nat.le_of_ble_eq_true rfl⟩) ⟨Nat.zero_le _, Nat.zero_le _⟩ 0 11 rfl rfl rfl rfl (Nat.le_of_ble_eq_true rfl) dX12_restOf_7) hat hP hD hS [0, 1] rfl [2, 3] rfl rfl rfl rfl (by decide) (fun H locs hP hD hS => ?_)
    obtain ⟨rfl, rfl, rfl, rfl, rfl, rfl, rfl⟩ := ki7 hf
    rw [hQ]
    exact k_lret hat hP hS rfl dX12_restOf_10
set_option maxHeartbeats 4000000 in
set_option maxRecDepth 100000 in
theorem c_X12_power {l : Launch} {D : va_G} {cI cJ cQ : ClassId} {tp : Nat} (F : Nat) (x0 : Int64) (x2 : Int32) (r0 : Int64) (hf : f_X12_power F x0 x2 = some r0) : kM (fun A => kQl D A [] r0) (some .long) l yX12_power cX12_power 6 { frames := 0, cells := 0, slots := 0, locals := 0 } D cI cJ cQ tp [.long x0, .int x2] [] := by
  refine kM_of (by decide) (Nat.le_of_ble_eq_true rfl) ?_
  intro p e s m args below meth c A ls R Q hR hQ hat hP hD hS hl
  obtain ⟨hx, hb, hr, hml, hown, hts, hT, hlk, hK, hA, hZ⟩ := id hat
  have hown : s.vm.findClass RX12 = some m.cls := hown
  have hl : lv_has ls 6 [(0, .long x0), (2, .int x2)] := hl
  have hL5 : ∀ (x0 : Int64) (x2 : Int32) (fu : Nat) (x3 : Int64) (x5 : Int32) (o0 : Int64), L_X12_power_5 x0 x2 fu x3 x5 = some o0 → (∀ (H : Heap) (locs : List Loc) (ls : Array Slot), va_P D vwCl [] H → va_D A [] → va_S A s.heap H locs → lv_has ls 6 [(3, .long o0)] → W p l e R s m args below meth c H locs 0 0 Q (F0 m 41 ls [])) → ∀ (H : Heap) (locs : List Loc) (ls : Array Slot), va_P D vwCl [] H → va_D A [] → va_S A s.heap H locs → lv_has ls 6 [(0, .long x0), (2, .int x2), (3, .long x3), (5, .int x5)] → W p l e R s m args below meth c H locs 0 0 Q (F0 m 5 ls []) := by
    intro x0 x2 fu
    induction fu with
    | zero =>
      intro x3 x5 o0 hf
      cases hf
    | succ fu ih =>
      intro x3 x5 o0 hf hk0 H locs ls hP hD hS hl
      rw [L_X12_power_5] at hf
      refine lv_iload hx hb dX12_power_5 (lv_at hl 3 rfl) ?_
      refine lv_iload_n hx hb dX12_power_7 rfl (lv_at hl 1 rfl) ?_
      refine lv_icmp_ge (tgt := 41) hx hb dX12_power_8 (by decide) (fun c1 => ?_) (fun c1 => ?_)
      · have hf := kp_e hf c1
        obtain rfl := ki1 hf
        exact hk0 _ _ _ hP hD hS (lv_sub hl [2] rfl)
      · have hf := kn_e hf c1
        refine lv_lload_n hx hb dX12_power_11 rfl (lv_at hl 2 rfl) ?_
        refine lv_lconst (v := 0) hx hb dX12_power_12 (by decide) ?_
        refine k_lcmp_le (tgt := 41) hx hb dX12_power_13 dX12_power_14 (by decide) (fun c2 => ?_) (fun c2 => ?_)
        · have hf := kp_e hf c2
          obtain rfl := ki1 hf
          exact hk0 _ _ _ hP hD hS (lv_sub hl [2] rfl)
        · have hf := kn_e hf c2
          refine lv_lload_n hx hb dX12_power_17 rfl (lv_at hl 2 rfl) ?_
          refine lv_ldc2 hx hb hown (hts _ kw1028) dX12_power_18 ?_
          refine lv_lload_n hx hb dX12_power_21 rfl (lv_at hl 0 rfl) ?_
          obtain ⟨c3, hf⟩ := kc_e hf
          refine lv_ldiv hx hb dX12_power_22 c3 ?_
          refine k_lcmp_le (tgt := 31) hx hb dX12_power_23 dX12_power_24 (by decide) (fun c4 => ?_) (fun c4 => ?_)
          · have hf := kp_e hf c4
            refine lv_lload_n hx hb dX12_power_31 rfl (lv_at hl 2 rfl) ?_
            refine lv_lload_n hx hb dX12_power_32 rfl (lv_at hl 0 rfl) ?_
            refine lv_lmul hx hb dX12_power_33 ?_
            refine lv_topl (fun t5 et5 => ?_)
            have hf := kl_e hf t5 et5
            refine lv_lstore_n (lv' := [(3, .long t5), (0, .long x0), (2, .int x2), (5, .int x5)]) hx hb dX12_power_34 rfl hl (by decide) rfl (fun ls hl => ?_)
            obtain ⟨t6, et6⟩ : ∃ z : Int32, z = (x5 + (1 : Int32)) := ⟨_, rfl⟩
            have hf := kl_e hf t6 et6
            refine lv_iinc (v := t6) (lv' := [(5, .int t6), (3, .long t5), (0, .long x0), (2, .int x2)]) hx hb dX12_power_35 hl (k := 3) rfl (by rw [et6]; rfl) (by decide) rfl (fun ls hl => ?_)
            refine lv_goto (tgt := 5) hx hb dX12_power_38 (by decide) ?_
            exact ih t5 t6 o0 hf hk0 _ _ _ hP hD hS (lv_sub hl [2, 3, 1, 0] rfl)
          · have hf := kn_e hf c4
            refine lv_lconst (v := 0) hx hb dX12_power_27 (by decide) ?_
            refine lv_goto (tgt := 34) hx hb dX12_power_28 (by decide) ?_
            refine lv_lstore_n (lv' := [(3, .long (0 : Int64)), (0, .long x0), (2, .int x2), (5, .int x5)]) hx hb dX12_power_34 rfl hl (by decide) rfl (fun ls hl => ?_)
            obtain ⟨t7, et7⟩ : ∃ z : Int32, z = (x5 + (1 : Int32)) := ⟨_, rfl⟩
            have hf := kl_e hf t7 et7
            refine lv_iinc (v := t7) (lv' := [(5, .int t7), (3, .long (0 : Int64)), (0, .long x0), (2, .int x2)]) hx hb dX12_power_35 hl (k := 3) rfl (by rw [et7]; rfl) (by decide) rfl (fun ls hl => ?_)
            refine lv_goto (tgt := 5) hx hb dX12_power_38 (by decide) ?_
            exact ih (0 : Int64) t7 o0 hf hk0 _ _ _ hP hD hS (lv_sub hl [2, 3, 1, 0] rfl)
  unfold f_X12_power at hf
  refine lv_lconst (v := 1) hx hb dX12_power_0 (by decide) ?_
  refine lv_lstore_n (lv' := [(3, .long (1 : Int64)), (0, .long x0), (2, .int x2)]) hx hb dX12_power_1 rfl hl (by decide) rfl (fun ls hl => ?_)
  refine lv_iconst (v := 0) hx hb dX12_power_2 (by decide) ?_
  refine lv_istore (lv' := [(5, .int (0 : Int32)), (3, .long (1 : Int64)), (0, .long x0), (2, .int x2)]) hx hb dX12_power_3 hl (by decide) rfl (fun ls hl => ?_)
  obtain ⟨y8, hu, hf⟩ := kb1_e hf
  refine hL5 x0 x2 F (1 : Int64) (0 : Int32) y8 hu (fun H locs ls hP hD hS hl => ?_) _ _ _ hP hD hS (lv_sub hl [2, 3, 1, 0] rfl)
  refine lv_lload_n hx hb dX12_power_41 rfl (lv_at hl 0 rfl) ?_
  obtain rfl := ki1 hf
  rw [hQ]
  exact k_lret hat hP hS rfl dX12_power_42
set_option maxHeartbeats 4000000 in
set_option maxRecDepth 100000 in
theorem c_X12_halfRoot {l : Launch} {D : va_G} {cI cJ cQ : ClassId} {tp : Nat} (F : Nat) (x0 : Int64) (r0 : Int64) (hf : f_X12_halfRoot F x0 = some r0) : kM (fun A => kQl D A [] r0) (some .long) l yX12_halfRoot cX12_halfRoot 7 { frames := 0, cells := 0, slots := 0, locals := 0 } D cI cJ cQ tp [.long x0] [] := by
  refine kM_of (by decide) (Nat.le_of_ble_eq_true rfl) ?_
  intro p e s m args below meth c A ls R Q hR hQ hat hP hD hS hl
  obtain ⟨hx, hb, hr, hml, hown, hts, hT, hlk, hK, hA, hZ⟩ := id hat
  have hown : s.vm.findClass RX12 = some m.cls := hown
  have hl : lv_has ls 7 [(0, .long x0)] := hl
  have hL6 : ∀ (x0 : Int64) (fu : Nat) (x2 : Int64) (x4 : Int32) (o0 : Int64), L_X12_halfRoot_6 x0 fu x2 x4 = some o0 → (∀ (H : Heap) (locs : List Loc) (ls : Array Slot), va_P D vwCl [] H → va_D A [] → va_S A s.heap H locs → lv_has ls 7 [(2, .long o0)] → W p l e R s m args below meth c H locs 0 0 Q (F0 m 46 ls [])) → ∀ (H : Heap) (locs : List Loc) (ls : Array Slot), va_P D vwCl [] H → va_D A [] → va_S A s.heap H locs → lv_has ls 7 [(0, .long x0), (2, .long x2), (4, .int x4)] → W p l e R s m args below meth c H locs 0 0 Q (F0 m 6 ls []) := by
    intro x0 fu
    induction fu with
    | zero =>
      intro x2 x4 o0 hf
      cases hf
    | succ fu ih =>
      intro x2 x4 o0 hf hk0 H locs ls hP hD hS hl
      rw [L_X12_halfRoot_6] at hf
      refine lv_iload hx hb dX12_halfRoot_6 (lv_at hl 2 rfl) ?_
      refine lv_if_lt (tgt := 46) hx hb dX12_halfRoot_8 (by decide) (fun c1 => ?_) (fun c1 => ?_)
      · have hf := kp_e hf c1
        obtain rfl := ki1 hf
        exact hk0 _ _ _ hP hD hS (lv_sub hl [1] rfl)
      · have hf := kn_e hf c1
        refine lv_lload_n hx hb dX12_halfRoot_11 rfl (lv_at hl 1 rfl) ?_
        refine lv_lconst (v := 1) hx hb dX12_halfRoot_12 (by decide) ?_
        refine lv_iload hx hb dX12_halfRoot_13 (lv_at hl 2 rfl) ?_
        refine lv_lshl hx hb dX12_halfRoot_15 rfl ?_
        refine lv_ladd hx hb dX12_halfRoot_16 ?_
        refine lv_topl (fun t2 et2 => ?_)
        have hf := kl_e hf t2 et2
        refine lv_lstore (lv' := [(5, .long t2), (0, .long x0), (2, .long x2), (4, .int x4)]) hx hb dX12_halfRoot_17 hl (by decide) rfl (fun ls hl => ?_)
        refine lv_ldc2 hx hb hown (hts _ kw1024) dX12_halfRoot_19 ?_
        refine lv_lload hx hb dX12_halfRoot_22 (lv_at hl 0 rfl) ?_
        refine lv_lmul hx hb dX12_halfRoot_24 ?_
        refine lv_lload hx hb dX12_halfRoot_25 (lv_at hl 0 rfl) ?_
        refine lv_lmul hx hb dX12_halfRoot_27 ?_
        refine lv_lload_n hx hb dX12_halfRoot_28 rfl (lv_at hl 1 rfl) ?_
        refine k_lcmp_ge (tgt := 38) hx hb dX12_halfRoot_29 dX12_halfRoot_30 (by decide) (fun c3 => ?_) (fun c3 => ?_)
        · have hf := kp_e hf c3
          refine lv_lload_n hx hb dX12_halfRoot_38 rfl (lv_at hl 2 rfl) ?_
          refine lv_lstore_n (lv' := [(2, .long x2), (5, .long t2), (0, .long x0), (4, .int x4)]) hx hb dX12_halfRoot_39 rfl hl (by decide) rfl (fun ls hl => ?_)
          obtain ⟨t4, et4⟩ : ∃ z : Int32, z = (x4 + (-1 : Int32)) := ⟨_, rfl⟩
          have hf := kl_e hf t4 et4
          refine lv_iinc (v := t4) (lv' := [(4, .int t4), (2, .long x2), (5, .long t2), (0, .long x0)]) hx hb dX12_halfRoot_40 hl (k := 3) rfl (by rw [et4]; rfl) (by decide) rfl (fun ls hl => ?_)
          refine lv_goto (tgt := 6) hx hb dX12_halfRoot_43 (by decide) ?_
          exact ih x2 t4 o0 hf hk0 _ _ _ hP hD hS (lv_sub hl [3, 1, 0] rfl)
        · have hf := kn_e hf c3
          refine lv_lload hx hb dX12_halfRoot_33 (lv_at hl 0 rfl) ?_
          refine lv_goto (tgt := 39) hx hb dX12_halfRoot_35 (by decide) ?_
          refine lv_lstore_n (lv' := [(2, .long t2), (5, .long t2), (0, .long x0), (4, .int x4)]) hx hb dX12_halfRoot_39 rfl hl (by decide) rfl (fun ls hl => ?_)
          obtain ⟨t5, et5⟩ : ∃ z : Int32, z = (x4 + (-1 : Int32)) := ⟨_, rfl⟩
          have hf := kl_e hf t5 et5
          refine lv_iinc (v := t5) (lv' := [(4, .int t5), (2, .long t2), (5, .long t2), (0, .long x0)]) hx hb dX12_halfRoot_40 hl (k := 3) rfl (by rw [et5]; rfl) (by decide) rfl (fun ls hl => ?_)
          refine lv_goto (tgt := 6) hx hb dX12_halfRoot_43 (by decide) ?_
          exact ih t2 t5 o0 hf hk0 _ _ _ hP hD hS (lv_sub hl [3, 1, 0] rfl)
  unfold f_X12_halfRoot at hf
  refine lv_lconst (v := 0) hx hb dX12_halfRoot_0 (by decide) ?_
  refine lv_lstore_n (lv' := [(2, .long (0 : Int64)), (0, .long x0)]) hx hb dX12_halfRoot_1 rfl hl (by decide) rfl (fun ls hl => ?_)
  refine lv_bipush (v := 30) hx hb dX12_halfRoot_2 (by decide) ?_
  refine lv_istore (lv' := [(4, .int (30 : Int32)), (2, .long (0 : Int64)), (0, .long x0)]) hx hb dX12_halfRoot_4 hl (by decide) rfl (fun ls hl => ?_)
  obtain ⟨y6, hu, hf⟩ := kb1_e hf
  refine hL6 x0 F (0 : Int64) (30 : Int32) y6 hu (fun H locs ls hP hD hS hl => ?_) _ _ _ hP hD hS (lv_sub hl [2, 1, 0] rfl)
  refine lv_lload_n hx hb dX12_halfRoot_46 rfl (lv_at hl 0 rfl) ?_
  obtain rfl := ki1 hf
  rw [hQ]
  exact k_lret hat hP hS rfl dX12_halfRoot_47
