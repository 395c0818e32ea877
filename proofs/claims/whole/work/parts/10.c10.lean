set_option maxHeartbeats 4000000 in
set_option maxRecDepth 100000 in
theorem c_X12_swap {l : Launch} {D : va_G} {cI cJ cQ : ClassId} {tp : Nat} (q : Nat) (q_w : Nat) (q_imageSeed : Nat) (q_bookOf : Nat) (q_bookAt : Nat) (q_bookIs : Nat) (q_rs : Nat) (q_cs : Nat) (q_zs : Nat) (v_known : Int32) (v_kept : Int32) (v_seed : Int32) (v_written : Int32) (v_above : Int64) (v_below : Int64) (v_leftAbove : Int64) (v_leftBelow : Int64) (v_guessAbove : Int64) (v_guessBelow : Int64) (v_sign : Int32) (v_power2 : Int32) (v_bits : Int64) (v_w : (Nat → Int32)) (F : Nat) (x1 : Int32) (x2 : Int32) (r0 : Int32) (o_v_known : Int32) (o_v_w : (Nat → Int32)) (hf : f_X12_swap F v_known v_w x1 x2 = some (r0, o_v_known, o_v_w)) : kM (fun A => kQi D A [(q, .inr (11, [.ref q_w, .int o_v_known, .int v_kept, .int v_seed, .ref q_imageSeed, .ref q_bookOf, .ref q_bookAt, .ref q_bookIs, .int v_written, .ref q_rs, .ref q_cs, .long v_above, .long v_below, .ref q_zs, .long v_leftAbove, .long v_leftBelow, .long v_guessAbove, .long v_guessBelow, .int v_sign, .int v_power2, .long v_bits])), (q_w, .inl (cI, 418, .inl o_v_w))] r0) (some .int) l yX12_swap cX12_swap 5 { frames := 2, cells := 0, slots := 0, locals := 46 } D cI cJ cQ tp [.ref q, .int x1, .int x2] [(q, .inr (11, [.ref q_w, .int v_known, .int v_kept, .int v_seed, .ref q_imageSeed, .ref q_bookOf, .ref q_bookAt, .ref q_bookIs, .int v_written, .ref q_rs, .ref q_cs, .long v_above, .long v_below, .ref q_zs, .long v_leftAbove, .long v_leftBelow, .long v_guessAbove, .long v_guessBelow, .int v_sign, .int v_power2, .long v_bits])), (q_w, .inl (cI, 418, .inl v_w))] := by
  refine kM_of (by decide +kernel) (Nat.le_of_ble_eq_true rfl) ?_
  intro p e s m args below meth c A ls R Q hR hQ hat hP hD hS hl
  obtain ⟨hx, hb, hr, hml, hown, hts, hT, hlk, hK, hA, hZ⟩ := id hat
  have hown : s.vm.findClass RX12 = some m.cls := hown
  have hl : lv_has ls 5 [(0, .ref q), (1, .int x1), (2, .int x2)] := hl
  have hL31 : ∀ (x1 : Int32) (x2 : Int32) (v_known : Int32) (v_kept : Int32) (v_seed : Int32) (v_written : Int32) (v_above : Int64) (v_below : Int64) (v_leftAbove : Int64) (v_leftBelow : Int64) (v_guessAbove : Int64) (v_guessBelow : Int64) (v_sign : Int32) (v_power2 : Int32) (v_bits : Int64) (fu : Nat) (x3 : Int32) (v_w : (Nat → Int32)) (o0 : (Nat → Int32)), L_X12_swap_31 x1 x2 fu x3 v_w = some o0 → (∀ (H : Heap) (locs : List Loc) (ls : Array Slot), va_P D vwCl [(q, .inr (11, [.ref q_w, .int v_known, .int v_kept, .int v_seed, .ref q_imageSeed, .ref q_bookOf, .ref q_bookAt, .ref q_bookIs, .int v_written, .ref q_rs, .ref q_cs, .long v_above, .long v_below, .ref q_zs, .long v_leftAbove, .long v_leftBelow, .long v_guessAbove, .long v_guessBelow, .int v_sign, .int v_power2, .long v_bits])), (q_w, .inl (cI, 418, .inl o0))] H → va_D A [(q, .inr (11, [.ref q_w, .int v_known, .int v_kept, .int v_seed, .ref q_imageSeed, .ref q_bookOf, .ref q_bookAt, .ref q_bookIs, .int v_written, .ref q_rs, .ref q_cs, .long v_above, .long v_below, .ref q_zs, .long v_leftAbove, .long v_leftBelow, .long v_guessAbove, .long v_guessBelow, .int v_sign, .int v_power2, .long v_bits])), (q_w, .inl (cI, 418, .inl o0))] → va_S A s.heap H locs → lv_has ls 5 [] → W p l e R s m args below meth c H locs 0 0 Q (F0 m 72 ls [])) → ∀ (H : Heap) (locs : List Loc) (ls : Array Slot), va_P D vwCl [(q, .inr (11, [.ref q_w, .int v_known, .int v_kept, .int v_seed, .ref q_imageSeed, .ref q_bookOf, .ref q_bookAt, .ref q_bookIs, .int v_written, .ref q_rs, .ref q_cs, .long v_above, .long v_below, .ref q_zs, .long v_leftAbove, .long v_leftBelow, .long v_guessAbove, .long v_guessBelow, .int v_sign, .int v_power2, .long v_bits])), (q_w, .inl (cI, 418, .inl v_w))] H → va_D A [(q, .inr (11, [.ref q_w, .int v_known, .int v_kept, .int v_seed, .ref q_imageSeed, .ref q_bookOf, .ref q_bookAt, .ref q_bookIs, .int v_written, .ref q_rs, .ref q_cs, .long v_above, .long v_below, .ref q_zs, .long v_leftAbove, .long v_leftBelow, .long v_guessAbove, .long v_guessBelow, .int v_sign, .int v_power2, .long v_bits])), (q_w, .inl (cI, 418, .inl v_w))] → va_S A s.heap H locs → lv_has ls 5 [(0, .ref q), (1, .int x1), (2, .int x2), (3, .int x3)] → W p l e R s m args below meth c H locs 0 0 Q (F0 m 31 ls []) := by
    intro x1 x2 v_known v_kept v_seed v_written v_above v_below v_leftAbove v_leftBelow v_guessAbove v_guessBelow v_sign v_power2 v_bits fu
    induction fu with
    | zero =>
      intro x3 v_w o0 hf
      cases hf
    | succ fu ih =>
      intro x3 v_w o0 hf hk0 H locs ls hP hD hS hl
      rw [L_X12_swap_31] at hf
      refine lv_iload_n hx hb dX12_swap_31 rfl (lv_at hl 3 rfl) ?_
      refine lv_iconst (v := 5) hx hb dX12_swap_32 (by decide) ?_
      refine lv_icmp_ge (tgt := 72) hx hb dX12_swap_33 (by decide) (fun c11 => ?_) (fun c11 => ?_)
      · have hf := kp_e hf c11
        obtain rfl := ki1 hf
        exact hk0 _ _ _ hP hD hS (lv_sub hl [] rfl)
      · have hf := kn_e hf c11
        refine lv_aload_n hx hb dX12_swap_36 rfl (lv_at hl 0 rfl) ?_
        refine lv_iload_n hx hb dX12_swap_37 rfl (lv_at hl 1 rfl) ?_
        refine lv_iload_n hx hb dX12_swap_38 rfl (lv_at hl 3 rfl) ?_
        obtain ⟨r12, h13, hf⟩ := kb1_e hf
        refine k_gl (nW := 2) (ws' := [(q, .inr (11, [.ref q_w, .int v_known, .int v_kept, .int v_seed, .ref q_imageSeed, .ref q_bookOf, .ref q_bookAt, .ref q_bookIs, .int v_written, .ref q_rs, .ref q_cs, .long v_above, .long v_below, .ref q_zs, .long v_leftAbove, .long v_leftBelow, .long v_guessAbove, .long v_guessBelow, .int v_sign, .int v_power2, .long v_bits])), (q_w, .inl (cI, 418, .inl v_w))]) (wr := []) (k_runV (rest := []) hat hP hD hS hl.1 (c_X12_cell q q_w q_imageSeed q_bookOf q_bookAt q_bookIs q_rs q_cs q_zs v_known v_kept v_seed v_written v_above v_below v_leftAbove v_leftBelow v_guessAbove v_guessBelow v_sign v_power2 v_bits v_w x1 x3 r12 h13) [0, 1] (by decide) rfl kw952 kw954 kw26 kw79 kw955 kdVX12_cell ⟨rfl, rfl⟩ (by rw [hR]; exact ⟨Nat.le_of_ble_eq_true rfl, Nat.le_of_ble_eq_true rfl⟩) ⟨Nat.zero_le _, Nat.zero_le _⟩ 0 11 rfl rfl rfl rfl (Nat.le_of_ble_eq_true rfl) dX12_swap_39) hat hP hD hS [0, 1] rfl [] rfl rfl rfl rfl rfl (by decide) (fun H locs hP hD hS => ?_)
        refine lv_l2i hx hb dX12_swap_42 rfl ?_
        refine lv_topi (fun t14 et14 => ?_)
        have hf := kl_e hf t14 et14
        refine lv_istore (lv' := [(4, .int t14), (0, .ref q), (1, .int x1), (2, .int x2), (3, .int x3)]) hx hb dX12_swap_43 hl (by decide) rfl (fun ls hl => ?_)
        refine lv_aload_n hx hb dX12_swap_45 rfl (lv_at hl 1 rfl) ?_
        refine lv_iload_n hx hb dX12_swap_46 rfl (lv_at hl 2 rfl) ?_
        refine lv_iload_n hx hb dX12_swap_47 rfl (lv_at hl 4 rfl) ?_
        refine lv_aload_n hx hb dX12_swap_48 rfl (lv_at hl 1 rfl) ?_
        refine lv_iload_n hx hb dX12_swap_49 rfl (lv_at hl 3 rfl) ?_
        refine lv_iload_n hx hb dX12_swap_50 rfl (lv_at hl 4 rfl) ?_
        obtain ⟨r15, h16, hf⟩ := kb1_e hf
        refine k_gl (nW := 2) (ws' := [(q, .inr (11, [.ref q_w, .int v_known, .int v_kept, .int v_seed, .ref q_imageSeed, .ref q_bookOf, .ref q_bookAt, .ref q_bookIs, .int v_written, .ref q_rs, .ref q_cs, .long v_above, .long v_below, .ref q_zs, .long v_leftAbove, .long v_leftBelow, .long v_guessAbove, .long v_guessBelow, .int v_sign, .int v_power2, .long v_bits])), (q_w, .inl (cI, 418, .inl v_w))]) (wr := []) (k_runV (rest := [.int x3, .int x1, .ref q]) hat hP hD hS hl.1 (c_X12_cell q q_w q_imageSeed q_bookOf q_bookAt q_bookIs q_rs q_cs q_zs v_known v_kept v_seed v_written v_above v_below v_leftAbove v_leftBelow v_guessAbove v_guessBelow v_sign v_power2 v_bits v_w x2 x3 r15 h16) [0, 1] (by decide) rfl kw952 kw954 kw26 kw79 kw955 kdVX12_cell ⟨rfl, rfl⟩ (by rw [hR]; exact ⟨Nat.le_of_ble_eq_true rfl, Nat.le_of_ble_eq_true rfl⟩) ⟨Nat.zero_le _, Nat.zero_le _⟩ 0 11 rfl rfl rfl rfl (Nat.le_of_ble_eq_true rfl) dX12_swap_51) hat hP hD hS [0, 1] rfl [] rfl rfl rfl rfl rfl (by decide) (fun H locs hP hD hS => ?_)
        refine lv_l2i hx hb dX12_swap_54 rfl ?_
        obtain ⟨w17, h18, hf⟩ := kb1_e hf
        refine k_gv (nW := 2) (ws' := [(q, .inr (11, [.ref q_w, .int v_known, .int v_kept, .int v_seed, .ref q_imageSeed, .ref q_bookOf, .ref q_bookAt, .ref q_bookIs, .int v_written, .ref q_rs, .ref q_cs, .long v_above, .long v_below, .ref q_zs, .long v_leftAbove, .long v_leftBelow, .long v_guessAbove, .long v_guessBelow, .int v_sign, .int v_power2, .long v_bits])), (q_w, .inl (cI, 418, .inl w17))]) (wr := []) (k_runV (rest := []) hat hP hD hS hl.1 (c_X12_set q q_w q_imageSeed q_bookOf q_bookAt q_bookIs q_rs q_cs q_zs v_known v_kept v_seed v_written v_above v_below v_leftAbove v_leftBelow v_guessAbove v_guessBelow v_sign v_power2 v_bits v_w x1 x3 (r15.toInt32) w17 h18) [0, 1] (by decide) rfl kw1203 kw1205 kw64 kw79 kw1206 kdVX12_set ⟨rfl, rfl⟩ (by rw [hR]; exact ⟨Nat.le_of_ble_eq_true rfl, Nat.le_of_ble_eq_true rfl⟩) ⟨Nat.zero_le _, Nat.zero_le _⟩ 0 11 rfl rfl rfl rfl (Nat.le_of_ble_eq_true rfl) dX12_swap_55) hat hP hD hS [0, 1] rfl [] rfl rfl rfl rfl rfl (by decide) (fun H locs hP hD hS => ?_)
        refine lv_aload_n hx hb dX12_swap_58 rfl (lv_at hl 1 rfl) ?_
        refine lv_iload_n hx hb dX12_swap_59 rfl (lv_at hl 3 rfl) ?_
        refine lv_iload_n hx hb dX12_swap_60 rfl (lv_at hl 4 rfl) ?_
        refine lv_iload hx hb dX12_swap_61 (lv_at hl 0 rfl) ?_
        obtain ⟨w19, h20, hf⟩ := kb1_e hf
        refine k_gv (nW := 2) (ws' := [(q, .inr (11, [.ref q_w, .int v_known, .int v_kept, .int v_seed, .ref q_imageSeed, .ref q_bookOf, .ref q_bookAt, .ref q_bookIs, .int v_written, .ref q_rs, .ref q_cs, .long v_above, .long v_below, .ref q_zs, .long v_leftAbove, .long v_leftBelow, .long v_guessAbove, .long v_guessBelow, .int v_sign, .int v_power2, .long v_bits])), (q_w, .inl (cI, 418, .inl w19))]) (wr := []) (k_runV (rest := []) hat hP hD hS hl.1 (c_X12_set q q_w q_imageSeed q_bookOf q_bookAt q_bookIs q_rs q_cs q_zs v_known v_kept v_seed v_written v_above v_below v_leftAbove v_leftBelow v_guessAbove v_guessBelow v_sign v_power2 v_bits w17 x2 x3 t14 w19 h20) [0, 1] (by decide) rfl kw1203 kw1205 kw64 kw79 kw1206 kdVX12_set ⟨rfl, rfl⟩ (by rw [hR]; exact ⟨Nat.le_of_ble_eq_true rfl, Nat.le_of_ble_eq_true rfl⟩) ⟨Nat.zero_le _, Nat.zero_le _⟩ 0 11 rfl rfl rfl rfl (Nat.le_of_ble_eq_true rfl) dX12_swap_63) hat hP hD hS [0, 1] rfl [] rfl rfl rfl rfl rfl (by decide) (fun H locs hP hD hS => ?_)
        obtain ⟨t21, et21⟩ : ∃ z : Int32, z = (x3 + (1 : Int32)) := ⟨_, rfl⟩
        have hf := kl_e hf t21 et21
        refine lv_iinc (v := t21) (lv' := [(3, .int t21), (4, .int t14), (0, .ref q), (1, .int x1), (2, .int x2)]) hx hb dX12_swap_66 hl (k := 4) rfl (by rw [et21]; rfl) (by decide) rfl (fun ls hl => ?_)
        refine lv_goto (tgt := 31) hx hb dX12_swap_69 (by decide) ?_
        exact ih t21 w19 o0 hf hk0 _ _ _ hP hD hS (lv_sub hl [2, 3, 4, 0] rfl)
  unfold f_X12_swap at hf
  refine lv_aload_n hx hb dX12_swap_0 rfl (lv_at hl 0 rfl) ?_
  refine lv_iload_n hx hb dX12_swap_1 rfl (lv_at hl 1 rfl) ?_
  obtain ⟨r1, h2, hf⟩ := kb1_e hf
  refine k_gi (nW := 2) (ws' := [(q, .inr (11, [.ref q_w, .int v_known, .int v_kept, .int v_seed, .ref q_imageSeed, .ref q_bookOf, .ref q_bookAt, .ref q_bookIs, .int v_written, .ref q_rs, .ref q_cs, .long v_above, .long v_below, .ref q_zs, .long v_leftAbove, .long v_leftBelow, .long v_guessAbove, .long v_guessBelow, .int v_sign, .int v_power2, .long v_bits])), (q_w, .inl (cI, 418, .inl v_w))]) (wr := []) (k_runV (rest := []) hat hP hD hS hl.1 (c_X12_isRow q q_w q_imageSeed q_bookOf q_bookAt q_bookIs q_rs q_cs q_zs v_known v_kept v_seed v_written v_above v_below v_leftAbove v_leftBelow v_guessAbove v_guessBelow v_sign v_power2 v_bits v_w x1 r1 h2) [0, 1] (by decide) rfl kw1069 kw1071 kw50 kw79 kw1072 kdVX12_isRow ⟨rfl, rfl⟩ (by rw [hR]; exact ⟨Nat.le_of_ble_eq_true rfl, Nat.le_of_ble_eq_true rfl⟩) ⟨Nat.zero_le _, Nat.zero_le _⟩ 0 11 rfl rfl rfl rfl (Nat.le_of_ble_eq_true rfl) dX12_swap_2) hat hP hD hS [0, 1] rfl [] rfl rfl rfl rfl rfl (by decide) (fun H locs hP hD hS => ?_)
  refine lv_if_eq (tgt := 21) hx hb dX12_swap_5 (by decide) (fun c3 => ?_) (fun c3 => ?_)
  · have hf := kp_e hf c3
    refine lv_ldcw hx hb hown (hts _ kw1082) dX12_swap_21 ?_
    obtain ⟨rfl, rfl, rfl⟩ := ki3 hf
    rw [hQ]
    exact k_iret hat hP hS rfl dX12_swap_24
  · have hf := kn_e hf c3
    refine lv_aload_n hx hb dX12_swap_8 rfl (lv_at hl 0 rfl) ?_
    refine lv_iload_n hx hb dX12_swap_9 rfl (lv_at hl 2 rfl) ?_
    obtain ⟨r4, h5, hf⟩ := kb1_e hf
    refine k_gi (nW := 2) (ws' := [(q, .inr (11, [.ref q_w, .int v_known, .int v_kept, .int v_seed, .ref q_imageSeed, .ref q_bookOf, .ref q_bookAt, .ref q_bookIs, .int v_written, .ref q_rs, .ref q_cs, .long v_above, .long v_below, .ref q_zs, .long v_leftAbove, .long v_leftBelow, .long v_guessAbove, .long v_guessBelow, .int v_sign, .int v_power2, .long v_bits])), (q_w, .inl (cI, 418, .inl v_w))]) (wr := []) (k_runV (rest := []) hat hP hD hS hl.1 (c_X12_isRow q q_w q_imageSeed q_bookOf q_bookAt q_bookIs q_rs q_cs q_zs v_known v_kept v_seed v_written v_above v_below v_leftAbove v_leftBelow v_guessAbove v_guessBelow v_sign v_power2 v_bits v_w x2 r4 h5) [0, 1] (by decide) rfl kw1069 kw1071 kw50 kw79 kw1072 kdVX12_isRow ⟨rfl, rfl⟩ (by rw [hR]; exact ⟨Nat.le_of_ble_eq_true rfl, Nat.le_of_ble_eq_true rfl⟩) ⟨Nat.zero_le _, Nat.zero_le _⟩ 0 11 rfl rfl rfl rfl (Nat.le_of_ble_eq_true rfl) dX12_swap_10) hat hP hD hS [0, 1] rfl [] rfl rfl rfl rfl rfl (by decide) (fun H locs hP hD hS => ?_)
    refine lv_if_eq (tgt := 21) hx hb dX12_swap_13 (by decide) (fun c6 => ?_) (fun c6 => ?_)
    · have hf := kp_e hf c6
      refine lv_ldcw hx hb hown (hts _ kw1082) dX12_swap_21 ?_
      obtain ⟨rfl, rfl, rfl⟩ := ki3 hf
      rw [hQ]
      exact k_iret hat hP hS rfl dX12_swap_24
    · have hf := kn_e hf c6
      refine lv_iload_n hx hb dX12_swap_16 rfl (lv_at hl 1 rfl) ?_
      refine lv_iload_n hx hb dX12_swap_17 rfl (lv_at hl 2 rfl) ?_
      refine lv_icmp_ne (tgt := 25) hx hb dX12_swap_18 (by decide) (fun c7 => ?_) (fun c7 => ?_)
      · have hf := kn_e hf c7
        refine lv_aload_n hx hb dX12_swap_25 rfl (lv_at hl 0 rfl) ?_
        obtain ⟨w8, w9, h10, hf⟩ := kb2_e hf
        refine k_gv (nW := 2) (ws' := [(q, .inr (11, [.ref q_w, .int w8, .int v_kept, .int v_seed, .ref q_imageSeed, .ref q_bookOf, .ref q_bookAt, .ref q_bookIs, .int v_written, .ref q_rs, .ref q_cs, .long v_above, .long v_below, .ref q_zs, .long v_leftAbove, .long v_leftBelow, .long v_guessAbove, .long v_guessBelow, .int v_sign, .int v_power2, .long v_bits])), (q_w, .inl (cI, 418, .inl w9))]) (wr := []) (k_runV (rest := []) hat hP hD hS hl.1 (c_X12_remember q q_w q_imageSeed q_bookOf q_bookAt q_bookIs q_rs q_cs q_zs v_known v_kept v_seed v_written v_above v_below v_leftAbove v_leftBelow v_guessAbove v_guessBelow v_sign v_power2 v_bits v_w F w8 w9 h10) [0, 1] (by decide) rfl kw1189 kw1191 kw62 kw79 kw1192 kdVX12_remember ⟨rfl, rfl⟩ (by rw [hR]; exact ⟨Nat.le_of_ble_eq_true rfl, Nat.le_of_ble_eq_true rfl⟩) ⟨Nat.zero_le _, Nat.zero_le _⟩ 0 11 rfl rfl rfl rfl (Nat.le_of_ble_eq_true rfl) dX12_swap_26) hat hP hD hS [0, 1] rfl [] rfl rfl rfl rfl rfl (by decide) (fun H locs hP hD hS => ?_)
        refine lv_iconst (v := 0) hx hb dX12_swap_29 (by decide) ?_
        refine lv_istore_n (lv' := [(3, .int (0 : Int32)), (0, .ref q), (1, .int x1), (2, .int x2)]) hx hb dX12_swap_30 rfl hl (by decide) rfl (fun ls hl => ?_)
        obtain ⟨w22, hu, hf⟩ := kb1_e hf
        refine hL31 x1 x2 w8 v_kept v_seed v_written v_above v_below v_leftAbove v_leftBelow v_guessAbove v_guessBelow v_sign v_power2 v_bits F (0 : Int32) w9 w22 hu (fun H locs ls hP hD hS hl => ?_) _ _ _ hP hD hS (lv_sub hl [1, 2, 3, 0] rfl)
        refine lv_iconst (v := 1) hx hb dX12_swap_72 (by decide) ?_
        obtain ⟨rfl, rfl, rfl⟩ := ki3 hf
        rw [hQ]
        exact k_iret hat hP hS rfl dX12_swap_73
      · have hf := kp_e hf c7
        refine lv_ldcw hx hb hown (hts _ kw1082) dX12_swap_21 ?_
        obtain ⟨rfl, rfl, rfl⟩ := ki3 hf
        rw [hQ]
        exact k_iret hat hP hS rfl dX12_swap_24
set_option maxHeartbeats 4000000 in
set_option maxRecDepth 100000 in
theorem c_X12_mix {l : Launch} {D : va_G} {cI cJ cQ : ClassId} {tp : Nat} (q : Nat) (q_w : Nat) (q_imageSeed : Nat) (q_bookOf : Nat) (q_bookAt : Nat) (q_bookIs : Nat) (q_rs : Nat) (q_cs : Nat) (q_zs : Nat) (v_known : Int32) (v_kept : Int32) (v_seed : Int32) (v_written : Int32) (v_above : Int64) (v_below : Int64) (v_leftAbove : Int64) (v_leftBelow : Int64) (v_guessAbove : Int64) (v_guessBelow : Int64) (v_sign : Int32) (v_power2 : Int32) (v_bits : Int64) (v_w : (Nat → Int32)) (F : Nat) (x1 : Int32) (x2 : Int32) (x3 : Int32) (r0 : Int32) (o_v_known : Int32) (o_v_w : (Nat → Int32)) (hf : f_X12_mix F v_known v_w x1 x2 x3 = some (r0, o_v_known, o_v_w)) : kM (fun A => kQi D A [(q, .inr (11, [.ref q_w, .int o_v_known, .int v_kept, .int v_seed, .ref q_imageSeed, .ref q_bookOf, .ref q_bookAt, .ref q_bookIs, .int v_written, .ref q_rs, .ref q_cs, .long v_above, .long v_below, .ref q_zs, .long v_leftAbove, .long v_leftBelow, .long v_guessAbove, .long v_guessBelow, .int v_sign, .int v_power2, .long v_bits])), (q_w, .inl (cI, 418, .inl o_v_w))] r0) (some .int) l yX12_mix cX12_mix 6 { frames := 2, cells := 0, slots := 0, locals := 46 } D cI cJ cQ tp [.ref q, .int x1, .int x2, .int x3] [(q, .inr (11, [.ref q_w, .int v_known, .int v_kept, .int v_seed, .ref q_imageSeed, .ref q_bookOf, .ref q_bookAt, .ref q_bookIs, .int v_written, .ref q_rs, .ref q_cs, .long v_above, .long v_below, .ref q_zs, .long v_leftAbove, .long v_leftBelow, .long v_guessAbove, .long v_guessBelow, .int v_sign, .int v_power2, .long v_bits])), (q_w, .inl (cI, 418, .inl v_w))] := by
  refine kM_of (by decide +kernel) (Nat.le_of_ble_eq_true rfl) ?_
  intro p e s m args below meth c A ls R Q hR hQ hat hP hD hS hl
  obtain ⟨hx, hb, hr, hml, hown, hts, hT, hlk, hK, hA, hZ⟩ := id hat
  have hown : s.vm.findClass RX12 = some m.cls := hown
  have hl : lv_has ls 6 [(0, .ref q), (1, .int x1), (2, .int x2), (3, .int x3)] := hl
  have hL45 : ∀ (x1 : Int32) (x2 : Int32) (x3 : Int32) (v_known : Int32) (v_kept : Int32) (v_seed : Int32) (v_written : Int32) (v_above : Int64) (v_below : Int64) (v_leftAbove : Int64) (v_leftBelow : Int64) (v_guessAbove : Int64) (v_guessBelow : Int64) (v_sign : Int32) (v_power2 : Int32) (v_bits : Int64) (v_w : (Nat → Int32)) (fu : Nat) (x4 : Int32) (u : Unit ⊕ Unit), L_X12_mix_45 x1 x2 x3 v_w fu x4 = some u → (u = .inl () → ∀ (H : Heap) (locs : List Loc) (ls : Array Slot), va_P D vwCl [(q, .inr (11, [.ref q_w, .int v_known, .int v_kept, .int v_seed, .ref q_imageSeed, .ref q_bookOf, .ref q_bookAt, .ref q_bookIs, .int v_written, .ref q_rs, .ref q_cs, .long v_above, .long v_below, .ref q_zs, .long v_leftAbove, .long v_leftBelow, .long v_guessAbove, .long v_guessBelow, .int v_sign, .int v_power2, .long v_bits])), (q_w, .inl (cI, 418, .inl v_w))] H → va_D A [(q, .inr (11, [.ref q_w, .int v_known, .int v_kept, .int v_seed, .ref q_imageSeed, .ref q_bookOf, .ref q_bookAt, .ref q_bookIs, .int v_written, .ref q_rs, .ref q_cs, .long v_above, .long v_below, .ref q_zs, .long v_leftAbove, .long v_leftBelow, .long v_guessAbove, .long v_guessBelow, .int v_sign, .int v_power2, .long v_bits])), (q_w, .inl (cI, 418, .inl v_w))] → va_S A s.heap H locs → lv_has ls 6 [] → W p l e R s m args below meth c H locs 0 0 Q (F0 m 97 ls [])) → (u = .inr () → ∀ (H : Heap) (locs : List Loc) (ls : Array Slot), va_P D vwCl [(q, .inr (11, [.ref q_w, .int v_known, .int v_kept, .int v_seed, .ref q_imageSeed, .ref q_bookOf, .ref q_bookAt, .ref q_bookIs, .int v_written, .ref q_rs, .ref q_cs, .long v_above, .long v_below, .ref q_zs, .long v_leftAbove, .long v_leftBelow, .long v_guessAbove, .long v_guessBelow, .int v_sign, .int v_power2, .long v_bits])), (q_w, .inl (cI, 418, .inl v_w))] H → va_D A [(q, .inr (11, [.ref q_w, .int v_known, .int v_kept, .int v_seed, .ref q_imageSeed, .ref q_bookOf, .ref q_bookAt, .ref q_bookIs, .int v_written, .ref q_rs, .ref q_cs, .long v_above, .long v_below, .ref q_zs, .long v_leftAbove, .long v_leftBelow, .long v_guessAbove, .long v_guessBelow, .int v_sign, .int v_power2, .long v_bits])), (q_w, .inl (cI, 418, .inl v_w))] → va_S A s.heap H locs → lv_has ls 6 [(0, .ref q), (1, .int x1), (2, .int x2), (3, .int x3)] → W p l e R s m args below meth c H locs 0 0 Q (F0 m 107 ls [])) → ∀ (H : Heap) (locs : List Loc) (ls : Array Slot), va_P D vwCl [(q, .inr (11, [.ref q_w, .int v_known, .int v_kept, .int v_seed, .ref q_imageSeed, .ref q_bookOf, .ref q_bookAt, .ref q_bookIs, .int v_written, .ref q_rs, .ref q_cs, .long v_above, .long v_below, .ref q_zs, .long v_leftAbove, .long v_leftBelow, .long v_guessAbove, .long v_guessBelow, .int v_sign, .int v_power2, .long v_bits])), (q_w, .inl (cI, 418, .inl v_w))] H → va_D A [(q, .inr (11, [.ref q_w, .int v_known, .int v_kept, .int v_seed, .ref q_imageSeed, .ref q_bookOf, .ref q_bookAt, .ref q_bookIs, .int v_written, .ref q_rs, .ref q_cs, .long v_above, .long v_below, .ref q_zs, .long v_leftAbove, .long v_leftBelow, .long v_guessAbove, .long v_guessBelow, .int v_sign, .int v_power2, .long v_bits])), (q_w, .inl (cI, 418, .inl v_w))] → va_S A s.heap H locs → lv_has ls 6 [(0, .ref q), (1, .int x1), (2, .int x2), (3, .int x3), (4, .int x4)] → W p l e R s m args below meth c H locs 0 0 Q (F0 m 45 ls []) := by
    intro x1 x2 x3 v_known v_kept v_seed v_written v_above v_below v_leftAbove v_leftBelow v_guessAbove v_guessBelow v_sign v_power2 v_bits v_w fu
    induction fu with
    | zero =>
      intro x4 u hf
      cases hf
    | succ fu ih =>
      intro x4 u hf hk0 hk1 H locs ls hP hD hS hl
      rw [L_X12_mix_45] at hf
      refine lv_iload hx hb dX12_mix_45 (lv_at hl 4 rfl) ?_
      refine lv_iconst (v := 5) hx hb dX12_mix_47 (by decide) ?_
      refine lv_icmp_ge (tgt := 107) hx hb dX12_mix_48 (by decide) (fun c11 => ?_) (fun c11 => ?_)
      · have hf := kp_e hf c11
        exact hk1  (Option.some.inj hf).symm _ _ _ hP hD hS (lv_sub hl [0, 1, 2, 3] rfl)
      · have hf := kn_e hf c11
        refine lv_iload hx hb dX12_mix_51 (lv_at hl 4 rfl) ?_
        refine lv_iconst (v := 4) hx hb dX12_mix_53 (by decide) ?_
        obtain ⟨J13, hJ13_, hf⟩ := kj1_e hf
        have hJ13 : ∀ (t12 : Int32), J13 t12 = some u → ∀ (H : Heap) (locs : List Loc) (ls : Array Slot), va_P D vwCl [(q, .inr (11, [.ref q_w, .int v_known, .int v_kept, .int v_seed, .ref q_imageSeed, .ref q_bookOf, .ref q_bookAt, .ref q_bookIs, .int v_written, .ref q_rs, .ref q_cs, .long v_above, .long v_below, .ref q_zs, .long v_leftAbove, .long v_leftBelow, .long v_guessAbove, .long v_guessBelow, .int v_sign, .int v_power2, .long v_bits])), (q_w, .inl (cI, 418, .inl v_w))] H → va_D A [(q, .inr (11, [.ref q_w, .int v_known, .int v_kept, .int v_seed, .ref q_imageSeed, .ref q_bookOf, .ref q_bookAt, .ref q_bookIs, .int v_written, .ref q_rs, .ref q_cs, .long v_above, .long v_below, .ref q_zs, .long v_leftAbove, .long v_leftBelow, .long v_guessAbove, .long v_guessBelow, .int v_sign, .int v_power2, .long v_bits])), (q_w, .inl (cI, 418, .inl v_w))] → va_S A s.heap H locs → lv_has ls 6 [(0, .ref q), (1, .int x1), (2, .int x2), (3, .int x3), (4, .int x4)] → W p l e R s m args below meth c H locs 0 0 Q (F0 m 64 ls [.int t12]) := by
          intro t12 hf H locs ls hP hD hS hl
          rw [hJ13_] at hf
          refine lv_istore (lv' := [(5, .int t12), (0, .ref q), (1, .int x1), (2, .int x2), (3, .int x3), (4, .int x4)]) hx hb dX12_mix_64 hl (by decide) rfl (fun ls hl => ?_)
          refine lv_aload_n hx hb dX12_mix_66 rfl (lv_at hl 1 rfl) ?_
          refine lv_iload_n hx hb dX12_mix_67 rfl (lv_at hl 2 rfl) ?_
          refine lv_iload hx hb dX12_mix_68 (lv_at hl 5 rfl) ?_
          obtain ⟨r14, h15, hf⟩ := kb1_e hf
          refine k_gl (nW := 2) (ws' := [(q, .inr (11, [.ref q_w, .int v_known, .int v_kept, .int v_seed, .ref q_imageSeed, .ref q_bookOf, .ref q_bookAt, .ref q_bookIs, .int v_written, .ref q_rs, .ref q_cs, .long v_above, .long v_below, .ref q_zs, .long v_leftAbove, .long v_leftBelow, .long v_guessAbove, .long v_guessBelow, .int v_sign, .int v_power2, .long v_bits])), (q_w, .inl (cI, 418, .inl v_w))]) (wr := []) (k_runV (rest := []) hat hP hD hS hl.1 (c_X12_cell q q_w q_imageSeed q_bookOf q_bookAt q_bookIs q_rs q_cs q_zs v_known v_kept v_seed v_written v_above v_below v_leftAbove v_leftBelow v_guessAbove v_guessBelow v_sign v_power2 v_bits v_w x1 x4 r14 h15) [0, 1] (by decide) rfl kw952 kw954 kw26 kw79 kw955 kdVX12_cell ⟨rfl, rfl⟩ (by rw [hR]; exact ⟨Nat.le_of_ble_eq_true rfl, Nat.le_of_ble_eq_true rfl⟩) ⟨Nat.zero_le _, Nat.zero_le _⟩ 0 11 rfl rfl rfl rfl (Nat.le_of_ble_eq_true rfl) dX12_mix_70) hat hP hD hS [0, 1] rfl [] rfl rfl rfl rfl rfl (by decide) (fun H locs hP hD hS => ?_)
          refine lv_iload_n hx hb dX12_mix_73 rfl (lv_at hl 4 rfl) ?_
          refine lv_i2l hx hb dX12_mix_74 rfl ?_
          refine lv_aload_n hx hb dX12_mix_75 rfl (lv_at hl 1 rfl) ?_
          refine lv_iload_n hx hb dX12_mix_76 rfl (lv_at hl 3 rfl) ?_
          refine lv_iload hx hb dX12_mix_77 (lv_at hl 5 rfl) ?_
          obtain ⟨r16, h17, hf⟩ := kb1_e hf
          refine k_gl (nW := 2) (ws' := [(q, .inr (11, [.ref q_w, .int v_known, .int v_kept, .int v_seed, .ref q_imageSeed, .ref q_bookOf, .ref q_bookAt, .ref q_bookIs, .int v_written, .ref q_rs, .ref q_cs, .long v_above, .long v_below, .ref q_zs, .long v_leftAbove, .long v_leftBelow, .long v_guessAbove, .long v_guessBelow, .int v_sign, .int v_power2, .long v_bits])), (q_w, .inl (cI, 418, .inl v_w))]) (wr := []) (k_runV (rest := [.long (x3.toInt64), .long r14]) hat hP hD hS hl.1 (c_X12_cell q q_w q_imageSeed q_bookOf q_bookAt q_bookIs q_rs q_cs q_zs v_known v_kept v_seed v_written v_above v_below v_leftAbove v_leftBelow v_guessAbove v_guessBelow v_sign v_power2 v_bits v_w x2 x4 r16 h17) [0, 1] (by decide) rfl kw952 kw954 kw26 kw79 kw955 kdVX12_cell ⟨rfl, rfl⟩ (by rw [hR]; exact ⟨Nat.le_of_ble_eq_true rfl, Nat.le_of_ble_eq_true rfl⟩) ⟨Nat.zero_le _, Nat.zero_le _⟩ 0 11 rfl rfl rfl rfl (Nat.le_of_ble_eq_true rfl) dX12_mix_79) hat hP hD hS [0, 1] rfl [] rfl rfl rfl rfl rfl (by decide) (fun H locs hP hD hS => ?_)
          refine lv_lmul hx hb dX12_mix_82 ?_
          refine lv_ladd hx hb dX12_mix_83 ?_
          refine lv_iload hx hb dX12_mix_84 (lv_at hl 0 rfl) ?_
          refine lv_ineg hx hb dX12_mix_86 ?_
          refine lv_i2l hx hb dX12_mix_87 rfl ?_
          refine lv_iload hx hb dX12_mix_88 (lv_at hl 0 rfl) ?_
          refine lv_i2l hx hb dX12_mix_90 rfl ?_
          obtain ⟨r18, h19, hf⟩ := kb1_e hf
          refine k_gi (nW := 2) (ws' := [(q, .inr (11, [.ref q_w, .int v_known, .int v_kept, .int v_seed, .ref q_imageSeed, .ref q_bookOf, .ref q_bookAt, .ref q_bookIs, .int v_written, .ref q_rs, .ref q_cs, .long v_above, .long v_below, .ref q_zs, .long v_leftAbove, .long v_leftBelow, .long v_guessAbove, .long v_guessBelow, .int v_sign, .int v_power2, .long v_bits])), (q_w, .inl (cI, 418, .inl v_w))]) (wr := [(q, .inr (11, [.ref q_w, .int v_known, .int v_kept, .int v_seed, .ref q_imageSeed, .ref q_bookOf, .ref q_bookAt, .ref q_bookIs, .int v_written, .ref q_rs, .ref q_cs, .long v_above, .long v_below, .ref q_zs, .long v_leftAbove, .long v_leftBelow, .long v_guessAbove, .long v_guessBelow, .int v_sign, .int v_power2, .long v_bits])), (q_w, .inl (cI, 418, .inl v_w))]) (k_runS (rest := []) hat hP hD hS hl.1 (c_X12_in (r14 + ((x3.toInt64) * r16)) ((-t12).toInt64) (t12.toInt64) r18 h19) [] (by decide) rfl kw1058 kw1059 kw79 kw1060 kdX12_in ⟨rfl, rfl⟩ (by rw [hR]; exact ⟨Nat.le_of_ble_eq_true rfl, Nat.le_of_ble_eq_true rfl⟩) ⟨Nat.zero_le _, Nat.zero_le _⟩ rfl rfl (Nat.le_of_ble_eq_true rfl) dX12_mix_91) hat hP hD hS [] rfl [0, 1] rfl rfl rfl rfl rfl (by decide) (fun H locs hP hD hS => ?_)
          refine lv_if_ne (tgt := 101) hx hb dX12_mix_94 (by decide) (fun c20 => ?_) (fun c20 => ?_)
          · have hf := kn_e hf c20
            obtain ⟨t21, et21⟩ : ∃ z : Int32, z = (x4 + (1 : Int32)) := ⟨_, rfl⟩
            have hf := kl_e hf t21 et21
            refine lv_iinc (v := t21) (lv' := [(4, .int t21), (5, .int t12), (0, .ref q), (1, .int x1), (2, .int x2), (3, .int x3)]) hx hb dX12_mix_101 hl (k := 5) rfl (by rw [et21]; rfl) (by decide) rfl (fun ls hl => ?_)
            refine lv_goto (tgt := 45) hx hb dX12_mix_104 (by decide) ?_
            exact ih t21 u hf hk0 hk1 _ _ _ hP hD hS (lv_sub hl [2, 3, 4, 5, 0] rfl)
          · have hf := kp_e hf c20
            exact hk0  (Option.some.inj hf).symm _ _ _ hP hD hS (lv_sub hl [] rfl)
        refine lv_icmp_ne (tgt := 62) hx hb dX12_mix_54 (by decide) (fun c22 => ?_) (fun c22 => ?_)
        · have hf := kn_e hf c22
          refine lv_bipush (v := 9) hx hb dX12_mix_62 (by decide) ?_
          exact hJ13 (9 : Int32) hf _ _ _ hP hD hS hl
        · have hf := kp_e hf c22
          refine lv_bipush (v := 99) hx hb dX12_mix_57 (by decide) ?_
          refine lv_goto (tgt := 64) hx hb dX12_mix_59 (by decide) ?_
          exact hJ13 (99 : Int32) hf _ _ _ hP hD hS hl
  have hL114 : ∀ (x1 : Int32) (x2 : Int32) (x3 : Int32) (v_known : Int32) (v_kept : Int32) (v_seed : Int32) (v_written : Int32) (v_above : Int64) (v_below : Int64) (v_leftAbove : Int64) (v_leftBelow : Int64) (v_guessAbove : Int64) (v_guessBelow : Int64) (v_sign : Int32) (v_power2 : Int32) (v_bits : Int64) (fu : Nat) (x4 : Int32) (v_w : (Nat → Int32)) (o0 : (Nat → Int32)), L_X12_mix_114 x1 x2 x3 fu x4 v_w = some o0 → (∀ (H : Heap) (locs : List Loc) (ls : Array Slot), va_P D vwCl [(q, .inr (11, [.ref q_w, .int v_known, .int v_kept, .int v_seed, .ref q_imageSeed, .ref q_bookOf, .ref q_bookAt, .ref q_bookIs, .int v_written, .ref q_rs, .ref q_cs, .long v_above, .long v_below, .ref q_zs, .long v_leftAbove, .long v_leftBelow, .long v_guessAbove, .long v_guessBelow, .int v_sign, .int v_power2, .long v_bits])), (q_w, .inl (cI, 418, .inl o0))] H → va_D A [(q, .inr (11, [.ref q_w, .int v_known, .int v_kept, .int v_seed, .ref q_imageSeed, .ref q_bookOf, .ref q_bookAt, .ref q_bookIs, .int v_written, .ref q_rs, .ref q_cs, .long v_above, .long v_below, .ref q_zs, .long v_leftAbove, .long v_leftBelow, .long v_guessAbove, .long v_guessBelow, .int v_sign, .int v_power2, .long v_bits])), (q_w, .inl (cI, 418, .inl o0))] → va_S A s.heap H locs → lv_has ls 6 [] → W p l e R s m args below meth c H locs 0 0 Q (F0 m 152 ls [])) → ∀ (H : Heap) (locs : List Loc) (ls : Array Slot), va_P D vwCl [(q, .inr (11, [.ref q_w, .int v_known, .int v_kept, .int v_seed, .ref q_imageSeed, .ref q_bookOf, .ref q_bookAt, .ref q_bookIs, .int v_written, .ref q_rs, .ref q_cs, .long v_above, .long v_below, .ref q_zs, .long v_leftAbove, .long v_leftBelow, .long v_guessAbove, .long v_guessBelow, .int v_sign, .int v_power2, .long v_bits])), (q_w, .inl (cI, 418, .inl v_w))] H → va_D A [(q, .inr (11, [.ref q_w, .int v_known, .int v_kept, .int v_seed, .ref q_imageSeed, .ref q_bookOf, .ref q_bookAt, .ref q_bookIs, .int v_written, .ref q_rs, .ref q_cs, .long v_above, .long v_below, .ref q_zs, .long v_leftAbove, .long v_leftBelow, .long v_guessAbove, .long v_guessBelow, .int v_sign, .int v_power2, .long v_bits])), (q_w, .inl (cI, 418, .inl v_w))] → va_S A s.heap H locs → lv_has ls 6 [(0, .ref q), (1, .int x1), (2, .int x2), (3, .int x3), (4, .int x4)] → W p l e R s m args below meth c H locs 0 0 Q (F0 m 114 ls []) := by
    intro x1 x2 x3 v_known v_kept v_seed v_written v_above v_below v_leftAbove v_leftBelow v_guessAbove v_guessBelow v_sign v_power2 v_bits fu
    induction fu with
    | zero =>
      intro x4 v_w o0 hf
      cases hf
    | succ fu ih =>
      intro x4 v_w o0 hf hk0 H locs ls hP hD hS hl
      rw [L_X12_mix_114] at hf
      refine lv_iload hx hb dX12_mix_114 (lv_at hl 4 rfl) ?_
      refine lv_iconst (v := 5) hx hb dX12_mix_116 (by decide) ?_
      refine lv_icmp_ge (tgt := 152) hx hb dX12_mix_117 (by decide) (fun c26 => ?_) (fun c26 => ?_)
      · have hf := kp_e hf c26
        obtain rfl := ki1 hf
        exact hk0 _ _ _ hP hD hS (lv_sub hl [] rfl)
      · have hf := kn_e hf c26
        refine lv_aload_n hx hb dX12_mix_120 rfl (lv_at hl 0 rfl) ?_
        refine lv_iload_n hx hb dX12_mix_121 rfl (lv_at hl 1 rfl) ?_
        refine lv_iload hx hb dX12_mix_122 (lv_at hl 4 rfl) ?_
        refine lv_aload_n hx hb dX12_mix_124 rfl (lv_at hl 0 rfl) ?_
        refine lv_iload_n hx hb dX12_mix_125 rfl (lv_at hl 1 rfl) ?_
        refine lv_iload hx hb dX12_mix_126 (lv_at hl 4 rfl) ?_
        obtain ⟨r27, h28, hf⟩ := kb1_e hf
        refine k_gl (nW := 2) (ws' := [(q, .inr (11, [.ref q_w, .int v_known, .int v_kept, .int v_seed, .ref q_imageSeed, .ref q_bookOf, .ref q_bookAt, .ref q_bookIs, .int v_written, .ref q_rs, .ref q_cs, .long v_above, .long v_below, .ref q_zs, .long v_leftAbove, .long v_leftBelow, .long v_guessAbove, .long v_guessBelow, .int v_sign, .int v_power2, .long v_bits])), (q_w, .inl (cI, 418, .inl v_w))]) (wr := []) (k_runV (rest := [.int x4, .int x1, .ref q]) hat hP hD hS hl.1 (c_X12_cell q q_w q_imageSeed q_bookOf q_bookAt q_bookIs q_rs q_cs q_zs v_known v_kept v_seed v_written v_above v_below v_leftAbove v_leftBelow v_guessAbove v_guessBelow v_sign v_power2 v_bits v_w x1 x4 r27 h28) [0, 1] (by decide) rfl kw952 kw954 kw26 kw79 kw955 kdVX12_cell ⟨rfl, rfl⟩ (by rw [hR]; exact ⟨Nat.le_of_ble_eq_true rfl, Nat.le_of_ble_eq_true rfl⟩) ⟨Nat.zero_le _, Nat.zero_le _⟩ 0 11 rfl rfl rfl rfl (Nat.le_of_ble_eq_true rfl) dX12_mix_128) hat hP hD hS [0, 1] rfl [] rfl rfl rfl rfl rfl (by decide) (fun H locs hP hD hS => ?_)
        refine lv_iload_n hx hb dX12_mix_131 rfl (lv_at hl 3 rfl) ?_
        refine lv_i2l hx hb dX12_mix_132 rfl ?_
        refine lv_aload_n hx hb dX12_mix_133 rfl (lv_at hl 0 rfl) ?_
        refine lv_iload_n hx hb dX12_mix_134 rfl (lv_at hl 2 rfl) ?_
        refine lv_iload hx hb dX12_mix_135 (lv_at hl 4 rfl) ?_
        obtain ⟨r29, h30, hf⟩ := kb1_e hf
        refine k_gl (nW := 2) (ws' := [(q, .inr (11, [.ref q_w, .int v_known, .int v_kept, .int v_seed, .ref q_imageSeed, .ref q_bookOf, .ref q_bookAt, .ref q_bookIs, .int v_written, .ref q_rs, .ref q_cs, .long v_above, .long v_below, .ref q_zs, .long v_leftAbove, .long v_leftBelow, .long v_guessAbove, .long v_guessBelow, .int v_sign, .int v_power2, .long v_bits])), (q_w, .inl (cI, 418, .inl v_w))]) (wr := []) (k_runV (rest := [.long (x3.toInt64), .long r27, .int x4, .int x1, .ref q]) hat hP hD hS hl.1 (c_X12_cell q q_w q_imageSeed q_bookOf q_bookAt q_bookIs q_rs q_cs q_zs v_known v_kept v_seed v_written v_above v_below v_leftAbove v_leftBelow v_guessAbove v_guessBelow v_sign v_power2 v_bits v_w x2 x4 r29 h30) [0, 1] (by decide) rfl kw952 kw954 kw26 kw79 kw955 kdVX12_cell ⟨rfl, rfl⟩ (by rw [hR]; exact ⟨Nat.le_of_ble_eq_true rfl, Nat.le_of_ble_eq_true rfl⟩) ⟨Nat.zero_le _, Nat.zero_le _⟩ 0 11 rfl rfl rfl rfl (Nat.le_of_ble_eq_true rfl) dX12_mix_137) hat hP hD hS [0, 1] rfl [] rfl rfl rfl rfl rfl (by decide) (fun H locs hP hD hS => ?_)
        refine lv_lmul hx hb dX12_mix_140 ?_
        refine lv_ladd hx hb dX12_mix_141 ?_
        refine lv_l2i hx hb dX12_mix_142 rfl ?_
        obtain ⟨w31, h32, hf⟩ := kb1_e hf
        refine k_gv (nW := 2) (ws' := [(q, .inr (11, [.ref q_w, .int v_known, .int v_kept, .int v_seed, .ref q_imageSeed, .ref q_bookOf, .ref q_bookAt, .ref q_bookIs, .int v_written, .ref q_rs, .ref q_cs, .long v_above, .long v_below, .ref q_zs, .long v_leftAbove, .long v_leftBelow, .long v_guessAbove, .long v_guessBelow, .int v_sign, .int v_power2, .long v_bits])), (q_w, .inl (cI, 418, .inl w31))]) (wr := []) (k_runV (rest := []) hat hP hD hS hl.1 (c_X12_set q q_w q_imageSeed q_bookOf q_bookAt q_bookIs q_rs q_cs q_zs v_known v_kept v_seed v_written v_above v_below v_leftAbove v_leftBelow v_guessAbove v_guessBelow v_sign v_power2 v_bits v_w x1 x4 ((r27 + ((x3.toInt64) * r29)).toInt32) w31 h32) [0, 1] (by decide) rfl kw1203 kw1205 kw64 kw79 kw1206 kdVX12_set ⟨rfl, rfl⟩ (by rw [hR]; exact ⟨Nat.le_of_ble_eq_true rfl, Nat.le_of_ble_eq_true rfl⟩) ⟨Nat.zero_le _, Nat.zero_le _⟩ 0 11 rfl rfl rfl rfl (Nat.le_of_ble_eq_true rfl) dX12_mix_143) hat hP hD hS [0, 1] rfl [] rfl rfl rfl rfl rfl (by decide) (fun H locs hP hD hS => ?_)
        obtain ⟨t33, et33⟩ : ∃ z : Int32, z = (x4 + (1 : Int32)) := ⟨_, rfl⟩
        have hf := kl_e hf t33 et33
        refine lv_iinc (v := t33) (lv' := [(4, .int t33), (0, .ref q), (1, .int x1), (2, .int x2), (3, .int x3)]) hx hb dX12_mix_146 hl (k := 4) rfl (by rw [et33]; rfl) (by decide) rfl (fun ls hl => ?_)
        refine lv_goto (tgt := 114) hx hb dX12_mix_149 (by decide) ?_
        exact ih t33 w31 o0 hf hk0 _ _ _ hP hD hS (lv_sub hl [1, 2, 3, 4, 0] rfl)
  unfold f_X12_mix at hf
  refine lv_aload_n hx hb dX12_mix_0 rfl (lv_at hl 0 rfl) ?_
  refine lv_iload_n hx hb dX12_mix_1 rfl (lv_at hl 1 rfl) ?_
  obtain ⟨r1, h2, hf⟩ := kb1_e hf
  refine k_gi (nW := 2) (ws' := [(q, .inr (11, [.ref q_w, .int v_known, .int v_kept, .int v_seed, .ref q_imageSeed, .ref q_bookOf, .ref q_bookAt, .ref q_bookIs, .int v_written, .ref q_rs, .ref q_cs, .long v_above, .long v_below, .ref q_zs, .long v_leftAbove, .long v_leftBelow, .long v_guessAbove, .long v_guessBelow, .int v_sign, .int v_power2, .long v_bits])), (q_w, .inl (cI, 418, .inl v_w))]) (wr := []) (k_runV (rest := []) hat hP hD hS hl.1 (c_X12_isRow q q_w q_imageSeed q_bookOf q_bookAt q_bookIs q_rs q_cs q_zs v_known v_kept v_seed v_written v_above v_below v_leftAbove v_leftBelow v_guessAbove v_guessBelow v_sign v_power2 v_bits v_w x1 r1 h2) [0, 1] (by decide) rfl kw1069 kw1071 kw50 kw79 kw1072 kdVX12_isRow ⟨rfl, rfl⟩ (by rw [hR]; exact ⟨Nat.le_of_ble_eq_true rfl, Nat.le_of_ble_eq_true rfl⟩) ⟨Nat.zero_le _, Nat.zero_le _⟩ 0 11 rfl rfl rfl rfl (Nat.le_of_ble_eq_true rfl) dX12_mix_2) hat hP hD hS [0, 1] rfl [] rfl rfl rfl rfl rfl (by decide) (fun H locs hP hD hS => ?_)
  refine lv_if_eq (tgt := 21) hx hb dX12_mix_5 (by decide) (fun c3 => ?_) (fun c3 => ?_)
  · have hf := kp_e hf c3
    refine lv_ldcw hx hb hown (hts _ kw1082) dX12_mix_21 ?_
    obtain ⟨rfl, rfl, rfl⟩ := ki3 hf
    rw [hQ]
    exact k_iret hat hP hS rfl dX12_mix_24
  · have hf := kn_e hf c3
    refine lv_aload_n hx hb dX12_mix_8 rfl (lv_at hl 0 rfl) ?_
    refine lv_iload_n hx hb dX12_mix_9 rfl (lv_at hl 2 rfl) ?_
    obtain ⟨r4, h5, hf⟩ := kb1_e hf
    refine k_gi (nW := 2) (ws' := [(q, .inr (11, [.ref q_w, .int v_known, .int v_kept, .int v_seed, .ref q_imageSeed, .ref q_bookOf, .ref q_bookAt, .ref q_bookIs, .int v_written, .ref q_rs, .ref q_cs, .long v_above, .long v_below, .ref q_zs, .long v_leftAbove, .long v_leftBelow, .long v_guessAbove, .long v_guessBelow, .int v_sign, .int v_power2, .long v_bits])), (q_w, .inl (cI, 418, .inl v_w))]) (wr := []) (k_runV (rest := []) hat hP hD hS hl.1 (c_X12_isRow q q_w q_imageSeed q_bookOf q_bookAt q_bookIs q_rs q_cs q_zs v_known v_kept v_seed v_written v_above v_below v_leftAbove v_leftBelow v_guessAbove v_guessBelow v_sign v_power2 v_bits v_w x2 r4 h5) [0, 1] (by decide) rfl kw1069 kw1071 kw50 kw79 kw1072 kdVX12_isRow ⟨rfl, rfl⟩ (by rw [hR]; exact ⟨Nat.le_of_ble_eq_true rfl, Nat.le_of_ble_eq_true rfl⟩) ⟨Nat.zero_le _, Nat.zero_le _⟩ 0 11 rfl rfl rfl rfl (Nat.le_of_ble_eq_true rfl) dX12_mix_10) hat hP hD hS [0, 1] rfl [] rfl rfl rfl rfl rfl (by decide) (fun H locs hP hD hS => ?_)
    refine lv_if_eq (tgt := 21) hx hb dX12_mix_13 (by decide) (fun c6 => ?_) (fun c6 => ?_)
    · have hf := kp_e hf c6
      refine lv_ldcw hx hb hown (hts _ kw1082) dX12_mix_21 ?_
      obtain ⟨rfl, rfl, rfl⟩ := ki3 hf
      rw [hQ]
      exact k_iret hat hP hS rfl dX12_mix_24
    · have hf := kn_e hf c6
      refine lv_iload_n hx hb dX12_mix_16 rfl (lv_at hl 1 rfl) ?_
      refine lv_iload_n hx hb dX12_mix_17 rfl (lv_at hl 2 rfl) ?_
      refine lv_icmp_ne (tgt := 25) hx hb dX12_mix_18 (by decide) (fun c7 => ?_) (fun c7 => ?_)
      · have hf := kn_e hf c7
        refine lv_iload_n hx hb dX12_mix_25 rfl (lv_at hl 3 rfl) ?_
        refine lv_i2l hx hb dX12_mix_26 rfl ?_
        refine lv_ldc2 hx hb hown (hts _ kw1220) dX12_mix_27 ?_
        refine lv_ldc2 hx hb hown (hts _ kw1221) dX12_mix_30 ?_
        obtain ⟨r8, h9, hf⟩ := kb1_e hf
        refine k_gi (nW := 2) (ws' := [(q, .inr (11, [.ref q_w, .int v_known, .int v_kept, .int v_seed, .ref q_imageSeed, .ref q_bookOf, .ref q_bookAt, .ref q_bookIs, .int v_written, .ref q_rs, .ref q_cs, .long v_above, .long v_below, .ref q_zs, .long v_leftAbove, .long v_leftBelow, .long v_guessAbove, .long v_guessBelow, .int v_sign, .int v_power2, .long v_bits])), (q_w, .inl (cI, 418, .inl v_w))]) (wr := [(q, .inr (11, [.ref q_w, .int v_known, .int v_kept, .int v_seed, .ref q_imageSeed, .ref q_bookOf, .ref q_bookAt, .ref q_bookIs, .int v_written, .ref q_rs, .ref q_cs, .long v_above, .long v_below, .ref q_zs, .long v_leftAbove, .long v_leftBelow, .long v_guessAbove, .long v_guessBelow, .int v_sign, .int v_power2, .long v_bits])), (q_w, .inl (cI, 418, .inl v_w))]) (k_runS (rest := []) hat hP hD hS hl.1 (c_X12_in (x3.toInt64) (-3 : Int64) (3 : Int64) r8 h9) [] (by decide) rfl kw1058 kw1059 kw79 kw1060 kdX12_in ⟨rfl, rfl⟩ (by rw [hR]; exact ⟨Nat.le_of_ble_eq_true rfl, Nat.le_of_ble_eq_true rfl⟩) ⟨Nat.zero_le _, Nat.zero_le _⟩ rfl rfl (Nat.le_of_ble_eq_true rfl) dX12_mix_33) hat hP hD hS [] rfl [0, 1] rfl rfl rfl rfl rfl (by decide) (fun H locs hP hD hS => ?_)
        refine lv_if_ne (tgt := 42) hx hb dX12_mix_36 (by decide) (fun c10 => ?_) (fun c10 => ?_)
        · have hf := kn_e hf c10
          refine lv_iconst (v := 0) hx hb dX12_mix_42 (by decide) ?_
          refine lv_istore (lv' := [(4, .int (0 : Int32)), (0, .ref q), (1, .int x1), (2, .int x2), (3, .int x3)]) hx hb dX12_mix_43 hl (by decide) rfl (fun ls hl => ?_)
          obtain ⟨u35, hu, hf0, hf1⟩ := ks_e hf
          refine hL45 x1 x2 x3 v_known v_kept v_seed v_written v_above v_below v_leftAbove v_leftBelow v_guessAbove v_guessBelow v_sign v_power2 v_bits v_w F (0 : Int32) u35 hu (fun hu2 H locs ls hP hD hS hl => ?_) (fun hu2 H locs ls hP hD hS hl => ?_) _ _ _ hP hD hS (lv_sub hl [1, 2, 3, 4, 0] rfl)
          · have hf := hf0 _ hu2
            refine lv_ldcw hx hb hown (hts _ kw1222) dX12_mix_97 ?_
            obtain ⟨rfl, rfl, rfl⟩ := ki3 hf
            rw [hQ]
            exact k_iret hat hP hS rfl dX12_mix_100
          · have hf := hf1 _ hu2
            refine lv_aload_n hx hb dX12_mix_107 rfl (lv_at hl 0 rfl) ?_
            obtain ⟨w23, w24, h25, hf⟩ := kb2_e hf
            refine k_gv (nW := 2) (ws' := [(q, .inr (11, [.ref q_w, .int w23, .int v_kept, .int v_seed, .ref q_imageSeed, .ref q_bookOf, .ref q_bookAt, .ref q_bookIs, .int v_written, .ref q_rs, .ref q_cs, .long v_above, .long v_below, .ref q_zs, .long v_leftAbove, .long v_leftBelow, .long v_guessAbove, .long v_guessBelow, .int v_sign, .int v_power2, .long v_bits])), (q_w, .inl (cI, 418, .inl w24))]) (wr := []) (k_runV (rest := []) hat hP hD hS hl.1 (c_X12_remember q q_w q_imageSeed q_bookOf q_bookAt q_bookIs q_rs q_cs q_zs v_known v_kept v_seed v_written v_above v_below v_leftAbove v_leftBelow v_guessAbove v_guessBelow v_sign v_power2 v_bits v_w F w23 w24 h25) [0, 1] (by decide) rfl kw1189 kw1191 kw62 kw79 kw1192 kdVX12_remember ⟨rfl, rfl⟩ (by rw [hR]; exact ⟨Nat.le_of_ble_eq_true rfl, Nat.le_of_ble_eq_true rfl⟩) ⟨Nat.zero_le _, Nat.zero_le _⟩ 0 11 rfl rfl rfl rfl (Nat.le_of_ble_eq_true rfl) dX12_mix_108) hat hP hD hS [0, 1] rfl [] rfl rfl rfl rfl rfl (by decide) (fun H locs hP hD hS => ?_)
            refine lv_iconst (v := 0) hx hb dX12_mix_111 (by decide) ?_
            refine lv_istore (lv' := [(4, .int (0 : Int32)), (0, .ref q), (1, .int x1), (2, .int x2), (3, .int x3)]) hx hb dX12_mix_112 hl (by decide) rfl (fun ls hl => ?_)
            obtain ⟨w34, hu, hf⟩ := kb1_e hf
            refine hL114 x1 x2 x3 w23 v_kept v_seed v_written v_above v_below v_leftAbove v_leftBelow v_guessAbove v_guessBelow v_sign v_power2 v_bits F (0 : Int32) w24 w34 hu (fun H locs ls hP hD hS hl => ?_) _ _ _ hP hD hS (lv_sub hl [1, 2, 3, 4, 0] rfl)
            refine lv_iconst (v := 1) hx hb dX12_mix_152 (by decide) ?_
            obtain ⟨rfl, rfl, rfl⟩ := ki3 hf
            rw [hQ]
            exact k_iret hat hP hS rfl dX12_mix_153
        · have hf := kp_e hf c10
          refine lv_ldc hx hb hown (hts _ kw1077) dX12_mix_39 ?_
          obtain ⟨rfl, rfl, rfl⟩ := ki3 hf
          rw [hQ]
          exact k_iret hat hP hS rfl dX12_mix_41
      · have hf := kp_e hf c7
        refine lv_ldcw hx hb hown (hts _ kw1082) dX12_mix_21 ?_
        obtain ⟨rfl, rfl, rfl⟩ := ki3 hf
        rw [hQ]
        exact k_iret hat hP hS rfl dX12_mix_24
set_option maxHeartbeats 4000000 in
set_option maxRecDepth 100000 in
theorem c_X12_turn {l : Launch} {D : va_G} {cI cJ cQ : ClassId} {tp : Nat} (q : Nat) (q_w : Nat) (q_imageSeed : Nat) (q_bookOf : Nat) (q_bookAt : Nat) (q_bookIs : Nat) (q_rs : Nat) (q_cs : Nat) (q_zs : Nat) (v_known : Int32) (v_kept : Int32) (v_seed : Int32) (v_written : Int32) (v_above : Int64) (v_below : Int64) (v_leftAbove : Int64) (v_leftBelow : Int64) (v_guessAbove : Int64) (v_guessBelow : Int64) (v_sign : Int32) (v_power2 : Int32) (v_bits : Int64) (v_w : (Nat → Int32)) (v_rs : (Nat → Int32)) (v_cs : (Nat → Int32)) (F : Nat) (r0 : Int32) (o_v_known : Int32) (o_v_w : (Nat → Int32)) (o_v_rs : (Nat → Int32)) (o_v_cs : (Nat → Int32)) (hf : f_X12_turn F v_known v_w v_rs v_cs = some (r0, o_v_known, o_v_w, o_v_rs, o_v_cs)) : kM (fun A => kQi D A [(q, .inr (11, [.ref q_w, .int o_v_known, .int v_kept, .int v_seed, .ref q_imageSeed, .ref q_bookOf, .ref q_bookAt, .ref q_bookIs, .int v_written, .ref q_rs, .ref q_cs, .long v_above, .long v_below, .ref q_zs, .long v_leftAbove, .long v_leftBelow, .long v_guessAbove, .long v_guessBelow, .int v_sign, .int v_power2, .long v_bits])), (q_w, .inl (cI, 418, .inl o_v_w)), (q_rs, .inl (cI, 4, .inl o_v_rs)), (q_cs, .inl (cI, 4, .inl o_v_cs))] r0) (some .int) l yX12_turn cX12_turn 4 { frames := 8, cells := 0, slots := 0, locals := 184 } D cI cJ cQ tp [.ref q] [(q, .inr (11, [.ref q_w, .int v_known, .int v_kept, .int v_seed, .ref q_imageSeed, .ref q_bookOf, .ref q_bookAt, .ref q_bookIs, .int v_written, .ref q_rs, .ref q_cs, .long v_above, .long v_below, .ref q_zs, .long v_leftAbove, .long v_leftBelow, .long v_guessAbove, .long v_guessBelow, .int v_sign, .int v_power2, .long v_bits])), (q_w, .inl (cI, 418, .inl v_w)), (q_rs, .inl (cI, 4, .inl v_rs)), (q_cs, .inl (cI, 4, .inl v_cs))] := by
  refine kM_of (by decide +kernel) (Nat.le_of_ble_eq_true rfl) ?_
  intro p e s m args below meth c A ls R Q hR hQ hat hP hD hS hl
  obtain ⟨hx, hb, hr, hml, hown, hts, hT, hlk, hK, hA, hZ⟩ := id hat
  have hown : s.vm.findClass RX12 = some m.cls := hown
  have hl : lv_has ls 4 [(0, .ref q)] := hl
  have hL16 : ∀ (x1 : Int32) (v_known : Int32) (v_kept : Int32) (v_seed : Int32) (v_written : Int32) (v_above : Int64) (v_below : Int64) (v_leftAbove : Int64) (v_leftBelow : Int64) (v_guessAbove : Int64) (v_guessBelow : Int64) (v_sign : Int32) (v_power2 : Int32) (v_bits : Int64) (v_rs : (Nat → Int32)) (v_cs : (Nat → Int32)) (fu : Nat) (x2 : Int32) (v_w : (Nat → Int32)) (o0 : (Nat → Int32)), L_X12_turn_16 x1 fu x2 v_w = some o0 → (∀ (H : Heap) (locs : List Loc) (ls : Array Slot), va_P D vwCl [(q, .inr (11, [.ref q_w, .int v_known, .int v_kept, .int v_seed, .ref q_imageSeed, .ref q_bookOf, .ref q_bookAt, .ref q_bookIs, .int v_written, .ref q_rs, .ref q_cs, .long v_above, .long v_below, .ref q_zs, .long v_leftAbove, .long v_leftBelow, .long v_guessAbove, .long v_guessBelow, .int v_sign, .int v_power2, .long v_bits])), (q_w, .inl (cI, 418, .inl o0)), (q_rs, .inl (cI, 4, .inl v_rs)), (q_cs, .inl (cI, 4, .inl v_cs))] H → va_D A [(q, .inr (11, [.ref q_w, .int v_known, .int v_kept, .int v_seed, .ref q_imageSeed, .ref q_bookOf, .ref q_bookAt, .ref q_bookIs, .int v_written, .ref q_rs, .ref q_cs, .long v_above, .long v_below, .ref q_zs, .long v_leftAbove, .long v_leftBelow, .long v_guessAbove, .long v_guessBelow, .int v_sign, .int v_power2, .long v_bits])), (q_w, .inl (cI, 418, .inl o0)), (q_rs, .inl (cI, 4, .inl v_rs)), (q_cs, .inl (cI, 4, .inl v_cs))] → va_S A s.heap H locs → lv_has ls 4 [(0, .ref q), (1, .int x1)] → W p l e R s m args below meth c H locs 0 0 Q (F0 m 55 ls [])) → ∀ (H : Heap) (locs : List Loc) (ls : Array Slot), va_P D vwCl [(q, .inr (11, [.ref q_w, .int v_known, .int v_kept, .int v_seed, .ref q_imageSeed, .ref q_bookOf, .ref q_bookAt, .ref q_bookIs, .int v_written, .ref q_rs, .ref q_cs, .long v_above, .long v_below, .ref q_zs, .long v_leftAbove, .long v_leftBelow, .long v_guessAbove, .long v_guessBelow, .int v_sign, .int v_power2, .long v_bits])), (q_w, .inl (cI, 418, .inl v_w)), (q_rs, .inl (cI, 4, .inl v_rs)), (q_cs, .inl (cI, 4, .inl v_cs))] H → va_D A [(q, .inr (11, [.ref q_w, .int v_known, .int v_kept, .int v_seed, .ref q_imageSeed, .ref q_bookOf, .ref q_bookAt, .ref q_bookIs, .int v_written, .ref q_rs, .ref q_cs, .long v_above, .long v_below, .ref q_zs, .long v_leftAbove, .long v_leftBelow, .long v_guessAbove, .long v_guessBelow, .int v_sign, .int v_power2, .long v_bits])), (q_w, .inl (cI, 418, .inl v_w)), (q_rs, .inl (cI, 4, .inl v_rs)), (q_cs, .inl (cI, 4, .inl v_cs))] → va_S A s.heap H locs → lv_has ls 4 [(0, .ref q), (1, .int x1), (2, .int x2)] → W p l e R s m args below meth c H locs 0 0 Q (F0 m 16 ls []) := by
    intro x1 v_known v_kept v_seed v_written v_above v_below v_leftAbove v_leftBelow v_guessAbove v_guessBelow v_sign v_power2 v_bits v_rs v_cs fu
    induction fu with
    | zero =>
      intro x2 v_w o0 hf
      cases hf
    | succ fu ih =>
      intro x2 v_w o0 hf hk0 H locs ls hP hD hS hl
      rw [L_X12_turn_16] at hf
      refine lv_iload_n hx hb dX12_turn_16 rfl (lv_at hl 2 rfl) ?_
      refine lv_iload_n hx hb dX12_turn_17 rfl (lv_at hl 1 rfl) ?_
      refine lv_icmp_ge (tgt := 55) hx hb dX12_turn_18 (by decide) (fun c7 => ?_) (fun c7 => ?_)
      · have hf := kp_e hf c7
        obtain rfl := ki1 hf
        exact hk0 _ _ _ hP hD hS (lv_sub hl [0, 1] rfl)
      · have hf := kn_e hf c7
        refine lv_aload_n hx hb dX12_turn_21 rfl (lv_at hl 0 rfl) ?_
        refine lv_iload_n hx hb dX12_turn_22 rfl (lv_at hl 1 rfl) ?_
        refine lv_iload_n hx hb dX12_turn_23 rfl (lv_at hl 2 rfl) ?_
        obtain ⟨r8, h9, hf⟩ := kb1_e hf
        refine k_gl (nW := 4) (ws' := [(q, .inr (11, [.ref q_w, .int v_known, .int v_kept, .int v_seed, .ref q_imageSeed, .ref q_bookOf, .ref q_bookAt, .ref q_bookIs, .int v_written, .ref q_rs, .ref q_cs, .long v_above, .long v_below, .ref q_zs, .long v_leftAbove, .long v_leftBelow, .long v_guessAbove, .long v_guessBelow, .int v_sign, .int v_power2, .long v_bits])), (q_w, .inl (cI, 418, .inl v_w)), (q_rs, .inl (cI, 4, .inl v_rs)), (q_cs, .inl (cI, 4, .inl v_cs))]) (wr := [(q_rs, .inl (cI, 4, .inl v_rs)), (q_cs, .inl (cI, 4, .inl v_cs))]) (k_runV (rest := []) hat hP hD hS hl.1 (c_X12_cell q q_w q_imageSeed q_bookOf q_bookAt q_bookIs q_rs q_cs q_zs v_known v_kept v_seed v_written v_above v_below v_leftAbove v_leftBelow v_guessAbove v_guessBelow v_sign v_power2 v_bits v_w x1 x2 r8 h9) [0, 1] (by decide) rfl kw952 kw954 kw26 kw79 kw955 kdVX12_cell ⟨rfl, rfl⟩ (by rw [hR]; exact ⟨Nat.le_of_ble_eq_true rfl, Nat.le_of_ble_eq_true rfl⟩) ⟨Nat.zero_le _, Nat.zero_le _⟩ 0 11 rfl rfl rfl rfl (Nat.le_of_ble_eq_true rfl) dX12_turn_24) hat hP hD hS [0, 1] rfl [2, 3] rfl rfl rfl rfl rfl (by decide) (fun H locs hP hD hS => ?_)
        refine lv_l2i hx hb dX12_turn_27 rfl ?_
        refine lv_topi (fun t10 et10 => ?_)
        have hf := kl_e hf t10 et10
        refine lv_istore_n (lv' := [(3, .int t10), (0, .ref q), (1, .int x1), (2, .int x2)]) hx hb dX12_turn_28 rfl hl (by decide) rfl (fun ls hl => ?_)
        refine lv_aload_n hx hb dX12_turn_29 rfl (lv_at hl 1 rfl) ?_
        refine lv_iload_n hx hb dX12_turn_30 rfl (lv_at hl 2 rfl) ?_
        refine lv_iload_n hx hb dX12_turn_31 rfl (lv_at hl 3 rfl) ?_
        refine lv_aload_n hx hb dX12_turn_32 rfl (lv_at hl 1 rfl) ?_
        refine lv_iload_n hx hb dX12_turn_33 rfl (lv_at hl 3 rfl) ?_
        refine lv_iload_n hx hb dX12_turn_34 rfl (lv_at hl 2 rfl) ?_
        obtain ⟨r11, h12, hf⟩ := kb1_e hf
        refine k_gl (nW := 4) (ws' := [(q, .inr (11, [.ref q_w, .int v_known, .int v_kept, .int v_seed, .ref q_imageSeed, .ref q_bookOf, .ref q_bookAt, .ref q_bookIs, .int v_written, .ref q_rs, .ref q_cs, .long v_above, .long v_below, .ref q_zs, .long v_leftAbove, .long v_leftBelow, .long v_guessAbove, .long v_guessBelow, .int v_sign, .int v_power2, .long v_bits])), (q_w, .inl (cI, 418, .inl v_w)), (q_rs, .inl (cI, 4, .inl v_rs)), (q_cs, .inl (cI, 4, .inl v_cs))]) (wr := [(q_rs, .inl (cI, 4, .inl v_rs)), (q_cs, .inl (cI, 4, .inl v_cs))]) (k_runV (rest := [.int x2, .int x1, .ref q]) hat hP hD hS hl.1 (c_X12_cell q q_w q_imageSeed q_bookOf q_bookAt q_bookIs q_rs q_cs q_zs v_known v_kept v_seed v_written v_above v_below v_leftAbove v_leftBelow v_guessAbove v_guessBelow v_sign v_power2 v_bits v_w x2 x1 r11 h12) [0, 1] (by decide) rfl kw952 kw954 kw26 kw79 kw955 kdVX12_cell ⟨rfl, rfl⟩ (by rw [hR]; exact ⟨Nat.le_of_ble_eq_true rfl, Nat.le_of_ble_eq_true rfl⟩) ⟨Nat.zero_le _, Nat.zero_le _⟩ 0 11 rfl rfl rfl rfl (Nat.le_of_ble_eq_true rfl) dX12_turn_35) hat hP hD hS [0, 1] rfl [2, 3] rfl rfl rfl rfl rfl (by decide) (fun H locs hP hD hS => ?_)
        refine lv_l2i hx hb dX12_turn_38 rfl ?_
        obtain ⟨w13, h14, hf⟩ := kb1_e hf
        refine k_gv (nW := 4) (ws' := [(q, .inr (11, [.ref q_w, .int v_known, .int v_kept, .int v_seed, .ref q_imageSeed, .ref q_bookOf, .ref q_bookAt, .ref q_bookIs, .int v_written, .ref q_rs, .ref q_cs, .long v_above, .long v_below, .ref q_zs, .long v_leftAbove, .long v_leftBelow, .long v_guessAbove, .long v_guessBelow, .int v_sign, .int v_power2, .long v_bits])), (q_w, .inl (cI, 418, .inl w13)), (q_rs, .inl (cI, 4, .inl v_rs)), (q_cs, .inl (cI, 4, .inl v_cs))]) (wr := [(q_rs, .inl (cI, 4, .inl v_rs)), (q_cs, .inl (cI, 4, .inl v_cs))]) (k_runV (rest := []) hat hP hD hS hl.1 (c_X12_set q q_w q_imageSeed q_bookOf q_bookAt q_bookIs q_rs q_cs q_zs v_known v_kept v_seed v_written v_above v_below v_leftAbove v_leftBelow v_guessAbove v_guessBelow v_sign v_power2 v_bits v_w x1 x2 (r11.toInt32) w13 h14) [0, 1] (by decide) rfl kw1203 kw1205 kw64 kw79 kw1206 kdVX12_set ⟨rfl, rfl⟩ (by rw [hR]; exact ⟨Nat.le_of_ble_eq_true rfl, Nat.le_of_ble_eq_true rfl⟩) ⟨Nat.zero_le _, Nat.zero_le _⟩ 0 11 rfl rfl rfl rfl (Nat.le_of_ble_eq_true rfl) dX12_turn_39) hat hP hD hS [0, 1] rfl [2, 3] rfl rfl rfl rfl rfl (by decide) (fun H locs hP hD hS => ?_)
        refine lv_aload_n hx hb dX12_turn_42 rfl (lv_at hl 1 rfl) ?_
        refine lv_iload_n hx hb dX12_turn_43 rfl (lv_at hl 3 rfl) ?_
        refine lv_iload_n hx hb dX12_turn_44 rfl (lv_at hl 2 rfl) ?_
        refine lv_iload_n hx hb dX12_turn_45 rfl (lv_at hl 0 rfl) ?_
        obtain ⟨w15, h16, hf⟩ := kb1_e hf
        refine k_gv (nW := 4) (ws' := [(q, .inr (11, [.ref q_w, .int v_known, .int v_kept, .int v_seed, .ref q_imageSeed, .ref q_bookOf, .ref q_bookAt, .ref q_bookIs, .int v_written, .ref q_rs, .ref q_cs, .long v_above, .long v_below, .ref q_zs, .long v_leftAbove, .long v_leftBelow, .long v_guessAbove, .long v_guessBelow, .int v_sign, .int v_power2, .long v_bits])), (q_w, .inl (cI, 418, .inl w15)), (q_rs, .inl (cI, 4, .inl v_rs)), (q_cs, .inl (cI, 4, .inl v_cs))]) (wr := [(q_rs, .inl (cI, 4, .inl v_rs)), (q_cs, .inl (cI, 4, .inl v_cs))]) (k_runV (rest := []) hat hP hD hS hl.1 (c_X12_set q q_w q_imageSeed q_bookOf q_bookAt q_bookIs q_rs q_cs q_zs v_known v_kept v_seed v_written v_above v_below v_leftAbove v_leftBelow v_guessAbove v_guessBelow v_sign v_power2 v_bits w13 x2 x1 t10 w15 h16) [0, 1] (by decide) rfl kw1203 kw1205 kw64 kw79 kw1206 kdVX12_set ⟨rfl, rfl⟩ (by rw [hR]; exact ⟨Nat.le_of_ble_eq_true rfl, Nat.le_of_ble_eq_true rfl⟩) ⟨Nat.zero_le _, Nat.zero_le _⟩ 0 11 rfl rfl rfl rfl (Nat.le_of_ble_eq_true rfl) dX12_turn_46) hat hP hD hS [0, 1] rfl [2, 3] rfl rfl rfl rfl rfl (by decide) (fun H locs hP hD hS => ?_)
        obtain ⟨t17, et17⟩ : ∃ z : Int32, z = (x2 + (1 : Int32)) := ⟨_, rfl⟩
        have hf := kl_e hf t17 et17
        refine lv_iinc (v := t17) (lv' := [(2, .int t17), (3, .int t10), (0, .ref q), (1, .int x1)]) hx hb dX12_turn_49 hl (k := 3) rfl (by rw [et17]; rfl) (by decide) rfl (fun ls hl => ?_)
        refine lv_goto (tgt := 16) hx hb dX12_turn_52 (by decide) ?_
        exact ih t17 w15 o0 hf hk0 _ _ _ hP hD hS (lv_sub hl [2, 3, 0] rfl)
  have hL6 : ∀ (v_known : Int32) (v_kept : Int32) (v_seed : Int32) (v_written : Int32) (v_above : Int64) (v_below : Int64) (v_leftAbove : Int64) (v_leftBelow : Int64) (v_guessAbove : Int64) (v_guessBelow : Int64) (v_sign : Int32) (v_power2 : Int32) (v_bits : Int64) (v_rs : (Nat → Int32)) (v_cs : (Nat → Int32)) (fu : Nat) (x1 : Int32) (v_w : (Nat → Int32)) (o0 : (Nat → Int32)), L_X12_turn_6 F fu x1 v_w = some o0 → (∀ (H : Heap) (locs : List Loc) (ls : Array Slot), va_P D vwCl [(q, .inr (11, [.ref q_w, .int v_known, .int v_kept, .int v_seed, .ref q_imageSeed, .ref q_bookOf, .ref q_bookAt, .ref q_bookIs, .int v_written, .ref q_rs, .ref q_cs, .long v_above, .long v_below, .ref q_zs, .long v_leftAbove, .long v_leftBelow, .long v_guessAbove, .long v_guessBelow, .int v_sign, .int v_power2, .long v_bits])), (q_w, .inl (cI, 418, .inl o0)), (q_rs, .inl (cI, 4, .inl v_rs)), (q_cs, .inl (cI, 4, .inl v_cs))] H → va_D A [(q, .inr (11, [.ref q_w, .int v_known, .int v_kept, .int v_seed, .ref q_imageSeed, .ref q_bookOf, .ref q_bookAt, .ref q_bookIs, .int v_written, .ref q_rs, .ref q_cs, .long v_above, .long v_below, .ref q_zs, .long v_leftAbove, .long v_leftBelow, .long v_guessAbove, .long v_guessBelow, .int v_sign, .int v_power2, .long v_bits])), (q_w, .inl (cI, 418, .inl o0)), (q_rs, .inl (cI, 4, .inl v_rs)), (q_cs, .inl (cI, 4, .inl v_cs))] → va_S A s.heap H locs → lv_has ls 4 [(0, .ref q)] → W p l e R s m args below meth c H locs 0 0 Q (F0 m 61 ls [])) → ∀ (H : Heap) (locs : List Loc) (ls : Array Slot), va_P D vwCl [(q, .inr (11, [.ref q_w, .int v_known, .int v_kept, .int v_seed, .ref q_imageSeed, .ref q_bookOf, .ref q_bookAt, .ref q_bookIs, .int v_written, .ref q_rs, .ref q_cs, .long v_above, .long v_below, .ref q_zs, .long v_leftAbove, .long v_leftBelow, .long v_guessAbove, .long v_guessBelow, .int v_sign, .int v_power2, .long v_bits])), (q_w, .inl (cI, 418, .inl v_w)), (q_rs, .inl (cI, 4, .inl v_rs)), (q_cs, .inl (cI, 4, .inl v_cs))] H → va_D A [(q, .inr (11, [.ref q_w, .int v_known, .int v_kept, .int v_seed, .ref q_imageSeed, .ref q_bookOf, .ref q_bookAt, .ref q_bookIs, .int v_written, .ref q_rs, .ref q_cs, .long v_above, .long v_below, .ref q_zs, .long v_leftAbove, .long v_leftBelow, .long v_guessAbove, .long v_guessBelow, .int v_sign, .int v_power2, .long v_bits])), (q_w, .inl (cI, 418, .inl v_w)), (q_rs, .inl (cI, 4, .inl v_rs)), (q_cs, .inl (cI, 4, .inl v_cs))] → va_S A s.heap H locs → lv_has ls 4 [(0, .ref q), (1, .int x1)] → W p l e R s m args below meth c H locs 0 0 Q (F0 m 6 ls []) := by
    intro v_known v_kept v_seed v_written v_above v_below v_leftAbove v_leftBelow v_guessAbove v_guessBelow v_sign v_power2 v_bits v_rs v_cs fu
    induction fu with
    | zero =>
      intro x1 v_w o0 hf
      cases hf
    | succ fu ih =>
      intro x1 v_w o0 hf hk0 H locs ls hP hD hS hl
      rw [L_X12_turn_6] at hf
      refine lv_iload_n hx hb dX12_turn_6 rfl (lv_at hl 1 rfl) ?_
      refine lv_aload_n hx hb dX12_turn_7 rfl (lv_at hl 0 rfl) ?_
      obtain ⟨r4, h5, hf⟩ := kb1_e hf
      refine k_gi (nW := 4) (ws' := [(q, .inr (11, [.ref q_w, .int v_known, .int v_kept, .int v_seed, .ref q_imageSeed, .ref q_bookOf, .ref q_bookAt, .ref q_bookIs, .int v_written, .ref q_rs, .ref q_cs, .long v_above, .long v_below, .ref q_zs, .long v_leftAbove, .long v_leftBelow, .long v_guessAbove, .long v_guessBelow, .int v_sign, .int v_power2, .long v_bits])), (q_w, .inl (cI, 418, .inl v_w)), (q_rs, .inl (cI, 4, .inl v_rs)), (q_cs, .inl (cI, 4, .inl v_cs))]) (wr := [(q_rs, .inl (cI, 4, .inl v_rs)), (q_cs, .inl (cI, 4, .inl v_cs))]) (k_runV (rest := [.int x1]) hat hP hD hS hl.1 (c_X12_n q q_w q_imageSeed q_bookOf q_bookAt q_bookIs q_rs q_cs q_zs v_known v_kept v_seed v_written v_above v_below v_leftAbove v_leftBelow v_guessAbove v_guessBelow v_sign v_power2 v_bits v_w r4 h5) [0, 1] (by decide) rfl kw912 kw914 kw19 kw79 kw915 kdVX12_n ⟨rfl, rfl⟩ (by rw [hR]; exact ⟨Nat.le_of_ble_eq_true rfl, Nat.le_of_ble_eq_true rfl⟩) ⟨Nat.zero_le _, Nat.zero_le _⟩ 0 11 rfl rfl rfl rfl (Nat.le_of_ble_eq_true rfl) dX12_turn_8) hat hP hD hS [0, 1] rfl [2, 3] rfl rfl rfl rfl rfl (by decide) (fun H locs hP hD hS => ?_)
      refine lv_icmp_ge (tgt := 61) hx hb dX12_turn_11 (by decide) (fun c6 => ?_) (fun c6 => ?_)
      · have hf := kp_e hf c6
        obtain rfl := ki1 hf
        exact hk0 _ _ _ hP hD hS (lv_sub hl [0] rfl)
      · have hf := kn_e hf c6
        refine lv_iconst (v := 0) hx hb dX12_turn_14 (by decide) ?_
        refine lv_istore_n (lv' := [(2, .int (0 : Int32)), (0, .ref q), (1, .int x1)]) hx hb dX12_turn_15 rfl hl (by decide) rfl (fun ls hl => ?_)
        obtain ⟨w18, hu, hf⟩ := kb1_e hf
        refine hL16 x1 v_known v_kept v_seed v_written v_above v_below v_leftAbove v_leftBelow v_guessAbove v_guessBelow v_sign v_power2 v_bits v_rs v_cs F (0 : Int32) v_w w18 hu (fun H locs ls hP hD hS hl => ?_) _ _ _ hP hD hS (lv_sub hl [1, 2, 0] rfl)
        obtain ⟨t19, et19⟩ : ∃ z : Int32, z = (x1 + (1 : Int32)) := ⟨_, rfl⟩
        have hf := kl_e hf t19 et19
        refine lv_iinc (v := t19) (lv' := [(1, .int t19), (0, .ref q)]) hx hb dX12_turn_55 hl (k := 1) rfl (by rw [et19]; rfl) (by decide) rfl (fun ls hl => ?_)
        refine lv_goto (tgt := 6) hx hb dX12_turn_58 (by decide) ?_
        exact ih t19 w18 o0 hf hk0 _ _ _ hP hD hS (lv_sub hl [1, 0] rfl)
  unfold f_X12_turn at hf
  refine lv_aload_n hx hb dX12_turn_0 rfl (lv_at hl 0 rfl) ?_
  obtain ⟨w1, w2, h3, hf⟩ := kb2_e hf
  refine k_gv (nW := 4) (ws' := [(q, .inr (11, [.ref q_w, .int w1, .int v_kept, .int v_seed, .ref q_imageSeed, .ref q_bookOf, .ref q_bookAt, .ref q_bookIs, .int v_written, .ref q_rs, .ref q_cs, .long v_above, .long v_below, .ref q_zs, .long v_leftAbove, .long v_leftBelow, .long v_guessAbove, .long v_guessBelow, .int v_sign, .int v_power2, .long v_bits])), (q_w, .inl (cI, 418, .inl w2)), (q_rs, .inl (cI, 4, .inl v_rs)), (q_cs, .inl (cI, 4, .inl v_cs))]) (wr := [(q_rs, .inl (cI, 4, .inl v_rs)), (q_cs, .inl (cI, 4, .inl v_cs))]) (k_runV (rest := []) hat hP hD hS hl.1 (c_X12_remember q q_w q_imageSeed q_bookOf q_bookAt q_bookIs q_rs q_cs q_zs v_known v_kept v_seed v_written v_above v_below v_leftAbove v_leftBelow v_guessAbove v_guessBelow v_sign v_power2 v_bits v_w F w1 w2 h3) [0, 1] (by decide) rfl kw1189 kw1191 kw62 kw79 kw1192 kdVX12_remember ⟨rfl, rfl⟩ (by rw [hR]; exact ⟨Nat.le_of_ble_eq_true rfl, Nat.le_of_ble_eq_true rfl⟩) ⟨Nat.zero_le _, Nat.zero_le _⟩ 0 11 rfl rfl rfl rfl (Nat.le_of_ble_eq_true rfl) dX12_turn_1) hat hP hD hS [0, 1] rfl [2, 3] rfl rfl rfl rfl rfl (by decide) (fun H locs hP hD hS => ?_)
  refine lv_iconst (v := 0) hx hb dX12_turn_4 (by decide) ?_
  refine lv_istore_n (lv' := [(1, .int (0 : Int32)), (0, .ref q)]) hx hb dX12_turn_5 rfl hl (by decide) rfl (fun ls hl => ?_)
  obtain ⟨w20, hu, hf⟩ := kb1_e hf
  refine hL6 w1 v_kept v_seed v_written v_above v_below v_leftAbove v_leftBelow v_guessAbove v_guessBelow v_sign v_power2 v_bits v_rs v_cs F (0 : Int32) w2 w20 hu (fun H locs ls hP hD hS hl => ?_) _ _ _ hP hD hS (lv_sub hl [1, 0] rfl)
  refine lv_aload_n hx hb dX12_turn_61 rfl (lv_at hl 0 rfl) ?_
  obtain ⟨r21, w22, w23, h24, hf⟩ := kb3_e hf
  refine k_gi (nW := 4) (ws' := [(q, .inr (11, [.ref q_w, .int w1, .int v_kept, .int v_seed, .ref q_imageSeed, .ref q_bookOf, .ref q_bookAt, .ref q_bookIs, .int v_written, .ref q_rs, .ref q_cs, .long v_above, .long v_below, .ref q_zs, .long v_leftAbove, .long v_leftBelow, .long v_guessAbove, .long v_guessBelow, .int v_sign, .int v_power2, .long v_bits])), (q_w, .inl (cI, 418, .inl w20)), (q_rs, .inl (cI, 4, .inl w22)), (q_cs, .inl (cI, 4, .inl w23))]) (wr := []) (k_runV (rest := []) hat hP hD hS hl.1 (c_X12_rank q q_w q_imageSeed q_bookOf q_bookAt q_bookIs q_rs q_cs q_zs w1 v_kept v_seed v_written v_above v_below v_leftAbove v_leftBelow v_guessAbove v_guessBelow v_sign v_power2 v_bits w20 v_rs v_cs F r21 w22 w23 h24) [0, 1, 2, 3] (by decide) rfl kw965 kw967 kw29 kw79 kw968 kdVX12_rank ⟨rfl, rfl⟩ (by rw [hR]; exact ⟨Nat.le_of_ble_eq_true rfl, Nat.le_of_ble_eq_true rfl⟩) ⟨Nat.zero_le _, Nat.zero_le _⟩ 0 11 rfl rfl rfl rfl (Nat.le_of_ble_eq_true rfl) dX12_turn_62) hat hP hD hS [0, 1, 2, 3] rfl [] rfl rfl rfl rfl rfl (by decide) (fun H locs hP hD hS => ?_)
  obtain ⟨rfl, rfl, rfl, rfl, rfl⟩ := ki5 hf
  rw [hQ]
  exact k_iret hat hP hS rfl dX12_turn_65
set_option maxHeartbeats 4000000 in
set_option maxRecDepth 100000 in
theorem c_X12_prime {l : Launch} {D : va_G} {cI cJ cQ : ClassId} {tp : Nat} (q : Nat) (q_w : Nat) (q_imageSeed : Nat) (q_bookOf : Nat) (q_bookAt : Nat) (q_bookIs : Nat) (q_rs : Nat) (q_cs : Nat) (q_zs : Nat) (v_known : Int32) (v_kept : Int32) (v_seed : Int32) (v_written : Int32) (v_above : Int64) (v_below : Int64) (v_leftAbove : Int64) (v_leftBelow : Int64) (v_guessAbove : Int64) (v_guessBelow : Int64) (v_sign : Int32) (v_power2 : Int32) (v_bits : Int64) (v_w : (Nat → Int32)) (F : Nat) (x1 : Int32) (r0 : Int32) (o_v_known : Int32) (o_v_w : (Nat → Int32)) (hf : f_X12_prime F v_known v_w x1 = some (r0, o_v_known, o_v_w)) : kM (fun A => kQi D A [(q, .inr (11, [.ref q_w, .int o_v_known, .int v_kept, .int v_seed, .ref q_imageSeed, .ref q_bookOf, .ref q_bookAt, .ref q_bookIs, .int v_written, .ref q_rs, .ref q_cs, .long v_above, .long v_below, .ref q_zs, .long v_leftAbove, .long v_leftBelow, .long v_guessAbove, .long v_guessBelow, .int v_sign, .int v_power2, .long v_bits])), (q_w, .inl (cI, 418, .inl o_v_w))] r0) (some .int) l yX12_prime cX12_prime 2 { frames := 2, cells := 0, slots := 0, locals := 44 } D cI cJ cQ tp [.ref q, .int x1] [(q, .inr (11, [.ref q_w, .int v_known, .int v_kept, .int v_seed, .ref q_imageSeed, .ref q_bookOf, .ref q_bookAt, .ref q_bookIs, .int v_written, .ref q_rs, .ref q_cs, .long v_above, .long v_below, .ref q_zs, .long v_leftAbove, .long v_leftBelow, .long v_guessAbove, .long v_guessBelow, .int v_sign, .int v_power2, .long v_bits])), (q_w, .inl (cI, 418, .inl v_w))] := by
  refine kM_of (by decide +kernel) (Nat.le_of_ble_eq_true rfl) ?_
  intro p e s m args below meth c A ls R Q hR hQ hat hP hD hS hl
  obtain ⟨hx, hb, hr, hml, hown, hts, hT, hlk, hK, hA, hZ⟩ := id hat
  have hown : s.vm.findClass RX12 = some m.cls := hown
  have hl : lv_has ls 2 [(0, .ref q), (1, .int x1)] := hl
  unfold f_X12_prime at hf
  refine lv_iload_n hx hb dX12_prime_0 rfl (lv_at hl 1 rfl) ?_
  refine lv_i2l hx hb dX12_prime_1 rfl ?_
  refine lv_lconst (v := 0) hx hb dX12_prime_2 (by decide) ?_
  refine lv_ldc2 hx hb hown (hts _ kw1231) dX12_prime_3 ?_
  obtain ⟨r1, h2, hf⟩ := kb1_e hf
  refine k_gi (nW := 2) (ws' := [(q, .inr (11, [.ref q_w, .int v_known, .int v_kept, .int v_seed, .ref q_imageSeed, .ref q_bookOf, .ref q_bookAt, .ref q_bookIs, .int v_written, .ref q_rs, .ref q_cs, .long v_above, .long v_below, .ref q_zs, .long v_leftAbove, .long v_leftBelow, .long v_guessAbove, .long v_guessBelow, .int v_sign, .int v_power2, .long v_bits])), (q_w, .inl (cI, 418, .inl v_w))]) (wr := [(q, .inr (11, [.ref q_w, .int v_known, .int v_kept, .int v_seed, .ref q_imageSeed, .ref q_bookOf, .ref q_bookAt, .ref q_bookIs, .int v_written, .ref q_rs, .ref q_cs, .long v_above, .long v_below, .ref q_zs, .long v_leftAbove, .long v_leftBelow, .long v_guessAbove, .long v_guessBelow, .int v_sign, .int v_power2, .long v_bits])), (q_w, .inl (cI, 418, .inl v_w))]) (k_runS (rest := []) hat hP hD hS hl.1 (c_X12_in (x1.toInt64) (0 : Int64) (24 : Int64) r1 h2) [] (by decide) rfl kw1058 kw1059 kw79 kw1060 kdX12_in ⟨rfl, rfl⟩ (by rw [hR]; exact ⟨Nat.le_of_ble_eq_true rfl, Nat.le_of_ble_eq_true rfl⟩) ⟨Nat.zero_le _, Nat.zero_le _⟩ rfl rfl (Nat.le_of_ble_eq_true rfl) dX12_prime_6) hat hP hD hS [] rfl [0, 1] rfl rfl rfl rfl rfl (by decide) (fun H locs hP hD hS => ?_)
  refine lv_if_ne (tgt := 15) hx hb dX12_prime_9 (by decide) (fun c3 => ?_) (fun c3 => ?_)
  · have hf := kn_e hf c3
    refine lv_aload_n hx hb dX12_prime_15 rfl (lv_at hl 0 rfl) ?_
    obtain ⟨w4, w5, h6, hf⟩ := kb2_e hf
    refine k_gv (nW := 2) (ws' := [(q, .inr (11, [.ref q_w, .int w4, .int v_kept, .int v_seed, .ref q_imageSeed, .ref q_bookOf, .ref q_bookAt, .ref q_bookIs, .int v_written, .ref q_rs, .ref q_cs, .long v_above, .long v_below, .ref q_zs, .long v_leftAbove, .long v_leftBelow, .long v_guessAbove, .long v_guessBelow, .int v_sign, .int v_power2, .long v_bits])), (q_w, .inl (cI, 418, .inl w5))]) (wr := []) (k_runV (rest := []) hat hP hD hS hl.1 (c_X12_remember q q_w q_imageSeed q_bookOf q_bookAt q_bookIs q_rs q_cs q_zs v_known v_kept v_seed v_written v_above v_below v_leftAbove v_leftBelow v_guessAbove v_guessBelow v_sign v_power2 v_bits v_w F w4 w5 h6) [0, 1] (by decide) rfl kw1189 kw1191 kw62 kw79 kw1192 kdVX12_remember ⟨rfl, rfl⟩ (by rw [hR]; exact ⟨Nat.le_of_ble_eq_true rfl, Nat.le_of_ble_eq_true rfl⟩) ⟨Nat.zero_le _, Nat.zero_le _⟩ 0 11 rfl rfl rfl rfl (Nat.le_of_ble_eq_true rfl) dX12_prime_16) hat hP hD hS [0, 1] rfl [] rfl rfl rfl rfl rfl (by decide) (fun H locs hP hD hS => ?_)
    refine lv_aload_n hx hb dX12_prime_19 rfl (lv_at hl 0 rfl) ?_
    refine va_get (D := D) (ci := 11) (v := .ref q_w) (C := RX12) (T := TX12) (N := 21) hx hb hts kinX12 hown hK hP 0 rfl rfl 0 (by decide) (hts _ kw844) (fun _ h9 => h9) rfl dX12_prime_20 ?_
    refine lv_iconst (v := 1) hx hb dX12_prime_23 (by decide) ?_
    refine lv_iload_n hx hb dX12_prime_24 rfl (lv_at hl 1 rfl) ?_
    refine va_iast hx hb hK hP hD hS 1 0 rfl rfl (kin_e (by decide)) dX12_prime_25 (fun H locs hP hD hS => ?_)
    generalize ew8 : (upd w5 (1 : Int32).toNatClampNeg x1) = w8 at hP hD
    have hf := kl_e hf w8 ew8.symm
    have hP : va_P D vwCl [(q, .inr (11, [.ref q_w, .int w4, .int v_kept, .int v_seed, .ref q_imageSeed, .ref q_bookOf, .ref q_bookAt, .ref q_bookIs, .int v_written, .ref q_rs, .ref q_cs, .long v_above, .long v_below, .ref q_zs, .long v_leftAbove, .long v_leftBelow, .long v_guessAbove, .long v_guessBelow, .int v_sign, .int v_power2, .long v_bits])), (q_w, .inl (cI, 418, .inl w8))] H := hP
    have hD : va_D A [(q, .inr (11, [.ref q_w, .int w4, .int v_kept, .int v_seed, .ref q_imageSeed, .ref q_bookOf, .ref q_bookAt, .ref q_bookIs, .int v_written, .ref q_rs, .ref q_cs, .long v_above, .long v_below, .ref q_zs, .long v_leftAbove, .long v_leftBelow, .long v_guessAbove, .long v_guessBelow, .int v_sign, .int v_power2, .long v_bits])), (q_w, .inl (cI, 418, .inl w8))] := hD
    refine lv_aload_n hx hb dX12_prime_26 rfl (lv_at hl 0 rfl) ?_
    obtain ⟨r9, h10, hf⟩ := kb1_e hf
    refine k_gi (nW := 2) (ws' := [(q, .inr (11, [.ref q_w, .int w4, .int v_kept, .int v_seed, .ref q_imageSeed, .ref q_bookOf, .ref q_bookAt, .ref q_bookIs, .int v_written, .ref q_rs, .ref q_cs, .long v_above, .long v_below, .ref q_zs, .long v_leftAbove, .long v_leftBelow, .long v_guessAbove, .long v_guessBelow, .int v_sign, .int v_power2, .long v_bits])), (q_w, .inl (cI, 418, .inl w8))]) (wr := []) (k_runV (rest := []) hat hP hD hS hl.1 (c_X12_p q q_w q_imageSeed q_bookOf q_bookAt q_bookIs q_rs q_cs q_zs w4 v_kept v_seed v_written v_above v_below v_leftAbove v_leftBelow v_guessAbove v_guessBelow v_sign v_power2 v_bits w8 F r9 h10) [0, 1] (by decide) rfl kw916 kw918 kw20 kw79 kw919 kdVX12_p ⟨rfl, rfl⟩ (by rw [hR]; exact ⟨Nat.le_of_ble_eq_true rfl, Nat.le_of_ble_eq_true rfl⟩) ⟨Nat.zero_le _, Nat.zero_le _⟩ 0 11 rfl rfl rfl rfl (Nat.le_of_ble_eq_true rfl) dX12_prime_27) hat hP hD hS [0, 1] rfl [] rfl rfl rfl rfl rfl (by decide) (fun H locs hP hD hS => ?_)
    obtain ⟨rfl, rfl, rfl⟩ := ki3 hf
    rw [hQ]
    exact k_iret hat hP hS rfl dX12_prime_30
  · have hf := kp_e hf c3
    refine lv_ldc hx hb hown (hts _ kw1077) dX12_prime_12 ?_
    obtain ⟨rfl, rfl, rfl⟩ := ki3 hf
    rw [hQ]
    exact k_iret hat hP hS rfl dX12_prime_14
set_option maxHeartbeats 4000000 in
set_option maxRecDepth 100000 in
theorem c_X12_draw {l : Launch} {D : va_G} {cI cJ cQ : ClassId} {tp : Nat} (q : Nat) (q_w : Nat) (q_imageSeed : Nat) (q_bookOf : Nat) (q_bookAt : Nat) (q_bookIs : Nat) (q_rs : Nat) (q_cs : Nat) (q_zs : Nat) (v_known : Int32) (v_kept : Int32) (v_seed : Int32) (v_written : Int32) (v_above : Int64) (v_below : Int64) (v_leftAbove : Int64) (v_leftBelow : Int64) (v_guessAbove : Int64) (v_guessBelow : Int64) (v_sign : Int32) (v_power2 : Int32) (v_bits : Int64) (x1 : Int32) (r0 : Int32) (o_v_seed : Int32) (hf : f_X12_draw v_seed x1 = some (r0, o_v_seed)) : kM (fun A => kQi D A [(q, .inr (11, [.ref q_w, .int v_known, .int v_kept, .int o_v_seed, .ref q_imageSeed, .ref q_bookOf, .ref q_bookAt, .ref q_bookIs, .int v_written, .ref q_rs, .ref q_cs, .long v_above, .long v_below, .ref q_zs, .long v_leftAbove, .long v_leftBelow, .long v_guessAbove, .long v_guessBelow, .int v_sign, .int v_power2, .long v_bits]))] r0) (some .int) l yX12_draw cX12_draw 2 { frames := 0, cells := 0, slots := 0, locals := 0 } D cI cJ cQ tp [.ref q, .int x1] [(q, .inr (11, [.ref q_w, .int v_known, .int v_kept, .int v_seed, .ref q_imageSeed, .ref q_bookOf, .ref q_bookAt, .ref q_bookIs, .int v_written, .ref q_rs, .ref q_cs, .long v_above, .long v_below, .ref q_zs, .long v_leftAbove, .long v_leftBelow, .long v_guessAbove, .long v_guessBelow, .int v_sign, .int v_power2, .long v_bits]))] := by
  refine kM_of (by decide +kernel) (Nat.le_of_ble_eq_true rfl) ?_
  intro p e s m args below meth c A ls R Q hR hQ hat hP hD hS hl
  obtain ⟨hx, hb, hr, hml, hown, hts, hT, hlk, hK, hA, hZ⟩ := id hat
  have hown : s.vm.findClass RX12 = some m.cls := hown
  have hl : lv_has ls 2 [(0, .ref q), (1, .int x1)] := hl
  unfold f_X12_draw at hf
  refine lv_aload_n hx hb dX12_draw_0 rfl (lv_at hl 0 rfl) ?_
  refine lv_aload_n hx hb dX12_draw_1 rfl (lv_at hl 0 rfl) ?_
  refine va_get (D := D) (ci := 11) (v := .int v_seed) (C := RX12) (T := TX12) (N := 21) hx hb hts kinX12 hown hK hP 0 rfl rfl 3 (by decide) (hts _ kw847) (fun _ h9 => h9) rfl dX12_draw_2 ?_
  refine lv_i2l hx hb dX12_draw_5 rfl ?_
  refine lv_ldc2 hx hb hown (hts _ kw1241) dX12_draw_6 ?_
  refine lv_lmul hx hb dX12_draw_9 ?_
  refine lv_ldc2 hx hb hown (hts _ kw1242) dX12_draw_10 ?_
  refine lv_ladd hx hb dX12_draw_13 ?_
  refine lv_ldc2 hx hb hown (hts _ kw1180) dX12_draw_14 ?_
  refine lv_lrem hx hb dX12_draw_17 (by decide) ?_
  refine lv_l2i hx hb dX12_draw_18 rfl ?_
  refine lv_topi (fun t1 et1 => ?_)
  have hf := kl_e hf t1 et1
  refine va_put (D := D) (ci := 11) (v := .int t1) (ty := .int) (C := RX12) (T := TX12) (N := 21) hx hb hts kinX12 tyX12 tyX12_ok nmX12 hown hK hP hD hS 0 rfl rfl 3 (by decide) (hts _ kw847) (fun _ h9 => h9) rfl (by decide +kernel) rfl rfl (Nat.le_of_ble_eq_true rfl) dX12_draw_19 (fun H locs hP hD hS => ?_)
  have hP : va_P D vwCl [(q, .inr (11, [.ref q_w, .int v_known, .int v_kept, .int t1, .ref q_imageSeed, .ref q_bookOf, .ref q_bookAt, .ref q_bookIs, .int v_written, .ref q_rs, .ref q_cs, .long v_above, .long v_below, .ref q_zs, .long v_leftAbove, .long v_leftBelow, .long v_guessAbove, .long v_guessBelow, .int v_sign, .int v_power2, .long v_bits]))] H := hP
  have hD : va_D A [(q, .inr (11, [.ref q_w, .int v_known, .int v_kept, .int t1, .ref q_imageSeed, .ref q_bookOf, .ref q_bookAt, .ref q_bookIs, .int v_written, .ref q_rs, .ref q_cs, .long v_above, .long v_below, .ref q_zs, .long v_leftAbove, .long v_leftBelow, .long v_guessAbove, .long v_guessBelow, .int v_sign, .int v_power2, .long v_bits]))] := hD
  refine lv_aload_n hx hb dX12_draw_22 rfl (lv_at hl 0 rfl) ?_
  refine va_get (D := D) (ci := 11) (v := .int t1) (C := RX12) (T := TX12) (N := 21) hx hb hts kinX12 hown hK hP 0 rfl rfl 3 (by decide) (hts _ kw847) (fun _ h9 => h9) rfl dX12_draw_23 ?_
  refine lv_ldcw hx hb hown (hts _ kw1243) dX12_draw_26 ?_
  refine lv_idiv hx hb dX12_draw_29 (by decide) ?_
  refine lv_iload_n hx hb dX12_draw_30 rfl (lv_at hl 1 rfl) ?_
  obtain ⟨c2, hf⟩ := kc_e hf
  refine lv_irem hx hb dX12_draw_31 c2 ?_
  obtain ⟨rfl, rfl⟩ := ki2 hf
  rw [hQ]
  exact k_iret hat hP hS rfl dX12_draw_32
set_option maxHeartbeats 4000000 in
set_option maxRecDepth 100000 in
theorem c_X12_drift {l : Launch} {D : va_G} {cI cJ cQ : ClassId} {tp : Nat} (q : Nat) (q_w : Nat) (q_imageSeed : Nat) (q_bookOf : Nat) (q_bookAt : Nat) (q_bookIs : Nat) (q_rs : Nat) (q_cs : Nat) (q_zs : Nat) (v_known : Int32) (v_kept : Int32) (v_seed : Int32) (v_written : Int32) (v_above : Int64) (v_below : Int64) (v_leftAbove : Int64) (v_leftBelow : Int64) (v_guessAbove : Int64) (v_guessBelow : Int64) (v_sign : Int32) (v_power2 : Int32) (v_bits : Int64) (v_w : (Nat → Int32)) (v_rs : (Nat → Int32)) (v_cs : (Nat → Int32)) (F : Nat) (x1 : Int32) (r0 : Int32) (o_v_known : Int32) (o_v_seed : Int32) (o_v_w : (Nat → Int32)) (o_v_rs : (Nat → Int32)) (o_v_cs : (Nat → Int32)) (hf : f_X12_drift F v_known v_seed v_w v_rs v_cs x1 = some (r0, o_v_known, o_v_seed, o_v_w, o_v_rs, o_v_cs)) : kM (fun A => kQi D A [(q, .inr (11, [.ref q_w, .int o_v_known, .int v_kept, .int o_v_seed, .ref q_imageSeed, .ref q_bookOf, .ref q_bookAt, .ref q_bookIs, .int v_written, .ref q_rs, .ref q_cs, .long v_above, .long v_below, .ref q_zs, .long v_leftAbove, .long v_leftBelow, .long v_guessAbove, .long v_guessBelow, .int v_sign, .int v_power2, .long v_bits])), (q_w, .inl (cI, 418, .inl o_v_w)), (q_rs, .inl (cI, 4, .inl o_v_rs)), (q_cs, .inl (cI, 4, .inl o_v_cs))] r0) (some .int) l yX12_drift cX12_drift 6 { frames := 8, cells := 0, slots := 0, locals := 184 } D cI cJ cQ tp [.ref q, .int x1] [(q, .inr (11, [.ref q_w, .int v_known, .int v_kept, .int v_seed, .ref q_imageSeed, .ref q_bookOf, .ref q_bookAt, .ref q_bookIs, .int v_written, .ref q_rs, .ref q_cs, .long v_above, .long v_below, .ref q_zs, .long v_leftAbove, .long v_leftBelow, .long v_guessAbove, .long v_guessBelow, .int v_sign, .int v_power2, .long v_bits])), (q_w, .inl (cI, 418, .inl v_w)), (q_rs, .inl (cI, 4, .inl v_rs)), (q_cs, .inl (cI, 4, .inl v_cs))] := by
  refine kM_of (by decide +kernel) (Nat.le_of_ble_eq_true rfl) ?_
  intro p e s m args below meth c A ls R Q hR hQ hat hP hD hS hl
  obtain ⟨hx, hb, hr, hml, hown, hts, hT, hlk, hK, hA, hZ⟩ := id hat
  have hown : s.vm.findClass RX12 = some m.cls := hown
  have hl : lv_has ls 6 [(0, .ref q), (1, .int x1)] := hl
  have hL17 : ∀ (x1 : Int32) (v_kept : Int32) (v_written : Int32) (v_above : Int64) (v_below : Int64) (v_leftAbove : Int64) (v_leftBelow : Int64) (v_guessAbove : Int64) (v_guessBelow : Int64) (v_sign : Int32) (v_power2 : Int32) (v_bits : Int64) (v_rs : (Nat → Int32)) (v_cs : (Nat → Int32)) (fu : Nat) (x2 : Int32) (v_known : Int32) (v_seed : Int32) (v_w : (Nat → Int32)) (o0 : Int32) (o1 : Int32) (o2 : (Nat → Int32)), L_X12_drift_17 F x1 fu x2 v_known v_seed v_w = some (o0, o1, o2) → (∀ (H : Heap) (locs : List Loc) (ls : Array Slot), va_P D vwCl [(q, .inr (11, [.ref q_w, .int o0, .int v_kept, .int o1, .ref q_imageSeed, .ref q_bookOf, .ref q_bookAt, .ref q_bookIs, .int v_written, .ref q_rs, .ref q_cs, .long v_above, .long v_below, .ref q_zs, .long v_leftAbove, .long v_leftBelow, .long v_guessAbove, .long v_guessBelow, .int v_sign, .int v_power2, .long v_bits])), (q_w, .inl (cI, 418, .inl o2)), (q_rs, .inl (cI, 4, .inl v_rs)), (q_cs, .inl (cI, 4, .inl v_cs))] H → va_D A [(q, .inr (11, [.ref q_w, .int o0, .int v_kept, .int o1, .ref q_imageSeed, .ref q_bookOf, .ref q_bookAt, .ref q_bookIs, .int v_written, .ref q_rs, .ref q_cs, .long v_above, .long v_below, .ref q_zs, .long v_leftAbove, .long v_leftBelow, .long v_guessAbove, .long v_guessBelow, .int v_sign, .int v_power2, .long v_bits])), (q_w, .inl (cI, 418, .inl o2)), (q_rs, .inl (cI, 4, .inl v_rs)), (q_cs, .inl (cI, 4, .inl v_cs))] → va_S A s.heap H locs → lv_has ls 6 [(0, .ref q)] → W p l e R s m args below meth c H locs 0 0 Q (F0 m 106 ls [])) → ∀ (H : Heap) (locs : List Loc) (ls : Array Slot), va_P D vwCl [(q, .inr (11, [.ref q_w, .int v_known, .int v_kept, .int v_seed, .ref q_imageSeed, .ref q_bookOf, .ref q_bookAt, .ref q_bookIs, .int v_written, .ref q_rs, .ref q_cs, .long v_above, .long v_below, .ref q_zs, .long v_leftAbove, .long v_leftBelow, .long v_guessAbove, .long v_guessBelow, .int v_sign, .int v_power2, .long v_bits])), (q_w, .inl (cI, 418, .inl v_w)), (q_rs, .inl (cI, 4, .inl v_rs)), (q_cs, .inl (cI, 4, .inl v_cs))] H → va_D A [(q, .inr (11, [.ref q_w, .int v_known, .int v_kept, .int v_seed, .ref q_imageSeed, .ref q_bookOf, .ref q_bookAt, .ref q_bookIs, .int v_written, .ref q_rs, .ref q_cs, .long v_above, .long v_below, .ref q_zs, .long v_leftAbove, .long v_leftBelow, .long v_guessAbove, .long v_guessBelow, .int v_sign, .int v_power2, .long v_bits])), (q_w, .inl (cI, 418, .inl v_w)), (q_rs, .inl (cI, 4, .inl v_rs)), (q_cs, .inl (cI, 4, .inl v_cs))] → va_S A s.heap H locs → lv_has ls 6 [(0, .ref q), (1, .int x1), (2, .int x2)] → W p l e R s m args below meth c H locs 0 0 Q (F0 m 17 ls []) := by
    intro x1 v_kept v_written v_above v_below v_leftAbove v_leftBelow v_guessAbove v_guessBelow v_sign v_power2 v_bits v_rs v_cs fu
    induction fu with
    | zero =>
      intro x2 v_known v_seed v_w o0 o1 o2 hf
      cases hf
    | succ fu ih =>
      intro x2 v_known v_seed v_w o0 o1 o2 hf hk0 H locs ls hP hD hS hl
      rw [L_X12_drift_17] at hf
      refine lv_iload_n hx hb dX12_drift_17 rfl (lv_at hl 2 rfl) ?_
      refine lv_iload_n hx hb dX12_drift_18 rfl (lv_at hl 1 rfl) ?_
      refine lv_icmp_ge (tgt := 106) hx hb dX12_drift_19 (by decide) (fun c4 => ?_) (fun c4 => ?_)
      · have hf := kp_e hf c4
        obtain ⟨rfl, rfl, rfl⟩ := ki3 hf
        exact hk0 _ _ _ hP hD hS (lv_sub hl [0] rfl)
      · have hf := kn_e hf c4
        refine lv_aload_n hx hb dX12_drift_22 rfl (lv_at hl 0 rfl) ?_
        obtain ⟨w5, w6, h7, hf⟩ := kb2_e hf
        refine k_gv (nW := 4) (ws' := [(q, .inr (11, [.ref q_w, .int w5, .int v_kept, .int v_seed, .ref q_imageSeed, .ref q_bookOf, .ref q_bookAt, .ref q_bookIs, .int v_written, .ref q_rs, .ref q_cs, .long v_above, .long v_below, .ref q_zs, .long v_leftAbove, .long v_leftBelow, .long v_guessAbove, .long v_guessBelow, .int v_sign, .int v_power2, .long v_bits])), (q_w, .inl (cI, 418, .inl w6)), (q_rs, .inl (cI, 4, .inl v_rs)), (q_cs, .inl (cI, 4, .inl v_cs))]) (wr := [(q_rs, .inl (cI, 4, .inl v_rs)), (q_cs, .inl (cI, 4, .inl v_cs))]) (k_runV (rest := []) hat hP hD hS hl.1 (c_X12_remember q q_w q_imageSeed q_bookOf q_bookAt q_bookIs q_rs q_cs q_zs v_known v_kept v_seed v_written v_above v_below v_leftAbove v_leftBelow v_guessAbove v_guessBelow v_sign v_power2 v_bits v_w F w5 w6 h7) [0, 1] (by decide) rfl kw1189 kw1191 kw62 kw79 kw1192 kdVX12_remember ⟨rfl, rfl⟩ (by rw [hR]; exact ⟨Nat.le_of_ble_eq_true rfl, Nat.le_of_ble_eq_true rfl⟩) ⟨Nat.zero_le _, Nat.zero_le _⟩ 0 11 rfl rfl rfl rfl (Nat.le_of_ble_eq_true rfl) dX12_drift_23) hat hP hD hS [0, 1] rfl [2, 3] rfl rfl rfl rfl rfl (by decide) (fun H locs hP hD hS => ?_)
        refine lv_aload_n hx hb dX12_drift_26 rfl (lv_at hl 0 rfl) ?_
        refine lv_aload_n hx hb dX12_drift_27 rfl (lv_at hl 0 rfl) ?_
        obtain ⟨r8, h9, hf⟩ := kb1_e hf
        refine k_gi (nW := 4) (ws' := [(q, .inr (11, [.ref q_w, .int w5, .int v_kept, .int v_seed, .ref q_imageSeed, .ref q_bookOf, .ref q_bookAt, .ref q_bookIs, .int v_written, .ref q_rs, .ref q_cs, .long v_above, .long v_below, .ref q_zs, .long v_leftAbove, .long v_leftBelow, .long v_guessAbove, .long v_guessBelow, .int v_sign, .int v_power2, .long v_bits])), (q_w, .inl (cI, 418, .inl w6)), (q_rs, .inl (cI, 4, .inl v_rs)), (q_cs, .inl (cI, 4, .inl v_cs))]) (wr := [(q_rs, .inl (cI, 4, .inl v_rs)), (q_cs, .inl (cI, 4, .inl v_cs))]) (k_runV (rest := [.ref q]) hat hP hD hS hl.1 (c_X12_n q q_w q_imageSeed q_bookOf q_bookAt q_bookIs q_rs q_cs q_zs w5 v_kept v_seed v_written v_above v_below v_leftAbove v_leftBelow v_guessAbove v_guessBelow v_sign v_power2 v_bits w6 r8 h9) [0, 1] (by decide) rfl kw912 kw914 kw19 kw79 kw915 kdVX12_n ⟨rfl, rfl⟩ (by rw [hR]; exact ⟨Nat.le_of_ble_eq_true rfl, Nat.le_of_ble_eq_true rfl⟩) ⟨Nat.zero_le _, Nat.zero_le _⟩ 0 11 rfl rfl rfl rfl (Nat.le_of_ble_eq_true rfl) dX12_drift_28) hat hP hD hS [0, 1] rfl [2, 3] rfl rfl rfl rfl rfl (by decide) (fun H locs hP hD hS => ?_)
        obtain ⟨r10, w11, h12, hf⟩ := kb2_e hf
        refine k_gi (nW := 4) (ws' := [(q, .inr (11, [.ref q_w, .int w5, .int v_kept, .int w11, .ref q_imageSeed, .ref q_bookOf, .ref q_bookAt, .ref q_bookIs, .int v_written, .ref q_rs, .ref q_cs, .long v_above, .long v_below, .ref q_zs, .long v_leftAbove, .long v_leftBelow, .long v_guessAbove, .long v_guessBelow, .int v_sign, .int v_power2, .long v_bits])), (q_w, .inl (cI, 418, .inl w6)), (q_rs, .inl (cI, 4, .inl v_rs)), (q_cs, .inl (cI, 4, .inl v_cs))]) (wr := [(q_w, .inl (cI, 418, .inl w6)), (q_rs, .inl (cI, 4, .inl v_rs)), (q_cs, .inl (cI, 4, .inl v_cs))]) (k_runV (rest := []) hat hP hD hS hl.1 (c_X12_draw q q_w q_imageSeed q_bookOf q_bookAt q_bookIs q_rs q_cs q_zs w5 v_kept v_seed v_written v_above v_below v_leftAbove v_leftBelow v_guessAbove v_guessBelow v_sign v_power2 v_bits r8 r10 w11 h12) [0] (by decide) rfl kw1237 kw1239 kw65 kw79 kw1240 kdVX12_draw ⟨rfl, rfl⟩ (by rw [hR]; exact ⟨Nat.le_of_ble_eq_true rfl, Nat.le_of_ble_eq_true rfl⟩) ⟨Nat.zero_le _, Nat.zero_le _⟩ 0 11 rfl rfl rfl rfl (Nat.le_of_ble_eq_true rfl) dX12_drift_31) hat hP hD hS [0] rfl [1, 2, 3] rfl rfl rfl rfl rfl (by decide) (fun H locs hP hD hS => ?_)
        refine lv_istore_n (lv' := [(3, .int r10), (0, .ref q), (1, .int x1), (2, .int x2)]) hx hb dX12_drift_34 rfl hl (by decide) rfl (fun ls hl => ?_)
        refine lv_aload_n hx hb dX12_drift_35 rfl (lv_at hl 1 rfl) ?_
        refine lv_aload_n hx hb dX12_drift_36 rfl (lv_at hl 1 rfl) ?_
        obtain ⟨r13, h14, hf⟩ := kb1_e hf
        refine k_gi (nW := 4) (ws' := [(q, .inr (11, [.ref q_w, .int w5, .int v_kept, .int w11, .ref q_imageSeed, .ref q_bookOf, .ref q_bookAt, .ref q_bookIs, .int v_written, .ref q_rs, .ref q_cs, .long v_above, .long v_below, .ref q_zs, .long v_leftAbove, .long v_leftBelow, .long v_guessAbove, .long v_guessBelow, .int v_sign, .int v_power2, .long v_bits])), (q_w, .inl (cI, 418, .inl w6)), (q_rs, .inl (cI, 4, .inl v_rs)), (q_cs, .inl (cI, 4, .inl v_cs))]) (wr := [(q_rs, .inl (cI, 4, .inl v_rs)), (q_cs, .inl (cI, 4, .inl v_cs))]) (k_runV (rest := [.ref q]) hat hP hD hS hl.1 (c_X12_n q q_w q_imageSeed q_bookOf q_bookAt q_bookIs q_rs q_cs q_zs w5 v_kept w11 v_written v_above v_below v_leftAbove v_leftBelow v_guessAbove v_guessBelow v_sign v_power2 v_bits w6 r13 h14) [0, 1] (by decide) rfl kw912 kw914 kw19 kw79 kw915 kdVX12_n ⟨rfl, rfl⟩ (by rw [hR]; exact ⟨Nat.le_of_ble_eq_true rfl, Nat.le_of_ble_eq_true rfl⟩) ⟨Nat.zero_le _, Nat.zero_le _⟩ 0 11 rfl rfl rfl rfl (Nat.le_of_ble_eq_true rfl) dX12_drift_37) hat hP hD hS [0, 1] rfl [2, 3] rfl rfl rfl rfl rfl (by decide) (fun H locs hP hD hS => ?_)
        refine lv_iconst (v := 1) hx hb dX12_drift_40 (by decide) ?_
        refine lv_iadd hx hb dX12_drift_41 ?_
        obtain ⟨r15, w16, h17, hf⟩ := kb2_e hf
        refine k_gi (nW := 4) (ws' := [(q, .inr (11, [.ref q_w, .int w5, .int v_kept, .int w16, .ref q_imageSeed, .ref q_bookOf, .ref q_bookAt, .ref q_bookIs, .int v_written, .ref q_rs, .ref q_cs, .long v_above, .long v_below, .ref q_zs, .long v_leftAbove, .long v_leftBelow, .long v_guessAbove, .long v_guessBelow, .int v_sign, .int v_power2, .long v_bits])), (q_w, .inl (cI, 418, .inl w6)), (q_rs, .inl (cI, 4, .inl v_rs)), (q_cs, .inl (cI, 4, .inl v_cs))]) (wr := [(q_w, .inl (cI, 418, .inl w6)), (q_rs, .inl (cI, 4, .inl v_rs)), (q_cs, .inl (cI, 4, .inl v_cs))]) (k_runV (rest := []) hat hP hD hS hl.1 (c_X12_draw q q_w q_imageSeed q_bookOf q_bookAt q_bookIs q_rs q_cs q_zs w5 v_kept w11 v_written v_above v_below v_leftAbove v_leftBelow v_guessAbove v_guessBelow v_sign v_power2 v_bits (r13 + (1 : Int32)) r15 w16 h17) [0] (by decide) rfl kw1237 kw1239 kw65 kw79 kw1240 kdVX12_draw ⟨rfl, rfl⟩ (by rw [hR]; exact ⟨Nat.le_of_ble_eq_true rfl, Nat.le_of_ble_eq_true rfl⟩) ⟨Nat.zero_le _, Nat.zero_le _⟩ 0 11 rfl rfl rfl rfl (Nat.le_of_ble_eq_true rfl) dX12_drift_42) hat hP hD hS [0] rfl [1, 2, 3] rfl rfl rfl rfl rfl (by decide) (fun H locs hP hD hS => ?_)
        refine lv_istore (lv' := [(4, .int r15), (3, .int r10), (0, .ref q), (1, .int x1), (2, .int x2)]) hx hb dX12_drift_45 hl (by decide) rfl (fun ls hl => ?_)
        refine lv_aload_n hx hb dX12_drift_47 rfl (lv_at hl 2 rfl) ?_
        refine lv_bipush (v := 19) hx hb dX12_drift_48 (by decide) ?_
        obtain ⟨r18, w19, h20, hf⟩ := kb2_e hf
        refine k_gi (nW := 4) (ws' := [(q, .inr (11, [.ref q_w, .int w5, .int v_kept, .int w19, .ref q_imageSeed, .ref q_bookOf, .ref q_bookAt, .ref q_bookIs, .int v_written, .ref q_rs, .ref q_cs, .long v_above, .long v_below, .ref q_zs, .long v_leftAbove, .long v_leftBelow, .long v_guessAbove, .long v_guessBelow, .int v_sign, .int v_power2, .long v_bits])), (q_w, .inl (cI, 418, .inl w6)), (q_rs, .inl (cI, 4, .inl v_rs)), (q_cs, .inl (cI, 4, .inl v_cs))]) (wr := [(q_w, .inl (cI, 418, .inl w6)), (q_rs, .inl (cI, 4, .inl v_rs)), (q_cs, .inl (cI, 4, .inl v_cs))]) (k_runV (rest := []) hat hP hD hS hl.1 (c_X12_draw q q_w q_imageSeed q_bookOf q_bookAt q_bookIs q_rs q_cs q_zs w5 v_kept w16 v_written v_above v_below v_leftAbove v_leftBelow v_guessAbove v_guessBelow v_sign v_power2 v_bits (19 : Int32) r18 w19 h20) [0] (by decide) rfl kw1237 kw1239 kw65 kw79 kw1240 kdVX12_draw ⟨rfl, rfl⟩ (by rw [hR]; exact ⟨Nat.le_of_ble_eq_true rfl, Nat.le_of_ble_eq_true rfl⟩) ⟨Nat.zero_le _, Nat.zero_le _⟩ 0 11 rfl rfl rfl rfl (Nat.le_of_ble_eq_true rfl) dX12_drift_50) hat hP hD hS [0] rfl [1, 2, 3] rfl rfl rfl rfl rfl (by decide) (fun H locs hP hD hS => ?_)
        refine lv_istore (lv' := [(5, .int r18), (4, .int r15), (3, .int r10), (0, .ref q), (1, .int x1), (2, .int x2)]) hx hb dX12_drift_53 hl (by decide) rfl (fun ls hl => ?_)
        refine lv_aload_n hx hb dX12_drift_55 rfl (lv_at hl 3 rfl) ?_
        refine lv_iload_n hx hb dX12_drift_56 rfl (lv_at hl 2 rfl) ?_
        refine lv_iload hx hb dX12_drift_57 (lv_at hl 1 rfl) ?_
        refine lv_aload_n hx hb dX12_drift_59 rfl (lv_at hl 3 rfl) ?_
        obtain ⟨r21, h22, hf⟩ := kb1_e hf
        refine k_gi (nW := 4) (ws' := [(q, .inr (11, [.ref q_w, .int w5, .int v_kept, .int w19, .ref q_imageSeed, .ref q_bookOf, .ref q_bookAt, .ref q_bookIs, .int v_written, .ref q_rs, .ref q_cs, .long v_above, .long v_below, .ref q_zs, .long v_leftAbove, .long v_leftBelow, .long v_guessAbove, .long v_guessBelow, .int v_sign, .int v_power2, .long v_bits])), (q_w, .inl (cI, 418, .inl w6)), (q_rs, .inl (cI, 4, .inl v_rs)), (q_cs, .inl (cI, 4, .inl v_cs))]) (wr := [(q_rs, .inl (cI, 4, .inl v_rs)), (q_cs, .inl (cI, 4, .inl v_cs))]) (k_runV (rest := [.int r15, .int r10, .ref q]) hat hP hD hS hl.1 (c_X12_n q q_w q_imageSeed q_bookOf q_bookAt q_bookIs q_rs q_cs q_zs w5 v_kept w19 v_written v_above v_below v_leftAbove v_leftBelow v_guessAbove v_guessBelow v_sign v_power2 v_bits w6 r21 h22) [0, 1] (by decide) rfl kw912 kw914 kw19 kw79 kw915 kdVX12_n ⟨rfl, rfl⟩ (by rw [hR]; exact ⟨Nat.le_of_ble_eq_true rfl, Nat.le_of_ble_eq_true rfl⟩) ⟨Nat.zero_le _, Nat.zero_le _⟩ 0 11 rfl rfl rfl rfl (Nat.le_of_ble_eq_true rfl) dX12_drift_60) hat hP hD hS [0, 1] rfl [2, 3] rfl rfl rfl rfl rfl (by decide) (fun H locs hP hD hS => ?_)
        obtain ⟨J24, hJ24_, hf⟩ := kj1_e hf
        have hJ24 : ∀ (t23 : Int32), J24 t23 = some (o0, o1, o2) → ∀ (H : Heap) (locs : List Loc) (ls : Array Slot), va_P D vwCl [(q, .inr (11, [.ref q_w, .int w5, .int v_kept, .int w19, .ref q_imageSeed, .ref q_bookOf, .ref q_bookAt, .ref q_bookIs, .int v_written, .ref q_rs, .ref q_cs, .long v_above, .long v_below, .ref q_zs, .long v_leftAbove, .long v_leftBelow, .long v_guessAbove, .long v_guessBelow, .int v_sign, .int v_power2, .long v_bits])), (q_w, .inl (cI, 418, .inl w6)), (q_rs, .inl (cI, 4, .inl v_rs)), (q_cs, .inl (cI, 4, .inl v_cs))] H → va_D A [(q, .inr (11, [.ref q_w, .int w5, .int v_kept, .int w19, .ref q_imageSeed, .ref q_bookOf, .ref q_bookAt, .ref q_bookIs, .int v_written, .ref q_rs, .ref q_cs, .long v_above, .long v_below, .ref q_zs, .long v_leftAbove, .long v_leftBelow, .long v_guessAbove, .long v_guessBelow, .int v_sign, .int v_power2, .long v_bits])), (q_w, .inl (cI, 418, .inl w6)), (q_rs, .inl (cI, 4, .inl v_rs)), (q_cs, .inl (cI, 4, .inl v_cs))] → va_S A s.heap H locs → lv_has ls 6 [(0, .ref q), (1, .int x1), (2, .int x2), (4, .int r15), (5, .int r18)] → W p l e R s m args below meth c H locs 0 0 Q (F0 m 72 ls [.int t23, .int r10, .ref q]) := by
          intro t23 hf H locs ls hP hD hS hl
          rw [hJ24_] at hf
          refine lv_iload hx hb dX12_drift_72 (lv_at hl 3 rfl) ?_
          refine lv_aload_n hx hb dX12_drift_74 rfl (lv_at hl 0 rfl) ?_
          obtain ⟨r25, h26, hf⟩ := kb1_e hf
          refine k_gi (nW := 4) (ws' := [(q, .inr (11, [.ref q_w, .int w5, .int v_kept, .int w19, .ref q_imageSeed, .ref q_bookOf, .ref q_bookAt, .ref q_bookIs, .int v_written, .ref q_rs, .ref q_cs, .long v_above, .long v_below, .ref q_zs, .long v_leftAbove, .long v_leftBelow, .long v_guessAbove, .long v_guessBelow, .int v_sign, .int v_power2, .long v_bits])), (q_w, .inl (cI, 418, .inl w6)), (q_rs, .inl (cI, 4, .inl v_rs)), (q_cs, .inl (cI, 4, .inl v_cs))]) (wr := [(q_rs, .inl (cI, 4, .inl v_rs)), (q_cs, .inl (cI, 4, .inl v_cs))]) (k_runV (rest := [.int r15, .int t23, .int r10, .ref q]) hat hP hD hS hl.1 (c_X12_n q q_w q_imageSeed q_bookOf q_bookAt q_bookIs q_rs q_cs q_zs w5 v_kept w19 v_written v_above v_below v_leftAbove v_leftBelow v_guessAbove v_guessBelow v_sign v_power2 v_bits w6 r25 h26) [0, 1] (by decide) rfl kw912 kw914 kw19 kw79 kw915 kdVX12_n ⟨rfl, rfl⟩ (by rw [hR]; exact ⟨Nat.le_of_ble_eq_true rfl, Nat.le_of_ble_eq_true rfl⟩) ⟨Nat.zero_le _, Nat.zero_le _⟩ 0 11 rfl rfl rfl rfl (Nat.le_of_ble_eq_true rfl) dX12_drift_75) hat hP hD hS [0, 1] rfl [2, 3] rfl rfl rfl rfl rfl (by decide) (fun H locs hP hD hS => ?_)
          refine lv_icmp_ne (tgt := 92) hx hb dX12_drift_78 (by decide) (fun c27 => ?_) (fun c27 => ?_)
          · have hf := kn_e hf c27
            refine lv_iload hx hb dX12_drift_92 (lv_at hl 4 rfl) ?_
            refine lv_bipush (v := 9) hx hb dX12_drift_94 (by decide) ?_
            refine lv_isub hx hb dX12_drift_96 ?_
            obtain ⟨w28, h29, hf⟩ := kb1_e hf
            refine k_gv (nW := 4) (ws' := [(q, .inr (11, [.ref q_w, .int w5, .int v_kept, .int w19, .ref q_imageSeed, .ref q_bookOf, .ref q_bookAt, .ref q_bookIs, .int v_written, .ref q_rs, .ref q_cs, .long v_above, .long v_below, .ref q_zs, .long v_leftAbove, .long v_leftBelow, .long v_guessAbove, .long v_guessBelow, .int v_sign, .int v_power2, .long v_bits])), (q_w, .inl (cI, 418, .inl w28)), (q_rs, .inl (cI, 4, .inl v_rs)), (q_cs, .inl (cI, 4, .inl v_cs))]) (wr := [(q_rs, .inl (cI, 4, .inl v_rs)), (q_cs, .inl (cI, 4, .inl v_cs))]) (k_runV (rest := []) hat hP hD hS hl.1 (c_X12_set q q_w q_imageSeed q_bookOf q_bookAt q_bookIs q_rs q_cs q_zs w5 v_kept w19 v_written v_above v_below v_leftAbove v_leftBelow v_guessAbove v_guessBelow v_sign v_power2 v_bits w6 r10 t23 (r18 - (9 : Int32)) w28 h29) [0, 1] (by decide) rfl kw1203 kw1205 kw64 kw79 kw1206 kdVX12_set ⟨rfl, rfl⟩ (by rw [hR]; exact ⟨Nat.le_of_ble_eq_true rfl, Nat.le_of_ble_eq_true rfl⟩) ⟨Nat.zero_le _, Nat.zero_le _⟩ 0 11 rfl rfl rfl rfl (Nat.le_of_ble_eq_true rfl) dX12_drift_97) hat hP hD hS [0, 1] rfl [2, 3] rfl rfl rfl rfl rfl (by decide) (fun H locs hP hD hS => ?_)
            obtain ⟨t30, et30⟩ : ∃ z : Int32, z = (x2 + (1 : Int32)) := ⟨_, rfl⟩
            have hf := kl_e hf t30 et30
            refine lv_iinc (v := t30) (lv' := [(2, .int t30), (0, .ref q), (1, .int x1), (4, .int r15), (5, .int r18)]) hx hb dX12_drift_100 hl (k := 2) rfl (by rw [et30]; rfl) (by decide) rfl (fun ls hl => ?_)
            refine lv_goto (tgt := 17) hx hb dX12_drift_103 (by decide) ?_
            exact ih t30 w5 w19 w28 o0 o1 o2 hf hk0 _ _ _ hP hD hS (lv_sub hl [1, 2, 0] rfl)
          · have hf := kp_e hf c27
            refine lv_bipush (v := 11) hx hb dX12_drift_81 (by decide) ?_
            refine lv_iload hx hb dX12_drift_83 (lv_at hl 4 rfl) ?_
            refine lv_imul hx hb dX12_drift_85 ?_
            refine lv_bipush (v := 99) hx hb dX12_drift_86 (by decide) ?_
            refine lv_isub hx hb dX12_drift_88 ?_
            refine lv_goto (tgt := 97) hx hb dX12_drift_89 (by decide) ?_
            obtain ⟨w31, h32, hf⟩ := kb1_e hf
            refine k_gv (nW := 4) (ws' := [(q, .inr (11, [.ref q_w, .int w5, .int v_kept, .int w19, .ref q_imageSeed, .ref q_bookOf, .ref q_bookAt, .ref q_bookIs, .int v_written, .ref q_rs, .ref q_cs, .long v_above, .long v_below, .ref q_zs, .long v_leftAbove, .long v_leftBelow, .long v_guessAbove, .long v_guessBelow, .int v_sign, .int v_power2, .long v_bits])), (q_w, .inl (cI, 418, .inl w31)), (q_rs, .inl (cI, 4, .inl v_rs)), (q_cs, .inl (cI, 4, .inl v_cs))]) (wr := [(q_rs, .inl (cI, 4, .inl v_rs)), (q_cs, .inl (cI, 4, .inl v_cs))]) (k_runV (rest := []) hat hP hD hS hl.1 (c_X12_set q q_w q_imageSeed q_bookOf q_bookAt q_bookIs q_rs q_cs q_zs w5 v_kept w19 v_written v_above v_below v_leftAbove v_leftBelow v_guessAbove v_guessBelow v_sign v_power2 v_bits w6 r10 t23 (((11 : Int32) * r18) - (99 : Int32)) w31 h32) [0, 1] (by decide) rfl kw1203 kw1205 kw64 kw79 kw1206 kdVX12_set ⟨rfl, rfl⟩ (by rw [hR]; exact ⟨Nat.le_of_ble_eq_true rfl, Nat.le_of_ble_eq_true rfl⟩) ⟨Nat.zero_le _, Nat.zero_le _⟩ 0 11 rfl rfl rfl rfl (Nat.le_of_ble_eq_true rfl) dX12_drift_97) hat hP hD hS [0, 1] rfl [2, 3] rfl rfl rfl rfl rfl (by decide) (fun H locs hP hD hS => ?_)
            obtain ⟨t33, et33⟩ : ∃ z : Int32, z = (x2 + (1 : Int32)) := ⟨_, rfl⟩
            have hf := kl_e hf t33 et33
            refine lv_iinc (v := t33) (lv' := [(2, .int t33), (0, .ref q), (1, .int x1), (4, .int r15), (5, .int r18)]) hx hb dX12_drift_100 hl (k := 2) rfl (by rw [et33]; rfl) (by decide) rfl (fun ls hl => ?_)
            refine lv_goto (tgt := 17) hx hb dX12_drift_103 (by decide) ?_
            exact ih t33 w5 w19 w31 o0 o1 o2 hf hk0 _ _ _ hP hD hS (lv_sub hl [1, 2, 0] rfl)
        refine lv_icmp_ne (tgt := 70) hx hb dX12_drift_63 (by decide) (fun c34 => ?_) (fun c34 => ?_)
        · have hf := kn_e hf c34
          refine lv_iload hx hb dX12_drift_70 (lv_at hl 1 rfl) ?_
          exact hJ24 r15 hf _ _ _ hP hD hS (lv_sub hl [3, 4, 5, 1, 0] rfl)
        · have hf := kp_e hf c34
          refine lv_iconst (v := 4) hx hb dX12_drift_66 (by decide) ?_
          refine lv_goto (tgt := 72) hx hb dX12_drift_67 (by decide) ?_
          exact hJ24 (4 : Int32) hf _ _ _ hP hD hS (lv_sub hl [3, 4, 5, 1, 0] rfl)
  unfold f_X12_drift at hf
  refine lv_iload_n hx hb dX12_drift_0 rfl (lv_at hl 1 rfl) ?_
  refine lv_i2l hx hb dX12_drift_1 rfl ?_
  refine lv_lconst (v := 1) hx hb dX12_drift_2 (by decide) ?_
  refine lv_ldc2 hx hb hown (hts _ kw1236) dX12_drift_3 ?_
  obtain ⟨r1, h2, hf⟩ := kb1_e hf
  refine k_gi (nW := 4) (ws' := [(q, .inr (11, [.ref q_w, .int v_known, .int v_kept, .int v_seed, .ref q_imageSeed, .ref q_bookOf, .ref q_bookAt, .ref q_bookIs, .int v_written, .ref q_rs, .ref q_cs, .long v_above, .long v_below, .ref q_zs, .long v_leftAbove, .long v_leftBelow, .long v_guessAbove, .long v_guessBelow, .int v_sign, .int v_power2, .long v_bits])), (q_w, .inl (cI, 418, .inl v_w)), (q_rs, .inl (cI, 4, .inl v_rs)), (q_cs, .inl (cI, 4, .inl v_cs))]) (wr := [(q, .inr (11, [.ref q_w, .int v_known, .int v_kept, .int v_seed, .ref q_imageSeed, .ref q_bookOf, .ref q_bookAt, .ref q_bookIs, .int v_written, .ref q_rs, .ref q_cs, .long v_above, .long v_below, .ref q_zs, .long v_leftAbove, .long v_leftBelow, .long v_guessAbove, .long v_guessBelow, .int v_sign, .int v_power2, .long v_bits])), (q_w, .inl (cI, 418, .inl v_w)), (q_rs, .inl (cI, 4, .inl v_rs)), (q_cs, .inl (cI, 4, .inl v_cs))]) (k_runS (rest := []) hat hP hD hS hl.1 (c_X12_in (x1.toInt64) (1 : Int64) (12 : Int64) r1 h2) [] (by decide) rfl kw1058 kw1059 kw79 kw1060 kdX12_in ⟨rfl, rfl⟩ (by rw [hR]; exact ⟨Nat.le_of_ble_eq_true rfl, Nat.le_of_ble_eq_true rfl⟩) ⟨Nat.zero_le _, Nat.zero_le _⟩ rfl rfl (Nat.le_of_ble_eq_true rfl) dX12_drift_6) hat hP hD hS [] rfl [0, 1, 2, 3] rfl rfl rfl rfl rfl (by decide) (fun H locs hP hD hS => ?_)
  refine lv_if_ne (tgt := 15) hx hb dX12_drift_9 (by decide) (fun c3 => ?_) (fun c3 => ?_)
  · have hf := kn_e hf c3
    refine lv_iconst (v := 0) hx hb dX12_drift_15 (by decide) ?_
    refine lv_istore_n (lv' := [(2, .int (0 : Int32)), (0, .ref q), (1, .int x1)]) hx hb dX12_drift_16 rfl hl (by decide) rfl (fun ls hl => ?_)
    obtain ⟨w35, w36, w37, hu, hf⟩ := kb3_e hf
    refine hL17 x1 v_kept v_written v_above v_below v_leftAbove v_leftBelow v_guessAbove v_guessBelow v_sign v_power2 v_bits v_rs v_cs F (0 : Int32) v_known v_seed v_w w35 w36 w37 hu (fun H locs ls hP hD hS hl => ?_) _ _ _ hP hD hS (lv_sub hl [1, 2, 0] rfl)
    refine lv_aload_n hx hb dX12_drift_106 rfl (lv_at hl 0 rfl) ?_
    obtain ⟨r38, w39, w40, h41, hf⟩ := kb3_e hf
    refine k_gi (nW := 4) (ws' := [(q, .inr (11, [.ref q_w, .int w35, .int v_kept, .int w36, .ref q_imageSeed, .ref q_bookOf, .ref q_bookAt, .ref q_bookIs, .int v_written, .ref q_rs, .ref q_cs, .long v_above, .long v_below, .ref q_zs, .long v_leftAbove, .long v_leftBelow, .long v_guessAbove, .long v_guessBelow, .int v_sign, .int v_power2, .long v_bits])), (q_w, .inl (cI, 418, .inl w37)), (q_rs, .inl (cI, 4, .inl w39)), (q_cs, .inl (cI, 4, .inl w40))]) (wr := []) (k_runV (rest := []) hat hP hD hS hl.1 (c_X12_rank q q_w q_imageSeed q_bookOf q_bookAt q_bookIs q_rs q_cs q_zs w35 v_kept w36 v_written v_above v_below v_leftAbove v_leftBelow v_guessAbove v_guessBelow v_sign v_power2 v_bits w37 v_rs v_cs F r38 w39 w40 h41) [0, 1, 2, 3] (by decide) rfl kw965 kw967 kw29 kw79 kw968 kdVX12_rank ⟨rfl, rfl⟩ (by rw [hR]; exact ⟨Nat.le_of_ble_eq_true rfl, Nat.le_of_ble_eq_true rfl⟩) ⟨Nat.zero_le _, Nat.zero_le _⟩ 0 11 rfl rfl rfl rfl (Nat.le_of_ble_eq_true rfl) dX12_drift_107) hat hP hD hS [0, 1, 2, 3] rfl [] rfl rfl rfl rfl rfl (by decide) (fun H locs hP hD hS => ?_)
    obtain ⟨rfl, rfl, rfl, rfl, rfl, rfl⟩ := ki6 hf
    rw [hQ]
    exact k_iret hat hP hS rfl dX12_drift_110
  · have hf := kp_e hf c3
    refine lv_ldc hx hb hown (hts _ kw1077) dX12_drift_12 ?_
    obtain ⟨rfl, rfl, rfl, rfl, rfl, rfl⟩ := ki6 hf
    rw [hQ]
    exact k_iret hat hP hS rfl dX12_drift_14
