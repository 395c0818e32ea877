set_option maxHeartbeats 4000000 in
set_option maxRecDepth 100000 in
theorem c_X12_turn {l : Launch} {D : va_G} {cI cJ cQ : ClassId} {tp : Nat} (q : Nat) (q_w : Nat) (q_imageSeed : Nat) (q_bookOf : Nat) (q_bookAt : Nat) (q_bookIs : Nat) (q_rs : Nat) (q_cs : Nat) (q_zs : Nat) (v_known : Int32) (v_kept : Int32) (v_seed : Int32) (v_written : Int32) (v_above : Int64) (v_below : Int64) (v_leftAbove : Int64) (v_leftBelow : Int64) (v_guessAbove : Int64) (v_guessBelow : Int64) (v_sign : Int32) (v_power2 : Int32) (v_bits : Int64) (v_w : (Nat → Int32)) (v_rs : (Nat → Int32)) (v_cs : (Nat → Int32)) (F : Nat) (r0 : Int32) (o_v_known : Int32) (o_v_w : (Nat → Int32)) (o_v_rs : (Nat → Int32)) (o_v_cs : (Nat → Int32)) (hf : f_X12_turn F v_known v_w v_rs v_cs = some (r0, o_v_known, o_v_w, o_v_rs, o_v_cs)) : kM (fun A => kQi D A [(q, .inr (11, [.ref q_w, .int o_v_known, .int v_kept, .int v_seed, .ref q_imageSeed, .ref q_bookOf, .ref q_bookAt, .ref q_bookIs, .int v_written, .ref q_rs, .ref q_cs, .long v_above, .long v_below, .ref q_zs, .long v_leftAbove, .long v_leftBelow, .long v_guessAbove, .long v_guessBelow, .int v_sign, .int v_power2, .long v_bits])), (q_w, .inl (cI, 418, .inl o_v_w)), (q_rs, .inl (cI, 4, .inl o_v_rs)), (q_cs, .inl (cI, 4, .inl o_v_cs))] r0) (some .int) l yX12_turn cX12_turn 4 { frames := 8, cells := 0, slots := 0, locals := 184 } D cI cJ cQ tp [.ref q] [(q, .inr (11, [.ref q_w, .int v_known, .int v_kept, .int v_seed, .ref q_imageSeed, .ref q_bookOf, .ref q_bookAt, .ref q_bookIs, .int v_written, .ref q_rs, .ref q_cs, .long v_above, .long v_below, .ref q_zs, .long v_leftAbove, .long v_leftBelow, .long v_guessAbove, .long v_guessBelow, .int v_sign, .int v_power2, .long v_bits])), (q_w, .inl (cI, 418, .inl v_w)), (q_rs, .inl (cI, 4, .inl v_rs)), (q_cs, .inl (cI, 4, .inl v_cs))] := by
  refine kM_of (by decide) (Nat.le_of_ble_eq_true rfl) ?_
  intro p e s m args below meth c A ls R Q hR hQ hat hP hD hS hl
  obtain ⟨hx, hb, hr, hml, hown, hts, hT, hlk, hK, hA, hZ⟩ := id hat
  have hown : s.vm.findClass RX12 = some m.cls := hown
  have hl : lv_has ls 4 [(0, .ref q)] := hl
  have hL16 : ∀ (x1 : Int32) (v_known : Int32) (v_kept : Int32) (v_seed : Int32) (v_written : Int32) (v_above : Int64) (v_below : Int64) (v_leftAbove : Int64) (v_leftBelow : Int64) (v_guessAbove : Int64) (v_guessBelow : Int64) (v_sign : Int32) (v_power2 : Int32) (v_bits : Int64) (v_rs : (Nat → Int32)) (v_cs : (Nat → Int32)) (fu : Nat) (x2 : Int32) (v_w : (Nat → Int32)) (o0 : (Nat → Int32)), L_X12_turn_16 x1 fu x2 v_w = some o0 → (∀ (H : Heap) (locs : List Loc) (ls : Array Slot), va_P D vwCl [(q, .inr (11, [.ref q_w, .int v_known, .int v_kept, .int v_seed, .ref q_imageSeed, .ref q_bookOf, .ref q_bookAt, .ref q_bookIs, .int v_written, .ref q_rs, .ref q_cs, .long v_above, .long v_below, .ref q_zs, .long v_leftAbove, .long v_leftBelow, .long v_guessAbove, .long v_guessBelow, .int v_sign, .int v_power2, .long v_bits])), (q_w, .inl (cI, 418, .inl o0)), (q_rs, .inl (cI, 4, .inl v_rs)), (q_cs, .inl (cI, 4, .inl v_cs))] H → va_D A [(q, .inr (11, [.ref q_w, .int v_known, .int v_kept, .int v_seed, .ref q_imageSeed, .ref q_bookOf, .ref q_bookAt, .ref q_bookIs, .int v_written, .ref q_rs, .ref q_cs, .long v_above, .long v_below, .ref q_zs, .long v_leftAbove, .long v_leftBelow, .long v_guessAbove, .long v_guessBelow, .int v_sign, .int v_power2, .long v_bits])), (q_w, .inl (cI, 418, .inl o0)), (q_rs, .inl (cI, 4, .inl v_rs)), (q_cs, .inl (cI, 4, .inl v_cs))] → va_S A s.heap H locs → lv_has ls 4 [(0, .ref q), (1, .int x1)] → W p l e R s m args below meth c H locs 0 0 Q (F0 m 55 ls [])) → ∀ (H : Heap) (locs : List Loc) (ls : Array Slot), va_P D vwCl [(q, .inr (11, [.ref q_w, .int v_known, .int v_kept, .int v_seed, .ref q_imageSeed, .ref q_bookOf, .ref q_bookAt, .ref q_bookIs, .int v_written, .ref q_rs, .ref q_cs, .long v_above, .long v_below, .ref q_zs, .long v_leftAbove, .long v_leftBelow, .long v_guessAbove, .long v_guessBelow, .int v_sign, .int v_power2, .long v_bits])), (q_w, .inl (cI, 418, .inl v_w)), (q_rs, .inl (cI, 4, .inl v_rs)), (q_cs, .inl (cI, 4, .inl v_cs))] H → va_D A [(q, .inr (11, [.ref q_w, .int v_known, .int v_kept, .int v_seed, .ref q_imageSeed, .ref q_bookOf, .ref q_bookAt, .ref q_bookIs, .int v_written, .ref q_rs, .ref q_cs, .long v_above, .long v_below, .ref q_zs, .long v_leftAbove, .long v_leftBelow, .long v_guessAbove, .long v_guessBelow, .int v_sign, .int v_power2, .long v_bits])), (q_w, .inl (cI, 418, .inl v_w)), (q_rs, .inl (cI, 4, .inl v_rs)), (q_cs, .inl (cI, 4, .inl v_cs))] → va_S A s.heap H locs → lv_has ls 4 [(0, .ref q), (1, .int x1), (2, .int x2)] → W p l e R s m args below meth c H locs 0 0 Q (F0 m 16 ls []) := by
    intro x1 v_known v_kept v_seed v_written v_above v_below v_leftAbove v_leftBelow v_guessAbove v_guessBelow v_sign v_power2 v_bits v_rs v_cs fu
    induction fu with
    | zero =>
      intro x2 v_w o0 hf
      cases hf
    | succ fu ih =>
      intro x2 v_w o0 hf hk0 H locs ls hP hD hS hl
      rw [L_X12_turn_16] at hf
      refine lv_iload_n hx hb dX12_turn_16 rfl (lv_at hl 2 rfl) ?_
      refine lv_iload_n hx hb dX12_turn_17 rfl (lv_at hl 1 rfl) ?_
      refine lv_icmp_ge (tgt := 55) hx hb dX12_turn_18 (by decide) (fun c7 => ?_) (fun c7 => ?_)
      · have hf := kp_e hf c7
        obtain rfl := ki1 hf
        exact hk0 _ _ _ hP hD hS (lv_sub hl [0, 1] rfl)
      · have hf := kn_e hf c7
        refine lv_aload_n hx hb dX12_turn_21 rfl (lv_at hl 0 rfl) ?_
        refine lv_iload_n hx hb dX12_turn_22 rfl (lv_at hl 1 rfl) ?_
        refine lv_iload_n hx hb dX12_turn_23 rfl (lv_at hl 2 rfl) ?_
        obtain ⟨r8, h9, hf⟩ := kb1_e hf
        refine k_gl (k_runV (rest := []) hat hP hD hS hl.1 (c_X12_cell q q_w q_imageSeed q_bookOf q_bookAt q_bookIs q_rs q_cs q_zs v_known v_kept v_seed v_written v_above v_below v_leftAbove v_leftBelow v_guessAbove v_guessBelow v_sign v_power2 v_bits v_w x1 x2 r8 h9) [0, 1] (by decide) rfl kw952 kw954 kw26 kw79 kw955 kdVX12_cell ⟨rfl, rfl⟩ (by rw [hR]; exact ⟨Nat.le_of_ble_eq_true rfl, Nat.le_of_ble_eq_true rfl⟩) ⟨Nat.zero_le _, Nat.zero_le _⟩ 0 11 rfl rfl rfl rfl (Nat.le_of_ble_eq_true rfl) dX12_turn_24) hat hP hD hS [0, 1] rfl rfl (fun H locs hP hD hS => ?_)
        have hP : va_P D vwCl [(q, .inr (11, [.ref q_w, .int v_known, .int v_kept, .int v_seed, .ref q_imageSeed, .ref q_bookOf, .ref q_bookAt, .ref q_bookIs, .int v_written, .ref q_rs, .ref q_cs, .long v_above, .long v_below, .ref q_zs, .long v_leftAbove, .long v_leftBelow, .long v_guessAbove, .long v_guessBelow, .int v_sign, .int v_power2, .long v_bits])), (q_w, .inl (cI, 418, .inl v_w)), (q_rs, .inl (cI, 4, .inl v_rs)), (q_cs, .inl (cI, 4, .inl v_cs))] H := hP
        have hD : va_D A [(q, .inr (11, [.ref q_w, .int v_known, .int v_kept, .int v_seed, .ref q_imageSeed, .ref q_bookOf, .ref q_bookAt, .ref q_bookIs, .int v_written, .ref q_rs, .ref q_cs, .long v_above, .long v_below, .ref q_zs, .long v_leftAbove, .long v_leftBelow, .long v_guessAbove, .long v_guessBelow, .int v_sign, .int v_power2, .long v_bits])), (q_w, .inl (cI, 418, .inl v_w)), (q_rs, .inl (cI, 4, .inl v_rs)), (q_cs, .inl (cI, 4, .inl v_cs))] := hD
        refine lv_l2i hx hb dX12_turn_27 rfl ?_
        refine lv_topi (fun t10 et10 => ?_)
        have hf := kl_e hf t10 et10
        refine lv_istore_n (lv' := [(3, .int t10), (0, .ref q), (1, .int x1), (2, .int x2)]) hx hb dX12_turn_28 rfl hl (by decide) rfl (fun ls hl => ?_)
        refine lv_aload_n hx hb dX12_turn_29 rfl (lv_at hl 1 rfl) ?_
        refine lv_iload_n hx hb dX12_turn_30 rfl (lv_at hl 2 rfl) ?_
        refine lv_iload_n hx hb dX12_turn_31 rfl (lv_at hl 3 rfl) ?_
        refine lv_aload_n hx hb dX12_turn_32 rfl (lv_at hl 1 rfl) ?_
        refine lv_iload_n hx hb dX12_turn_33 rfl (lv_at hl 3 rfl) ?_
        refine lv_iload_n hx hb dX12_turn_34 rfl (lv_at hl 2 rfl) ?_
        obtain ⟨r11, h12, hf⟩ := kb1_e hf
        refine k_gl (k_runV (rest := [.int x2, .int x1, .ref q]) hat hP hD hS hl.1 (c_X12_cell q q_w q_imageSeed q_bookOf q_bookAt q_bookIs q_rs q_cs q_zs v_known v_kept v_seed v_written v_above v_below v_leftAbove v_leftBelow v_guessAbove v_guessBelow v_sign v_power2 v_bits v_w x2 x1 r11 h12) [0, 1] (by decide) rfl kw952 kw954 kw26 kw79 kw955 kdVX12_cell ⟨rfl, rfl⟩ (by rw [hR]; exact ⟨Nat.le_of_ble_eq_true rfl, Nat.le_of_ble_eq_true rfl⟩) ⟨Nat.zero_le _, Nat.zero_le _⟩ 0 11 rfl rfl rfl rfl (Nat.le_of_ble_eq_true rfl) dX12_turn_35) hat hP hD hS [0, 1] rfl rfl (fun H locs hP hD hS => ?_)
        have hP : va_P D vwCl [(q, .inr (11, [.ref q_w, .int v_known, .int v_kept, .int v_seed, .ref q_imageSeed, .ref q_bookOf, .ref q_bookAt, .ref q_bookIs, .int v_written, .ref q_rs, .ref q_cs, .long v_above, .long v_below, .ref q_zs, .long v_leftAbove, .long v_leftBelow, .long v_guessAbove, .long v_guessBelow, .int v_sign, .int v_power2, .long v_bits])), (q_w, .inl (cI, 418, .inl v_w)), (q_rs, .inl (cI, 4, .inl v_rs)), (q_cs, .inl (cI, 4, .inl v_cs))] H := hP
        have hD : va_D A [(q, .inr (11, [.ref q_w, .int v_known, .int v_kept, .int v_seed, .ref q_imageSeed, .ref q_bookOf, .ref q_bookAt, .ref q_bookIs, .int v_written, .ref q_rs, .ref q_cs, .long v_above, .long v_below, .ref q_zs, .long v_leftAbove, .long v_leftBelow, .long v_guessAbove, .long v_guessBelow, .int v_sign, .int v_power2, .long v_bits])), (q_w, .inl (cI, 418, .inl v_w)), (q_rs, .inl (cI, 4, .inl v_rs)), (q_cs, .inl (cI, 4, .inl v_cs))] := hD
        refine lv_l2i hx hb dX12_turn_38 rfl ?_
        obtain ⟨w13, h14, hf⟩ := kb1_e hf
        refine k_gv (k_runV (rest := []) hat hP hD hS hl.1 (c_X12_set q q_w q_imageSeed q_bookOf q_bookAt q_bookIs q_rs q_cs q_zs v_known v_kept v_seed v_written v_above v_below v_leftAbove v_leftBelow v_guessAbove v_guessBelow v_sign v_power2 v_bits v_w x1 x2 (r11.toInt32) w13 h14) [0, 1] (by decide) rfl kw1203 kw1205 kw64 kw79 kw1206 kdVX12_set ⟨rfl, rfl⟩ (by rw [hR]; exact ⟨Nat.le_of_ble_eq_true rfl, Nat.le_of_ble_eq_true rfl⟩) ⟨Nat.zero_le _, Nat.zero_le _⟩ 0 11 rfl rfl rfl rfl (Nat.le_of_ble_eq_true rfl) dX12_turn_39) hat hP hD hS [0, 1] rfl rfl (fun H locs hP hD hS => ?_)
        have hP : va_P D vwCl [(q, .inr (11, [.ref q_w, .int v_known, .int v_kept, .int v_seed, .ref q_imageSeed, .ref q_bookOf, .ref q_bookAt, .ref q_bookIs, .int v_written, .ref q_rs, .ref q_cs, .long v_above, .long v_below, .ref q_zs, .long v_leftAbove, .long v_leftBelow, .long v_guessAbove, .long v_guessBelow, .int v_sign, .int v_power2, .long v_bits])), (q_w, .inl (cI, 418, .inl w13)), (q_rs, .inl (cI, 4, .inl v_rs)), (q_cs, .inl (cI, 4, .inl v_cs))] H := hP
        have hD : va_D A [(q, .inr (11, [.ref q_w, .int v_known, .int v_kept, .int v_seed, .ref q_imageSeed, .ref q_bookOf, .ref q_bookAt, .ref q_bookIs, .int v_written, .ref q_rs, .ref q_cs, .long v_above, .long v_below, .ref q_zs, .long v_leftAbove, .long v_leftBelow, .long v_guessAbove, .long v_guessBelow, .int v_sign, .int v_power2, .long v_bits])), (q_w, .inl (cI, 418, .inl w13)), (q_rs, .inl (cI, 4, .inl v_rs)), (q_cs, .inl (cI, 4, .inl v_cs))] := hD
        refine lv_aload_n hx hb dX12_turn_42 rfl (lv_at hl 1 rfl) ?_
        refine lv_iload_n hx hb dX12_turn_43 rfl (lv_at hl 3 rfl) ?_
        refine lv_iload_n hx hb dX12_turn_44 rfl (lv_at hl 2 rfl) ?_
        refine lv_iload_n hx hb dX12_turn_45 rfl (lv_at hl 0 rfl) ?_
        obtain ⟨w15, h16, hf⟩ := kb1_e hf
        refine k_gv (k_runV (rest := []) hat hP hD hS hl.1 (c_X12_set q q_w q_imageSeed q_bookOf q_bookAt q_bookIs q_rs q_cs q_zs v_known v_kept v_seed v_written v_above v_below v_leftAbove v_leftBelow v_guessAbove v_guessBelow v_sign v_power2 v_bits w13 x2 x1 t10 w15 h16) [0, 1] (by decide) rfl kw1203 kw1205 kw64 kw79 kw1206 kdVX12_set ⟨rfl, rfl⟩ (by rw [hR]; exact ⟨Nat.le_of_ble_eq_true rfl, Nat.le_of_ble_eq_true rfl⟩) ⟨Nat.zero_le _, Nat.zero_le _⟩ 0 11 rfl rfl rfl rfl (Nat.le_of_ble_eq_true rfl) dX12_turn_46) hat hP hD hS [0, 1] rfl rfl (fun H locs hP hD hS => ?_)
        have hP : va_P D vwCl [(q, .inr (11, [.ref q_w, .int v_known, .int v_kept, .int v_seed, .ref q_imageSeed, .ref q_bookOf, .ref q_bookAt, .ref q_bookIs, .int v_written, .ref q_rs, .ref q_cs, .long v_above, .long v_below, .ref q_zs, .long v_leftAbove, .long v_leftBelow, .long v_guessAbove, .long v_guessBelow, .int v_sign, .int v_power2, .long v_bits])), (q_w, .inl (cI, 418, .inl w15)), (q_rs, .inl (cI, 4, .inl v_rs)), (q_cs, .inl (cI, 4, .inl v_cs))] H := hP
        have hD : va_D A [(q, .inr (11, [.ref q_w, .int v_known, .int v_kept, .int v_seed, .ref q_imageSeed, .ref q_bookOf, .ref q_bookAt, .ref q_bookIs, .int v_written, .ref q_rs, .ref q_cs, .long v_above, .long v_below, .ref q_zs, .long v_leftAbove, .long v_leftBelow, .long v_guessAbove, .long v_guessBelow, .int v_sign, .int v_power2, .long v_bits])), (q_w, .inl (cI, 418, .inl w15)), (q_rs, .inl (cI, 4, .inl v_rs)), (q_cs, .inl (cI, 4, .inl v_cs))] := hD
        obtain ⟨t17, et17⟩ : ∃ z : Int32, z = (x2 + (1 : Int32)) := ⟨_, rfl⟩
        have hf := kl_e hf t17 et17
        refine lv_iinc (v := t17) (lv' := [(2, .int t17), (3, .int t10), (0, .ref q), (1, .int x1)]) hx hb dX12_turn_49 hl (k := 3) rfl (by rw [et17]; rfl) (by decide) rfl (fun ls hl => ?_)
        refine lv_goto (tgt := 16) hx hb dX12_turn_52 (by decide) ?_
        exact ih t17 w15 o0 hf hk0 _ _ _ hP hD hS (lv_sub hl [2, 3, 0] rfl)
  have hL6 : ∀ (v_known : Int32) (v_kept : Int32) (v_seed : Int32) (v_written : Int32) (v_above : Int64) (v_below : Int64) (v_leftAbove : Int64) (v_leftBelow : Int64) (v_guessAbove : Int64) (v_guessBelow : Int64) (v_sign : Int32) (v_power2 : Int32) (v_bits : Int64) (v_rs : (Nat → Int32)) (v_cs : (Nat → Int32)) (fu : Nat) (x1 : Int32) (v_w : (Nat → Int32)) (o0 : (Nat → Int32)), L_X12_turn_6 F fu x1 v_w = some o0 → (∀ (H : Heap) (locs : List Loc) (ls : Array Slot), va_P D vwCl [(q, .inr (11, [.ref q_w, .int v_known, .int v_kept, .int v_seed, .ref q_imageSeed, .ref q_bookOf, .ref q_bookAt, .ref q_bookIs, .int v_written, .ref q_rs, .ref q_cs, .long v_above, .long v_below, .ref q_zs, .long v_leftAbove, .long v_leftBelow, .long v_guessAbove, .long v_guessBelow, .int v_sign, .int v_power2, .long v_bits])), (q_w, .inl (cI, 418, .inl o0)), (q_rs, .inl (cI, 4, .inl v_rs)), (q_cs, .inl (cI, 4, .inl v_cs))] H → va_D A [(q, .inr (11, [.ref q_w, .int v_known, .int v_kept, .int v_seed, .ref q_imageSeed, .ref q_bookOf, .ref q_bookAt, .ref q_bookIs, .int v_written, .ref q_rs, .ref q_cs, .long v_above, .long v_below, .ref q_zs, .long v_leftAbove, .long v_leftBelow, .long v_guessAbove, .long v_guessBelow, .int v_sign, .int v_power2, .long v_bits])), (q_w, .inl (cI, 418, .inl o0)), (q_rs, .inl (cI, 4, .inl v_rs)), (q_cs, .inl (cI, 4, .inl v_cs))] → va_S A s.heap H locs → lv_has ls 4 [(0, .ref q)] → W p l e R s m args below meth c H locs 0 0 Q (F0 m 61 ls [])) → ∀ (H : Heap) (locs : List Loc) (ls : Array Slot), va_P D vwCl [(q, .inr (11, [.ref q_w, .int v_known, .int v_kept, .int v_seed, .ref q_imageSeed, .ref q_bookOf, .ref q_bookAt, .ref q_bookIs, .int v_written, .ref q_rs, .ref q_cs, .long v_above, .long v_below, .ref q_zs, .long v_leftAbove, .long v_leftBelow, .long v_guessAbove, .long v_guessBelow, .int v_sign, .int v_power2, .long v_bits])), (q_w, .inl (cI, 418, .inl v_w)), (q_rs, .inl (cI, 4, .inl v_rs)), (q_cs, .inl (cI, 4, .inl v_cs))] H → va_D A [(q, .inr (11, [.ref q_w, .int v_known, .int v_kept, .int v_seed, .ref q_imageSeed, .ref q_bookOf, .ref q_bookAt, .ref q_bookIs, .int v_written, .ref q_rs, .ref q_cs, .long v_above, .long v_below, .ref q_zs, .long v_leftAbove, .long v_leftBelow, .long v_guessAbove, .long v_guessBelow, .int v_sign, .int v_power2, .long v_bits])), (q_w, .inl (cI, 418, .inl v_w)), (q_rs, .inl (cI, 4, .inl v_rs)), (q_cs, .inl (cI, 4, .inl v_cs))] → va_S A s.heap H locs → lv_has ls 4 [(0, .ref q), (1, .int x1)] → W p l e R s m args below meth c H locs 0 0 Q (F0 m 6 ls []) := by
    intro v_known v_kept v_seed v_written v_above v_below v_leftAbove v_leftBelow v_guessAbove v_guessBelow v_sign v_power2 v_bits v_rs v_cs fu
    induction fu with
    | zero =>
      intro x1 v_w o0 hf
      cases hf
    | succ fu ih =>
      intro x1 v_w o0 hf hk0 H locs ls hP hD hS hl
      rw [L_X12_turn_6] at hf
      refine lv_iload_n hx hb dX12_turn_6 rfl (lv_at hl 1 rfl) ?_
      refine lv_aload_n hx hb dX12_turn_7 rfl (lv_at hl 0 rfl) ?_
      obtain ⟨r4, h5, hf⟩ := kb1_e hf
      refine k_gi (k_runV (rest := [.int x1]) hat hP hD hS hl.1 (c_X12_n q q_w q_imageSeed q_bookOf q_bookAt q_bookIs q_rs q_cs q_zs v_known v_kept v_seed v_written v_above v_below v_leftAbove v_leftBelow v_guessAbove v_guessBelow v_sign v_power2 v_bits v_w r4 h5) [0, 1] (by decide) rfl kw912 kw914 kw19 kw79 kw915 kdVX12_n ⟨rfl, rfl⟩ (by rw [hR]; exact ⟨Nat.le_of_ble_eq_true rfl, Nat.le_of_ble_eq_true rfl⟩) ⟨Nat.zero_le _, Nat.zero_le _⟩ 0 11 rfl rfl rfl rfl (Nat.le_of_ble_eq_true rfl) dX12_turn_8) hat hP hD hS [0, 1] rfl rfl (fun H locs hP hD hS => ?_)
      have hP : va_P D vwCl [(q, .inr (11, [.ref q_w, .int v_known, .int v_kept, .int v_seed, .ref q_imageSeed, .ref q_bookOf, .ref q_bookAt, .ref q_bookIs, .int v_written, .ref q_rs, .ref q_cs, .long v_above, .long v_below, .ref q_zs, .long v_leftAbove, .long v_leftBelow, .long v_guessAbove, .long v_guessBelow, .int v_sign, .int v_power2, .long v_bits])), (q_w, .inl (cI, 418, .inl v_w)), (q_rs, .inl (cI, 4, .inl v_rs)), (q_cs, .inl (cI, 4, .inl v_cs))] H := hP
      have hD : va_D A [(q, .inr (11, [.ref q_w, .int v_known, .int v_kept, .int v_seed, .ref q_imageSeed, .ref q_bookOf, .ref q_bookAt, .ref q_bookIs, .int v_written, .ref q_rs, .ref q_cs, .long v_above, .long v_below, .ref q_zs, .long v_leftAbove, .long v_leftBelow, .long v_guessAbove, .long v_guessBelow, .int v_sign, .int v_power2, .long v_bits])), (q_w, .inl (cI, 418, .inl v_w)), (q_rs, .inl (cI, 4, .inl v_rs)), (q_cs, .inl (cI, 4, .inl v_cs))] := hD
      refine lv_icmp_ge (tgt := 61) hx hb dX12_turn_11 (by decide) (fun c6 => ?_) (fun c6 => ?_)
      · have hf := kp_e hf c6
        obtain rfl := ki1 hf
        exact hk0 _ _ _ hP hD hS (lv_sub hl [0] rfl)
      · have hf := kn_e hf c6
        refine lv_iconst (v := 0) hx hb dX12_turn_14 (by decide) ?_
        refine lv_istore_n (lv' := [(2, .int (0 : Int32)), (0, .ref q), (1, .int x1)]) hx hb dX12_turn_15 rfl hl (by decide) rfl (fun ls hl => ?_)
        obtain ⟨w18, hu, hf⟩ := kb1_e hf
        refine hL16 x1 v_known v_kept v_seed v_written v_above v_below v_leftAbove v_leftBelow v_guessAbove v_guessBelow v_sign v_power2 v_bits v_rs v_cs F (0 : Int32) v_w w18 hu (fun H locs ls hP hD hS hl => ?_) _ _ _ hP hD hS (lv_sub hl [1, 2, 0] rfl)
        obtain ⟨t19, et19⟩ : ∃ z : Int32, z = (x1 + (1 : Int32)) := ⟨_, rfl⟩
        have hf := kl_e hf t19 et19
        refine lv_iinc (v := t19) (lv' := [(1, .int t19), (0, .ref q)]) hx hb dX12_turn_55 hl (k := 1) rfl (by rw [et19]; rfl) (by decide) rfl (fun ls hl => ?_)
        refine lv_goto (tgt := 6) hx hb dX12_turn_58 (by decide) ?_
        exact ih t19 w18 o0 hf hk0 _ _ _ hP hD hS (lv_sub hl [1, 0] rfl)
  unfold f_X12_turn at hf
  refine lv_aload_n hx hb dX12_turn_0 rfl (lv_at hl 0 rfl) ?_
  obtain ⟨w1, w2, h3, hf⟩ := kb2_e hf
  refine k_gv (k_runV (rest := []) hat hP hD hS hl.1 (c_X12_remember q q_w q_imageSeed q_bookOf q_bookAt q_bookIs q_rs q_cs q_zs v_known v_kept v_seed v_written v_above v_below v_leftAbove v_leftBelow v_guessAbove v_guessBelow v_sign v_power2 v_bits v_w F w1 w2 h3) [0, 1] (by decide) rfl kw1189 kw1191 kw62 kw79 kw1192 kdVX12_remember ⟨rfl, rfl⟩ (by rw [hR]; exact ⟨Nat.le_of_ble_eq_true rfl, Nat.le_of_ble_eq_true rfl⟩) ⟨Nat.zero_le _, Nat.zero_le _⟩ 0 11 rfl rfl rfl rfl (Nat.le_of_ble_eq_true rfl) dX12_turn_1) hat hP hD hS [0, 1] rfl rfl (fun H locs hP hD hS => ?_)
  have hP : va_P D vwCl [(q, .inr (11, [.ref q_w, .int w1, .int v_kept, .int v_seed, .ref q_imageSeed, .ref q_bookOf, .ref q_bookAt, .ref q_bookIs, .int v_written, .ref q_rs, .ref q_cs, .long v_above, .long v_below, .ref q_zs, .long v_leftAbove, .long v_leftBelow, .long v_guessAbove, .long v_guessBelow, .int v_sign, .int v_power2, .long v_bits])), (q_w, .inl (cI, 418, .inl w2)), (q_rs, .inl (cI, 4, .inl v_rs)), (q_cs, .inl (cI, 4, .inl v_cs))] H := hP
  have hD : va_D A [(q, .inr (11, [.ref q_w, .int w1, .int v_kept, .int v_seed, .ref q_imageSeed, .ref q_bookOf, .ref q_bookAt, .ref q_bookIs, .int v_written, .ref q_rs, .ref q_cs, .long v_above, .long v_below, .ref q_zs, .long v_leftAbove, .long v_leftBelow, .long v_guessAbove, .long v_guessBelow, .int v_sign, .int v_power2, .long v_bits])), (q_w, .inl (cI, 418, .inl w2)), (q_rs, .inl (cI, 4, .inl v_rs)), (q_cs, .inl (cI, 4, .inl v_cs))] := hD
  refine lv_iconst (v := 0) hx hb dX12_turn_4 (by decide) ?_
  refine lv_istore_n (lv' := [(1, .int (0 : Int32)), (0, .ref q)]) hx hb dX12_turn_5 rfl hl (by decide) rfl (fun ls hl => ?_)
  obtain ⟨w20, hu, hf⟩ := kb1_e hf
  refine hL6 w1 v_kept v_seed v_written v_above v_below v_leftAbove v_leftBelow v_guessAbove v_guessBelow v_sign v_power2 v_bits v_rs v_cs F (0 : Int32) w2 w20 hu (fun H locs ls hP hD hS hl => ?_) _ _ _ hP hD hS (lv_sub hl [1, 0] rfl)
  refine lv_aload_n hx hb dX12_turn_61 rfl (lv_at hl 0 rfl) ?_
  obtain ⟨r21, w22, w23, h24, hf⟩ := kb3_e hf
  refine k_gi (k_runV (rest := []) hat hP hD hS hl.1 (c_X12_rank q q_w q_imageSeed q_bookOf q_bookAt q_bookIs q_rs q_cs q_zs w1 v_kept v_seed v_written v_above v_below v_leftAbove v_leftBelow v_guessAbove v_guessBelow v_sign v_power2 v_bits w20 v_rs v_cs F r21 w22 w23 h24) [0, 1, 2, 3] (by decide) rfl kw965 kw967 kw29 kw79 kw968 kdVX12_rank ⟨rfl, rfl⟩ (by rw [hR]; exact ⟨Nat.le_of_ble_eq_true rfl, Nat.le_of_ble_eq_true rfl⟩) ⟨Nat.zero_le _, Nat.zero_le _⟩ 0 11 rfl rfl rfl rfl (Nat.le_of_ble_eq_true rfl) dX12_turn_62) hat hP hD hS [0, 1, 2, 3] rfl rfl (fun H locs hP hD hS => ?_)
  have hP : va_P D vwCl [(q, .inr (11, [.ref q_w, .int w1, .int v_kept, .int v_seed, .ref q_imageSeed, .ref q_bookOf, .ref q_bookAt, .ref q_bookIs, .int v_written, .ref q_rs, .ref q_cs, .long v_above, .long v_below, .ref q_zs, .long v_leftAbove, .long v_leftBelow, .long v_guessAbove, .long v_guessBelow, .int v_sign, .int v_power2, .long v_bits])), (q_w, .inl (cI, 418, .inl w20)), (q_rs, .inl (cI, 4, .inl w22)), (q_cs, .inl (cI, 4, .inl w23))] H := hP
  have hD : va_D A [(q, .inr (11, [.ref q_w, .int w1, .int v_kept, .int v_seed, .ref q_imageSeed, .ref q_bookOf, .ref q_bookAt, .ref q_bookIs, .int v_written, .ref q_rs, .ref q_cs, .long v_above, .long v_below, .ref q_zs, .long v_leftAbove, .long v_leftBelow, .long v_guessAbove, .long v_guessBelow, .int v_sign, .int v_power2, .long v_bits])), (q_w, .inl (cI, 418, .inl w20)), (q_rs, .inl (cI, 4, .inl w22)), (q_cs, .inl (cI, 4, .inl w23))] := hD
  obtain ⟨rfl, rfl, rfl, rfl, rfl⟩ := ki5 hf
  rw [hQ]
  exact k_iret hat hP hS rfl dX12_turn_65
set_option maxHeartbeats 4000000 in
set_option maxRecDepth 100000 in
theorem c_X12_prime {l : Launch} {D : va_G} {cI cJ cQ : ClassId} {tp : Nat} (q : Nat) (q_w : Nat) (q_imageSeed : Nat) (q_bookOf : Nat) (q_bookAt : Nat) (q_bookIs : Nat) (q_rs : Nat) (q_cs : Nat) (q_zs : Nat) (v_known : Int32) (v_kept : Int32) (v_seed : Int32) (v_written : Int32) (v_above : Int64) (v_below : Int64) (v_leftAbove : Int64) (v_leftBelow : Int64) (v_guessAbove : Int64) (v_guessBelow : Int64) (v_sign : Int32) (v_power2 : Int32) (v_bits : Int64) (v_w : (Nat → Int32)) (F : Nat) (x1 : Int32) (r0 : Int32) (o_v_known : Int32) (o_v_w : (Nat → Int32)) (hf : f_X12_prime F v_known v_w x1 = some (r0, o_v_known, o_v_w)) : kM (fun A => kQi D A [(q, .inr (11, [.ref q_w, .int o_v_known, .int v_kept, .int v_seed, .ref q_imageSeed, .ref q_bookOf, .ref q_bookAt, .ref q_bookIs, .int v_written, .ref q_rs, .ref q_cs, .long v_above, .long v_below, .ref q_zs, .long v_leftAbove, .long v_leftBelow, .long v_guessAbove, .long v_guessBelow, .int v_sign, .int v_power2, .long v_bits])), (q_w, .inl (cI, 418, .inl o_v_w))] r0) (some .int) l yX12_prime cX12_prime 2 { frames := 2, cells := 0, slots := 0, locals := 44 } D cI cJ cQ tp [.ref q, .int x1] [(q, .inr (11, [.ref q_w, .int v_known, .int v_kept, .int v_seed, .ref q_imageSeed, .ref q_bookOf, .ref q_bookAt, .ref q_bookIs, .int v_written, .ref q_rs, .ref q_cs, .long v_above, .long v_below, .ref q_zs, .long v_leftAbove, .long v_leftBelow, .long v_guessAbove, .long v_guessBelow, .int v_sign, .int v_power2, .long v_bits])), (q_w, .inl (cI, 418, .inl v_w))] := by
  refine kM_of (by decide) (Nat.le_of_ble_eq_true rfl) ?_
  intro p e s m args below meth c A ls R Q hR hQ hat hP hD hS hl
  obtain ⟨hx, hb, hr, hml, hown, hts, hT, hlk, hK, hA, hZ⟩ := id hat
  have hown : s.vm.findClass RX12 = some m.cls := hown
  have hl : lv_has ls 2 [(0, .ref q), (1, .int x1)] := hl
  unfold f_X12_prime at hf
  refine lv_iload_n hx hb dX12_prime_0 rfl (lv_at hl 1 rfl) ?_
  refine lv_i2l hx hb dX12_prime_1 rfl ?_
  refine lv_lconst (v := 0) hx hb dX12_prime_2 (by decide) ?_
  refine lv_ldc2 hx hb hown (hts _ kw1231) dX12_prime_3 ?_
  obtain ⟨r1, h2, hf⟩ := kb1_e hf
  refine k_gi (k_runS (rest := []) hat hP hD hS hl.1 (c_X12_in (x1.toInt64) (0 : Int64) (24 : Int64) r1 h2) [] (by decide) rfl kw1058 kw1059 kw79 kw1060 kdX12_in ⟨rfl, rfl⟩ (by rw [hR]; exact ⟨Nat.le_of_ble_eq_true rfl, Nat.le_of_ble_eq_true rfl⟩) ⟨Nat.zero_le _, Nat.zero_le _⟩ rfl rfl (Nat.le_of_ble_eq_true rfl) dX12_prime_6) hat hP hD hS [] rfl rfl (fun H locs hP hD hS => ?_)
  have hP : va_P D vwCl [(q, .inr (11, [.ref q_w, .int v_known, .int v_kept, .int v_seed, .ref q_imageSeed, .ref q_bookOf, .ref q_bookAt, .ref q_bookIs, .int v_written, .ref q_rs, .ref q_cs, .long v_above, .long v_below, .ref q_zs, .long v_leftAbove, .long v_leftBelow, .long v_guessAbove, .long v_guessBelow, .int v_sign, .int v_power2, .long v_bits])), (q_w, .inl (cI, 418, .inl v_w))] H := hP
  have hD : va_D A [(q, .inr (11, [.ref q_w, .int v_known, .int v_kept, .int v_seed, .ref q_imageSeed, .ref q_bookOf, .ref q_bookAt, .ref q_bookIs, .int v_written, .ref q_rs, .ref q_cs, .long v_above, .long v_below, .ref q_zs, .long v_leftAbove, .long v_leftBelow, .long v_guessAbove, .long v_guessBelow, .int v_sign, .int v_power2, .long v_bits])), (q_w, .inl (cI, 418, .inl v_w))] := hD
  refine lv_if_ne (tgt := 15) hx hb dX12_prime_9 (by decide) (fun c3 => ?_) (fun c3 => ?_)
  · have hf := kn_e hf c3
    refine lv_aload_n hx hb dX12_prime_15 rfl (lv_at hl 0 rfl) ?_
    obtain ⟨w4, w5, h6, hf⟩ := kb2_e hf
    refine k_gv (k_runV (rest := []) hat hP hD hS hl.1 (c_X12_remember q q_w q_imageSeed q_bookOf q_bookAt q_bookIs q_rs q_cs q_zs v_known v_kept v_seed v_written v_above v_below v_leftAbove v_leftBelow v_guessAbove v_guessBelow v_sign v_power2 v_bits v_w F w4 w5 h6) [0, 1] (by decide) rfl kw1189 kw1191 kw62 kw79 kw1192 kdVX12_remember ⟨rfl, rfl⟩ (by rw [hR]; exact ⟨Nat.le_of_ble_eq_true rfl, Nat.le_of_ble_eq_true rfl⟩) ⟨Nat.zero_le _, Nat.zero_le _⟩ 0 11 rfl rfl rfl rfl (Nat.le_of_ble_eq_true rfl) dX12_prime_16) hat hP hD hS [0, 1] rfl rfl (fun H locs hP hD hS => ?_)
    have hP : va_P D vwCl [(q, .inr (11, [.ref q_w, .int w4, .int v_kept, .int v_seed, .ref q_imageSeed, .ref q_bookOf, .ref q_bookAt, .ref q_bookIs, .int v_written, .ref q_rs, .ref q_cs, .long v_above, .long v_below, .ref q_zs, .long v_leftAbove, .long v_leftBelow, .long v_guessAbove, .long v_guessBelow, .int v_sign, .int v_power2, .long v_bits])), (q_w, .inl (cI, 418, .inl w5))] H := hP
    have hD : va_D A [(q, .inr (11, [.ref q_w, .int w4, .int v_kept, .int v_seed, .ref q_imageSeed, .ref q_bookOf, .ref q_bookAt, .ref q_bookIs, .int v_written, .ref q_rs, .ref q_cs, .long v_above, .long v_below, .ref q_zs, .long v_leftAbove, .long v_leftBelow, .long v_guessAbove, .long v_guessBelow, .int v_sign, .int v_power2, .long v_bits])), (q_w, .inl (cI, 418, .inl w5))] := hD
    refine lv_aload_n hx hb dX12_prime_19 rfl (lv_at hl 0 rfl) ?_
    refine va_get (D := D) (ci := 11) (v := .ref q_w) (C := RX12) (T := TX12) (N := 21) hx hb hts kinX12 hown hK hP 0 rfl rfl 0 (by decide) (hts _ kw844) (fun _ h9 => h9) rfl dX12_prime_20 ?_
    refine lv_iconst (v := 1) hx hb dX12_prime_23 (by decide) ?_
    refine lv_iload_n hx hb dX12_prime_24 rfl (lv_at hl 1 rfl) ?_
    refine va_iast hx hb hK hP hD hS 1 0 rfl rfl (kin_e (by decide)) dX12_prime_25 (fun H locs hP hD hS => ?_)
    generalize ew8 : (upd w5 (1 : Int32).toNatClampNeg x1) = w8 at hP hD
    have hf := kl_e hf w8 ew8.symm
    have hP : va_P D vwCl [(q, .inr (11, [.ref q_w, .int w4, .int v_kept, .int v_seed, .ref q_imageSeed, .ref q_bookOf, .ref q_bookAt, .ref q_bookIs, .int v_written, .ref q_rs, .ref q_cs, .long v_above, .long v_below, .ref q_zs, .long v_leftAbove, .long v_leftBelow, .long v_guessAbove, .long v_guessBelow, .int v_sign, .int v_power2, .long v_bits])), (q_w, .inl (cI, 418, .inl w8))] H := hP
    have hD : va_D A [(q, .inr (11, [.ref q_w, .int w4, .int v_kept, .int v_seed, .ref q_imageSeed, .ref q_bookOf, .ref q_bookAt, .ref q_bookIs, .int v_written, .ref q_rs, .ref q_cs, .long v_above, .long v_below, .ref q_zs, .long v_leftAbove, .long v_leftBelow, .long v_guessAbove, .long v_guessBelow, .int v_sign, .int v_power2, .long v_bits])), (q_w, .inl (cI, 418, .inl w8))] := hD
    refine lv_aload_n hx hb dX12_prime_26 rfl (lv_at hl 0 rfl) ?_
    obtain ⟨r9, h10, hf⟩ := kb1_e hf
    refine k_gi (k_runV (rest := []) hat hP hD hS hl.1 (c_X12_p q q_w q_imageSeed q_bookOf q_bookAt q_bookIs q_rs q_cs q_zs w4 v_kept v_seed v_written v_above v_below v_leftAbove v_leftBelow v_guessAbove v_guessBelow v_sign v_power2 v_bits w8 F r9 h10) [0, 1] (by decide) rfl kw916 kw918 kw20 kw79 kw919 kdVX12_p ⟨rfl, rfl⟩ (by rw [hR]; exact ⟨Nat.le_of_ble_eq_true rfl, Nat.le_of_ble_eq_true rfl⟩) ⟨Nat.zero_le _, Nat.zero_le _⟩ 0 11 rfl rfl rfl rfl (Nat.le_of_ble_eq_true rfl) dX12_prime_27) hat hP hD hS [0, 1] rfl rfl (fun H locs hP hD hS => ?_)
    have hP : va_P D vwCl [(q, .inr (11, [.ref q_w, .int w4, .int v_kept, .int v_seed, .ref q_imageSeed, .ref q_bookOf, .ref q_bookAt, .ref q_bookIs, .int v_written, .ref q_rs, .ref q_cs, .long v_above, .long v_below, .ref q_zs, .long v_leftAbove, .long v_leftBelow, .long v_guessAbove, .long v_guessBelow, .int v_sign, .int v_power2, .long v_bits])), (q_w, .inl (cI, 418, .inl w8))] H := hP
    have hD : va_D A [(q, .inr (11, [.ref q_w, .int w4, .int v_kept, .int v_seed, .ref q_imageSeed, .ref q_bookOf, .ref q_bookAt, .ref q_bookIs, .int v_written, .ref q_rs, .ref q_cs, .long v_above, .long v_below, .ref q_zs, .long v_leftAbove, .long v_leftBelow, .long v_guessAbove, .long v_guessBelow, .int v_sign, .int v_power2, .long v_bits])), (q_w, .inl (cI, 418, .inl w8))] := hD
    obtain ⟨rfl, rfl, rfl⟩ := ki3 hf
    rw [hQ]
    exact k_iret hat hP hS rfl dX12_prime_30
  · have hf := kp_e hf c3
    refine lv_ldc hx hb hown (hts _ kw1077) dX12_prime_12 ?_
    obtain ⟨rfl, rfl, rfl⟩ := ki3 hf
    rw [hQ]
    exact k_iret hat hP hS rfl dX12_prime_14
set_option maxHeartbeats 4000000 in
set_option maxRecDepth 100000 in
theorem c_X12_draw {l : Launch} {D : va_G} {cI cJ cQ : ClassId} {tp : Nat} (q : Nat) (q_w : Nat) (q_imageSeed : Nat) (q_bookOf : Nat) (q_bookAt : Nat) (q_bookIs : Nat) (q_rs : Nat) (q_cs : Nat) (q_zs : Nat) (v_known : Int32) (v_kept : Int32) (v_seed : Int32) (v_written : Int32) (v_above : Int64) (v_below : Int64) (v_leftAbove : Int64) (v_leftBelow : Int64) (v_guessAbove : Int64) (v_guessBelow : Int64) (v_sign : Int32) (v_power2 : Int32) (v_bits : Int64) (x1 : Int32) (r0 : Int32) (o_v_seed : Int32) (hf : f_X12_draw v_seed x1 = some (r0, o_v_seed)) : kM (fun A => kQi D A [(q, .inr (11, [.ref q_w, .int v_known, .int v_kept, .int o_v_seed, .ref q_imageSeed, .ref q_bookOf, .ref q_bookAt, .ref q_bookIs, .int v_written, .ref q_rs, .ref q_cs, .long v_above, .long v_below, .ref q_zs, .long v_leftAbove, .long v_leftBelow, .long v_guessAbove, .long v_guessBelow, .int v_sign, .int v_power2, .long v_bits]))] r0) (some .int) l yX12_draw cX12_draw 2 { frames := 0, cells := 0, slots := 0, locals := 0 } D cI cJ cQ tp [.ref q, .int x1] [(q, .inr (11, [.ref q_w, .int v_known, .int v_kept, .int v_seed, .ref q_imageSeed, .ref q_bookOf, .ref q_bookAt, .ref q_bookIs, .int v_written, .ref q_rs, .ref q_cs, .long v_above, .long v_below, .ref q_zs, .long v_leftAbove, .long v_leftBelow, .long v_guessAbove, .long v_guessBelow, .int v_sign, .int v_power2, .long v_bits]))] := by
  refine kM_of (by decide) (Nat.le_of_ble_eq_true rfl) ?_
  intro p e s m args below meth c A ls R Q hR hQ hat hP hD hS hl
  obtain ⟨hx, hb, hr, hml, hown, hts, hT, hlk, hK, hA, hZ⟩ := id hat
  have hown : s.vm.findClass RX12 = some m.cls := hown
  have hl : lv_has ls 2 [(0, .ref q), (1, .int x1)] := hl
  unfold f_X12_draw at hf
  refine lv_aload_n hx hb dX12_draw_0 rfl (lv_at hl 0 rfl) ?_
  refine lv_aload_n hx hb dX12_draw_1 rfl (lv_at hl 0 rfl) ?_
  refine va_get (D := D) (ci := 11) (v := .int v_seed) (C := RX12) (T := TX12) (N := 21) hx hb hts kinX12 hown hK hP 0 rfl rfl 3 (by decide) (hts _ kw847) (fun _ h9 => h9) rfl dX12_draw_2 ?_
  refine lv_i2l hx hb dX12_draw_5 rfl ?_
  refine lv_ldc2 hx hb hown (hts _ kw1241) dX12_draw_6 ?_
  refine lv_lmul hx hb dX12_draw_9 ?_
  refine lv_ldc2 hx hb hown (hts _ kw1242) dX12_draw_10 ?_
  refine lv_ladd hx hb dX12_draw_13 ?_
  refine lv_ldc2 hx hb hown (hts _ kw1180) dX12_draw_14 ?_
  refine lv_lrem hx hb dX12_draw_17 (by decide) ?_
  refine lv_l2i hx hb dX12_draw_18 rfl ?_
  refine lv_topi (fun t1 et1 => ?_)
  have hf := kl_e hf t1 et1
  refine va_put (D := D) (ci := 11) (v := .int t1) (ty := .int) (C := RX12) (T := TX12) (N := 21) hx hb hts kinX12 tyX12 tyX12_ok nmX12 hown hK hP hD hS 0 rfl rfl 3 (by decide) (hts _ kw847) (fun _ h9 => h9) rfl (by decide +kernel) rfl rfl (Nat.le_of_ble_eq_true rfl) dX12_draw_19 (fun H locs hP hD hS => ?_)
  have hP : va_P D vwCl [(q, .inr (11, [.ref q_w, .int v_known, .int v_kept, .int t1, .ref q_imageSeed, .ref q_bookOf, .ref q_bookAt, .ref q_bookIs, .int v_written, .ref q_rs, .ref q_cs, .long v_above, .long v_below, .ref q_zs, .long v_leftAbove, .long v_leftBelow, .long v_guessAbove, .long v_guessBelow, .int v_sign, .int v_power2, .long v_bits]))] H := hP
  have hD : va_D A [(q, .inr (11, [.ref q_w, .int v_known, .int v_kept, .int t1, .ref q_imageSeed, .ref q_bookOf, .ref q_bookAt, .ref q_bookIs, .int v_written, .ref q_rs, .ref q_cs, .long v_above, .long v_below, .ref q_zs, .long v_leftAbove, .long v_leftBelow, .long v_guessAbove, .long v_guessBelow, .int v_sign, .int v_power2, .long v_bits]))] := hD
  refine lv_aload_n hx hb dX12_draw_22 rfl (lv_at hl 0 rfl) ?_
  refine va_get (D := D) (ci := 11) (v := .int t1) (C := RX12) (T := TX12) (N := 21) hx hb hts kinX12 hown hK hP 0 rfl rfl 3 (by decide) (hts _ kw847) (fun _ h9 => h9) rfl dX12_draw_23 ?_
  refine lv_ldcw hx hb hown (hts _ kw1243) dX12_draw_26 ?_
  refine lv_idiv hx hb dX12_draw_29 (by decide) ?_
  refine lv_iload_n hx hb dX12_draw_30 rfl (lv_at hl 1 rfl) ?_
  obtain ⟨c2, hf⟩ := kc_e hf
  refine lv_irem hx hb dX12_draw_31 c2 ?_
  obtain ⟨rfl, rfl⟩ := ki2 hf
  rw [hQ]
  exact k_iret hat hP hS rfl dX12_draw_32
set_option maxHeartbeats 4000000 in
set_option maxRecDepth 100000 in
theorem c_X12_drift {l : Launch} {D : va_G} {cI cJ cQ : ClassId} {tp : Nat} (q : Nat) (q_w : Nat) (q_imageSeed : Nat) (q_bookOf : Nat) (q_bookAt : Nat) (q_bookIs : Nat) (q_rs : Nat) (q_cs : Nat) (q_zs : Nat) (v_known : Int32) (v_kept : Int32) (v_seed : Int32) (v_written : Int32) (v_above : Int64) (v_below : Int64) (v_leftAbove : Int64) (v_leftBelow : Int64) (v_guessAbove : Int64) (v_guessBelow : Int64) (v_sign : Int32) (v_power2 : Int32) (v_bits : Int64) (v_w : (Nat → Int32)) (v_rs : (Nat → Int32)) (v_cs : (Nat → Int32)) (F : Nat) (x1 : Int32) (r0 : Int32) (o_v_known : Int32) (o_v_seed : Int32) (o_v_w : (Nat → Int32)) (o_v_rs : (Nat → Int32)) (o_v_cs : (Nat → Int32)) (hf : f_X12_drift F v_known v_seed v_w v_rs v_cs x1 = some (r0, o_v_known, o_v_seed, o_v_w, o_v_rs, o_v_cs)) : kM (fun A => kQi D A [(q, .inr (11, [.ref q_w, .int o_v_known, .int v_kept, .int o_v_seed, .ref q_imageSeed, .ref q_bookOf, .ref q_bookAt, .ref q_bookIs, .int v_written, .ref q_rs, .ref q_cs, .long v_above, .long v_below, .ref q_zs, .long v_leftAbove, .long v_leftBelow, .long v_guessAbove, .long v_guessBelow, .int v_sign, .int v_power2, .long v_bits])), (q_w, .inl (cI, 418, .inl o_v_w)), (q_rs, .inl (cI, 4, .inl o_v_rs)), (q_cs, .inl (cI, 4, .inl o_v_cs))] r0) (some .int) l yX12_drift cX12_drift 6 { frames := 8, cells := 0, slots := 0, locals := 184 } D cI cJ cQ tp [.ref q, .int x1] [(q, .inr (11, [.ref q_w, .int v_known, .int v_kept, .int v_seed, .ref q_imageSeed, .ref q_bookOf, .ref q_bookAt, .ref q_bookIs, .int v_written, .ref q_rs, .ref q_cs, .long v_above, .long v_below, .ref q_zs, .long v_leftAbove, .long v_leftBelow, .long v_guessAbove, .long v_guessBelow, .int v_sign, .int v_power2, .long v_bits])), (q_w, .inl (cI, 418, .inl v_w)), (q_rs, .inl (cI, 4, .inl v_rs)), (q_cs, .inl (cI, 4, .inl v_cs))] := by
  refine kM_of (by decide) (Nat.le_of_ble_eq_true rfl) ?_
  intro p e s m args below meth c A ls R Q hR hQ hat hP hD hS hl
  obtain ⟨hx, hb, hr, hml, hown, hts, hT, hlk, hK, hA, hZ⟩ := id hat
  have hown : s.vm.findClass RX12 = some m.cls := hown
  have hl : lv_has ls 6 [(0, .ref q), (1, .int x1)] := hl
  have hL17 : ∀ (x1 : Int32) (v_kept : Int32) (v_written : Int32) (v_above : Int64) (v_below : Int64) (v_leftAbove : Int64) (v_leftBelow : Int64) (v_guessAbove : Int64) (v_guessBelow : Int64) (v_sign : Int32) (v_power2 : Int32) (v_bits : Int64) (v_rs : (Nat → Int32)) (v_cs : (Nat → Int32)) (fu : Nat) (x2 : Int32) (v_known : Int32) (v_seed : Int32) (v_w : (Nat → Int32)) (o0 : Int32) (o1 : Int32) (o2 : (Nat → Int32)), L_X12_drift_17 F x1 fu x2 v_known v_seed v_w = some (o0, o1, o2) → (∀ (H : Heap) (locs : List Loc) (ls : Array Slot), va_P D vwCl [(q, .inr (11, [.ref q_w, .int o0, .int v_kept, .int o1, .ref q_imageSeed, .ref q_bookOf, .ref q_bookAt, .ref q_bookIs, .int v_written, .ref q_rs, .ref q_cs, .long v_above, .long v_below, .ref q_zs, .long v_leftAbove, .long v_leftBelow, .long v_guessAbove, .long v_guessBelow, .int v_sign, .int v_power2, .long v_bits])), (q_w, .inl (cI, 418, .inl o2)), (q_rs, .inl (cI, 4, .inl v_rs)), (q_cs, .inl (cI, 4, .inl v_cs))] H → va_D A [(q, .inr (11, [.ref q_w, .int o0, .int v_kept, .int o1, .ref q_imageSeed, .ref q_bookOf, .ref q_bookAt, .ref q_bookIs, .int v_written, .ref q_rs, .ref q_cs, .long v_above, .long v_below, .ref q_zs, .long v_leftAbove, .long v_leftBelow, .long v_guessAbove, .long v_guessBelow, .int v_sign, .int v_power2, .long v_bits])), (q_w, .inl (cI, 418, .inl o2)), (q_rs, .inl (cI, 4, .inl v_rs)), (q_cs, .inl (cI, 4, .inl v_cs))] → va_S A s.heap H locs → lv_has ls 6 [(0, .ref q)] → W p l e R s m args below meth c H locs 0 0 Q (F0 m 106 ls [])) → ∀ (H : Heap) (locs : List Loc) (ls : Array Slot), va_P D vwCl [(q, .inr (11, [.ref q_w, .int v_known, .int v_kept, .int v_seed, .ref q_imageSeed, .ref q_bookOf, .ref q_bookAt, .ref q_bookIs, .int v_written, .ref q_rs, .ref q_cs, .long v_above, .long v_below, .ref q_zs, .long v_leftAbove, .long v_leftBelow, .long v_guessAbove, .long v_guessBelow, .int v_sign, .int v_power2, .long v_bits])), (q_w, .inl (cI, 418, .inl v_w)), (q_rs, .inl (cI, 4, .inl v_rs)), (q_cs, .inl (cI, 4, .inl v_cs))] H → va_D A [(q, .inr (11, [.ref q_w, .int v_known, .int v_kept, .int v_seed, .ref q_imageSeed, .ref q_bookOf, .ref q_bookAt, .ref q_bookIs, .int v_written, .ref q_rs, .ref q_cs, .long v_above, .long v_below, .ref q_zs, .long v_leftAbove, .long v_leftBelow, .long v_guessAbove, .long v_guessBelow, .int v_sign, .int v_power2, .long v_bits])), (q_w, .inl (cI, 418, .inl v_w)), (q_rs, .inl (cI, 4, .inl v_rs)), (q_cs, .inl (cI, 4, .inl v_cs))] → va_S A s.heap H locs → lv_has ls 6 [(0, .ref q), (1, .int x1), (2, .int x2)] → W p l e R s m args below meth c H locs 0 0 Q (F0 m 17 ls []) := by
    intro x1 v_kept v_written v_above v_below v_leftAbove v_leftBelow v_guessAbove v_guessBelow v_sign v_power2 v_bits v_rs v_cs fu
    induction fu with
    | zero =>
      intro x2 v_known v_seed v_w o0 o1 o2 hf
      cases hf
    | succ fu ih =>
      intro x2 v_known v_seed v_w o0 o1 o2 hf hk0 H locs ls hP hD hS hl
      rw [L_X12_drift_17] at hf
      refine lv_iload_n hx hb dX12_drift_17 rfl (lv_at hl 2 rfl) ?_
      refine lv_iload_n hx hb dX12_drift_18 rfl (lv_at hl 1 rfl) ?_
      refine lv_icmp_ge (tgt := 106) hx hb dX12_drift_19 (by decide) (fun c4 => ?_) (fun c4 => ?_)
      · have hf := kp_e hf c4
        obtain ⟨rfl, rfl, rfl⟩ := ki3 hf
        exact hk0 _ _ _ hP hD hS (lv_sub hl [0] rfl)
      · have hf := kn_e hf c4
        refine lv_aload_n hx hb dX12_drift_22 rfl (lv_at hl 0 rfl) ?_
        obtain ⟨w5, w6, h7, hf⟩ := kb2_e hf
        refine k_gv (k_runV (rest := []) hat hP hD hS hl.1 (c_X12_remember q q_w q_imageSeed q_bookOf q_bookAt q_bookIs q_rs q_cs q_zs v_known v_kept v_seed v_written v_above v_below v_leftAbove v_leftBelow v_guessAbove v_guessBelow v_sign v_power2 v_bits v_w F w5 w6 h7) [0, 1] (by decide) rfl kw1189 kw1191 kw62 kw79 kw1192 kdVX12_remember ⟨rfl, rfl⟩ (by rw [hR]; exact ⟨Nat.le_of_ble_eq_true rfl, Nat.le_of_ble_eq_true rfl⟩) ⟨Nat.zero_le _, Nat.zero_le _⟩ 0 11 rfl rfl rfl rfl (Nat.le_of_ble_eq_true rfl) dX12_drift_23) hat hP hD hS [0, 1] rfl rfl (fun H locs hP hD hS => ?_)
        have hP : va_P D vwCl [(q, .inr (11, [.ref q_w, .int w5, .int v_kept, .int v_seed, .ref q_imageSeed, .ref q_bookOf, .ref q_bookAt, .ref q_bookIs, .int v_written, .ref q_rs, .ref q_cs, .long v_above, .long v_below, .ref q_zs, .long v_leftAbove, .long v_leftBelow, .long v_guessAbove, .long v_guessBelow, .int v_sign, .int v_power2, .long v_bits])), (q_w, .inl (cI, 418, .inl w6)), (q_rs, .inl (cI, 4, .inl v_rs)), (q_cs, .inl (cI, 4, .inl v_cs))] H := hP
        have hD : va_D A [(q, .inr (11, [.ref q_w, .int w5, .int v_kept, .int v_seed, .ref q_imageSeed, .ref q_bookOf, .ref q_bookAt, .ref q_bookIs, .int v_written, .ref q_rs, .ref q_cs, .long v_above, .long v_below, .ref q_zs, .long v_leftAbove, .long v_leftBelow, .long v_guessAbove, .long v_guessBelow, .int v_sign, .int v_power2, .long v_bits])), (q_w, .inl (cI, 418, .inl w6)), (q_rs, .inl (cI, 4, .inl v_rs)), (q_cs, .inl (cI, 4, .inl v_cs))] := hD
        refine lv_aload_n hx hb dX12_drift_26 rfl (lv_at hl 0 rfl) ?_
        refine lv_aload_n hx hb dX12_drift_27 rfl (lv_at hl 0 rfl) ?_
        obtain ⟨r8, h9, hf⟩ := kb1_e hf
        refine k_gi (k_runV (rest := [.ref q]) hat hP hD hS hl.1 (c_X12_n q q_w q_imageSeed q_bookOf q_bookAt q_bookIs q_rs q_cs q_zs w5 v_kept v_seed v_written v_above v_below v_leftAbove v_leftBelow v_guessAbove v_guessBelow v_sign v_power2 v_bits w6 r8 h9) [0, 1] (by decide) rfl kw912 kw914 kw19 kw79 kw915 kdVX12_n ⟨rfl, rfl⟩ (by rw [hR]; exact ⟨Nat.le_of_ble_eq_true rfl, Nat.le_of_ble_eq_true rfl⟩) ⟨Nat.zero_le _, Nat.zero_le _⟩ 0 11 rfl rfl rfl rfl (Nat.le_of_ble_eq_true rfl) dX12_drift_28) hat hP hD hS [0, 1] rfl rfl (fun H locs hP hD hS => ?_)
        have hP : va_P D vwCl [(q, .inr (11, [.ref q_w, .int w5, .int v_kept, .int v_seed, .ref q_imageSeed, .ref q_bookOf, .ref q_bookAt, .ref q_bookIs, .int v_written, .ref q_rs, .ref q_cs, .long v_above, .long v_below, .ref q_zs, .long v_leftAbove, .long v_leftBelow, .long v_guessAbove, .long v_guessBelow, .int v_sign, .int v_power2, .long v_bits])), (q_w, .inl (cI, 418, .inl w6)), (q_rs, .inl (cI, 4, .inl v_rs)), (q_cs, .inl (cI, 4, .inl v_cs))] H := hP
        have hD : va_D A [(q, .inr (11, [.ref q_w, .int w5, .int v_kept, .int v_seed, .ref q_imageSeed, .ref q_bookOf, .ref q_bookAt, .ref q_bookIs, .int v_written, .ref q_rs, .ref q_cs, .long v_above, .long v_below, .ref q_zs, .long v_leftAbove, .long v_leftBelow, .long v_guessAbove, .long v_guessBelow, .int v_sign, .int v_power2, .long v_bits])), (q_w, .inl (cI, 418, .inl w6)), (q_rs, .inl (cI, 4, .inl v_rs)), (q_cs, .inl (cI, 4, .inl v_cs))] := hD
        obtain ⟨r10, w11, h12, hf⟩ := kb2_e hf
        refine k_gi (k_runV (rest := []) hat hP hD hS hl.1 (c_X12_draw q q_w q_imageSeed q_bookOf q_bookAt q_bookIs q_rs q_cs q_zs w5 v_kept v_seed v_written v_above v_below v_leftAbove v_leftBelow v_guessAbove v_guessBelow v_sign v_power2 v_bits r8 r10 w11 h12) [0] (by decide) rfl kw1237 kw1239 kw65 kw79 kw1240 kdVX12_draw ⟨rfl, rfl⟩ (by rw [hR]; exact ⟨Nat.le_of_ble_eq_true rfl, Nat.le_of_ble_eq_true rfl⟩) ⟨Nat.zero_le _, Nat.zero_le _⟩ 0 11 rfl rfl rfl rfl (Nat.le_of_ble_eq_true rfl) dX12_drift_31) hat hP hD hS [0] rfl rfl (fun H locs hP hD hS => ?_)
        have hP : va_P D vwCl [(q, .inr (11, [.ref q_w, .int w5, .int v_kept, .int w11, .ref q_imageSeed, .ref q_bookOf, .ref q_bookAt, .ref q_bookIs, .int v_written, .ref q_rs, .ref q_cs, .long v_above, .long v_below, .ref q_zs, .long v_leftAbove, .long v_leftBelow, .long v_guessAbove, .long v_guessBelow, .int v_sign, .int v_power2, .long v_bits])), (q_w, .inl (cI, 418, .inl w6)), (q_rs, .inl (cI, 4, .inl v_rs)), (q_cs, .inl (cI, 4, .inl v_cs))] H := hP
        have hD : va_D A [(q, .inr (11, [.ref q_w, .int w5, .int v_kept, .int w11, .ref q_imageSeed, .ref q_bookOf, .ref q_bookAt, .ref q_bookIs, .int v_written, .ref q_rs, .ref q_cs, .long v_above, .long v_below, .ref q_zs, .long v_leftAbove, .long v_leftBelow, .long v_guessAbove, .long v_guessBelow, .int v_sign, .int v_power2, .long v_bits])), (q_w, .inl (cI, 418, .inl w6)), (q_rs, .inl (cI, 4, .inl v_rs)), (q_cs, .inl (cI, 4, .inl v_cs))] := hD
        refine lv_istore_n (lv' := [(3, .int r10), (0, .ref q), (1, .int x1), (2, .int x2)]) hx hb dX12_drift_34 rfl hl (by decide) rfl (fun ls hl => ?_)
        refine lv_aload_n hx hb dX12_drift_35 rfl (lv_at hl 1 rfl) ?_
        refine lv_aload_n hx hb dX12_drift_36 rfl (lv_at hl 1 rfl) ?_
        obtain ⟨r13, h14, hf⟩ := kb1_e hf
        refine k_gi (k_runV (rest := [.ref q]) hat hP hD hS hl.1 (c_X12_n q q_w q_imageSeed q_bookOf q_bookAt q_bookIs q_rs q_cs q_zs w5 v_kept w11 v_written v_above v_below v_leftAbove v_leftBelow v_guessAbove v_guessBelow v_sign v_power2 v_bits w6 r13 h14) [0, 1] (by decide) rfl kw912 kw914 kw19 kw79 kw915 kdVX12_n ⟨rfl, rfl⟩ (by rw [hR]; exact ⟨Nat.le_of_ble_eq_true rfl, Nat.le_of_ble_eq_true rfl⟩) ⟨Nat.zero_le _, Nat.zero_le _⟩ 0 11 rfl rfl rfl rfl (Nat.le_of_ble_eq_true rfl) dX12_drift_37) hat hP hD hS [0, 1] rfl rfl (fun H locs hP hD hS => ?_)
        have hP : va_P D vwCl [(q, .inr (11, [.ref q_w, .int w5, .int v_kept, .int w11, .ref q_imageSeed, .ref q_bookOf, .ref q_bookAt, .ref q_bookIs, .int v_written, .ref q_rs, .ref q_cs, .long v_above, .long v_below, .ref q_zs, .long v_leftAbove, .long v_leftBelow, .long v_guessAbove, .long v_guessBelow, .int v_sign, .int v_power2, .long v_bits])), (q_w, .inl (cI, 418, .inl w6)), (q_rs, .inl (cI, 4, .inl v_rs)), (q_cs, .inl (cI, 4, .inl v_cs))] H := hP
        have hD : va_D A [(q, .inr (11, [.ref q_w, .int w5, .int v_kept, .int w11, .ref q_imageSeed, .ref q_bookOf, .ref q_bookAt, .ref q_bookIs, .int v_written, .ref q_rs, .ref q_cs, .long v_above, .long v_below, .ref q_zs, .long v_leftAbove, .long v_leftBelow, .long v_guessAbove, .long v_guessBelow, .int v_sign, .int v_power2, .long v_bits])), (q_w, .inl (cI, 418, .inl w6)), (q_rs, .inl (cI, 4, .inl v_rs)), (q_cs, .inl (cI, 4, .inl v_cs))] := hD
        refine lv_iconst (v := 1) hx hb dX12_drift_40 (by decide) ?_
        refine lv_iadd hx hb dX12_drift_41 ?_
        obtain ⟨r15, w16, h17, hf⟩ := kb2_e hf
        refine k_gi (k_runV (rest := []) hat hP hD hS hl.1 (c_X12_draw q q_w q_imageSeed q_bookOf q_bookAt q_bookIs q_rs q_cs q_zs w5 v_kept w11 v_written v_above v_below v_leftAbove v_leftBelow v_guessAbove v_guessBelow v_sign v_power2 v_bits (r13 + (1 : Int32)) r15 w16 h17) [0] (by decide) rfl kw1237 kw1239 kw65 kw79 kw1240 kdVX12_draw ⟨rfl, rfl⟩ (by rw [hR]; exact ⟨Nat.le_of_ble_eq_true rfl, Nat.le_of_ble_eq_true rfl⟩) ⟨Nat.zero_le _, Nat.zero_le _⟩ 0 11 rfl rfl rfl rfl (Nat.le_of_ble_eq_true rfl) dX12_drift_42) hat hP hD hS [0] rfl rfl (fun H locs hP hD hS => ?_)
        have hP : va_P D vwCl [(q, .inr (11, [.ref q_w, .int w5, .int v_kept, .int w16, .ref q_imageSeed, .ref q_bookOf, .ref q_bookAt, .ref q_bookIs, .int v_written, .ref q_rs, .ref q_cs, .long v_above, .long v_below, .ref q_zs, .long v_leftAbove, .long v_leftBelow, .long v_guessAbove, .long v_guessBelow, .int v_sign, .int v_power2, .long v_bits])), (q_w, .inl (cI, 418, .inl w6)), (q_rs, .inl (cI, 4, .inl v_rs)), (q_cs, .inl (cI, 4, .inl v_cs))] H := hP
        have hD : va_D A [(q, .inr (11, [.ref q_w, .int w5, .int v_kept, .int w16, .ref q_imageSeed, .ref q_bookOf, .ref q_bookAt, .ref q_bookIs, .int v_written, .ref q_rs, .ref q_cs, .long v_above, .long v_below, .ref q_zs, .long v_leftAbove, .long v_leftBelow, .long v_guessAbove, .long v_guessBelow, .int v_sign, .int v_power2, .long v_bits])), (q_w, .inl (cI, 418, .inl w6)), (q_rs, .inl (cI, 4, .inl v_rs)), (q_cs, .inl (cI, 4, .inl v_cs))] := hD
        refine lv_istore (lv' := [(4, .int r15), (3, .int r10), (0, .ref q), (1, .int x1), (2, .int x2)]) hx hb dX12_drift_45 hl (by decide) rfl (fun ls hl => ?_)
        refine lv_aload_n hx hb dX12_drift_47 rfl (lv_at hl 2 rfl) ?_
        refine lv_bipush (v := 19) hx hb dX12_drift_48 (by decide) ?_
        obtain ⟨r18, w19, h20, hf⟩ := kb2_e hf
        refine k_gi (k_runV (rest := []) hat hP hD hS hl.1 (c_X12_draw q q_w q_imageSeed q_bookOf q_bookAt q_bookIs q_rs q_cs q_zs w5 v_kept w16 v_written v_above v_below v_leftAbove v_leftBelow v_guessAbove v_guessBelow v_sign v_power2 v_bits (19 : Int32) r18 w19 h20) [0] (by decide) rfl kw1237 kw1239 kw65 kw79 kw1240 kdVX12_draw ⟨rfl, rfl⟩ (by rw [hR]; exact ⟨Nat.le_of_ble_eq_true rfl, Nat.le_of_ble_eq_true rfl⟩) ⟨Nat.zero_le _, Nat.zero_le _⟩ 0 11 rfl rfl rfl rfl (Nat.le_of_ble_eq_true rfl) dX12_drift_50) hat hP hD hS [0] rfl rfl (fun H locs hP hD hS => ?_)
        have hP : va_P D vwCl [(q, .inr (11, [.ref q_w, .int w5, .int v_kept, .int w19, .ref q_imageSeed, .ref q_bookOf, .ref q_bookAt, .ref q_bookIs, .int v_written, .ref q_rs, .ref q_cs, .long v_above, .long v_below, .ref q_zs, .long v_leftAbove, .long v_leftBelow, .long v_guessAbove, .long v_guessBelow, .int v_sign, .int v_power2, .long v_bits])), (q_w, .inl (cI, 418, .inl w6)), (q_rs, .inl (cI, 4, .inl v_rs)), (q_cs, .inl (cI, 4, .inl v_cs))] H := hP
        have hD : va_D A [(q, .inr (11, [.ref q_w, .int w5, .int v_kept, .int w19, .ref q_imageSeed, .ref q_bookOf, .ref q_bookAt, .ref q_bookIs, .int v_written, .ref q_rs, .ref q_cs, .long v_above, .long v_below, .ref q_zs, .long v_leftAbove, .long v_leftBelow, .long v_guessAbove, .long v_guessBelow, .int v_sign, .int v_power2, .long v_bits])), (q_w, .inl (cI, 418, .inl w6)), (q_rs, .inl (cI, 4, .inl v_rs)), (q_cs, .inl (cI, 4, .inl v_cs))] := hD
        refine lv_istore (lv' := [(5, .int r18), (4, .int r15), (3, .int r10), (0, .ref q), (1, .int x1), (2, .int x2)]) hx hb dX12_drift_53 hl (by decide) rfl (fun ls hl => ?_)
        refine lv_aload_n hx hb dX12_drift_55 rfl (lv_at hl 3 rfl) ?_
        refine lv_iload_n hx hb dX12_drift_56 rfl (lv_at hl 2 rfl) ?_
        refine lv_iload hx hb dX12_drift_57 (lv_at hl 1 rfl) ?_
        refine lv_aload_n hx hb dX12_drift_59 rfl (lv_at hl 3 rfl) ?_
        obtain ⟨r21, h22, hf⟩ := kb1_e hf
        refine k_gi (k_runV (rest := [.int r15, .int r10, .ref q]) hat hP hD hS hl.1 (c_X12_n q q_w q_imageSeed q_bookOf q_bookAt q_bookIs q_rs q_cs q_zs w5 v_kept w19 v_written v_above v_below v_leftAbove v_leftBelow v_guessAbove v_guessBelow v_sign v_power2 v_bits w6 r21 h22) [0, 1] (by decide) rfl kw912 kw914 kw19 kw79 kw915 kdVX12_n ⟨rfl, rfl⟩ (by rw [hR]; exact ⟨Nat.le_of_ble_eq_true rfl, Nat.le_of_ble_eq_true rfl⟩) ⟨Nat.zero_le _, Nat.zero_le _⟩ 0 11 rfl rfl rfl rfl (Nat.le_of_ble_eq_true rfl) dX12_drift_60) hat hP hD hS [0, 1] rfl rfl (fun H locs hP hD hS => ?_)
        have hP : va_P D vwCl [(q, .inr (11, [.ref q_w, .int w5, .int v_kept, .int w19, .ref q_imageSeed, .ref q_bookOf, .ref q_bookAt, .ref q_bookIs, .int v_written, .ref q_rs, .ref q_cs, .long v_above, .long v_below, .ref q_zs, .long v_leftAbove, .long v_leftBelow, .long v_guessAbove, .long v_guessBelow, .int v_sign, .int v_power2, .long v_bits])), (q_w, .inl (cI, 418, .inl w6)), (q_rs, .inl (cI, 4, .inl v_rs)), (q_cs, .inl (cI, 4, .inl v_cs))] H := hP
        have hD : va_D A [(q, .inr (11, [.ref q_w, .int w5, .int v_kept, .int w19, .ref q_imageSeed, .ref q_bookOf, .ref q_bookAt, .ref q_bookIs, .int v_written, .ref q_rs, .ref q_cs, .long v_above, .long v_below, .ref q_zs, .long v_leftAbove, .long v_leftBelow, .long v_guessAbove, .long v_guessBelow, .int v_sign, .int v_power2, .long v_bits])), (q_w, .inl (cI, 418, .inl w6)), (q_rs, .inl (cI, 4, .inl v_rs)), (q_cs, .inl (cI, 4, .inl v_cs))] := hD
        obtain ⟨J24, hJ24_, hf⟩ := kj1_e hf
        have hJ24 : ∀ (t23 : Int32), J24 t23 = some (o0, o1, o2) → ∀ (H : Heap) (locs : List Loc) (ls : Array Slot), va_P D vwCl [(q, .inr (11, [.ref q_w, .int w5, .int v_kept, .int w19, .ref q_imageSeed, .ref q_bookOf, .ref q_bookAt, .ref q_bookIs, .int v_written, .ref q_rs, .ref q_cs, .long v_above, .long v_below, .ref q_zs, .long v_leftAbove, .long v_leftBelow, .long v_guessAbove, .long v_guessBelow, .int v_sign, .int v_power2, .long v_bits])), (q_w, .inl (cI, 418, .inl w6)), (q_rs, .inl (cI, 4, .inl v_rs)), (q_cs, .inl (cI, 4, .inl v_cs))] H → va_D A [(q, .inr (11, [.ref q_w, .int w5, .int v_kept, .int w19, .ref q_imageSeed, .ref q_bookOf, .ref q_bookAt, .ref q_bookIs, .int v_written, .ref q_rs, .ref q_cs, .long v_above, .long v_below, .ref q_zs, .long v_leftAbove, .long v_leftBelow, .long v_guessAbove, .long v_guessBelow, .int v_sign, .int v_power2, .long v_bits])), (q_w, .inl (cI, 418, .inl w6)), (q_rs, .inl (cI, 4, .inl v_rs)), (q_cs, .inl (cI, 4, .inl v_cs))] → va_S A s.heap H locs → lv_has ls 6 [(0, .ref q), (1, .int x1), (2, .int x2), (4, .int r15), (5, .int r18)] → W p l e R s m args below meth c H locs 0 0 Q (F0 m 72 ls [.int t23, .int r10, .ref q]) := by
          intro t23 hf H locs ls hP hD hS hl
          rw [hJ24_] at hf
          refine lv_iload hx hb dX12_drift_72 (lv_at hl 3 rfl) ?_
          refine lv_aload_n hx hb dX12_drift_74 rfl (lv_at hl 0 rfl) ?_
          obtain ⟨r25, h26, hf⟩ := kb1_e hf
          refine k_gi (k_runV (rest := [.int r15, .int t23, .int r10, .ref q]) hat hP hD hS hl.1 (c_X12_n q q_w q_imageSeed q_bookOf q_bookAt q_bookIs q_rs q_cs q_zs w5 v_kept w19 v_written v_above v_below v_leftAbove v_leftBelow v_guessAbove v_guessBelow v_sign v_power2 v_bits w6 r25 h26) [0, 1] (by decide) rfl kw912 kw914 kw19 kw79 kw915 kdVX12_n ⟨rfl, rfl⟩ (by rw [hR]; exact ⟨Nat.le_of_ble_eq_true rfl, Nat.le_of_ble_eq_true rfl⟩) ⟨Nat.zero_le _, Nat.zero_le _⟩ 0 11 rfl rfl rfl rfl (Nat.le_of_ble_eq_true rfl) dX12_drift_75) hat hP hD hS [0, 1] rfl rfl (fun H locs hP hD hS => ?_)
          have hP : va_P D vwCl [(q, .inr (11, [.ref q_w, .int w5, .int v_kept, .int w19, .ref q_imageSeed, .ref q_bookOf, .ref q_bookAt, .ref q_bookIs, .int v_written, .ref q_rs, .ref q_cs, .long v_above, .long v_below, .ref q_zs, .long v_leftAbove, .long v_leftBelow, .long v_guessAbove, .long v_guessBelow, .int v_sign, .int v_power2, .long v_bits])), (q_w, .inl (cI, 418, .inl w6)), (q_rs, .inl (cI, 4, .inl v_rs)), (q_cs, .inl (cI, 4, .inl v_cs))] H := hP
          have hD : va_D A [(q, .inr (11, [.ref q_w, .int w5, .int v_kept, .int w19, .ref q_imageSeed, .ref q_bookOf, .ref q_bookAt, .ref q_bookIs, .int v_written, .ref q_rs, .ref q_cs, .long v_above, .long v_below, .ref q_zs, .long v_leftAbove, .long v_leftBelow, .long v_guessAbove, .long v_guessBelow, .int v_sign, .int v_power2, .long v_bits])), (q_w, .inl (cI, 418, .inl w6)), (q_rs, .inl (cI, 4, .inl v_rs)), (q_cs, .inl (cI, 4, .inl v_cs))] := hD
          refine lv_icmp_ne (tgt := 92) hx hb dX12_drift_78 (by decide) (fun c27 => ?_) (fun c27 => ?_)
          · have hf := kn_e hf c27
            refine lv_iload hx hb dX12_drift_92 (lv_at hl 4 rfl) ?_
            refine lv_bipush (v := 9) hx hb dX12_drift_94 (by decide) ?_
            refine lv_isub hx hb dX12_drift_96 ?_
            obtain ⟨w28, h29, hf⟩ := kb1_e hf
            refine k_gv (k_runV (rest := []) hat hP hD hS hl.1 (c_X12_set q q_w q_imageSeed q_bookOf q_bookAt q_bookIs q_rs q_cs q_zs w5 v_kept w19 v_written v_above v_below v_leftAbove v_leftBelow v_guessAbove v_guessBelow v_sign v_power2 v_bits w6 r10 t23 (r18 - (9 : Int32)) w28 h29) [0, 1] (by decide) rfl kw1203 kw1205 kw64 kw79 kw1206 kdVX12_set ⟨rfl, rfl⟩ (by rw [hR]; exact ⟨Nat.le_of_ble_eq_true rfl, Nat.le_of_ble_eq_true rfl⟩) ⟨Nat.zero_le _, Nat.zero_le _⟩ 0 11 rfl rfl rfl rfl (Nat.le_of_ble_eq_true rfl) dX12_drift_97) hat hP hD hS [0, 1] rfl rfl (fun H locs hP hD hS => ?_)
            have hP : va_P D vwCl [(q, .inr (11, [.ref q_w, .int w5, .int v_kept, .int w19, .ref q_imageSeed, .ref q_bookOf, .ref q_bookAt, .ref q_bookIs, .int v_written, .ref q_rs, .ref q_cs, .long v_above, .long v_below, .ref q_zs, .long v_leftAbove, .long v_leftBelow, .long v_guessAbove, .long v_guessBelow, .int v_sign, .int v_power2, .long v_bits])), (q_w, .inl (cI, 418, .inl w28)), (q_rs, .inl (cI, 4, .inl v_rs)), (q_cs, .inl (cI, 4, .inl v_cs))] H := hP
            have hD : va_D A [(q, .inr (11, [.ref q_w, .int w5, .int v_kept, .int w19, .ref q_imageSeed, .ref q_bookOf, .ref q_bookAt, .ref q_bookIs, .int v_written, .ref q_rs, .ref q_cs, .long v_above, .long v_below, .ref q_zs, .long v_leftAbove, .long v_leftBelow, .long v_guessAbove, .long v_guessBelow, .int v_sign, .int v_power2, .long v_bits])), (q_w, .inl (cI, 418, .inl w28)), (q_rs, .inl (cI, 4, .inl v_rs)), (q_cs, .inl (cI, 4, .inl v_cs))] := hD
            obtain ⟨t30, et30⟩ : ∃ z : Int32, z = (x2 + (1 : Int32)) := ⟨_, rfl⟩
            have hf := kl_e hf t30 et30
            refine lv_iinc (v := t30) (lv' := [(2, .int t30), (0, .ref q), (1, .int x1), (4, .int r15), (5, .int r18)]) hx hb dX12_drift_100 hl (k := 2) rfl (by rw [et30]; rfl) (by decide) rfl (fun ls hl => ?_)
            refine lv_goto (tgt := 17) hx hb dX12_drift_103 (by decide) ?_
            exact ih t30 w5 w19 w28 o0 o1 o2 hf hk0 _ _ _ hP hD hS (lv_sub hl [1, 2, 0] rfl)
          · have hf := kp_e hf c27
            refine lv_bipush (v := 11) hx hb dX12_drift_81 (by decide) ?_
            refine lv_iload hx hb dX12_drift_83 (lv_at hl 4 rfl) ?_
            refine lv_imul hx hb dX12_drift_85 ?_
            refine lv_bipush (v := 99) hx hb dX12_drift_86 (by decide) ?_
            refine lv_isub hx hb dX12_drift_88 ?_
            refine lv_goto (tgt := 97) hx hb dX12_drift_89 (by decide) ?_
            obtain ⟨w31, h32, hf⟩ := kb1_e hf
            refine k_gv (k_runV (rest := []) hat hP hD hS hl.1 (c_X12_set q q_w q_imageSeed q_bookOf q_bookAt q_bookIs q_rs q_cs q_zs w5 v_kept w19 v_written v_above v_below v_leftAbove v_leftBelow v_guessAbove v_guessBelow v_sign v_power2 v_bits w6 r10 t23 (((11 : Int32) * r18) - (99 : Int32)) w31 h32) [0, 1] (by decide) rfl kw1203 kw1205 kw64 kw79 kw1206 kdVX12_set ⟨rfl, rfl⟩ (by rw [hR]; exact ⟨Nat.le_of_ble_eq_true rfl, Nat.le_of_ble_eq_true rfl⟩) ⟨Nat.zero_le _, Nat.zero_le _⟩ 0 11 rfl rfl rfl rfl (Nat.le_of_ble_eq_true rfl) dX12_drift_97) hat hP hD hS [0, 1] rfl rfl (fun H locs hP hD hS => ?_)
            have hP : va_P D vwCl [(q, .inr (11, [.ref q_w, .int w5, .int v_kept, .int w19, .ref q_imageSeed, .ref q_bookOf, .ref q_bookAt, .ref q_bookIs, .int v_written, .ref q_rs, .ref q_cs, .long v_above, .long v_below, .ref q_zs, .long v_leftAbove, .long v_leftBelow, .long v_guessAbove, .long v_guessBelow, .int v_sign, .int v_power2, .long v_bits])), (q_w, .inl (cI, 418, .inl w31)), (q_rs, .inl (cI, 4, .inl v_rs)), (q_cs, .inl (cI, 4, .inl v_cs))] H := hP
            have hD : va_D A [(q, .inr (11, [.ref q_w, .int w5, .int v_kept, .int w19, .ref q_imageSeed, .ref q_bookOf, .ref q_bookAt, .ref q_bookIs, .int v_written, .ref q_rs, .ref q_cs, .long v_above, .long v_below, .ref q_zs, .long v_leftAbove, .long v_leftBelow, .long v_guessAbove, .long v_guessBelow, .int v_sign, .int v_power2, .long v_bits])), (q_w, .inl (cI, 418, .inl w31)), (q_rs, .inl (cI, 4, .inl v_rs)), (q_cs, .inl (cI, 4, .inl v_cs))] := hD
            obtain ⟨t33, et33⟩ : ∃ z : Int32, z = (x2 + (1 : Int32)) := ⟨_, rfl⟩
            have hf := kl_e hf t33 et33
            refine lv_iinc (v := t33) (lv' := [(2, .int t33), (0, .ref q), (1, .int x1), (4, .int r15), (5, .int r18)]) hx hb dX12_drift_100 hl (k := 2) rfl (by rw [et33]; rfl) (by decide) rfl (fun ls hl => ?_)
            refine lv_goto (tgt := 17) hx hb dX12_drift_103 (by decide) ?_
            exact ih t33 w5 w19 w31 o0 o1 o2 hf hk0 _ _ _ hP hD hS (lv_sub hl [1, 2, 0] rfl)
        refine lv_icmp_ne (tgt := 70) hx hb dX12_drift_63 (by decide) (fun c34 => ?_) (fun c34 => ?_)
        · have hf := kn_e hf c34
          refine lv_iload hx hb dX12_drift_70 (lv_at hl 1 rfl) ?_
          exact hJ24 r15 hf _ _ _ hP hD hS (lv_sub hl [3, 4, 5, 1, 0] rfl)
        · have hf := kp_e hf c34
          refine lv_iconst (v := 4) hx hb dX12_drift_66 (by decide) ?_
          refine lv_goto (tgt := 72) hx hb dX12_drift_67 (by decide) ?_
          exact hJ24 (4 : Int32) hf _ _ _ hP hD hS (lv_sub hl [3, 4, 5, 1, 0] rfl)
  unfold f_X12_drift at hf
  refine lv_iload_n hx hb dX12_drift_0 rfl (lv_at hl 1 rfl) ?_
  refine lv_i2l hx hb dX12_drift_1 rfl ?_
  refine lv_lconst (v := 1) hx hb dX12_drift_2 (by decide) ?_
  refine lv_ldc2 hx hb hown (hts _ kw1236) dX12_drift_3 ?_
  obtain ⟨r1, h2, hf⟩ := kb1_e hf
  refine k_gi (k_runS (rest := []) hat hP hD hS hl.1 (c_X12_in (x1.toInt64) (1 : Int64) (12 : Int64) r1 h2) [] (by decide) rfl kw1058 kw1059 kw79 kw1060 kdX12_in ⟨rfl, rfl⟩ (by rw [hR]; exact ⟨Nat.le_of_ble_eq_true rfl, Nat.le_of_ble_eq_true rfl⟩) ⟨Nat.zero_le _, Nat.zero_le _⟩ rfl rfl (Nat.le_of_ble_eq_true rfl) dX12_drift_6) hat hP hD hS [] rfl rfl (fun H locs hP hD hS => ?_)
  have hP : va_P D vwCl [(q, .inr (11, [.ref q_w, .int v_known, .int v_kept, .int v_seed, .ref q_imageSeed, .ref q_bookOf, .ref q_bookAt, .ref q_bookIs, .int v_written, .ref q_rs, .ref q_cs, .long v_above, .long v_below, .ref q_zs, .long v_leftAbove, .long v_leftBelow, .long v_guessAbove, .long v_guessBelow, .int v_sign, .int v_power2, .long v_bits])), (q_w, .inl (cI, 418, .inl v_w)), (q_rs, .inl (cI, 4, .inl v_rs)), (q_cs, .inl (cI, 4, .inl v_cs))] H := hP
  have hD : va_D A [(q, .inr (11, [.ref q_w, .int v_known, .int v_kept, .int v_seed, .ref q_imageSeed, .ref q_bookOf, .ref q_bookAt, .ref q_bookIs, .int v_written, .ref q_rs, .ref q_cs, .long v_above, .long v_below, .ref q_zs, .long v_leftAbove, .long v_leftBelow, .long v_guessAbove, .long v_guessBelow, .int v_sign, .int v_power2, .long v_bits])), (q_w, .inl (cI, 418, .inl v_w)), (q_rs, .inl (cI, 4, .inl v_rs)), (q_cs, .inl (cI, 4, .inl v_cs))] := hD
  refine lv_if_ne (tgt := 15) hx hb dX12_drift_9 (by decide) (fun c3 => ?_) (fun c3 => ?_)
  · have hf := kn_e hf c3
    refine lv_iconst (v := 0) hx hb dX12_drift_15 (by decide) ?_
    refine lv_istore_n (lv' := [(2, .int (0 : Int32)), (0, .ref q), (1, .int x1)]) hx hb dX12_drift_16 rfl hl (by decide) rfl (fun ls hl => ?_)
    obtain ⟨w35, w36, w37, hu, hf⟩ := kb3_e hf
    refine hL17 x1 v_kept v_written v_above v_below v_leftAbove v_leftBelow v_guessAbove v_guessBelow v_sign v_power2 v_bits v_rs v_cs F (0 : Int32) v_known v_seed v_w w35 w36 w37 hu (fun H locs ls hP hD hS hl => ?_) _ _ _ hP hD hS (lv_sub hl [1, 2, 0] rfl)
    refine lv_aload_n hx hb dX12_drift_106 rfl (lv_at hl 0 rfl) ?_
    obtain ⟨r38, w39, w40, h41, hf⟩ := kb3_e hf
    refine k_gi (k_runV (rest := []) hat hP hD hS hl.1 (c_X12_rank q q_w q_imageSeed q_bookOf q_bookAt q_bookIs q_rs q_cs q_zs w35 v_kept w36 v_written v_above v_below v_leftAbove v_leftBelow v_guessAbove v_guessBelow v_sign v_power2 v_bits w37 v_rs v_cs F r38 w39 w40 h41) [0, 1, 2, 3] (by decide) rfl kw965 kw967 kw29 kw79 kw968 kdVX12_rank ⟨rfl, rfl⟩ (by rw [hR]; exact ⟨Nat.le_of_ble_eq_true rfl, Nat.le_of_ble_eq_true rfl⟩) ⟨Nat.zero_le _, Nat.zero_le _⟩ 0 11 rfl rfl rfl rfl (Nat.le_of_ble_eq_true rfl) dX12_drift_107) hat hP hD hS [0, 1, 2, 3] rfl rfl (fun H locs hP hD hS => ?_)
    have hP : va_P D vwCl [(q, .inr (11, [.ref q_w, .int w35, .int v_kept, .int w36, .ref q_imageSeed, .ref q_bookOf, .ref q_bookAt, .ref q_bookIs, .int v_written, .ref q_rs, .ref q_cs, .long v_above, .long v_below, .ref q_zs, .long v_leftAbove, .long v_leftBelow, .long v_guessAbove, .long v_guessBelow, .int v_sign, .int v_power2, .long v_bits])), (q_w, .inl (cI, 418, .inl w37)), (q_rs, .inl (cI, 4, .inl w39)), (q_cs, .inl (cI, 4, .inl w40))] H := hP
    have hD : va_D A [(q, .inr (11, [.ref q_w, .int w35, .int v_kept, .int w36, .ref q_imageSeed, .ref q_bookOf, .ref q_bookAt, .ref q_bookIs, .int v_written, .ref q_rs, .ref q_cs, .long v_above, .long v_below, .ref q_zs, .long v_leftAbove, .long v_leftBelow, .long v_guessAbove, .long v_guessBelow, .int v_sign, .int v_power2, .long v_bits])), (q_w, .inl (cI, 418, .inl w37)), (q_rs, .inl (cI, 4, .inl w39)), (q_cs, .inl (cI, 4, .inl w40))] := hD
    obtain ⟨rfl, rfl, rfl, rfl, rfl, rfl⟩ := ki6 hf
    rw [hQ]
    exact k_iret hat hP hS rfl dX12_drift_110
  · have hf := kp_e hf c3
    refine lv_ldc hx hb hown (hts _ kw1077) dX12_drift_12 ?_
    obtain ⟨rfl, rfl, rfl, rfl, rfl, rfl⟩ := ki6 hf
    rw [hQ]
    exact k_iret hat hP hS rfl dX12_drift_14
set_option maxHeartbeats 4000000 in
set_option maxRecDepth 100000 in
theorem c_X12_undo {l : Launch} {D : va_G} {cI cJ cQ : ClassId} {tp : Nat} (q : Nat) (q_w : Nat) (q_imageSeed : Nat) (q_bookOf : Nat) (q_bookAt : Nat) (q_bookIs : Nat) (q_rs : Nat) (q_cs : Nat) (q_zs : Nat) (v_known : Int32) (v_kept : Int32) (v_seed : Int32) (v_written : Int32) (v_above : Int64) (v_below : Int64) (v_leftAbove : Int64) (v_leftBelow : Int64) (v_guessAbove : Int64) (v_guessBelow : Int64) (v_sign : Int32) (v_power2 : Int32) (v_bits : Int64) (v_w : (Nat → Int32)) (F : Nat) (x1 : Int32) (r0 : Int32) (o_v_known : Int32) (o_v_w : (Nat → Int32)) (hf : f_X12_undo F v_known v_w x1 = some (r0, o_v_known, o_v_w)) : kM (fun A => kQi D A [(q, .inr (11, [.ref q_w, .int o_v_known, .int v_kept, .int v_seed, .ref q_imageSeed, .ref q_bookOf, .ref q_bookAt, .ref q_bookIs, .int v_written, .ref q_rs, .ref q_cs, .long v_above, .long v_below, .ref q_zs, .long v_leftAbove, .long v_leftBelow, .long v_guessAbove, .long v_guessBelow, .int v_sign, .int v_power2, .long v_bits])), (q_w, .inl (cI, 418, .inl o_v_w))] r0) (some .int) l yX12_undo cX12_undo 3 { frames := 1, cells := 0, slots := 0, locals := 25 } D cI cJ cQ tp [.ref q, .int x1] [(q, .inr (11, [.ref q_w, .int v_known, .int v_kept, .int v_seed, .ref q_imageSeed, .ref q_bookOf, .ref q_bookAt, .ref q_bookIs, .int v_written, .ref q_rs, .ref q_cs, .long v_above, .long v_below, .ref q_zs, .long v_leftAbove, .long v_leftBelow, .long v_guessAbove, .long v_guessBelow, .int v_sign, .int v_power2, .long v_bits])), (q_w, .inl (cI, 418, .inl v_w))] := by
  refine kM_of (by decide) (Nat.le_of_ble_eq_true rfl) ?_
  intro p e s m args below meth c A ls R Q hR hQ hat hP hD hS hl
  obtain ⟨hx, hb, hr, hml, hown, hts, hT, hlk, hK, hA, hZ⟩ := id hat
  have hown : s.vm.findClass RX12 = some m.cls := hown
  have hl : lv_has ls 3 [(0, .ref q), (1, .int x1)] := hl
  have hL29 : ∀ (x1 : Int32) (v_known : Int32) (v_kept : Int32) (v_seed : Int32) (v_written : Int32) (v_above : Int64) (v_below : Int64) (v_leftAbove : Int64) (v_leftBelow : Int64) (v_guessAbove : Int64) (v_guessBelow : Int64) (v_sign : Int32) (v_power2 : Int32) (v_bits : Int64) (fu : Nat) (x2 : Int32) (v_w : (Nat → Int32)) (o0 : (Nat → Int32)), L_X12_undo_29 F x1 fu x2 v_w = some o0 → (∀ (H : Heap) (locs : List Loc) (ls : Array Slot), va_P D vwCl [(q, .inr (11, [.ref q_w, .int v_known, .int v_kept, .int v_seed, .ref q_imageSeed, .ref q_bookOf, .ref q_bookAt, .ref q_bookIs, .int v_written, .ref q_rs, .ref q_cs, .long v_above, .long v_below, .ref q_zs, .long v_leftAbove, .long v_leftBelow, .long v_guessAbove, .long v_guessBelow, .int v_sign, .int v_power2, .long v_bits])), (q_w, .inl (cI, 418, .inl o0))] H → va_D A [(q, .inr (11, [.ref q_w, .int v_known, .int v_kept, .int v_seed, .ref q_imageSeed, .ref q_bookOf, .ref q_bookAt, .ref q_bookIs, .int v_written, .ref q_rs, .ref q_cs, .long v_above, .long v_below, .ref q_zs, .long v_leftAbove, .long v_leftBelow, .long v_guessAbove, .long v_guessBelow, .int v_sign, .int v_power2, .long v_bits])), (q_w, .inl (cI, 418, .inl o0))] → va_S A s.heap H locs → lv_has ls 3 [(0, .ref q), (1, .int x1)] → W p l e R s m args below meth c H locs 0 0 Q (F0 m 57 ls [])) → ∀ (H : Heap) (locs : List Loc) (ls : Array Slot), va_P D vwCl [(q, .inr (11, [.ref q_w, .int v_known, .int v_kept, .int v_seed, .ref q_imageSeed, .ref q_bookOf, .ref q_bookAt, .ref q_bookIs, .int v_written, .ref q_rs, .ref q_cs, .long v_above, .long v_below, .ref q_zs, .long v_leftAbove, .long v_leftBelow, .long v_guessAbove, .long v_guessBelow, .int v_sign, .int v_power2, .long v_bits])), (q_w, .inl (cI, 418, .inl v_w))] H → va_D A [(q, .inr (11, [.ref q_w, .int v_known, .int v_kept, .int v_seed, .ref q_imageSeed, .ref q_bookOf, .ref q_bookAt, .ref q_bookIs, .int v_written, .ref q_rs, .ref q_cs, .long v_above, .long v_below, .ref q_zs, .long v_leftAbove, .long v_leftBelow, .long v_guessAbove, .long v_guessBelow, .int v_sign, .int v_power2, .long v_bits])), (q_w, .inl (cI, 418, .inl v_w))] → va_S A s.heap H locs → lv_has ls 3 [(0, .ref q), (1, .int x1), (2, .int x2)] → W p l e R s m args below meth c H locs 0 0 Q (F0 m 29 ls []) := by
    intro x1 v_known v_kept v_seed v_written v_above v_below v_leftAbove v_leftBelow v_guessAbove v_guessBelow v_sign v_power2 v_bits fu
    induction fu with
    | zero =>
      intro x2 v_w o0 hf
      cases hf
    | succ fu ih =>
      intro x2 v_w o0 hf hk0 H locs ls hP hD hS hl
      rw [L_X12_undo_29] at hf
      refine lv_iload_n hx hb dX12_undo_29 rfl (lv_at hl 2 rfl) ?_
      refine lv_iload_n hx hb dX12_undo_30 rfl (lv_at hl 1 rfl) ?_
      refine lv_iadd hx hb dX12_undo_31 ?_
      refine lv_bipush (v := 16) hx hb dX12_undo_32 (by decide) ?_
      refine lv_icmp_gt (tgt := 57) hx hb dX12_undo_34 (by decide) (fun c5 => ?_) (fun c5 => ?_)
      · have hf := kp_e hf c5
        obtain rfl := ki1 hf
        exact hk0 _ _ _ hP hD hS (lv_sub hl [0, 1] rfl)
      · have hf := kn_e hf c5
        refine lv_aload_n hx hb dX12_undo_37 rfl (lv_at hl 0 rfl) ?_
        refine lv_bipush (v := 22) hx hb dX12_undo_38 (by decide) ?_
        refine lv_iload_n hx hb dX12_undo_40 rfl (lv_at hl 2 rfl) ?_
        refine lv_iload_n hx hb dX12_undo_41 rfl (lv_at hl 1 rfl) ?_
        refine lv_iadd hx hb dX12_undo_42 ?_
        refine lv_imul hx hb dX12_undo_43 ?_
        refine lv_bipush (v := 22) hx hb dX12_undo_44 (by decide) ?_
        refine lv_iload_n hx hb dX12_undo_46 rfl (lv_at hl 2 rfl) ?_
        refine lv_imul hx hb dX12_undo_47 ?_
        obtain ⟨w6, h7, hf⟩ := kb1_e hf
        refine k_gv (k_runV (rest := []) hat hP hD hS hl.1 (c_X12_copyRow q q_w q_imageSeed q_bookOf q_bookAt q_bookIs q_rs q_cs q_zs v_known v_kept v_seed v_written v_above v_below v_leftAbove v_leftBelow v_guessAbove v_guessBelow v_sign v_power2 v_bits v_w F ((22 : Int32) * (x2 + x1)) ((22 : Int32) * x2) w6 h7) [0, 1] (by decide) rfl kw1193 kw1195 kw63 kw79 kw1196 kdVX12_copyRow ⟨rfl, rfl⟩ (by rw [hR]; exact ⟨Nat.le_of_ble_eq_true rfl, Nat.le_of_ble_eq_true rfl⟩) ⟨Nat.zero_le _, Nat.zero_le _⟩ 0 11 rfl rfl rfl rfl (Nat.le_of_ble_eq_true rfl) dX12_undo_48) hat hP hD hS [0, 1] rfl rfl (fun H locs hP hD hS => ?_)
        have hP : va_P D vwCl [(q, .inr (11, [.ref q_w, .int v_known, .int v_kept, .int v_seed, .ref q_imageSeed, .ref q_bookOf, .ref q_bookAt, .ref q_bookIs, .int v_written, .ref q_rs, .ref q_cs, .long v_above, .long v_below, .ref q_zs, .long v_leftAbove, .long v_leftBelow, .long v_guessAbove, .long v_guessBelow, .int v_sign, .int v_power2, .long v_bits])), (q_w, .inl (cI, 418, .inl w6))] H := hP
        have hD : va_D A [(q, .inr (11, [.ref q_w, .int v_known, .int v_kept, .int v_seed, .ref q_imageSeed, .ref q_bookOf, .ref q_bookAt, .ref q_bookIs, .int v_written, .ref q_rs, .ref q_cs, .long v_above, .long v_below, .ref q_zs, .long v_leftAbove, .long v_leftBelow, .long v_guessAbove, .long v_guessBelow, .int v_sign, .int v_power2, .long v_bits])), (q_w, .inl (cI, 418, .inl w6))] := hD
        obtain ⟨t8, et8⟩ : ∃ z : Int32, z = (x2 + (1 : Int32)) := ⟨_, rfl⟩
        have hf := kl_e hf t8 et8
        refine lv_iinc (v := t8) (lv' := [(2, .int t8), (0, .ref q), (1, .int x1)]) hx hb dX12_undo_51 hl (k := 2) rfl (by rw [et8]; rfl) (by decide) rfl (fun ls hl => ?_)
        refine lv_goto (tgt := 29) hx hb dX12_undo_54 (by decide) ?_
        exact ih t8 w6 o0 hf hk0 _ _ _ hP hD hS (lv_sub hl [1, 2, 0] rfl)
  unfold f_X12_undo at hf
  refine lv_iload_n hx hb dX12_undo_0 rfl (lv_at hl 1 rfl) ?_
  refine lv_i2l hx hb dX12_undo_1 rfl ?_
  refine lv_lconst (v := 1) hx hb dX12_undo_2 (by decide) ?_
  refine lv_ldc2 hx hb hown (hts _ kw1248) dX12_undo_3 ?_
  obtain ⟨r1, h2, hf⟩ := kb1_e hf
  refine k_gi (k_runS (rest := []) hat hP hD hS hl.1 (c_X12_in (x1.toInt64) (1 : Int64) (16 : Int64) r1 h2) [] (by decide) rfl kw1058 kw1059 kw79 kw1060 kdX12_in ⟨rfl, rfl⟩ (by rw [hR]; exact ⟨Nat.le_of_ble_eq_true rfl, Nat.le_of_ble_eq_true rfl⟩) ⟨Nat.zero_le _, Nat.zero_le _⟩ rfl rfl (Nat.le_of_ble_eq_true rfl) dX12_undo_6) hat hP hD hS [] rfl rfl (fun H locs hP hD hS => ?_)
  have hP : va_P D vwCl [(q, .inr (11, [.ref q_w, .int v_known, .int v_kept, .int v_seed, .ref q_imageSeed, .ref q_bookOf, .ref q_bookAt, .ref q_bookIs, .int v_written, .ref q_rs, .ref q_cs, .long v_above, .long v_below, .ref q_zs, .long v_leftAbove, .long v_leftBelow, .long v_guessAbove, .long v_guessBelow, .int v_sign, .int v_power2, .long v_bits])), (q_w, .inl (cI, 418, .inl v_w))] H := hP
  have hD : va_D A [(q, .inr (11, [.ref q_w, .int v_known, .int v_kept, .int v_seed, .ref q_imageSeed, .ref q_bookOf, .ref q_bookAt, .ref q_bookIs, .int v_written, .ref q_rs, .ref q_cs, .long v_above, .long v_below, .ref q_zs, .long v_leftAbove, .long v_leftBelow, .long v_guessAbove, .long v_guessBelow, .int v_sign, .int v_power2, .long v_bits])), (q_w, .inl (cI, 418, .inl v_w))] := hD
  refine lv_if_ne (tgt := 15) hx hb dX12_undo_9 (by decide) (fun c3 => ?_) (fun c3 => ?_)
  · have hf := kn_e hf c3
    refine lv_iload_n hx hb dX12_undo_15 rfl (lv_at hl 1 rfl) ?_
    refine lv_aload_n hx hb dX12_undo_16 rfl (lv_at hl 0 rfl) ?_
    refine va_get (D := D) (ci := 11) (v := .int v_known) (C := RX12) (T := TX12) (N := 21) hx hb hts kinX12 hown hK hP 0 rfl rfl 1 (by decide) (hts _ kw845) (fun _ h9 => h9) rfl dX12_undo_17 ?_
    refine lv_icmp_le (tgt := 27) hx hb dX12_undo_20 (by decide) (fun c4 => ?_) (fun c4 => ?_)
    · have hf := kp_e hf c4
      refine lv_iconst (v := 0) hx hb dX12_undo_27 (by decide) ?_
      refine lv_istore_n (lv' := [(2, .int (0 : Int32)), (0, .ref q), (1, .int x1)]) hx hb dX12_undo_28 rfl hl (by decide) rfl (fun ls hl => ?_)
      obtain ⟨w9, hu, hf⟩ := kb1_e hf
      refine hL29 x1 v_known v_kept v_seed v_written v_above v_below v_leftAbove v_leftBelow v_guessAbove v_guessBelow v_sign v_power2 v_bits F (0 : Int32) v_w w9 hu (fun H locs ls hP hD hS hl => ?_) _ _ _ hP hD hS (lv_sub hl [1, 2, 0] rfl)
      refine lv_aload_n hx hb dX12_undo_57 rfl (lv_at hl 0 rfl) ?_
      refine lv_dup hx hb dX12_undo_58 rfl ?_
      refine va_get (D := D) (ci := 11) (v := .int v_known) (C := RX12) (T := TX12) (N := 21) hx hb hts kinX12 hown hK hP 0 rfl rfl 1 (by decide) (hts _ kw845) (fun _ h9 => h9) rfl dX12_undo_59 ?_
      refine lv_iload_n hx hb dX12_undo_62 rfl (lv_at hl 1 rfl) ?_
      refine lv_isub hx hb dX12_undo_63 ?_
      refine lv_topi (fun t10 et10 => ?_)
      have hf := kl_e hf t10 et10
      refine va_put (D := D) (ci := 11) (v := .int t10) (ty := .int) (C := RX12) (T := TX12) (N := 21) hx hb hts kinX12 tyX12 tyX12_ok nmX12 hown hK hP hD hS 0 rfl rfl 1 (by decide) (hts _ kw845) (fun _ h9 => h9) rfl (by decide +kernel) rfl rfl (Nat.le_of_ble_eq_true rfl) dX12_undo_64 (fun H locs hP hD hS => ?_)
      have hP : va_P D vwCl [(q, .inr (11, [.ref q_w, .int t10, .int v_kept, .int v_seed, .ref q_imageSeed, .ref q_bookOf, .ref q_bookAt, .ref q_bookIs, .int v_written, .ref q_rs, .ref q_cs, .long v_above, .long v_below, .ref q_zs, .long v_leftAbove, .long v_leftBelow, .long v_guessAbove, .long v_guessBelow, .int v_sign, .int v_power2, .long v_bits])), (q_w, .inl (cI, 418, .inl w9))] H := hP
      have hD : va_D A [(q, .inr (11, [.ref q_w, .int t10, .int v_kept, .int v_seed, .ref q_imageSeed, .ref q_bookOf, .ref q_bookAt, .ref q_bookIs, .int v_written, .ref q_rs, .ref q_cs, .long v_above, .long v_below, .ref q_zs, .long v_leftAbove, .long v_leftBelow, .long v_guessAbove, .long v_guessBelow, .int v_sign, .int v_power2, .long v_bits])), (q_w, .inl (cI, 418, .inl w9))] := hD
      refine lv_aload_n hx hb dX12_undo_67 rfl (lv_at hl 0 rfl) ?_
      refine va_get (D := D) (ci := 11) (v := .int t10) (C := RX12) (T := TX12) (N := 21) hx hb hts kinX12 hown hK hP 0 rfl rfl 1 (by decide) (hts _ kw845) (fun _ h9 => h9) rfl dX12_undo_68 ?_
      obtain ⟨rfl, rfl, rfl⟩ := ki3 hf
      rw [hQ]
      exact k_iret hat hP hS rfl dX12_undo_71
    · have hf := kn_e hf c4
      refine lv_ldcw hx hb hown (hts _ kw1103) dX12_undo_23 ?_
      obtain ⟨rfl, rfl, rfl⟩ := ki3 hf
      rw [hQ]
      exact k_iret hat hP hS rfl dX12_undo_26
  · have hf := kp_e hf c3
    refine lv_ldc hx hb hown (hts _ kw1077) dX12_undo_12 ?_
    obtain ⟨rfl, rfl, rfl⟩ := ki3 hf
    rw [hQ]
    exact k_iret hat hP hS rfl dX12_undo_14
set_option maxHeartbeats 4000000 in
set_option maxRecDepth 100000 in
theorem c_X12_write {l : Launch} {D : va_G} {cI cJ cQ : ClassId} {tp : Nat} (q : Nat) (q_w : Nat) (q_imageSeed : Nat) (q_bookOf : Nat) (q_bookAt : Nat) (q_bookIs : Nat) (q_rs : Nat) (q_cs : Nat) (q_zs : Nat) (v_known : Int32) (v_kept : Int32) (v_seed : Int32) (v_written : Int32) (v_above : Int64) (v_below : Int64) (v_leftAbove : Int64) (v_leftBelow : Int64) (v_guessAbove : Int64) (v_guessBelow : Int64) (v_sign : Int32) (v_power2 : Int32) (v_bits : Int64) (v_w : (Nat → Int32)) (v_bookOf : (Nat → Int32)) (v_bookAt : (Nat → Int32)) (v_bookIs : (Nat → Int32)) (x1 : Int32) (x2 : Int32) (x3 : Int32) (r0 : Int32) (o_v_written : Int32) (o_v_bookOf : (Nat → Int32)) (o_v_bookAt : (Nat → Int32)) (o_v_bookIs : (Nat → Int32)) (hf : f_X12_write v_written v_w v_bookOf v_bookAt v_bookIs x1 x2 x3 = some (r0, o_v_written, o_v_bookOf, o_v_bookAt, o_v_bookIs)) : kM (fun A => kQi D A [(q, .inr (11, [.ref q_w, .int v_known, .int v_kept, .int v_seed, .ref q_imageSeed, .ref q_bookOf, .ref q_bookAt, .ref q_bookIs, .int o_v_written, .ref q_rs, .ref q_cs, .long v_above, .long v_below, .ref q_zs, .long v_leftAbove, .long v_leftBelow, .long v_guessAbove, .long v_guessBelow, .int v_sign, .int v_power2, .long v_bits])), (q_w, .inl (cI, 418, .inl v_w)), (q_bookOf, .inl (cI, 20, .inl o_v_bookOf)), (q_bookAt, .inl (cI, 20, .inl o_v_bookAt)), (q_bookIs, .inl (cI, 20, .inl o_v_bookIs))] r0) (some .int) l yX12_write cX12_write 4 { frames := 2, cells := 0, slots := 0, locals := 46 } D cI cJ cQ tp [.ref q, .int x1, .int x2, .int x3] [(q, .inr (11, [.ref q_w, .int v_known, .int v_kept, .int v_seed, .ref q_imageSeed, .ref q_bookOf, .ref q_bookAt, .ref q_bookIs, .int v_written, .ref q_rs, .ref q_cs, .long v_above, .long v_below, .ref q_zs, .long v_leftAbove, .long v_leftBelow, .long v_guessAbove, .long v_guessBelow, .int v_sign, .int v_power2, .long v_bits])), (q_w, .inl (cI, 418, .inl v_w)), (q_bookOf, .inl (cI, 20, .inl v_bookOf)), (q_bookAt, .inl (cI, 20, .inl v_bookAt)), (q_bookIs, .inl (cI, 20, .inl v_bookIs))] := by
  refine kM_of (by decide) (Nat.le_of_ble_eq_true rfl) ?_
  intro p e s m args below meth c A ls R Q hR hQ hat hP hD hS hl
  obtain ⟨hx, hb, hr, hml, hown, hts, hT, hlk, hK, hA, hZ⟩ := id hat
  have hown : s.vm.findClass RX12 = some m.cls := hown
  have hl : lv_has ls 4 [(0, .ref q), (1, .int x1), (2, .int x2), (3, .int x3)] := hl
  unfold f_X12_write at hf
  refine lv_aload_n hx hb dX12_write_0 rfl (lv_at hl 0 rfl) ?_
  refine lv_iload_n hx hb dX12_write_1 rfl (lv_at hl 1 rfl) ?_
  obtain ⟨r1, h2, hf⟩ := kb1_e hf
  refine k_gi (k_runV (rest := []) hat hP hD hS hl.1 (c_X12_isRow q q_w q_imageSeed q_bookOf q_bookAt q_bookIs q_rs q_cs q_zs v_known v_kept v_seed v_written v_above v_below v_leftAbove v_leftBelow v_guessAbove v_guessBelow v_sign v_power2 v_bits v_w x1 r1 h2) [0, 1] (by decide) rfl kw1069 kw1071 kw50 kw79 kw1072 kdVX12_isRow ⟨rfl, rfl⟩ (by rw [hR]; exact ⟨Nat.le_of_ble_eq_true rfl, Nat.le_of_ble_eq_true rfl⟩) ⟨Nat.zero_le _, Nat.zero_le _⟩ 0 11 rfl rfl rfl rfl (Nat.le_of_ble_eq_true rfl) dX12_write_2) hat hP hD hS [0, 1] rfl rfl (fun H locs hP hD hS => ?_)
  have hP : va_P D vwCl [(q, .inr (11, [.ref q_w, .int v_known, .int v_kept, .int v_seed, .ref q_imageSeed, .ref q_bookOf, .ref q_bookAt, .ref q_bookIs, .int v_written, .ref q_rs, .ref q_cs, .long v_above, .long v_below, .ref q_zs, .long v_leftAbove, .long v_leftBelow, .long v_guessAbove, .long v_guessBelow, .int v_sign, .int v_power2, .long v_bits])), (q_w, .inl (cI, 418, .inl v_w)), (q_bookOf, .inl (cI, 20, .inl v_bookOf)), (q_bookAt, .inl (cI, 20, .inl v_bookAt)), (q_bookIs, .inl (cI, 20, .inl v_bookIs))] H := hP
  have hD : va_D A [(q, .inr (11, [.ref q_w, .int v_known, .int v_kept, .int v_seed, .ref q_imageSeed, .ref q_bookOf, .ref q_bookAt, .ref q_bookIs, .int v_written, .ref q_rs, .ref q_cs, .long v_above, .long v_below, .ref q_zs, .long v_leftAbove, .long v_leftBelow, .long v_guessAbove, .long v_guessBelow, .int v_sign, .int v_power2, .long v_bits])), (q_w, .inl (cI, 418, .inl v_w)), (q_bookOf, .inl (cI, 20, .inl v_bookOf)), (q_bookAt, .inl (cI, 20, .inl v_bookAt)), (q_bookIs, .inl (cI, 20, .inl v_bookIs))] := hD
  refine lv_if_ne (tgt := 12) hx hb dX12_write_5 (by decide) (fun c3 => ?_) (fun c3 => ?_)
  · have hf := kn_e hf c3
    refine lv_iload_n hx hb dX12_write_12 rfl (lv_at hl 2 rfl) ?_
    refine lv_i2l hx hb dX12_write_13 rfl ?_
    refine lv_lconst (v := 0) hx hb dX12_write_14 (by decide) ?_
    refine lv_ldc2 hx hb hown (hts _ kw1112) dX12_write_15 ?_
    obtain ⟨r4, h5, hf⟩ := kb1_e hf
    refine k_gi (k_runS (rest := []) hat hP hD hS hl.1 (c_X12_in (x2.toInt64) (0 : Int64) (99 : Int64) r4 h5) [] (by decide) rfl kw1058 kw1059 kw79 kw1060 kdX12_in ⟨rfl, rfl⟩ (by rw [hR]; exact ⟨Nat.le_of_ble_eq_true rfl, Nat.le_of_ble_eq_true rfl⟩) ⟨Nat.zero_le _, Nat.zero_le _⟩ rfl rfl (Nat.le_of_ble_eq_true rfl) dX12_write_18) hat hP hD hS [] rfl rfl (fun H locs hP hD hS => ?_)
    have hP : va_P D vwCl [(q, .inr (11, [.ref q_w, .int v_known, .int v_kept, .int v_seed, .ref q_imageSeed, .ref q_bookOf, .ref q_bookAt, .ref q_bookIs, .int v_written, .ref q_rs, .ref q_cs, .long v_above, .long v_below, .ref q_zs, .long v_leftAbove, .long v_leftBelow, .long v_guessAbove, .long v_guessBelow, .int v_sign, .int v_power2, .long v_bits])), (q_w, .inl (cI, 418, .inl v_w)), (q_bookOf, .inl (cI, 20, .inl v_bookOf)), (q_bookAt, .inl (cI, 20, .inl v_bookAt)), (q_bookIs, .inl (cI, 20, .inl v_bookIs))] H := hP
    have hD : va_D A [(q, .inr (11, [.ref q_w, .int v_known, .int v_kept, .int v_seed, .ref q_imageSeed, .ref q_bookOf, .ref q_bookAt, .ref q_bookIs, .int v_written, .ref q_rs, .ref q_cs, .long v_above, .long v_below, .ref q_zs, .long v_leftAbove, .long v_leftBelow, .long v_guessAbove, .long v_guessBelow, .int v_sign, .int v_power2, .long v_bits])), (q_w, .inl (cI, 418, .inl v_w)), (q_bookOf, .inl (cI, 20, .inl v_bookOf)), (q_bookAt, .inl (cI, 20, .inl v_bookAt)), (q_bookIs, .inl (cI, 20, .inl v_bookIs))] := hD
    refine lv_if_ne (tgt := 27) hx hb dX12_write_21 (by decide) (fun c6 => ?_) (fun c6 => ?_)
    · have hf := kn_e hf c6
      refine lv_aload_n hx hb dX12_write_27 rfl (lv_at hl 0 rfl) ?_
      refine va_get (D := D) (ci := 11) (v := .int v_written) (C := RX12) (T := TX12) (N := 21) hx hb hts kinX12 hown hK hP 0 rfl rfl 8 (by decide) (hts _ kw852) (fun _ h9 => h9) rfl dX12_write_28 ?_
      refine lv_bipush (v := 20) hx hb dX12_write_31 (by decide) ?_
      refine lv_icmp_ne (tgt := 40) hx hb dX12_write_33 (by decide) (fun c7 => ?_) (fun c7 => ?_)
      · have hf := kn_e hf c7
        refine lv_aload_n hx hb dX12_write_40 rfl (lv_at hl 0 rfl) ?_
        refine va_get (D := D) (ci := 11) (v := .ref q_bookOf) (C := RX12) (T := TX12) (N := 21) hx hb hts kinX12 hown hK hP 0 rfl rfl 5 (by decide) (hts _ kw849) (fun _ h9 => h9) rfl dX12_write_41 ?_
        refine lv_aload_n hx hb dX12_write_44 rfl (lv_at hl 0 rfl) ?_
        refine va_get (D := D) (ci := 11) (v := .int v_written) (C := RX12) (T := TX12) (N := 21) hx hb hts kinX12 hown hK hP 0 rfl rfl 8 (by decide) (hts _ kw852) (fun _ h9 => h9) rfl dX12_write_45 ?_
        refine lv_iload_n hx hb dX12_write_48 rfl (lv_at hl 1 rfl) ?_
        obtain ⟨c8, hf⟩ := kc_e hf
        refine va_iast hx hb hK hP hD hS 2 0 rfl rfl (kin_e c8) dX12_write_49 (fun H locs hP hD hS => ?_)
        generalize ew9 : (upd v_bookOf v_written.toNatClampNeg x1) = w9 at hP hD
        have hf := kl_e hf w9 ew9.symm
        have hP : va_P D vwCl [(q, .inr (11, [.ref q_w, .int v_known, .int v_kept, .int v_seed, .ref q_imageSeed, .ref q_bookOf, .ref q_bookAt, .ref q_bookIs, .int v_written, .ref q_rs, .ref q_cs, .long v_above, .long v_below, .ref q_zs, .long v_leftAbove, .long v_leftBelow, .long v_guessAbove, .long v_guessBelow, .int v_sign, .int v_power2, .long v_bits])), (q_w, .inl (cI, 418, .inl v_w)), (q_bookOf, .inl (cI, 20, .inl w9)), (q_bookAt, .inl (cI, 20, .inl v_bookAt)), (q_bookIs, .inl (cI, 20, .inl v_bookIs))] H := hP
        have hD : va_D A [(q, .inr (11, [.ref q_w, .int v_known, .int v_kept, .int v_seed, .ref q_imageSeed, .ref q_bookOf, .ref q_bookAt, .ref q_bookIs, .int v_written, .ref q_rs, .ref q_cs, .long v_above, .long v_below, .ref q_zs, .long v_leftAbove, .long v_leftBelow, .long v_guessAbove, .long v_guessBelow, .int v_sign, .int v_power2, .long v_bits])), (q_w, .inl (cI, 418, .inl v_w)), (q_bookOf, .inl (cI, 20, .inl w9)), (q_bookAt, .inl (cI, 20, .inl v_bookAt)), (q_bookIs, .inl (cI, 20, .inl v_bookIs))] := hD
        refine lv_aload_n hx hb dX12_write_50 rfl (lv_at hl 0 rfl) ?_
        refine va_get (D := D) (ci := 11) (v := .ref q_bookAt) (C := RX12) (T := TX12) (N := 21) hx hb hts kinX12 hown hK hP 0 rfl rfl 6 (by decide) (hts _ kw850) (fun _ h9 => h9) rfl dX12_write_51 ?_
        refine lv_aload_n hx hb dX12_write_54 rfl (lv_at hl 0 rfl) ?_
        refine va_get (D := D) (ci := 11) (v := .int v_written) (C := RX12) (T := TX12) (N := 21) hx hb hts kinX12 hown hK hP 0 rfl rfl 8 (by decide) (hts _ kw852) (fun _ h9 => h9) rfl dX12_write_55 ?_
        refine lv_iload_n hx hb dX12_write_58 rfl (lv_at hl 2 rfl) ?_
        obtain ⟨c10, hf⟩ := kc_e hf
        refine va_iast hx hb hK hP hD hS 3 0 rfl rfl (kin_e c10) dX12_write_59 (fun H locs hP hD hS => ?_)
        generalize ew11 : (upd v_bookAt v_written.toNatClampNeg x2) = w11 at hP hD
        have hf := kl_e hf w11 ew11.symm
        have hP : va_P D vwCl [(q, .inr (11, [.ref q_w, .int v_known, .int v_kept, .int v_seed, .ref q_imageSeed, .ref q_bookOf, .ref q_bookAt, .ref q_bookIs, .int v_written, .ref q_rs, .ref q_cs, .long v_above, .long v_below, .ref q_zs, .long v_leftAbove, .long v_leftBelow, .long v_guessAbove, .long v_guessBelow, .int v_sign, .int v_power2, .long v_bits])), (q_w, .inl (cI, 418, .inl v_w)), (q_bookOf, .inl (cI, 20, .inl w9)), (q_bookAt, .inl (cI, 20, .inl w11)), (q_bookIs, .inl (cI, 20, .inl v_bookIs))] H := hP
        have hD : va_D A [(q, .inr (11, [.ref q_w, .int v_known, .int v_kept, .int v_seed, .ref q_imageSeed, .ref q_bookOf, .ref q_bookAt, .ref q_bookIs, .int v_written, .ref q_rs, .ref q_cs, .long v_above, .long v_below, .ref q_zs, .long v_leftAbove, .long v_leftBelow, .long v_guessAbove, .long v_guessBelow, .int v_sign, .int v_power2, .long v_bits])), (q_w, .inl (cI, 418, .inl v_w)), (q_bookOf, .inl (cI, 20, .inl w9)), (q_bookAt, .inl (cI, 20, .inl w11)), (q_bookIs, .inl (cI, 20, .inl v_bookIs))] := hD
        refine lv_aload_n hx hb dX12_write_60 rfl (lv_at hl 0 rfl) ?_
        refine va_get (D := D) (ci := 11) (v := .ref q_bookIs) (C := RX12) (T := TX12) (N := 21) hx hb hts kinX12 hown hK hP 0 rfl rfl 7 (by decide) (hts _ kw851) (fun _ h9 => h9) rfl dX12_write_61 ?_
        refine lv_aload_n hx hb dX12_write_64 rfl (lv_at hl 0 rfl) ?_
        refine va_get (D := D) (ci := 11) (v := .int v_written) (C := RX12) (T := TX12) (N := 21) hx hb hts kinX12 hown hK hP 0 rfl rfl 8 (by decide) (hts _ kw852) (fun _ h9 => h9) rfl dX12_write_65 ?_
        refine lv_iload_n hx hb dX12_write_68 rfl (lv_at hl 3 rfl) ?_
        obtain ⟨c12, hf⟩ := kc_e hf
        refine va_iast hx hb hK hP hD hS 4 0 rfl rfl (kin_e c12) dX12_write_69 (fun H locs hP hD hS => ?_)
        generalize ew13 : (upd v_bookIs v_written.toNatClampNeg x3) = w13 at hP hD
        have hf := kl_e hf w13 ew13.symm
        have hP : va_P D vwCl [(q, .inr (11, [.ref q_w, .int v_known, .int v_kept, .int v_seed, .ref q_imageSeed, .ref q_bookOf, .ref q_bookAt, .ref q_bookIs, .int v_written, .ref q_rs, .ref q_cs, .long v_above, .long v_below, .ref q_zs, .long v_leftAbove, .long v_leftBelow, .long v_guessAbove, .long v_guessBelow, .int v_sign, .int v_power2, .long v_bits])), (q_w, .inl (cI, 418, .inl v_w)), (q_bookOf, .inl (cI, 20, .inl w9)), (q_bookAt, .inl (cI, 20, .inl w11)), (q_bookIs, .inl (cI, 20, .inl w13))] H := hP
        have hD : va_D A [(q, .inr (11, [.ref q_w, .int v_known, .int v_kept, .int v_seed, .ref q_imageSeed, .ref q_bookOf, .ref q_bookAt, .ref q_bookIs, .int v_written, .ref q_rs, .ref q_cs, .long v_above, .long v_below, .ref q_zs, .long v_leftAbove, .long v_leftBelow, .long v_guessAbove, .long v_guessBelow, .int v_sign, .int v_power2, .long v_bits])), (q_w, .inl (cI, 418, .inl v_w)), (q_bookOf, .inl (cI, 20, .inl w9)), (q_bookAt, .inl (cI, 20, .inl w11)), (q_bookIs, .inl (cI, 20, .inl w13))] := hD
        refine lv_aload_n hx hb dX12_write_70 rfl (lv_at hl 0 rfl) ?_
        refine lv_dup hx hb dX12_write_71 rfl ?_
        refine va_get (D := D) (ci := 11) (v := .int v_written) (C := RX12) (T := TX12) (N := 21) hx hb hts kinX12 hown hK hP 0 rfl rfl 8 (by decide) (hts _ kw852) (fun _ h9 => h9) rfl dX12_write_72 ?_
        refine lv_iconst (v := 1) hx hb dX12_write_75 (by decide) ?_
        refine lv_iadd hx hb dX12_write_76 ?_
        refine lv_topi (fun t14 et14 => ?_)
        have hf := kl_e hf t14 et14
        refine va_put (D := D) (ci := 11) (v := .int t14) (ty := .int) (C := RX12) (T := TX12) (N := 21) hx hb hts kinX12 tyX12 tyX12_ok nmX12 hown hK hP hD hS 0 rfl rfl 8 (by decide) (hts _ kw852) (fun _ h9 => h9) rfl (by decide +kernel) rfl rfl (Nat.le_of_ble_eq_true rfl) dX12_write_77 (fun H locs hP hD hS => ?_)
        have hP : va_P D vwCl [(q, .inr (11, [.ref q_w, .int v_known, .int v_kept, .int v_seed, .ref q_imageSeed, .ref q_bookOf, .ref q_bookAt, .ref q_bookIs, .int t14, .ref q_rs, .ref q_cs, .long v_above, .long v_below, .ref q_zs, .long v_leftAbove, .long v_leftBelow, .long v_guessAbove, .long v_guessBelow, .int v_sign, .int v_power2, .long v_bits])), (q_w, .inl (cI, 418, .inl v_w)), (q_bookOf, .inl (cI, 20, .inl w9)), (q_bookAt, .inl (cI, 20, .inl w11)), (q_bookIs, .inl (cI, 20, .inl w13))] H := hP
        have hD : va_D A [(q, .inr (11, [.ref q_w, .int v_known, .int v_kept, .int v_seed, .ref q_imageSeed, .ref q_bookOf, .ref q_bookAt, .ref q_bookIs, .int t14, .ref q_rs, .ref q_cs, .long v_above, .long v_below, .ref q_zs, .long v_leftAbove, .long v_leftBelow, .long v_guessAbove, .long v_guessBelow, .int v_sign, .int v_power2, .long v_bits])), (q_w, .inl (cI, 418, .inl v_w)), (q_bookOf, .inl (cI, 20, .inl w9)), (q_bookAt, .inl (cI, 20, .inl w11)), (q_bookIs, .inl (cI, 20, .inl w13))] := hD
        refine lv_aload_n hx hb dX12_write_80 rfl (lv_at hl 0 rfl) ?_
        refine va_get (D := D) (ci := 11) (v := .int t14) (C := RX12) (T := TX12) (N := 21) hx hb hts kinX12 hown hK hP 0 rfl rfl 8 (by decide) (hts _ kw852) (fun _ h9 => h9) rfl dX12_write_81 ?_
        obtain ⟨rfl, rfl, rfl, rfl, rfl⟩ := ki5 hf
        rw [hQ]
        exact k_iret hat hP hS rfl dX12_write_84
      · have hf := kp_e hf c7
        refine lv_ldcw hx hb hown (hts _ kw1222) dX12_write_36 ?_
        obtain ⟨rfl, rfl, rfl, rfl, rfl⟩ := ki5 hf
        rw [hQ]
        exact k_iret hat hP hS rfl dX12_write_39
    · have hf := kp_e hf c6
      refine lv_ldc hx hb hown (hts _ kw1077) dX12_write_24 ?_
      obtain ⟨rfl, rfl, rfl, rfl, rfl⟩ := ki5 hf
      rw [hQ]
      exact k_iret hat hP hS rfl dX12_write_26
  · have hf := kp_e hf c3
    refine lv_ldcw hx hb hown (hts _ kw1082) dX12_write_8 ?_
    obtain ⟨rfl, rfl, rfl, rfl, rfl⟩ := ki5 hf
    rw [hQ]
    exact k_iret hat hP hS rfl dX12_write_11
set_option maxHeartbeats 4000000 in
set_option maxRecDepth 100000 in
theorem c_X12_tear {l : Launch} {D : va_G} {cI cJ cQ : ClassId} {tp : Nat} (q : Nat) (q_w : Nat) (q_imageSeed : Nat) (q_bookOf : Nat) (q_bookAt : Nat) (q_bookIs : Nat) (q_rs : Nat) (q_cs : Nat) (q_zs : Nat) (v_known : Int32) (v_kept : Int32) (v_seed : Int32) (v_written : Int32) (v_above : Int64) (v_below : Int64) (v_leftAbove : Int64) (v_leftBelow : Int64) (v_guessAbove : Int64) (v_guessBelow : Int64) (v_sign : Int32) (v_power2 : Int32) (v_bits : Int64) (r0 : Int32) (o_v_written : Int32) (hf : f_X12_tear v_written = some (r0, o_v_written)) : kM (fun A => kQi D A [(q, .inr (11, [.ref q_w, .int v_known, .int v_kept, .int v_seed, .ref q_imageSeed, .ref q_bookOf, .ref q_bookAt, .ref q_bookIs, .int o_v_written, .ref q_rs, .ref q_cs, .long v_above, .long v_below, .ref q_zs, .long v_leftAbove, .long v_leftBelow, .long v_guessAbove, .long v_guessBelow, .int v_sign, .int v_power2, .long v_bits]))] r0) (some .int) l yX12_tear cX12_tear 2 { frames := 0, cells := 0, slots := 0, locals := 0 } D cI cJ cQ tp [.ref q] [(q, .inr (11, [.ref q_w, .int v_known, .int v_kept, .int v_seed, .ref q_imageSeed, .ref q_bookOf, .ref q_bookAt, .ref q_bookIs, .int v_written, .ref q_rs, .ref q_cs, .long v_above, .long v_below, .ref q_zs, .long v_leftAbove, .long v_leftBelow, .long v_guessAbove, .long v_guessBelow, .int v_sign, .int v_power2, .long v_bits]))] := by
  refine kM_of (by decide) (Nat.le_of_ble_eq_true rfl) ?_
  intro p e s m args below meth c A ls R Q hR hQ hat hP hD hS hl
  obtain ⟨hx, hb, hr, hml, hown, hts, hT, hlk, hK, hA, hZ⟩ := id hat
  have hown : s.vm.findClass RX12 = some m.cls := hown
  have hl : lv_has ls 2 [(0, .ref q)] := hl
  unfold f_X12_tear at hf
  refine lv_aload_n hx hb dX12_tear_0 rfl (lv_at hl 0 rfl) ?_
  refine va_get (D := D) (ci := 11) (v := .int v_written) (C := RX12) (T := TX12) (N := 21) hx hb hts kinX12 hown hK hP 0 rfl rfl 8 (by decide) (hts _ kw852) (fun _ h9 => h9) rfl dX12_tear_1 ?_
  refine lv_istore_n (lv' := [(1, .int v_written), (0, .ref q)]) hx hb dX12_tear_4 rfl hl (by decide) rfl (fun ls hl => ?_)
  refine lv_aload_n hx hb dX12_tear_5 rfl (lv_at hl 1 rfl) ?_
  refine lv_iconst (v := 0) hx hb dX12_tear_6 (by decide) ?_
  refine va_put (D := D) (ci := 11) (v := .int (0 : Int32)) (ty := .int) (C := RX12) (T := TX12) (N := 21) hx hb hts kinX12 tyX12 tyX12_ok nmX12 hown hK hP hD hS 0 rfl rfl 8 (by decide) (hts _ kw852) (fun _ h9 => h9) rfl (by decide +kernel) rfl rfl (Nat.le_of_ble_eq_true rfl) dX12_tear_7 (fun H locs hP hD hS => ?_)
  have hP : va_P D vwCl [(q, .inr (11, [.ref q_w, .int v_known, .int v_kept, .int v_seed, .ref q_imageSeed, .ref q_bookOf, .ref q_bookAt, .ref q_bookIs, .int (0 : Int32), .ref q_rs, .ref q_cs, .long v_above, .long v_below, .ref q_zs, .long v_leftAbove, .long v_leftBelow, .long v_guessAbove, .long v_guessBelow, .int v_sign, .int v_power2, .long v_bits]))] H := hP
  have hD : va_D A [(q, .inr (11, [.ref q_w, .int v_known, .int v_kept, .int v_seed, .ref q_imageSeed, .ref q_bookOf, .ref q_bookAt, .ref q_bookIs, .int (0 : Int32), .ref q_rs, .ref q_cs, .long v_above, .long v_below, .ref q_zs, .long v_leftAbove, .long v_leftBelow, .long v_guessAbove, .long v_guessBelow, .int v_sign, .int v_power2, .long v_bits]))] := hD
  refine lv_iload_n hx hb dX12_tear_10 rfl (lv_at hl 0 rfl) ?_
  obtain ⟨rfl, rfl⟩ := ki2 hf
  rw [hQ]
  exact k_iret hat hP hS rfl dX12_tear_11
set_option maxHeartbeats 4000000 in
set_option maxRecDepth 100000 in
theorem c_X12_seed {l : Launch} {D : va_G} {cI cJ cQ : ClassId} {tp : Nat} (q : Nat) (q_w : Nat) (q_imageSeed : Nat) (q_bookOf : Nat) (q_bookAt : Nat) (q_bookIs : Nat) (q_rs : Nat) (q_cs : Nat) (q_zs : Nat) (v_known : Int32) (v_kept : Int32) (v_seed : Int32) (v_written : Int32) (v_above : Int64) (v_below : Int64) (v_leftAbove : Int64) (v_leftBelow : Int64) (v_guessAbove : Int64) (v_guessBelow : Int64) (v_sign : Int32) (v_power2 : Int32) (v_bits : Int64) (x1 : Int32) (r0 : Int32) (o_v_seed : Int32) (hf : f_X12_seed v_seed x1 = some (r0, o_v_seed)) : kM (fun A => kQi D A [(q, .inr (11, [.ref q_w, .int v_known, .int v_kept, .int o_v_seed, .ref q_imageSeed, .ref q_bookOf, .ref q_bookAt, .ref q_bookIs, .int v_written, .ref q_rs, .ref q_cs, .long v_above, .long v_below, .ref q_zs, .long v_leftAbove, .long v_leftBelow, .long v_guessAbove, .long v_guessBelow, .int v_sign, .int v_power2, .long v_bits]))] r0) (some .int) l yX12_seed cX12_seed 3 { frames := 0, cells := 0, slots := 0, locals := 0 } D cI cJ cQ tp [.ref q, .int x1] [(q, .inr (11, [.ref q_w, .int v_known, .int v_kept, .int v_seed, .ref q_imageSeed, .ref q_bookOf, .ref q_bookAt, .ref q_bookIs, .int v_written, .ref q_rs, .ref q_cs, .long v_above, .long v_below, .ref q_zs, .long v_leftAbove, .long v_leftBelow, .long v_guessAbove, .long v_guessBelow, .int v_sign, .int v_power2, .long v_bits]))] := by
  refine kM_of (by decide) (Nat.le_of_ble_eq_true rfl) ?_
  intro p e s m args below meth c A ls R Q hR hQ hat hP hD hS hl
  obtain ⟨hx, hb, hr, hml, hown, hts, hT, hlk, hK, hA, hZ⟩ := id hat
  have hown : s.vm.findClass RX12 = some m.cls := hown
  have hl : lv_has ls 3 [(0, .ref q), (1, .int x1)] := hl
  unfold f_X12_seed at hf
  refine lv_iload_n hx hb dX12_seed_0 rfl (lv_at hl 1 rfl) ?_
  refine lv_if_ge (tgt := 7) hx hb dX12_seed_1 (by decide) (fun c1 => ?_) (fun c1 => ?_)
  · have hf := kp_e hf c1
    refine lv_aload_n hx hb dX12_seed_7 rfl (lv_at hl 0 rfl) ?_
    refine va_get (D := D) (ci := 11) (v := .int v_seed) (C := RX12) (T := TX12) (N := 21) hx hb hts kinX12 hown hK hP 0 rfl rfl 3 (by decide) (hts _ kw847) (fun _ h9 => h9) rfl dX12_seed_8 ?_
    refine lv_istore_n (lv' := [(2, .int v_seed), (0, .ref q), (1, .int x1)]) hx hb dX12_seed_11 rfl hl (by decide) rfl (fun ls hl => ?_)
    refine lv_aload_n hx hb dX12_seed_12 rfl (lv_at hl 1 rfl) ?_
    refine lv_iload_n hx hb dX12_seed_13 rfl (lv_at hl 2 rfl) ?_
    refine va_put (D := D) (ci := 11) (v := .int x1) (ty := .int) (C := RX12) (T := TX12) (N := 21) hx hb hts kinX12 tyX12 tyX12_ok nmX12 hown hK hP hD hS 0 rfl rfl 3 (by decide) (hts _ kw847) (fun _ h9 => h9) rfl (by decide +kernel) rfl rfl (Nat.le_of_ble_eq_true rfl) dX12_seed_14 (fun H locs hP hD hS => ?_)
    have hP : va_P D vwCl [(q, .inr (11, [.ref q_w, .int v_known, .int v_kept, .int x1, .ref q_imageSeed, .ref q_bookOf, .ref q_bookAt, .ref q_bookIs, .int v_written, .ref q_rs, .ref q_cs, .long v_above, .long v_below, .ref q_zs, .long v_leftAbove, .long v_leftBelow, .long v_guessAbove, .long v_guessBelow, .int v_sign, .int v_power2, .long v_bits]))] H := hP
    have hD : va_D A [(q, .inr (11, [.ref q_w, .int v_known, .int v_kept, .int x1, .ref q_imageSeed, .ref q_bookOf, .ref q_bookAt, .ref q_bookIs, .int v_written, .ref q_rs, .ref q_cs, .long v_above, .long v_below, .ref q_zs, .long v_leftAbove, .long v_leftBelow, .long v_guessAbove, .long v_guessBelow, .int v_sign, .int v_power2, .long v_bits]))] := hD
    refine lv_iload_n hx hb dX12_seed_17 rfl (lv_at hl 0 rfl) ?_
    obtain ⟨rfl, rfl⟩ := ki2 hf
    rw [hQ]
    exact k_iret hat hP hS rfl dX12_seed_18
  · have hf := kn_e hf c1
    refine lv_ldc hx hb hown (hts _ kw1077) dX12_seed_4 ?_
    obtain ⟨rfl, rfl⟩ := ki2 hf
    rw [hQ]
    exact k_iret hat hP hS rfl dX12_seed_6
