set_option maxHeartbeats 4000000 in
set_option maxRecDepth 100000 in
theorem c_X12_undo {l : Launch} {D : va_G} {cI cJ cQ : ClassId} {tp : Nat} (q : Nat) (q_w : Nat) (q_imageSeed : Nat) (q_bookOf : Nat) (q_bookAt : Nat) (q_bookIs : Nat) (q_rs : Nat) (q_cs : Nat) (q_zs : Nat) (v_known : Int32) (v_kept : Int32) (v_seed : Int32) (v_written : Int32) (v_above : Int64) (v_below : Int64) (v_leftAbove : Int64) (v_leftBelow : Int64) (v_guessAbove : Int64) (v_guessBelow : Int64) (v_sign : Int32) (v_power2 : Int32) (v_bits : Int64) (v_w : (Nat → Int32)) (F : Nat) (x1 : Int32) (r0 : Int32) (o_v_known : Int32) (o_v_w : (Nat → Int32)) (hf : f_X12_undo F v_known v_w x1 = some (r0, o_v_known, o_v_w)) : kM (fun A => kQi D A [(q, .inr (11, [.ref q_w, .int o_v_known, .int v_kept, .int v_seed, .ref q_imageSeed, .ref q_bookOf, .ref q_bookAt, .ref q_bookIs, .int v_written, .ref q_rs, .ref q_cs, .long v_above, .long v_below, .ref q_zs, .long v_leftAbove, .long v_leftBelow, .long v_guessAbove, .long v_guessBelow, .int v_sign, .int v_power2, .long v_bits])), (q_w, .inl (cI, 418, .inl o_v_w))] r0) (some .int) l yX12_undo cX12_undo 3 { frames := 1, cells := 0, slots := 0, locals := 25 } D cI cJ cQ tp [.ref q, .int x1] [(q, .inr (11, [.ref q_w, .int v_known, .int v_kept, .int v_seed, .ref q_imageSeed, .ref q_bookOf, .ref q_bookAt, .ref q_bookIs, .int v_written, .ref q_rs, .ref q_cs, .long v_above, .long v_below, .ref q_zs, .long v_leftAbove, .long v_leftBelow, .long v_guessAbove, .long v_guessBelow, .int v_sign, .int v_power2, .long v_bits])), (q_w, .inl (cI, 418, .inl v_w))] := by
  refine kM_of (by decide +kernel) (Nat.le_of_ble_eq_true rfl) ?_
  intro p e s m args below meth c A ls R Q hR hQ hat hP hD hS hl
  obtain ⟨hx, hb, hr, hml, hown, hts, hT, hlk, hK, hA, hZ⟩ := id hat
  have hown : s.vm.findClass RX12 = some m.cls := hown
  have hl : lv_has ls 3 [(0, .ref q), (1, .int x1)] := hl
  have hL29 : ∀ (x1 : Int32) (v_known : Int32) (v_kept : Int32) (v_seed : Int32) (v_written : Int32) (v_above : Int64) (v_below : Int64) (v_leftAbove : Int64) (v_leftBelow : Int64) (v_guessAbove : Int64) (v_guessBelow : Int64) (v_sign : Int32) (v_power2 : Int32) (v_bits : Int64) (fu : Nat) (x2 : Int32) (v_w : (Nat → Int32)) (o0 : (Nat → Int32)), L_X12_undo_29 F x1 fu x2 v_w = some o0 → (∀ (H : Heap) (locs : List Loc) (ls : Array Slot), va_P D vwCl [(q, .inr (11, [.ref q_w, .int v_known, .int v_kept, .int v_seed, .ref q_imageSeed, .ref q_bookOf, .ref q_bookAt, .ref q_bookIs, .int v_written, .ref q_rs, .ref q_cs, .long v_above, .long v_below, .ref q_zs, .long v_leftAbove, .long v_leftBelow, .long v_guessAbove, .long v_guessBelow, .int v_sign, .int v_power2, .long v_bits])), (q_w, .inl (cI, 418, .inl o0))] H → va_D A [(q, .inr (11, [.ref q_w, .int v_known, .int v_kept, .int v_seed, .ref q_imageSeed, .ref q_bookOf, .ref q_bookAt, .ref q_bookIs, .int v_written, .ref q_rs, .ref q_cs, .long v_above, .long v_below, .ref q_zs, .long v_leftAbove, .long v_leftBelow, .long v_guessAbove, .long v_guessBelow, .int v_sign, .int v_power2, .long v_bits])), (q_w, .inl (cI, 418, .inl o0))] → va_S A s.heap H locs → lv_has ls 3 [(0, .ref q), (1, .int x1)] → W p l e R s m args below meth c H locs 0 0 Q (F0 m 57 ls [])) → ∀ (H : Heap) (locs : List Loc) (ls : Array Slot), va_P D vwCl [(q, .inr (11, [.ref q_w, .int v_known, .int v_kept, .int v_seed, .ref q_imageSeed, .ref q_bookOf, .ref q_bookAt, .ref q_bookIs, .int v_written, .ref q_rs, .ref q_cs, .long v_above, .long v_below, .ref q_zs, .long v_leftAbove, .long v_leftBelow, .long v_guessAbove, .long v_guessBelow, .int v_sign, .int v_power2, .long v_bits])), (q_w, .inl (cI, 418, .inl v_w))] H → va_D A [(q, .inr (11, [.ref q_w, .int v_known, .int v_kept, .int v_seed, .ref q_imageSeed, .ref q_bookOf, .ref q_bookAt, .ref q_bookIs, .int v_written, .ref q_rs, .ref q_cs, .long v_above, .long v_below, .ref q_zs, .long v_leftAbove, .long v_leftBelow, .long v_guessAbove, .long v_guessBelow, .int v_sign, .int v_power2, .long v_bits])), (q_w, .inl (cI, 418, .inl v_w))] → va_S A s.heap H locs → lv_has ls 3 [(0, .ref q), (1, .int x1), (2, .int x2)] → W p l e R s m args below meth c H locs 0 0 Q (F0 m 29 ls []) := by
    intro x1 v_known v_kept v_seed v_written v_above v_below v_leftAbove v_leftBelow v_guessAbove v_guessBelow v_sign v_power2 v_bits fu
    induction fu with
    | zero =>
      intro x2 v_w o0 hf
      cases hf
    | succ fu ih =>
      intro x2 v_w o0 hf hk0 H locs ls hP hD hS hl
      rw [L_X12_undo_29] at hf
      refine lv_iload_n hx hb dX12_undo_29 rfl (lv_at hl 2 rfl) ?_
      refine lv_iload_n hx hb dX12_undo_30 rfl (lv_at hl 1 rfl) ?_
      refine lv_iadd hx hb dX12_undo_31 ?_
      refine lv_bipush (v := 16) hx hb dX12_undo_32 (by decide) ?_
      refine lv_icmp_gt (tgt := 57) hx hb dX12_undo_34 (by decide) (fun c5 => ?_) (fun c5 => ?_)
      · have hf := kp_e hf c5
        obtain rfl := ki1 hf
        exact hk0 _ _ _ hP hD hS (lv_sub hl [0, 1] rfl)
      · have hf := kn_e hf c5
        refine lv_aload_n hx hb dX12_undo_37 rfl (lv_at hl 0 rfl) ?_
        refine lv_bipush (v := 22) hx hb dX12_undo_38 (by decide) ?_
        refine lv_iload_n hx hb dX12_undo_40 rfl (lv_at hl 2 rfl) ?_
        refine lv_iload_n hx hb dX12_undo_41 rfl (lv_at hl 1 rfl) ?_
        refine lv_iadd hx hb dX12_undo_42 ?_
        refine lv_imul hx hb dX12_undo_43 ?_
        refine lv_bipush (v := 22) hx hb dX12_undo_44 (by decide) ?_
        refine lv_iload_n hx hb dX12_undo_46 rfl (lv_at hl 2 rfl) ?_
        refine lv_imul hx hb dX12_undo_47 ?_
        obtain ⟨w6, h7, hf⟩ := kb1_e hf
        refine k_gv (nW := 2) (ws' := [(q, .inr (11, [.ref q_w, .int v_known, .int v_kept, .int v_seed, .ref q_imageSeed, .ref q_bookOf, .ref q_bookAt, .ref q_bookIs, .int v_written, .ref q_rs, .ref q_cs, .long v_above, .long v_below, .ref q_zs, .long v_leftAbove, .long v_leftBelow, .long v_guessAbove, .long v_guessBelow, .int v_sign, .int v_power2, .long v_bits])), (q_w, .inl (cI, 418, .inl w6))]) (wr := []) (k_runV (rest := []) hat hP hD hS hl.1 (c_X12_copyRow q q_w q_imageSeed q_bookOf q_bookAt q_bookIs q_rs q_cs q_zs v_known v_kept v_seed v_written v_above v_below v_leftAbove v_leftBelow v_guessAbove v_guessBelow v_sign v_power2 v_bits v_w F ((22 : Int32) * (x2 + x1)) ((22 : Int32) * x2) w6 h7) [0, 1] (by decide) rfl kw1193 kw1195 kw63 kw79 kw1196 kdVX12_copyRow ⟨rfl, rfl⟩ (by rw [hR]; exact ⟨Nat.le_of_ble_eq_true rfl, Nat.le_of_ble_eq_true rfl⟩) ⟨Nat.zero_le _, Nat.zero_le _⟩ 0 11 rfl rfl rfl rfl (Nat.le_of_ble_eq_true rfl) dX12_undo_48) hat hP hD hS [0, 1] rfl [] rfl rfl rfl rfl rfl (by decide) (fun H locs hP hD hS => ?_)
        obtain ⟨t8, et8⟩ : ∃ z : Int32, z = (x2 + (1 : Int32)) := ⟨_, rfl⟩
        have hf := kl_e hf t8 et8
        refine lv_iinc (v := t8) (lv' := [(2, .int t8), (0, .ref q), (1, .int x1)]) hx hb dX12_undo_51 hl (k := 2) rfl (by rw [et8]; rfl) (by decide) rfl (fun ls hl => ?_)
        refine lv_goto (tgt := 29) hx hb dX12_undo_54 (by decide) ?_
        exact ih t8 w6 o0 hf hk0 _ _ _ hP hD hS (lv_sub hl [1, 2, 0] rfl)
  unfold f_X12_undo at hf
  refine lv_iload_n hx hb dX12_undo_0 rfl (lv_at hl 1 rfl) ?_
  refine lv_i2l hx hb dX12_undo_1 rfl ?_
  refine lv_lconst (v := 1) hx hb dX12_undo_2 (by decide) ?_
  refine lv_ldc2 hx hb hown (hts _ kw1248) dX12_undo_3 ?_
  obtain ⟨r1, h2, hf⟩ := kb1_e hf
  refine k_gi (nW := 2) (ws' := [(q, .inr (11, [.ref q_w, .int v_known, .int v_kept, .int v_seed, .ref q_imageSeed, .ref q_bookOf, .ref q_bookAt, .ref q_bookIs, .int v_written, .ref q_rs, .ref q_cs, .long v_above, .long v_below, .ref q_zs, .long v_leftAbove, .long v_leftBelow, .long v_guessAbove, .long v_guessBelow, .int v_sign, .int v_power2, .long v_bits])), (q_w, .inl (cI, 418, .inl v_w))]) (wr := [(q, .inr (11, [.ref q_w, .int v_known, .int v_kept, .int v_seed, .ref q_imageSeed, .ref q_bookOf, .ref q_bookAt, .ref q_bookIs, .int v_written, .ref q_rs, .ref q_cs, .long v_above, .long v_below, .ref q_zs, .long v_leftAbove, .long v_leftBelow, .long v_guessAbove, .long v_guessBelow, .int v_sign, .int v_power2, .long v_bits])), (q_w, .inl (cI, 418, .inl v_w))]) (k_runS (rest := []) hat hP hD hS hl.1 (c_X12_in (x1.toInt64) (1 : Int64) (16 : Int64) r1 h2) [] (by decide) rfl kw1058 kw1059 kw79 kw1060 kdX12_in ⟨rfl, rfl⟩ (by rw [hR]; exact ⟨Nat.le_of_ble_eq_true rfl, Nat.le_of_ble_eq_true rfl⟩) ⟨Nat.zero_le _, Nat.zero_le _⟩ rfl rfl (Nat.le_of_ble_eq_true rfl) dX12_undo_6) hat hP hD hS [] rfl [0, 1] rfl rfl rfl rfl rfl (by decide) (fun H locs hP hD hS => ?_)
  refine lv_if_ne (tgt := 15) hx hb dX12_undo_9 (by decide) (fun c3 => ?_) (fun c3 => ?_)
  · have hf := kn_e hf c3
    refine lv_iload_n hx hb dX12_undo_15 rfl (lv_at hl 1 rfl) ?_
    refine lv_aload_n hx hb dX12_undo_16 rfl (lv_at hl 0 rfl) ?_
    refine va_get (D := D) (ci := 11) (v := .int v_known) (C := RX12) (T := TX12) (N := 21) hx hb hts kinX12 hown hK hP 0 rfl rfl 1 (by decide) (hts _ kw845) (fun _ h9 => h9) rfl dX12_undo_17 ?_
    refine lv_icmp_le (tgt := 27) hx hb dX12_undo_20 (by decide) (fun c4 => ?_) (fun c4 => ?_)
    · have hf := kp_e hf c4
      refine lv_iconst (v := 0) hx hb dX12_undo_27 (by decide) ?_
      refine lv_istore_n (lv' := [(2, .int (0 : Int32)), (0, .ref q), (1, .int x1)]) hx hb dX12_undo_28 rfl hl (by decide) rfl (fun ls hl => ?_)
      obtain ⟨w9, hu, hf⟩ := kb1_e hf
      refine hL29 x1 v_known v_kept v_seed v_written v_above v_below v_leftAbove v_leftBelow v_guessAbove v_guessBelow v_sign v_power2 v_bits F (0 : Int32) v_w w9 hu (fun H locs ls hP hD hS hl => ?_) _ _ _ hP hD hS (lv_sub hl [1, 2, 0] rfl)
      refine lv_aload_n hx hb dX12_undo_57 rfl (lv_at hl 0 rfl) ?_
      refine lv_dup hx hb dX12_undo_58 rfl ?_
      refine va_get (D := D) (ci := 11) (v := .int v_known) (C := RX12) (T := TX12) (N := 21) hx hb hts kinX12 hown hK hP 0 rfl rfl 1 (by decide) (hts _ kw845) (fun _ h9 => h9) rfl dX12_undo_59 ?_
      refine lv_iload_n hx hb dX12_undo_62 rfl (lv_at hl 1 rfl) ?_
      refine lv_isub hx hb dX12_undo_63 ?_
      refine lv_topi (fun t10 et10 => ?_)
      have hf := kl_e hf t10 et10
      refine va_put (D := D) (ci := 11) (v := .int t10) (ty := .int) (C := RX12) (T := TX12) (N := 21) hx hb hts kinX12 tyX12 tyX12_ok nmX12 hown hK hP hD hS 0 rfl rfl 1 (by decide) (hts _ kw845) (fun _ h9 => h9) rfl (by decide +kernel) rfl rfl (Nat.le_of_ble_eq_true rfl) dX12_undo_64 (fun H locs hP hD hS => ?_)
      have hP : va_P D vwCl [(q, .inr (11, [.ref q_w, .int t10, .int v_kept, .int v_seed, .ref q_imageSeed, .ref q_bookOf, .ref q_bookAt, .ref q_bookIs, .int v_written, .ref q_rs, .ref q_cs, .long v_above, .long v_below, .ref q_zs, .long v_leftAbove, .long v_leftBelow, .long v_guessAbove, .long v_guessBelow, .int v_sign, .int v_power2, .long v_bits])), (q_w, .inl (cI, 418, .inl w9))] H := hP
      have hD : va_D A [(q, .inr (11, [.ref q_w, .int t10, .int v_kept, .int v_seed, .ref q_imageSeed, .ref q_bookOf, .ref q_bookAt, .ref q_bookIs, .int v_written, .ref q_rs, .ref q_cs, .long v_above, .long v_below, .ref q_zs, .long v_leftAbove, .long v_leftBelow, .long v_guessAbove, .long v_guessBelow, .int v_sign, .int v_power2, .long v_bits])), (q_w, .inl (cI, 418, .inl w9))] := hD
      refine lv_aload_n hx hb dX12_undo_67 rfl (lv_at hl 0 rfl) ?_
      refine va_get (D := D) (ci := 11) (v := .int t10) (C := RX12) (T := TX12) (N := 21) hx hb hts kinX12 hown hK hP 0 rfl rfl 1 (by decide) (hts _ kw845) (fun _ h9 => h9) rfl dX12_undo_68 ?_
      obtain ⟨rfl, rfl, rfl⟩ := ki3 hf
      rw [hQ]
      exact k_iret hat hP hS rfl dX12_undo_71
    · have hf := kn_e hf c4
      refine lv_ldcw hx hb hown (hts _ kw1103) dX12_undo_23 ?_
      obtain ⟨rfl, rfl, rfl⟩ := ki3 hf
      rw [hQ]
      exact k_iret hat hP hS rfl dX12_undo_26
  · have hf := kp_e hf c3
    refine lv_ldc hx hb hown (hts _ kw1077) dX12_undo_12 ?_
    obtain ⟨rfl, rfl, rfl⟩ := ki3 hf
    rw [hQ]
    exact k_iret hat hP hS rfl dX12_undo_14
set_option maxHeartbeats 4000000 in
set_option maxRecDepth 100000 in
theorem c_X12_write {l : Launch} {D : va_G} {cI cJ cQ : ClassId} {tp : Nat} (q : Nat) (q_w : Nat) (q_imageSeed : Nat) (q_bookOf : Nat) (q_bookAt : Nat) (q_bookIs : Nat) (q_rs : Nat) (q_cs : Nat) (q_zs : Nat) (v_known : Int32) (v_kept : Int32) (v_seed : Int32) (v_written : Int32) (v_above : Int64) (v_below : Int64) (v_leftAbove : Int64) (v_leftBelow : Int64) (v_guessAbove : Int64) (v_guessBelow : Int64) (v_sign : Int32) (v_power2 : Int32) (v_bits : Int64) (v_w : (Nat → Int32)) (v_bookOf : (Nat → Int32)) (v_bookAt : (Nat → Int32)) (v_bookIs : (Nat → Int32)) (x1 : Int32) (x2 : Int32) (x3 : Int32) (r0 : Int32) (o_v_written : Int32) (o_v_bookOf : (Nat → Int32)) (o_v_bookAt : (Nat → Int32)) (o_v_bookIs : (Nat → Int32)) (hf : f_X12_write v_written v_w v_bookOf v_bookAt v_bookIs x1 x2 x3 = some (r0, o_v_written, o_v_bookOf, o_v_bookAt, o_v_bookIs)) : kM (fun A => kQi D A [(q, .inr (11, [.ref q_w, .int v_known, .int v_kept, .int v_seed, .ref q_imageSeed, .ref q_bookOf, .ref q_bookAt, .ref q_bookIs, .int o_v_written, .ref q_rs, .ref q_cs, .long v_above, .long v_below, .ref q_zs, .long v_leftAbove, .long v_leftBelow, .long v_guessAbove, .long v_guessBelow, .int v_sign, .int v_power2, .long v_bits])), (q_w, .inl (cI, 418, .inl v_w)), (q_bookOf, .inl (cI, 20, .inl o_v_bookOf)), (q_bookAt, .inl (cI, 20, .inl o_v_bookAt)), (q_bookIs, .inl (cI, 20, .inl o_v_bookIs))] r0) (some .int) l yX12_write cX12_write 4 { frames := 2, cells := 0, slots := 0, locals := 46 } D cI cJ cQ tp [.ref q, .int x1, .int x2, .int x3] [(q, .inr (11, [.ref q_w, .int v_known, .int v_kept, .int v_seed, .ref q_imageSeed, .ref q_bookOf, .ref q_bookAt, .ref q_bookIs, .int v_written, .ref q_rs, .ref q_cs, .long v_above, .long v_below, .ref q_zs, .long v_leftAbove, .long v_leftBelow, .long v_guessAbove, .long v_guessBelow, .int v_sign, .int v_power2, .long v_bits])), (q_w, .inl (cI, 418, .inl v_w)), (q_bookOf, .inl (cI, 20, .inl v_bookOf)), (q_bookAt, .inl (cI, 20, .inl v_bookAt)), (q_bookIs, .inl (cI, 20, .inl v_bookIs))] := by
  refine kM_of (by decide +kernel) (Nat.le_of_ble_eq_true rfl) ?_
  intro p e s m args below meth c A ls R Q hR hQ hat hP hD hS hl
  obtain ⟨hx, hb, hr, hml, hown, hts, hT, hlk, hK, hA, hZ⟩ := id hat
  have hown : s.vm.findClass RX12 = some m.cls := hown
  have hl : lv_has ls 4 [(0, .ref q), (1, .int x1), (2, .int x2), (3, .int x3)] := hl
  unfold f_X12_write at hf
  refine lv_aload_n hx hb dX12_write_0 rfl (lv_at hl 0 rfl) ?_
  refine lv_iload_n hx hb dX12_write_1 rfl (lv_at hl 1 rfl) ?_
  obtain ⟨r1, h2, hf⟩ := kb1_e hf
  refine k_gi (nW := 5) (ws' := [(q, .inr (11, [.ref q_w, .int v_known, .int v_kept, .int v_seed, .ref q_imageSeed, .ref q_bookOf, .ref q_bookAt, .ref q_bookIs, .int v_written, .ref q_rs, .ref q_cs, .long v_above, .long v_below, .ref q_zs, .long v_leftAbove, .long v_leftBelow, .long v_guessAbove, .long v_guessBelow, .int v_sign, .int v_power2, .long v_bits])), (q_w, .inl (cI, 418, .inl v_w)), (q_bookOf, .inl (cI, 20, .inl v_bookOf)), (q_bookAt, .inl (cI, 20, .inl v_bookAt)), (q_bookIs, .inl (cI, 20, .inl v_bookIs))]) (wr := [(q_bookOf, .inl (cI, 20, .inl v_bookOf)), (q_bookAt, .inl (cI, 20, .inl v_bookAt)), (q_bookIs, .inl (cI, 20, .inl v_bookIs))]) (k_runV (rest := []) hat hP hD hS hl.1 (c_X12_isRow q q_w q_imageSeed q_bookOf q_bookAt q_bookIs q_rs q_cs q_zs v_known v_kept v_seed v_written v_above v_below v_leftAbove v_leftBelow v_guessAbove v_guessBelow v_sign v_power2 v_bits v_w x1 r1 h2) [0, 1] (by decide) rfl kw1069 kw1071 kw50 kw79 kw1072 kdVX12_isRow ⟨rfl, rfl⟩ (by rw [hR]; exact ⟨Nat.le_of_ble_eq_true rfl, Nat.le_of_ble_eq_true rfl⟩) ⟨Nat.zero_le _, Nat.zero_le _⟩ 0 11 rfl rfl rfl rfl (Nat.le_of_ble_eq_true rfl) dX12_write_2) hat hP hD hS [0, 1] rfl [2, 3, 4] rfl rfl rfl rfl rfl (by decide) (fun H locs hP hD hS => ?_)
  refine lv_if_ne (tgt := 12) hx hb dX12_write_5 (by decide) (fun c3 => ?_) (fun c3 => ?_)
  · have hf := kn_e hf c3
    refine lv_iload_n hx hb dX12_write_12 rfl (lv_at hl 2 rfl) ?_
    refine lv_i2l hx hb dX12_write_13 rfl ?_
    refine lv_lconst (v := 0) hx hb dX12_write_14 (by decide) ?_
    refine lv_ldc2 hx hb hown (hts _ kw1112) dX12_write_15 ?_
    obtain ⟨r4, h5, hf⟩ := kb1_e hf
    refine k_gi (nW := 5) (ws' := [(q, .inr (11, [.ref q_w, .int v_known, .int v_kept, .int v_seed, .ref q_imageSeed, .ref q_bookOf, .ref q_bookAt, .ref q_bookIs, .int v_written, .ref q_rs, .ref q_cs, .long v_above, .long v_below, .ref q_zs, .long v_leftAbove, .long v_leftBelow, .long v_guessAbove, .long v_guessBelow, .int v_sign, .int v_power2, .long v_bits])), (q_w, .inl (cI, 418, .inl v_w)), (q_bookOf, .inl (cI, 20, .inl v_bookOf)), (q_bookAt, .inl (cI, 20, .inl v_bookAt)), (q_bookIs, .inl (cI, 20, .inl v_bookIs))]) (wr := [(q, .inr (11, [.ref q_w, .int v_known, .int v_kept, .int v_seed, .ref q_imageSeed, .ref q_bookOf, .ref q_bookAt, .ref q_bookIs, .int v_written, .ref q_rs, .ref q_cs, .long v_above, .long v_below, .ref q_zs, .long v_leftAbove, .long v_leftBelow, .long v_guessAbove, .long v_guessBelow, .int v_sign, .int v_power2, .long v_bits])), (q_w, .inl (cI, 418, .inl v_w)), (q_bookOf, .inl (cI, 20, .inl v_bookOf)), (q_bookAt, .inl (cI, 20, .inl v_bookAt)), (q_bookIs, .inl (cI, 20, .inl v_bookIs))]) (k_runS (rest := []) hat hP hD hS hl.1 (c_X12_in (x2.toInt64) (0 : Int64) (99 : Int64) r4 h5) [] (by decide) rfl kw1058 kw1059 kw79 kw1060 kdX12_in ⟨rfl, rfl⟩ (by rw [hR]; exact ⟨Nat.le_of_ble_eq_true rfl, Nat.le_of_ble_eq_true rfl⟩) ⟨Nat.zero_le _, Nat.zero_le _⟩ rfl rfl (Nat.le_of_ble_eq_true rfl) dX12_write_18) hat hP hD hS [] rfl [0, 1, 2, 3, 4] rfl rfl rfl rfl rfl (by decide) (fun H locs hP hD hS => ?_)
    refine lv_if_ne (tgt := 27) hx hb dX12_write_21 (by decide) (fun c6 => ?_) (fun c6 => ?_)
    · have hf := kn_e hf c6
      refine lv_aload_n hx hb dX12_write_27 rfl (lv_at hl 0 rfl) ?_
      refine va_get (D := D) (ci := 11) (v := .int v_written) (C := RX12) (T := TX12) (N := 21) hx hb hts kinX12 hown hK hP 0 rfl rfl 8 (by decide) (hts _ kw852) (fun _ h9 => h9) rfl dX12_write_28 ?_
      refine lv_bipush (v := 20) hx hb dX12_write_31 (by decide) ?_
      refine lv_icmp_ne (tgt := 40) hx hb dX12_write_33 (by decide) (fun c7 => ?_) (fun c7 => ?_)
      · have hf := kn_e hf c7
        refine lv_aload_n hx hb dX12_write_40 rfl (lv_at hl 0 rfl) ?_
        refine va_get (D := D) (ci := 11) (v := .ref q_bookOf) (C := RX12) (T := TX12) (N := 21) hx hb hts kinX12 hown hK hP 0 rfl rfl 5 (by decide) (hts _ kw849) (fun _ h9 => h9) rfl dX12_write_41 ?_
        refine lv_aload_n hx hb dX12_write_44 rfl (lv_at hl 0 rfl) ?_
        refine va_get (D := D) (ci := 11) (v := .int v_written) (C := RX12) (T := TX12) (N := 21) hx hb hts kinX12 hown hK hP 0 rfl rfl 8 (by decide) (hts _ kw852) (fun _ h9 => h9) rfl dX12_write_45 ?_
        refine lv_iload_n hx hb dX12_write_48 rfl (lv_at hl 1 rfl) ?_
        obtain ⟨c8, hf⟩ := kc_e hf
        refine va_iast hx hb hK hP hD hS 2 0 rfl rfl (kin_e c8) dX12_write_49 (fun H locs hP hD hS => ?_)
        generalize ew9 : (upd v_bookOf v_written.toNatClampNeg x1) = w9 at hP hD
        have hf := kl_e hf w9 ew9.symm
        have hP : va_P D vwCl [(q, .inr (11, [.ref q_w, .int v_known, .int v_kept, .int v_seed, .ref q_imageSeed, .ref q_bookOf, .ref q_bookAt, .ref q_bookIs, .int v_written, .ref q_rs, .ref q_cs, .long v_above, .long v_below, .ref q_zs, .long v_leftAbove, .long v_leftBelow, .long v_guessAbove, .long v_guessBelow, .int v_sign, .int v_power2, .long v_bits])), (q_w, .inl (cI, 418, .inl v_w)), (q_bookOf, .inl (cI, 20, .inl w9)), (q_bookAt, .inl (cI, 20, .inl v_bookAt)), (q_bookIs, .inl (cI, 20, .inl v_bookIs))] H := hP
        have hD : va_D A [(q, .inr (11, [.ref q_w, .int v_known, .int v_kept, .int v_seed, .ref q_imageSeed, .ref q_bookOf, .ref q_bookAt, .ref q_bookIs, .int v_written, .ref q_rs, .ref q_cs, .long v_above, .long v_below, .ref q_zs, .long v_leftAbove, .long v_leftBelow, .long v_guessAbove, .long v_guessBelow, .int v_sign, .int v_power2, .long v_bits])), (q_w, .inl (cI, 418, .inl v_w)), (q_bookOf, .inl (cI, 20, .inl w9)), (q_bookAt, .inl (cI, 20, .inl v_bookAt)), (q_bookIs, .inl (cI, 20, .inl v_bookIs))] := hD
        refine lv_aload_n hx hb dX12_write_50 rfl (lv_at hl 0 rfl) ?_
        refine va_get (D := D) (ci := 11) (v := .ref q_bookAt) (C := RX12) (T := TX12) (N := 21) hx hb hts kinX12 hown hK hP 0 rfl rfl 6 (by decide) (hts _ kw850) (fun _ h9 => h9) rfl dX12_write_51 ?_
        refine lv_aload_n hx hb dX12_write_54 rfl (lv_at hl 0 rfl) ?_
        refine va_get (D := D) (ci := 11) (v := .int v_written) (C := RX12) (T := TX12) (N := 21) hx hb hts kinX12 hown hK hP 0 rfl rfl 8 (by decide) (hts _ kw852) (fun _ h9 => h9) rfl dX12_write_55 ?_
        refine lv_iload_n hx hb dX12_write_58 rfl (lv_at hl 2 rfl) ?_
        obtain ⟨c10, hf⟩ := kc_e hf
        refine va_iast hx hb hK hP hD hS 3 0 rfl rfl (kin_e c10) dX12_write_59 (fun H locs hP hD hS => ?_)
        generalize ew11 : (upd v_bookAt v_written.toNatClampNeg x2) = w11 at hP hD
        have hf := kl_e hf w11 ew11.symm
        have hP : va_P D vwCl [(q, .inr (11, [.ref q_w, .int v_known, .int v_kept, .int v_seed, .ref q_imageSeed, .ref q_bookOf, .ref q_bookAt, .ref q_bookIs, .int v_written, .ref q_rs, .ref q_cs, .long v_above, .long v_below, .ref q_zs, .long v_leftAbove, .long v_leftBelow, .long v_guessAbove, .long v_guessBelow, .int v_sign, .int v_power2, .long v_bits])), (q_w, .inl (cI, 418, .inl v_w)), (q_bookOf, .inl (cI, 20, .inl w9)), (q_bookAt, .inl (cI, 20, .inl w11)), (q_bookIs, .inl (cI, 20, .inl v_bookIs))] H := hP
        have hD : va_D A [(q, .inr (11, [.ref q_w, .int v_known, .int v_kept, .int v_seed, .ref q_imageSeed, .ref q_bookOf, .ref q_bookAt, .ref q_bookIs, .int v_written, .ref q_rs, .ref q_cs, .long v_above, .long v_below, .ref q_zs, .long v_leftAbove, .long v_leftBelow, .long v_guessAbove, .long v_guessBelow, .int v_sign, .int v_power2, .long v_bits])), (q_w, .inl (cI, 418, .inl v_w)), (q_bookOf, .inl (cI, 20, .inl w9)), (q_bookAt, .inl (cI, 20, .inl w11)), (q_bookIs, .inl (cI, 20, .inl v_bookIs))] := hD
        refine lv_aload_n hx hb dX12_write_60 rfl (lv_at hl 0 rfl) ?_
        refine va_get (D := D) (ci := 11) (v := .ref q_bookIs) (C := RX12) (T := TX12) (N := 21) hx hb hts kinX12 hown hK hP 0 rfl rfl 7 (by decide) (hts _ kw851) (fun _ h9 => h9) rfl dX12_write_61 ?_
        refine lv_aload_n hx hb dX12_write_64 rfl (lv_at hl 0 rfl) ?_
        refine va_get (D := D) (ci := 11) (v := .int v_written) (C := RX12) (T := TX12) (N := 21) hx hb hts kinX12 hown hK hP 0 rfl rfl 8 (by decide) (hts _ kw852) (fun _ h9 => h9) rfl dX12_write_65 ?_
        refine lv_iload_n hx hb dX12_write_68 rfl (lv_at hl 3 rfl) ?_
        obtain ⟨c12, hf⟩ := kc_e hf
        refine va_iast hx hb hK hP hD hS 4 0 rfl rfl (kin_e c12) dX12_write_69 (fun H locs hP hD hS => ?_)
        generalize ew13 : (upd v_bookIs v_written.toNatClampNeg x3) = w13 at hP hD
        have hf := kl_e hf w13 ew13.symm
        have hP : va_P D vwCl [(q, .inr (11, [.ref q_w, .int v_known, .int v_kept, .int v_seed, .ref q_imageSeed, .ref q_bookOf, .ref q_bookAt, .ref q_bookIs, .int v_written, .ref q_rs, .ref q_cs, .long v_above, .long v_below, .ref q_zs, .long v_leftAbove, .long v_leftBelow, .long v_guessAbove, .long v_guessBelow, .int v_sign, .int v_power2, .long v_bits])), (q_w, .inl (cI, 418, .inl v_w)), (q_bookOf, .inl (cI, 20, .inl w9)), (q_bookAt, .inl (cI, 20, .inl w11)), (q_bookIs, .inl (cI, 20, .inl w13))] H := hP
        have hD : va_D A [(q, .inr (11, [.ref q_w, .int v_known, .int v_kept, .int v_seed, .ref q_imageSeed, .ref q_bookOf, .ref q_bookAt, .ref q_bookIs, .int v_written, .ref q_rs, .ref q_cs, .long v_above, .long v_below, .ref q_zs, .long v_leftAbove, .long v_leftBelow, .long v_guessAbove, .long v_guessBelow, .int v_sign, .int v_power2, .long v_bits])), (q_w, .inl (cI, 418, .inl v_w)), (q_bookOf, .inl (cI, 20, .inl w9)), (q_bookAt, .inl (cI, 20, .inl w11)), (q_bookIs, .inl (cI, 20, .inl w13))] := hD
        refine lv_aload_n hx hb dX12_write_70 rfl (lv_at hl 0 rfl) ?_
        refine lv_dup hx hb dX12_write_71 rfl ?_
        refine va_get (D := D) (ci := 11) (v := .int v_written) (C := RX12) (T := TX12) (N := 21) hx hb hts kinX12 hown hK hP 0 rfl rfl 8 (by decide) (hts _ kw852) (fun _ h9 => h9) rfl dX12_write_72 ?_
        refine lv_iconst (v := 1) hx hb dX12_write_75 (by decide) ?_
        refine lv_iadd hx hb dX12_write_76 ?_
        refine lv_topi (fun t14 et14 => ?_)
        have hf := kl_e hf t14 et14
        refine va_put (D := D) (ci := 11) (v := .int t14) (ty := .int) (C := RX12) (T := TX12) (N := 21) hx hb hts kinX12 tyX12 tyX12_ok nmX12 hown hK hP hD hS 0 rfl rfl 8 (by decide) (hts _ kw852) (fun _ h9 => h9) rfl (by decide +kernel) rfl rfl (Nat.le_of_ble_eq_true rfl) dX12_write_77 (fun H locs hP hD hS => ?_)
        have hP : va_P D vwCl [(q, .inr (11, [.ref q_w, .int v_known, .int v_kept, .int v_seed, .ref q_imageSeed, .ref q_bookOf, .ref q_bookAt, .ref q_bookIs, .int t14, .ref q_rs, .ref q_cs, .long v_above, .long v_below, .ref q_zs, .long v_leftAbove, .long v_leftBelow, .long v_guessAbove, .long v_guessBelow, .int v_sign, .int v_power2, .long v_bits])), (q_w, .inl (cI, 418, .inl v_w)), (q_bookOf, .inl (cI, 20, .inl w9)), (q_bookAt, .inl (cI, 20, .inl w11)), (q_bookIs, .inl (cI, 20, .inl w13))] H := hP
        have hD : va_D A [(q, .inr (11, [.ref q_w, .int v_known, .int v_kept, .int v_seed, .ref q_imageSeed, .ref q_bookOf, .ref q_bookAt, .ref q_bookIs, .int t14, .ref q_rs, .ref q_cs, .long v_above, .long v_below, .ref q_zs, .long v_leftAbove, .long v_leftBelow, .long v_guessAbove, .long v_guessBelow, .int v_sign, .int v_power2, .long v_bits])), (q_w, .inl (cI, 418, .inl v_w)), (q_bookOf, .inl (cI, 20, .inl w9)), (q_bookAt, .inl (cI, 20, .inl w11)), (q_bookIs, .inl (cI, 20, .inl w13))] := hD
        refine lv_aload_n hx hb dX12_write_80 rfl (lv_at hl 0 rfl) ?_
        refine va_get (D := D) (ci := 11) (v := .int t14) (C := RX12) (T := TX12) (N := 21) hx hb hts kinX12 hown hK hP 0 rfl rfl 8 (by decide) (hts _ kw852) (fun _ h9 => h9) rfl dX12_write_81 ?_
        obtain ⟨rfl, rfl, rfl, rfl, rfl⟩ := ki5 hf
        rw [hQ]
        exact k_iret hat hP hS rfl dX12_write_84
      · have hf := kp_e hf c7
        refine lv_ldcw hx hb hown (hts _ kw1222) dX12_write_36 ?_
        obtain ⟨rfl, rfl, rfl, rfl, rfl⟩ := ki5 hf
        rw [hQ]
        exact k_iret hat hP hS rfl dX12_write_39
    · have hf := kp_e hf c6
      refine lv_ldc hx hb hown (hts _ kw1077) dX12_write_24 ?_
      obtain ⟨rfl, rfl, rfl, rfl, rfl⟩ := ki5 hf
      rw [hQ]
      exact k_iret hat hP hS rfl dX12_write_26
  · have hf := kp_e hf c3
    refine lv_ldcw hx hb hown (hts _ kw1082) dX12_write_8 ?_
    obtain ⟨rfl, rfl, rfl, rfl, rfl⟩ := ki5 hf
    rw [hQ]
    exact k_iret hat hP hS rfl dX12_write_11
set_option maxHeartbeats 4000000 in
set_option maxRecDepth 100000 in
theorem c_X12_tear {l : Launch} {D : va_G} {cI cJ cQ : ClassId} {tp : Nat} (q : Nat) (q_w : Nat) (q_imageSeed : Nat) (q_bookOf : Nat) (q_bookAt : Nat) (q_bookIs : Nat) (q_rs : Nat) (q_cs : Nat) (q_zs : Nat) (v_known : Int32) (v_kept : Int32) (v_seed : Int32) (v_written : Int32) (v_above : Int64) (v_below : Int64) (v_leftAbove : Int64) (v_leftBelow : Int64) (v_guessAbove : Int64) (v_guessBelow : Int64) (v_sign : Int32) (v_power2 : Int32) (v_bits : Int64) (r0 : Int32) (o_v_written : Int32) (hf : f_X12_tear v_written = some (r0, o_v_written)) : kM (fun A => kQi D A [(q, .inr (11, [.ref q_w, .int v_known, .int v_kept, .int v_seed, .ref q_imageSeed, .ref q_bookOf, .ref q_bookAt, .ref q_bookIs, .int o_v_written, .ref q_rs, .ref q_cs, .long v_above, .long v_below, .ref q_zs, .long v_leftAbove, .long v_leftBelow, .long v_guessAbove, .long v_guessBelow, .int v_sign, .int v_power2, .long v_bits]))] r0) (some .int) l yX12_tear cX12_tear 2 { frames := 0, cells := 0, slots := 0, locals := 0 } D cI cJ cQ tp [.ref q] [(q, .inr (11, [.ref q_w, .int v_known, .int v_kept, .int v_seed, .ref q_imageSeed, .ref q_bookOf, .ref q_bookAt, .ref q_bookIs, .int v_written, .ref q_rs, .ref q_cs, .long v_above, .long v_below, .ref q_zs, .long v_leftAbove, .long v_leftBelow, .long v_guessAbove, .long v_guessBelow, .int v_sign, .int v_power2, .long v_bits]))] := by
  refine kM_of (by decide +kernel) (Nat.le_of_ble_eq_true rfl) ?_
  intro p e s m args below meth c A ls R Q hR hQ hat hP hD hS hl
  obtain ⟨hx, hb, hr, hml, hown, hts, hT, hlk, hK, hA, hZ⟩ := id hat
  have hown : s.vm.findClass RX12 = some m.cls := hown
  have hl : lv_has ls 2 [(0, .ref q)] := hl
  unfold f_X12_tear at hf
  refine lv_aload_n hx hb dX12_tear_0 rfl (lv_at hl 0 rfl) ?_
  refine va_get (D := D) (ci := 11) (v := .int v_written) (C := RX12) (T := TX12) (N := 21) hx hb hts kinX12 hown hK hP 0 rfl rfl 8 (by decide) (hts _ kw852) (fun _ h9 => h9) rfl dX12_tear_1 ?_
  refine lv_istore_n (lv' := [(1, .int v_written), (0, .ref q)]) hx hb dX12_tear_4 rfl hl (by decide) rfl (fun ls hl => ?_)
  refine lv_aload_n hx hb dX12_tear_5 rfl (lv_at hl 1 rfl) ?_
  refine lv_iconst (v := 0) hx hb dX12_tear_6 (by decide) ?_
  refine va_put (D := D) (ci := 11) (v := .int (0 : Int32)) (ty := .int) (C := RX12) (T := TX12) (N := 21) hx hb hts kinX12 tyX12 tyX12_ok nmX12 hown hK hP hD hS 0 rfl rfl 8 (by decide) (hts _ kw852) (fun _ h9 => h9) rfl (by decide +kernel) rfl rfl (Nat.le_of_ble_eq_true rfl) dX12_tear_7 (fun H locs hP hD hS => ?_)
  have hP : va_P D vwCl [(q, .inr (11, [.ref q_w, .int v_known, .int v_kept, .int v_seed, .ref q_imageSeed, .ref q_bookOf, .ref q_bookAt, .ref q_bookIs, .int (0 : Int32), .ref q_rs, .ref q_cs, .long v_above, .long v_below, .ref q_zs, .long v_leftAbove, .long v_leftBelow, .long v_guessAbove, .long v_guessBelow, .int v_sign, .int v_power2, .long v_bits]))] H := hP
  have hD : va_D A [(q, .inr (11, [.ref q_w, .int v_known, .int v_kept, .int v_seed, .ref q_imageSeed, .ref q_bookOf, .ref q_bookAt, .ref q_bookIs, .int (0 : Int32), .ref q_rs, .ref q_cs, .long v_above, .long v_below, .ref q_zs, .long v_leftAbove, .long v_leftBelow, .long v_guessAbove, .long v_guessBelow, .int v_sign, .int v_power2, .long v_bits]))] := hD
  refine lv_iload_n hx hb dX12_tear_10 rfl (lv_at hl 0 rfl) ?_
  obtain ⟨rfl, rfl⟩ := ki2 hf
  rw [hQ]
  exact k_iret hat hP hS rfl dX12_tear_11
set_option maxHeartbeats 4000000 in
set_option maxRecDepth 100000 in
theorem c_X12_seed {l : Launch} {D : va_G} {cI cJ cQ : ClassId} {tp : Nat} (q : Nat) (q_w : Nat) (q_imageSeed : Nat) (q_bookOf : Nat) (q_bookAt : Nat) (q_bookIs : Nat) (q_rs : Nat) (q_cs : Nat) (q_zs : Nat) (v_known : Int32) (v_kept : Int32) (v_seed : Int32) (v_written : Int32) (v_above : Int64) (v_below : Int64) (v_leftAbove : Int64) (v_leftBelow : Int64) (v_guessAbove : Int64) (v_guessBelow : Int64) (v_sign : Int32) (v_power2 : Int32) (v_bits : Int64) (x1 : Int32) (r0 : Int32) (o_v_seed : Int32) (hf : f_X12_seed v_seed x1 = some (r0, o_v_seed)) : kM (fun A => kQi D A [(q, .inr (11, [.ref q_w, .int v_known, .int v_kept, .int o_v_seed, .ref q_imageSeed, .ref q_bookOf, .ref q_bookAt, .ref q_bookIs, .int v_written, .ref q_rs, .ref q_cs, .long v_above, .long v_below, .ref q_zs, .long v_leftAbove, .long v_leftBelow, .long v_guessAbove, .long v_guessBelow, .int v_sign, .int v_power2, .long v_bits]))] r0) (some .int) l yX12_seed cX12_seed 3 { frames := 0, cells := 0, slots := 0, locals := 0 } D cI cJ cQ tp [.ref q, .int x1] [(q, .inr (11, [.ref q_w, .int v_known, .int v_kept, .int v_seed, .ref q_imageSeed, .ref q_bookOf, .ref q_bookAt, .ref q_bookIs, .int v_written, .ref q_rs, .ref q_cs, .long v_above, .long v_below, .ref q_zs, .long v_leftAbove, .long v_leftBelow, .long v_guessAbove, .long v_guessBelow, .int v_sign, .int v_power2, .long v_bits]))] := by
  refine kM_of (by decide +kernel) (Nat.le_of_ble_eq_true rfl) ?_
  intro p e s m args below meth c A ls R Q hR hQ hat hP hD hS hl
  obtain ⟨hx, hb, hr, hml, hown, hts, hT, hlk, hK, hA, hZ⟩ := id hat
  have hown : s.vm.findClass RX12 = some m.cls := hown
  have hl : lv_has ls 3 [(0, .ref q), (1, .int x1)] := hl
  unfold f_X12_seed at hf
  refine lv_iload_n hx hb dX12_seed_0 rfl (lv_at hl 1 rfl) ?_
  refine lv_if_ge (tgt := 7) hx hb dX12_seed_1 (by decide) (fun c1 => ?_) (fun c1 => ?_)
  · have hf := kp_e hf c1
    refine lv_aload_n hx hb dX12_seed_7 rfl (lv_at hl 0 rfl) ?_
    refine va_get (D := D) (ci := 11) (v := .int v_seed) (C := RX12) (T := TX12) (N := 21) hx hb hts kinX12 hown hK hP 0 rfl rfl 3 (by decide) (hts _ kw847) (fun _ h9 => h9) rfl dX12_seed_8 ?_
    refine lv_istore_n (lv' := [(2, .int v_seed), (0, .ref q), (1, .int x1)]) hx hb dX12_seed_11 rfl hl (by decide) rfl (fun ls hl => ?_)
    refine lv_aload_n hx hb dX12_seed_12 rfl (lv_at hl 1 rfl) ?_
    refine lv_iload_n hx hb dX12_seed_13 rfl (lv_at hl 2 rfl) ?_
    refine va_put (D := D) (ci := 11) (v := .int x1) (ty := .int) (C := RX12) (T := TX12) (N := 21) hx hb hts kinX12 tyX12 tyX12_ok nmX12 hown hK hP hD hS 0 rfl rfl 3 (by decide) (hts _ kw847) (fun _ h9 => h9) rfl (by decide +kernel) rfl rfl (Nat.le_of_ble_eq_true rfl) dX12_seed_14 (fun H locs hP hD hS => ?_)
    have hP : va_P D vwCl [(q, .inr (11, [.ref q_w, .int v_known, .int v_kept, .int x1, .ref q_imageSeed, .ref q_bookOf, .ref q_bookAt, .ref q_bookIs, .int v_written, .ref q_rs, .ref q_cs, .long v_above, .long v_below, .ref q_zs, .long v_leftAbove, .long v_leftBelow, .long v_guessAbove, .long v_guessBelow, .int v_sign, .int v_power2, .long v_bits]))] H := hP
    have hD : va_D A [(q, .inr (11, [.ref q_w, .int v_known, .int v_kept, .int x1, .ref q_imageSeed, .ref q_bookOf, .ref q_bookAt, .ref q_bookIs, .int v_written, .ref q_rs, .ref q_cs, .long v_above, .long v_below, .ref q_zs, .long v_leftAbove, .long v_leftBelow, .long v_guessAbove, .long v_guessBelow, .int v_sign, .int v_power2, .long v_bits]))] := hD
    refine lv_iload_n hx hb dX12_seed_17 rfl (lv_at hl 0 rfl) ?_
    obtain ⟨rfl, rfl⟩ := ki2 hf
    rw [hQ]
    exact k_iret hat hP hS rfl dX12_seed_18
  · have hf := kn_e hf c1
    refine lv_ldc hx hb hown (hts _ kw1077) dX12_seed_4 ?_
    obtain ⟨rfl, rfl⟩ := ki2 hf
    rw [hQ]
    exact k_iret hat hP hS rfl dX12_seed_6
set_option maxHeartbeats 4000000 in
set_option maxRecDepth 100000 in
theorem c_X12_keep {l : Launch} {D : va_G} {cI cJ cQ : ClassId} {tp : Nat} (q : Nat) (q_w : Nat) (q_imageSeed : Nat) (q_bookOf : Nat) (q_bookAt : Nat) (q_bookIs : Nat) (q_rs : Nat) (q_cs : Nat) (q_zs : Nat) (v_known : Int32) (v_kept : Int32) (v_seed : Int32) (v_written : Int32) (v_above : Int64) (v_below : Int64) (v_leftAbove : Int64) (v_leftBelow : Int64) (v_guessAbove : Int64) (v_guessBelow : Int64) (v_sign : Int32) (v_power2 : Int32) (v_bits : Int64) (v_w : (Nat → Int32)) (v_imageSeed : (Nat → Int32)) (F : Nat) (x1 : Int32) (r0 : Int32) (o_v_known : Int32) (o_v_kept : Int32) (o_v_w : (Nat → Int32)) (o_v_imageSeed : (Nat → Int32)) (hf : f_X12_keep F v_known v_kept v_seed v_w v_imageSeed x1 = some (r0, o_v_known, o_v_kept, o_v_w, o_v_imageSeed)) : kM (fun A => kQi D A [(q, .inr (11, [.ref q_w, .int o_v_known, .int o_v_kept, .int v_seed, .ref q_imageSeed, .ref q_bookOf, .ref q_bookAt, .ref q_bookIs, .int v_written, .ref q_rs, .ref q_cs, .long v_above, .long v_below, .ref q_zs, .long v_leftAbove, .long v_leftBelow, .long v_guessAbove, .long v_guessBelow, .int v_sign, .int v_power2, .long v_bits])), (q_w, .inl (cI, 418, .inl o_v_w)), (q_imageSeed, .inl (cI, 2, .inl o_v_imageSeed))] r0) (some .int) l yX12_keep cX12_keep 2 { frames := 1, cells := 0, slots := 0, locals := 25 } D cI cJ cQ tp [.ref q, .int x1] [(q, .inr (11, [.ref q_w, .int v_known, .int v_kept, .int v_seed, .ref q_imageSeed, .ref q_bookOf, .ref q_bookAt, .ref q_bookIs, .int v_written, .ref q_rs, .ref q_cs, .long v_above, .long v_below, .ref q_zs, .long v_leftAbove, .long v_leftBelow, .long v_guessAbove, .long v_guessBelow, .int v_sign, .int v_power2, .long v_bits])), (q_w, .inl (cI, 418, .inl v_w)), (q_imageSeed, .inl (cI, 2, .inl v_imageSeed))] := by
  refine kM_of (by decide +kernel) (Nat.le_of_ble_eq_true rfl) ?_
  intro p e s m args below meth c A ls R Q hR hQ hat hP hD hS hl
  obtain ⟨hx, hb, hr, hml, hown, hts, hT, hlk, hK, hA, hZ⟩ := id hat
  have hown : s.vm.findClass RX12 = some m.cls := hown
  have hl : lv_has ls 2 [(0, .ref q), (1, .int x1)] := hl
  unfold f_X12_keep at hf
  refine lv_iload_n hx hb dX12_keep_0 rfl (lv_at hl 1 rfl) ?_
  refine lv_i2l hx hb dX12_keep_1 rfl ?_
  refine lv_lconst (v := 0) hx hb dX12_keep_2 (by decide) ?_
  refine lv_lconst (v := 1) hx hb dX12_keep_3 (by decide) ?_
  obtain ⟨r1, h2, hf⟩ := kb1_e hf
  refine k_gi (nW := 3) (ws' := [(q, .inr (11, [.ref q_w, .int v_known, .int v_kept, .int v_seed, .ref q_imageSeed, .ref q_bookOf, .ref q_bookAt, .ref q_bookIs, .int v_written, .ref q_rs, .ref q_cs, .long v_above, .long v_below, .ref q_zs, .long v_leftAbove, .long v_leftBelow, .long v_guessAbove, .long v_guessBelow, .int v_sign, .int v_power2, .long v_bits])), (q_w, .inl (cI, 418, .inl v_w)), (q_imageSeed, .inl (cI, 2, .inl v_imageSeed))]) (wr := [(q, .inr (11, [.ref q_w, .int v_known, .int v_kept, .int v_seed, .ref q_imageSeed, .ref q_bookOf, .ref q_bookAt, .ref q_bookIs, .int v_written, .ref q_rs, .ref q_cs, .long v_above, .long v_below, .ref q_zs, .long v_leftAbove, .long v_leftBelow, .long v_guessAbove, .long v_guessBelow, .int v_sign, .int v_power2, .long v_bits])), (q_w, .inl (cI, 418, .inl v_w)), (q_imageSeed, .inl (cI, 2, .inl v_imageSeed))]) (k_runS (rest := []) hat hP hD hS hl.1 (c_X12_in (x1.toInt64) (0 : Int64) (1 : Int64) r1 h2) [] (by decide) rfl kw1058 kw1059 kw79 kw1060 kdX12_in ⟨rfl, rfl⟩ (by rw [hR]; exact ⟨Nat.le_of_ble_eq_true rfl, Nat.le_of_ble_eq_true rfl⟩) ⟨Nat.zero_le _, Nat.zero_le _⟩ rfl rfl (Nat.le_of_ble_eq_true rfl) dX12_keep_4) hat hP hD hS [] rfl [0, 1, 2] rfl rfl rfl rfl rfl (by decide) (fun H locs hP hD hS => ?_)
  refine lv_if_ne (tgt := 14) hx hb dX12_keep_7 (by decide) (fun c3 => ?_) (fun c3 => ?_)
  · have hf := kn_e hf c3
    refine lv_aload_n hx hb dX12_keep_14 rfl (lv_at hl 0 rfl) ?_
    refine lv_iconst (v := 0) hx hb dX12_keep_15 (by decide) ?_
    refine lv_sipush (v := 374) hx hb dX12_keep_16 (by decide) ?_
    refine lv_bipush (v := 22) hx hb dX12_keep_19 (by decide) ?_
    refine lv_iload_n hx hb dX12_keep_21 rfl (lv_at hl 1 rfl) ?_
    refine lv_imul hx hb dX12_keep_22 ?_
    refine lv_iadd hx hb dX12_keep_23 ?_
    obtain ⟨w4, h5, hf⟩ := kb1_e hf
    refine k_gv (nW := 3) (ws' := [(q, .inr (11, [.ref q_w, .int v_known, .int v_kept, .int v_seed, .ref q_imageSeed, .ref q_bookOf, .ref q_bookAt, .ref q_bookIs, .int v_written, .ref q_rs, .ref q_cs, .long v_above, .long v_below, .ref q_zs, .long v_leftAbove, .long v_leftBelow, .long v_guessAbove, .long v_guessBelow, .int v_sign, .int v_power2, .long v_bits])), (q_w, .inl (cI, 418, .inl w4)), (q_imageSeed, .inl (cI, 2, .inl v_imageSeed))]) (wr := [(q_imageSeed, .inl (cI, 2, .inl v_imageSeed))]) (k_runV (rest := []) hat hP hD hS hl.1 (c_X12_copyRow q q_w q_imageSeed q_bookOf q_bookAt q_bookIs q_rs q_cs q_zs v_known v_kept v_seed v_written v_above v_below v_leftAbove v_leftBelow v_guessAbove v_guessBelow v_sign v_power2 v_bits v_w F (0 : Int32) ((374 : Int32) + ((22 : Int32) * x1)) w4 h5) [0, 1] (by decide) rfl kw1193 kw1195 kw63 kw79 kw1196 kdVX12_copyRow ⟨rfl, rfl⟩ (by rw [hR]; exact ⟨Nat.le_of_ble_eq_true rfl, Nat.le_of_ble_eq_true rfl⟩) ⟨Nat.zero_le _, Nat.zero_le _⟩ 0 11 rfl rfl rfl rfl (Nat.le_of_ble_eq_true rfl) dX12_keep_24) hat hP hD hS [0, 1] rfl [2] rfl rfl rfl rfl rfl (by decide) (fun H locs hP hD hS => ?_)
    refine lv_aload_n hx hb dX12_keep_27 rfl (lv_at hl 0 rfl) ?_
    refine va_get (D := D) (ci := 11) (v := .ref q_imageSeed) (C := RX12) (T := TX12) (N := 21) hx hb hts kinX12 hown hK hP 0 rfl rfl 4 (by decide) (hts _ kw848) (fun _ h9 => h9) rfl dX12_keep_28 ?_
    refine lv_iload_n hx hb dX12_keep_31 rfl (lv_at hl 1 rfl) ?_
    refine lv_aload_n hx hb dX12_keep_32 rfl (lv_at hl 0 rfl) ?_
    refine va_get (D := D) (ci := 11) (v := .int v_seed) (C := RX12) (T := TX12) (N := 21) hx hb hts kinX12 hown hK hP 0 rfl rfl 3 (by decide) (hts _ kw847) (fun _ h9 => h9) rfl dX12_keep_33 ?_
    obtain ⟨c6, hf⟩ := kc_e hf
    refine va_iast hx hb hK hP hD hS 2 0 rfl rfl (kin_e c6) dX12_keep_36 (fun H locs hP hD hS => ?_)
    generalize ew7 : (upd v_imageSeed x1.toNatClampNeg v_seed) = w7 at hP hD
    have hf := kl_e hf w7 ew7.symm
    have hP : va_P D vwCl [(q, .inr (11, [.ref q_w, .int v_known, .int v_kept, .int v_seed, .ref q_imageSeed, .ref q_bookOf, .ref q_bookAt, .ref q_bookIs, .int v_written, .ref q_rs, .ref q_cs, .long v_above, .long v_below, .ref q_zs, .long v_leftAbove, .long v_leftBelow, .long v_guessAbove, .long v_guessBelow, .int v_sign, .int v_power2, .long v_bits])), (q_w, .inl (cI, 418, .inl w4)), (q_imageSeed, .inl (cI, 2, .inl w7))] H := hP
    have hD : va_D A [(q, .inr (11, [.ref q_w, .int v_known, .int v_kept, .int v_seed, .ref q_imageSeed, .ref q_bookOf, .ref q_bookAt, .ref q_bookIs, .int v_written, .ref q_rs, .ref q_cs, .long v_above, .long v_below, .ref q_zs, .long v_leftAbove, .long v_leftBelow, .long v_guessAbove, .long v_guessBelow, .int v_sign, .int v_power2, .long v_bits])), (q_w, .inl (cI, 418, .inl w4)), (q_imageSeed, .inl (cI, 2, .inl w7))] := hD
    refine lv_aload_n hx hb dX12_keep_37 rfl (lv_at hl 0 rfl) ?_
    refine lv_dup hx hb dX12_keep_38 rfl ?_
    refine va_get (D := D) (ci := 11) (v := .int v_kept) (C := RX12) (T := TX12) (N := 21) hx hb hts kinX12 hown hK hP 0 rfl rfl 2 (by decide) (hts _ kw846) (fun _ h9 => h9) rfl dX12_keep_39 ?_
    refine lv_iconst (v := 1) hx hb dX12_keep_42 (by decide) ?_
    refine lv_iload_n hx hb dX12_keep_43 rfl (lv_at hl 1 rfl) ?_
    refine lv_ishl hx hb dX12_keep_44 ?_
    refine lv_ior hx hb dX12_keep_45 ?_
    refine lv_topi (fun t8 et8 => ?_)
    have hf := kl_e hf t8 et8
    refine va_put (D := D) (ci := 11) (v := .int t8) (ty := .int) (C := RX12) (T := TX12) (N := 21) hx hb hts kinX12 tyX12 tyX12_ok nmX12 hown hK hP hD hS 0 rfl rfl 2 (by decide) (hts _ kw846) (fun _ h9 => h9) rfl (by decide +kernel) rfl rfl (Nat.le_of_ble_eq_true rfl) dX12_keep_46 (fun H locs hP hD hS => ?_)
    have hP : va_P D vwCl [(q, .inr (11, [.ref q_w, .int v_known, .int t8, .int v_seed, .ref q_imageSeed, .ref q_bookOf, .ref q_bookAt, .ref q_bookIs, .int v_written, .ref q_rs, .ref q_cs, .long v_above, .long v_below, .ref q_zs, .long v_leftAbove, .long v_leftBelow, .long v_guessAbove, .long v_guessBelow, .int v_sign, .int v_power2, .long v_bits])), (q_w, .inl (cI, 418, .inl w4)), (q_imageSeed, .inl (cI, 2, .inl w7))] H := hP
    have hD : va_D A [(q, .inr (11, [.ref q_w, .int v_known, .int t8, .int v_seed, .ref q_imageSeed, .ref q_bookOf, .ref q_bookAt, .ref q_bookIs, .int v_written, .ref q_rs, .ref q_cs, .long v_above, .long v_below, .ref q_zs, .long v_leftAbove, .long v_leftBelow, .long v_guessAbove, .long v_guessBelow, .int v_sign, .int v_power2, .long v_bits])), (q_w, .inl (cI, 418, .inl w4)), (q_imageSeed, .inl (cI, 2, .inl w7))] := hD
    refine lv_aload_n hx hb dX12_keep_49 rfl (lv_at hl 0 rfl) ?_
    refine lv_iconst (v := 0) hx hb dX12_keep_50 (by decide) ?_
    refine va_put (D := D) (ci := 11) (v := .int (0 : Int32)) (ty := .int) (C := RX12) (T := TX12) (N := 21) hx hb hts kinX12 tyX12 tyX12_ok nmX12 hown hK hP hD hS 0 rfl rfl 1 (by decide) (hts _ kw845) (fun _ h9 => h9) rfl (by decide +kernel) rfl rfl (Nat.le_of_ble_eq_true rfl) dX12_keep_51 (fun H locs hP hD hS => ?_)
    have hP : va_P D vwCl [(q, .inr (11, [.ref q_w, .int (0 : Int32), .int t8, .int v_seed, .ref q_imageSeed, .ref q_bookOf, .ref q_bookAt, .ref q_bookIs, .int v_written, .ref q_rs, .ref q_cs, .long v_above, .long v_below, .ref q_zs, .long v_leftAbove, .long v_leftBelow, .long v_guessAbove, .long v_guessBelow, .int v_sign, .int v_power2, .long v_bits])), (q_w, .inl (cI, 418, .inl w4)), (q_imageSeed, .inl (cI, 2, .inl w7))] H := hP
    have hD : va_D A [(q, .inr (11, [.ref q_w, .int (0 : Int32), .int t8, .int v_seed, .ref q_imageSeed, .ref q_bookOf, .ref q_bookAt, .ref q_bookIs, .int v_written, .ref q_rs, .ref q_cs, .long v_above, .long v_below, .ref q_zs, .long v_leftAbove, .long v_leftBelow, .long v_guessAbove, .long v_guessBelow, .int v_sign, .int v_power2, .long v_bits])), (q_w, .inl (cI, 418, .inl w4)), (q_imageSeed, .inl (cI, 2, .inl w7))] := hD
    refine lv_iconst (v := 1) hx hb dX12_keep_54 (by decide) ?_
    obtain ⟨rfl, rfl, rfl, rfl, rfl⟩ := ki5 hf
    rw [hQ]
    exact k_iret hat hP hS rfl dX12_keep_55
  · have hf := kp_e hf c3
    refine lv_ldcw hx hb hown (hts _ kw1082) dX12_keep_10 ?_
    obtain ⟨rfl, rfl, rfl, rfl, rfl⟩ := ki5 hf
    rw [hQ]
    exact k_iret hat hP hS rfl dX12_keep_13
set_option maxHeartbeats 4000000 in
set_option maxRecDepth 100000 in
theorem c_X12_goBack {l : Launch} {D : va_G} {cI cJ cQ : ClassId} {tp : Nat} (q : Nat) (q_w : Nat) (q_imageSeed : Nat) (q_bookOf : Nat) (q_bookAt : Nat) (q_bookIs : Nat) (q_rs : Nat) (q_cs : Nat) (q_zs : Nat) (v_known : Int32) (v_kept : Int32) (v_seed : Int32) (v_written : Int32) (v_above : Int64) (v_below : Int64) (v_leftAbove : Int64) (v_leftBelow : Int64) (v_guessAbove : Int64) (v_guessBelow : Int64) (v_sign : Int32) (v_power2 : Int32) (v_bits : Int64) (v_w : (Nat → Int32)) (v_imageSeed : (Nat → Int32)) (F : Nat) (x1 : Int32) (r0 : Int32) (o_v_known : Int32) (o_v_seed : Int32) (o_v_w : (Nat → Int32)) (hf : f_X12_goBack F v_known v_kept v_seed v_w v_imageSeed x1 = some (r0, o_v_known, o_v_seed, o_v_w)) : kM (fun A => kQi D A [(q, .inr (11, [.ref q_w, .int o_v_known, .int v_kept, .int o_v_seed, .ref q_imageSeed, .ref q_bookOf, .ref q_bookAt, .ref q_bookIs, .int v_written, .ref q_rs, .ref q_cs, .long v_above, .long v_below, .ref q_zs, .long v_leftAbove, .long v_leftBelow, .long v_guessAbove, .long v_guessBelow, .int v_sign, .int v_power2, .long v_bits])), (q_w, .inl (cI, 418, .inl o_v_w)), (q_imageSeed, .inl (cI, 2, .inl v_imageSeed))] r0) (some .int) l yX12_goBack cX12_goBack 2 { frames := 1, cells := 0, slots := 0, locals := 25 } D cI cJ cQ tp [.ref q, .int x1] [(q, .inr (11, [.ref q_w, .int v_known, .int v_kept, .int v_seed, .ref q_imageSeed, .ref q_bookOf, .ref q_bookAt, .ref q_bookIs, .int v_written, .ref q_rs, .ref q_cs, .long v_above, .long v_below, .ref q_zs, .long v_leftAbove, .long v_leftBelow, .long v_guessAbove, .long v_guessBelow, .int v_sign, .int v_power2, .long v_bits])), (q_w, .inl (cI, 418, .inl v_w)), (q_imageSeed, .inl (cI, 2, .inl v_imageSeed))] := by
  refine kM_of (by decide +kernel) (Nat.le_of_ble_eq_true rfl) ?_
  intro p e s m args below meth c A ls R Q hR hQ hat hP hD hS hl
  obtain ⟨hx, hb, hr, hml, hown, hts, hT, hlk, hK, hA, hZ⟩ := id hat
  have hown : s.vm.findClass RX12 = some m.cls := hown
  have hl : lv_has ls 2 [(0, .ref q), (1, .int x1)] := hl
  unfold f_X12_goBack at hf
  refine lv_iload_n hx hb dX12_goBack_0 rfl (lv_at hl 1 rfl) ?_
  refine lv_i2l hx hb dX12_goBack_1 rfl ?_
  refine lv_lconst (v := 0) hx hb dX12_goBack_2 (by decide) ?_
  refine lv_lconst (v := 1) hx hb dX12_goBack_3 (by decide) ?_
  obtain ⟨r1, h2, hf⟩ := kb1_e hf
  refine k_gi (nW := 3) (ws' := [(q, .inr (11, [.ref q_w, .int v_known, .int v_kept, .int v_seed, .ref q_imageSeed, .ref q_bookOf, .ref q_bookAt, .ref q_bookIs, .int v_written, .ref q_rs, .ref q_cs, .long v_above, .long v_below, .ref q_zs, .long v_leftAbove, .long v_leftBelow, .long v_guessAbove, .long v_guessBelow, .int v_sign, .int v_power2, .long v_bits])), (q_w, .inl (cI, 418, .inl v_w)), (q_imageSeed, .inl (cI, 2, .inl v_imageSeed))]) (wr := [(q, .inr (11, [.ref q_w, .int v_known, .int v_kept, .int v_seed, .ref q_imageSeed, .ref q_bookOf, .ref q_bookAt, .ref q_bookIs, .int v_written, .ref q_rs, .ref q_cs, .long v_above, .long v_below, .ref q_zs, .long v_leftAbove, .long v_leftBelow, .long v_guessAbove, .long v_guessBelow, .int v_sign, .int v_power2, .long v_bits])), (q_w, .inl (cI, 418, .inl v_w)), (q_imageSeed, .inl (cI, 2, .inl v_imageSeed))]) (k_runS (rest := []) hat hP hD hS hl.1 (c_X12_in (x1.toInt64) (0 : Int64) (1 : Int64) r1 h2) [] (by decide) rfl kw1058 kw1059 kw79 kw1060 kdX12_in ⟨rfl, rfl⟩ (by rw [hR]; exact ⟨Nat.le_of_ble_eq_true rfl, Nat.le_of_ble_eq_true rfl⟩) ⟨Nat.zero_le _, Nat.zero_le _⟩ rfl rfl (Nat.le_of_ble_eq_true rfl) dX12_goBack_4) hat hP hD hS [] rfl [0, 1, 2] rfl rfl rfl rfl rfl (by decide) (fun H locs hP hD hS => ?_)
  refine lv_if_ne (tgt := 14) hx hb dX12_goBack_7 (by decide) (fun c3 => ?_) (fun c3 => ?_)
  · have hf := kn_e hf c3
    refine lv_aload_n hx hb dX12_goBack_14 rfl (lv_at hl 0 rfl) ?_
    refine va_get (D := D) (ci := 11) (v := .int v_kept) (C := RX12) (T := TX12) (N := 21) hx hb hts kinX12 hown hK hP 0 rfl rfl 2 (by decide) (hts _ kw846) (fun _ h9 => h9) rfl dX12_goBack_15 ?_
    refine lv_iload_n hx hb dX12_goBack_18 rfl (lv_at hl 1 rfl) ?_
    obtain ⟨r4, h5, hf⟩ := kb1_e hf
    refine k_gi (nW := 3) (ws' := [(q, .inr (11, [.ref q_w, .int v_known, .int v_kept, .int v_seed, .ref q_imageSeed, .ref q_bookOf, .ref q_bookAt, .ref q_bookIs, .int v_written, .ref q_rs, .ref q_cs, .long v_above, .long v_below, .ref q_zs, .long v_leftAbove, .long v_leftBelow, .long v_guessAbove, .long v_guessBelow, .int v_sign, .int v_power2, .long v_bits])), (q_w, .inl (cI, 418, .inl v_w)), (q_imageSeed, .inl (cI, 2, .inl v_imageSeed))]) (wr := [(q, .inr (11, [.ref q_w, .int v_known, .int v_kept, .int v_seed, .ref q_imageSeed, .ref q_bookOf, .ref q_bookAt, .ref q_bookIs, .int v_written, .ref q_rs, .ref q_cs, .long v_above, .long v_below, .ref q_zs, .long v_leftAbove, .long v_leftBelow, .long v_guessAbove, .long v_guessBelow, .int v_sign, .int v_power2, .long v_bits])), (q_w, .inl (cI, 418, .inl v_w)), (q_imageSeed, .inl (cI, 2, .inl v_imageSeed))]) (k_runS (rest := []) hat hP hD hS hl.1 (c_X12_has v_kept x1 r4 h5) [] (by decide) rfl kw941 kw942 kw79 kw943 kdX12_has ⟨rfl, rfl⟩ (by rw [hR]; exact ⟨Nat.le_of_ble_eq_true rfl, Nat.le_of_ble_eq_true rfl⟩) ⟨Nat.zero_le _, Nat.zero_le _⟩ rfl rfl (Nat.le_of_ble_eq_true rfl) dX12_goBack_19) hat hP hD hS [] rfl [0, 1, 2] rfl rfl rfl rfl rfl (by decide) (fun H locs hP hD hS => ?_)
    refine lv_if_ne (tgt := 29) hx hb dX12_goBack_22 (by decide) (fun c6 => ?_) (fun c6 => ?_)
    · have hf := kn_e hf c6
      refine lv_aload_n hx hb dX12_goBack_29 rfl (lv_at hl 0 rfl) ?_
      refine lv_sipush (v := 374) hx hb dX12_goBack_30 (by decide) ?_
      refine lv_bipush (v := 22) hx hb dX12_goBack_33 (by decide) ?_
      refine lv_iload_n hx hb dX12_goBack_35 rfl (lv_at hl 1 rfl) ?_
      refine lv_imul hx hb dX12_goBack_36 ?_
      refine lv_iadd hx hb dX12_goBack_37 ?_
      refine lv_iconst (v := 0) hx hb dX12_goBack_38 (by decide) ?_
      obtain ⟨w7, h8, hf⟩ := kb1_e hf
      refine k_gv (nW := 3) (ws' := [(q, .inr (11, [.ref q_w, .int v_known, .int v_kept, .int v_seed, .ref q_imageSeed, .ref q_bookOf, .ref q_bookAt, .ref q_bookIs, .int v_written, .ref q_rs, .ref q_cs, .long v_above, .long v_below, .ref q_zs, .long v_leftAbove, .long v_leftBelow, .long v_guessAbove, .long v_guessBelow, .int v_sign, .int v_power2, .long v_bits])), (q_w, .inl (cI, 418, .inl w7)), (q_imageSeed, .inl (cI, 2, .inl v_imageSeed))]) (wr := [(q_imageSeed, .inl (cI, 2, .inl v_imageSeed))]) (k_runV (rest := []) hat hP hD hS hl.1 (c_X12_copyRow q q_w q_imageSeed q_bookOf q_bookAt q_bookIs q_rs q_cs q_zs v_known v_kept v_seed v_written v_above v_below v_leftAbove v_leftBelow v_guessAbove v_guessBelow v_sign v_power2 v_bits v_w F ((374 : Int32) + ((22 : Int32) * x1)) (0 : Int32) w7 h8) [0, 1] (by decide) rfl kw1193 kw1195 kw63 kw79 kw1196 kdVX12_copyRow ⟨rfl, rfl⟩ (by rw [hR]; exact ⟨Nat.le_of_ble_eq_true rfl, Nat.le_of_ble_eq_true rfl⟩) ⟨Nat.zero_le _, Nat.zero_le _⟩ 0 11 rfl rfl rfl rfl (Nat.le_of_ble_eq_true rfl) dX12_goBack_39) hat hP hD hS [0, 1] rfl [2] rfl rfl rfl rfl rfl (by decide) (fun H locs hP hD hS => ?_)
      refine lv_aload_n hx hb dX12_goBack_42 rfl (lv_at hl 0 rfl) ?_
      refine lv_aload_n hx hb dX12_goBack_43 rfl (lv_at hl 0 rfl) ?_
      refine va_get (D := D) (ci := 11) (v := .ref q_imageSeed) (C := RX12) (T := TX12) (N := 21) hx hb hts kinX12 hown hK hP 0 rfl rfl 4 (by decide) (hts _ kw848) (fun _ h9 => h9) rfl dX12_goBack_44 ?_
      refine lv_iload_n hx hb dX12_goBack_47 rfl (lv_at hl 1 rfl) ?_
      obtain ⟨c9, hf⟩ := kc_e hf
      refine va_iald hx hb hK hP 2 0 rfl rfl (kin_e c9) dX12_goBack_48 ?_
      refine lv_topi (fun t10 et10 => ?_)
      have hf := kl_e hf t10 et10
      refine va_put (D := D) (ci := 11) (v := .int t10) (ty := .int) (C := RX12) (T := TX12) (N := 21) hx hb hts kinX12 tyX12 tyX12_ok nmX12 hown hK hP hD hS 0 rfl rfl 3 (by decide) (hts _ kw847) (fun _ h9 => h9) rfl (by decide +kernel) rfl rfl (Nat.le_of_ble_eq_true rfl) dX12_goBack_49 (fun H locs hP hD hS => ?_)
      have hP : va_P D vwCl [(q, .inr (11, [.ref q_w, .int v_known, .int v_kept, .int t10, .ref q_imageSeed, .ref q_bookOf, .ref q_bookAt, .ref q_bookIs, .int v_written, .ref q_rs, .ref q_cs, .long v_above, .long v_below, .ref q_zs, .long v_leftAbove, .long v_leftBelow, .long v_guessAbove, .long v_guessBelow, .int v_sign, .int v_power2, .long v_bits])), (q_w, .inl (cI, 418, .inl w7)), (q_imageSeed, .inl (cI, 2, .inl v_imageSeed))] H := hP
      have hD : va_D A [(q, .inr (11, [.ref q_w, .int v_known, .int v_kept, .int t10, .ref q_imageSeed, .ref q_bookOf, .ref q_bookAt, .ref q_bookIs, .int v_written, .ref q_rs, .ref q_cs, .long v_above, .long v_below, .ref q_zs, .long v_leftAbove, .long v_leftBelow, .long v_guessAbove, .long v_guessBelow, .int v_sign, .int v_power2, .long v_bits])), (q_w, .inl (cI, 418, .inl w7)), (q_imageSeed, .inl (cI, 2, .inl v_imageSeed))] := hD
      refine lv_aload_n hx hb dX12_goBack_52 rfl (lv_at hl 0 rfl) ?_
      refine lv_iconst (v := 0) hx hb dX12_goBack_53 (by decide) ?_
      refine va_put (D := D) (ci := 11) (v := .int (0 : Int32)) (ty := .int) (C := RX12) (T := TX12) (N := 21) hx hb hts kinX12 tyX12 tyX12_ok nmX12 hown hK hP hD hS 0 rfl rfl 1 (by decide) (hts _ kw845) (fun _ h9 => h9) rfl (by decide +kernel) rfl rfl (Nat.le_of_ble_eq_true rfl) dX12_goBack_54 (fun H locs hP hD hS => ?_)
      have hP : va_P D vwCl [(q, .inr (11, [.ref q_w, .int (0 : Int32), .int v_kept, .int t10, .ref q_imageSeed, .ref q_bookOf, .ref q_bookAt, .ref q_bookIs, .int v_written, .ref q_rs, .ref q_cs, .long v_above, .long v_below, .ref q_zs, .long v_leftAbove, .long v_leftBelow, .long v_guessAbove, .long v_guessBelow, .int v_sign, .int v_power2, .long v_bits])), (q_w, .inl (cI, 418, .inl w7)), (q_imageSeed, .inl (cI, 2, .inl v_imageSeed))] H := hP
      have hD : va_D A [(q, .inr (11, [.ref q_w, .int (0 : Int32), .int v_kept, .int t10, .ref q_imageSeed, .ref q_bookOf, .ref q_bookAt, .ref q_bookIs, .int v_written, .ref q_rs, .ref q_cs, .long v_above, .long v_below, .ref q_zs, .long v_leftAbove, .long v_leftBelow, .long v_guessAbove, .long v_guessBelow, .int v_sign, .int v_power2, .long v_bits])), (q_w, .inl (cI, 418, .inl w7)), (q_imageSeed, .inl (cI, 2, .inl v_imageSeed))] := hD
      refine lv_iconst (v := 1) hx hb dX12_goBack_57 (by decide) ?_
      obtain ⟨rfl, rfl, rfl, rfl⟩ := ki4 hf
      rw [hQ]
      exact k_iret hat hP hS rfl dX12_goBack_58
    · have hf := kp_e hf c6
      refine lv_ldcw hx hb hown (hts _ kw1103) dX12_goBack_25 ?_
      obtain ⟨rfl, rfl, rfl, rfl⟩ := ki4 hf
      rw [hQ]
      exact k_iret hat hP hS rfl dX12_goBack_28
  · have hf := kp_e hf c3
    refine lv_ldcw hx hb hown (hts _ kw1082) dX12_goBack_10 ?_
    obtain ⟨rfl, rfl, rfl, rfl⟩ := ki4 hf
    rw [hQ]
    exact k_iret hat hP hS rfl dX12_goBack_13
set_option maxHeartbeats 4000000 in
set_option maxRecDepth 100000 in
theorem c_X3_p {l : Launch} {D : va_G} {cI cJ cQ : ClassId} {tp : Nat} (q : Nat) (q_numbers : Nat) (v_n : Int32) (v_primeNumber : Int32) (r0 : Int32) (hf : f_X3_p v_primeNumber = some r0) : kM (fun A => kQi D A [(q, .inr (3, [.int v_n, .int v_primeNumber, .ref q_numbers]))] r0) (some .int) l yX3_p cX3_p 1 { frames := 0, cells := 0, slots := 0, locals := 0 } D cI cJ cQ tp [.ref q] [(q, .inr (3, [.int v_n, .int v_primeNumber, .ref q_numbers]))] := by
  refine kM_of (by decide +kernel) (Nat.le_of_ble_eq_true rfl) ?_
  intro p e s m args below meth c A ls R Q hR hQ hat hP hD hS hl
  obtain ⟨hx, hb, hr, hml, hown, hts, hT, hlk, hK, hA, hZ⟩ := id hat
  have hown : s.vm.findClass RX3 = some m.cls := hown
  have hl : lv_has ls 1 [(0, .ref q)] := hl
  unfold f_X3_p at hf
  refine lv_aload_n hx hb dX3_p_0 rfl (lv_at hl 0 rfl) ?_
  refine va_get (D := D) (ci := 3) (v := .int v_primeNumber) (C := RX3) (T := TX3) (N := 3) hx hb hts kinX3 hown hK hP 0 rfl rfl 1 (by decide) (hts _ kw110) (fun _ h9 => h9) rfl dX3_p_1 ?_
  refine lv_if_lt (tgt := 29) hx hb dX3_p_4 (by decide) (fun c1 => ?_) (fun c1 => ?_)
  · have hf := kp_e hf c1
    refine lv_iconst (v := 2) hx hb dX3_p_29 (by decide) ?_
    obtain rfl := ki1 hf
    rw [hQ]
    exact k_iret hat hP hS rfl dX3_p_30
  · have hf := kn_e hf c1
    refine lv_aload_n hx hb dX3_p_7 rfl (lv_at hl 0 rfl) ?_
    refine va_get (D := D) (ci := 3) (v := .int v_primeNumber) (C := RX3) (T := TX3) (N := 3) hx hb hts kinX3 hown hK hP 0 rfl rfl 1 (by decide) (hts _ kw110) (fun _ h9 => h9) rfl dX3_p_8 ?_
    refine va_getsN hx hb hZ.1 hS hown (hts _ kw369) (fun _ h9 => h9) dX3_p_11 ?_
    refine va_tlen hx hb hZ.2 hS (v := 25) (by decide) dX3_p_14 ?_
    refine lv_icmp_ge (tgt := 29) hx hb dX3_p_15 (by decide) (fun c2 => ?_) (fun c2 => ?_)
    · have hf := kp_e hf c2
      refine lv_iconst (v := 2) hx hb dX3_p_29 (by decide) ?_
      obtain rfl := ki1 hf
      rw [hQ]
      exact k_iret hat hP hS rfl dX3_p_30
    · have hf := kn_e hf c2
      refine va_getsN hx hb hZ.1 hS hown (hts _ kw369) (fun _ h9 => h9) dX3_p_18 ?_
      refine lv_aload_n hx hb dX3_p_21 rfl (lv_at hl 0 rfl) ?_
      refine va_get (D := D) (ci := 3) (v := .int v_primeNumber) (C := RX3) (T := TX3) (N := 3) hx hb hts kinX3 hown hK hP 0 rfl rfl 1 (by decide) (hts _ kw110) (fun _ h9 => h9) rfl dX3_p_22 ?_
      obtain ⟨c3, hf⟩ := kc_e hf
      refine va_ti hx hb hZ.2 hS (kin_e c3) rfl dX3_p_25 ?_
      refine lv_goto (tgt := 30) hx hb dX3_p_26 (by decide) ?_
      obtain rfl := ki1 hf
      rw [hQ]
      exact k_iret hat hP hS rfl dX3_p_30
set_option maxHeartbeats 4000000 in
set_option maxRecDepth 100000 in
theorem c_X3_number {l : Launch} {D : va_G} {cI cJ cQ : ClassId} {tp : Nat} (q : Nat) (q_numbers : Nat) (v_n : Int32) (v_primeNumber : Int32) (v_numbers : (Nat → Int32)) (x1 : Int32) (x2 : Int32) (r0 : Int32) (hf : f_X3_number v_numbers x1 x2 = some r0) : kM (fun A => kQi D A [(q, .inr (3, [.int v_n, .int v_primeNumber, .ref q_numbers])), (q_numbers, .inl (cI, 20, .inl v_numbers))] r0) (some .int) l yX3_number cX3_number 3 { frames := 0, cells := 0, slots := 0, locals := 0 } D cI cJ cQ tp [.ref q, .int x1, .int x2] [(q, .inr (3, [.int v_n, .int v_primeNumber, .ref q_numbers])), (q_numbers, .inl (cI, 20, .inl v_numbers))] := by
  refine kM_of (by decide +kernel) (Nat.le_of_ble_eq_true rfl) ?_
  intro p e s m args below meth c A ls R Q hR hQ hat hP hD hS hl
  obtain ⟨hx, hb, hr, hml, hown, hts, hT, hlk, hK, hA, hZ⟩ := id hat
  have hown : s.vm.findClass RX3 = some m.cls := hown
  have hl : lv_has ls 3 [(0, .ref q), (1, .int x1), (2, .int x2)] := hl
  unfold f_X3_number at hf
  refine lv_aload_n hx hb dX3_number_0 rfl (lv_at hl 0 rfl) ?_
  refine va_get (D := D) (ci := 3) (v := .ref q_numbers) (C := RX3) (T := TX3) (N := 3) hx hb hts kinX3 hown hK hP 0 rfl rfl 2 (by decide) (hts _ kw112) (fun _ h9 => h9) rfl dX3_number_1 ?_
  refine lv_iload_n hx hb dX3_number_4 rfl (lv_at hl 1 rfl) ?_
  refine lv_iconst (v := 5) hx hb dX3_number_5 (by decide) ?_
  refine lv_imul hx hb dX3_number_6 ?_
  refine lv_iload_n hx hb dX3_number_7 rfl (lv_at hl 2 rfl) ?_
  refine lv_iadd hx hb dX3_number_8 ?_
  obtain ⟨c1, hf⟩ := kc_e hf
  refine va_iald hx hb hK hP 1 0 rfl rfl (kin_e c1) dX3_number_9 ?_
  obtain rfl := ki1 hf
  rw [hQ]
  exact k_iret hat hP hS rfl dX3_number_10
set_option maxHeartbeats 4000000 in
set_option maxRecDepth 100000 in
theorem c_X9_exchangeRows_C {l : Launch} {D : va_G} {cI cJ cQ : ClassId} {tp : Nat} (q : Nat) (q_rows : Nat) (q_leads : Nat) (q_rows_r : Nat → Nat) (v_n : Int32) (v_rank : Int32) (v_exchanges : Int32) (v_width : Int32) (v_scale : Int64) (v_rows : (Nat → Nat → Int64)) (F : Nat) (x1 : Int32) (x2 : Int32) (o_v_rows : (Nat → Nat → Int64)) (hf : f_X9_exchangeRows_C F v_width v_rows x1 x2 = some o_v_rows) : kM (fun A => kQv D A [(q, .inr (1, [.int v_n, .int v_rank, .int v_exchanges, .ref q_rows, .int v_width, .long v_scale, .ref q_leads])), (q_rows, .inl (cQ, 4, .inr (.inr (.inr (.inr (kg q_rows_r)))))), (q_rows_r 0, .inl (cJ, 5, .inr (.inl (o_v_rows 0)))), (q_rows_r 1, .inl (cJ, 5, .inr (.inl (o_v_rows 1)))), (q_rows_r 2, .inl (cJ, 5, .inr (.inl (o_v_rows 2)))), (q_rows_r 3, .inl (cJ, 5, .inr (.inl (o_v_rows 3))))]) none l yX9_exchangeRows cX9_exchangeRows 6 { frames := 0, cells := 0, slots := 0, locals := 0 } D cI cJ cQ tp [.ref q, .int x1, .int x2] [(q, .inr (1, [.int v_n, .int v_rank, .int v_exchanges, .ref q_rows, .int v_width, .long v_scale, .ref q_leads])), (q_rows, .inl (cQ, 4, .inr (.inr (.inr (.inr (kg q_rows_r)))))), (q_rows_r 0, .inl (cJ, 5, .inr (.inl (v_rows 0)))), (q_rows_r 1, .inl (cJ, 5, .inr (.inl (v_rows 1)))), (q_rows_r 2, .inl (cJ, 5, .inr (.inl (v_rows 2)))), (q_rows_r 3, .inl (cJ, 5, .inr (.inl (v_rows 3))))] := by
  refine kM_of (by decide +kernel) (Nat.le_of_ble_eq_true rfl) ?_
  intro p e s m args below meth c A ls R Q hR hQ hat hP hD hS hl
  obtain ⟨hx, hb, hr, hml, hown, hts, hT, hlk, hK, hA, hZ⟩ := id hat
  have hown : s.vm.findClass RX9 = some m.cls := hown
  have hl : lv_has ls 6 [(0, .ref q), (1, .int x1), (2, .int x2)] := hl
  have hL2 : ∀ (x1 : Int32) (x2 : Int32) (v_n : Int32) (v_rank : Int32) (v_exchanges : Int32) (v_width : Int32) (v_scale : Int64) (fu : Nat) (x3 : Int32) (v_rows : (Nat → Nat → Int64)) (o0 : (Nat → Nat → Int64)), L_X9_exchangeRows_C_2 x1 x2 v_width fu x3 v_rows = some o0 → (∀ (H : Heap) (locs : List Loc) (ls : Array Slot), va_P D vwCl [(q, .inr (1, [.int v_n, .int v_rank, .int v_exchanges, .ref q_rows, .int v_width, .long v_scale, .ref q_leads])), (q_rows, .inl (cQ, 4, .inr (.inr (.inr (.inr (kg q_rows_r)))))), (q_rows_r 0, .inl (cJ, 5, .inr (.inl (o0 0)))), (q_rows_r 1, .inl (cJ, 5, .inr (.inl (o0 1)))), (q_rows_r 2, .inl (cJ, 5, .inr (.inl (o0 2)))), (q_rows_r 3, .inl (cJ, 5, .inr (.inl (o0 3))))] H → va_D A [(q, .inr (1, [.int v_n, .int v_rank, .int v_exchanges, .ref q_rows, .int v_width, .long v_scale, .ref q_leads])), (q_rows, .inl (cQ, 4, .inr (.inr (.inr (.inr (kg q_rows_r)))))), (q_rows_r 0, .inl (cJ, 5, .inr (.inl (o0 0)))), (q_rows_r 1, .inl (cJ, 5, .inr (.inl (o0 1)))), (q_rows_r 2, .inl (cJ, 5, .inr (.inl (o0 2)))), (q_rows_r 3, .inl (cJ, 5, .inr (.inl (o0 3))))] → va_S A s.heap H locs → lv_has ls 6 [] → W p l e R s m args below meth c H locs 0 0 Q (F0 m 52 ls [])) → ∀ (H : Heap) (locs : List Loc) (ls : Array Slot), va_P D vwCl [(q, .inr (1, [.int v_n, .int v_rank, .int v_exchanges, .ref q_rows, .int v_width, .long v_scale, .ref q_leads])), (q_rows, .inl (cQ, 4, .inr (.inr (.inr (.inr (kg q_rows_r)))))), (q_rows_r 0, .inl (cJ, 5, .inr (.inl (v_rows 0)))), (q_rows_r 1, .inl (cJ, 5, .inr (.inl (v_rows 1)))), (q_rows_r 2, .inl (cJ, 5, .inr (.inl (v_rows 2)))), (q_rows_r 3, .inl (cJ, 5, .inr (.inl (v_rows 3))))] H → va_D A [(q, .inr (1, [.int v_n, .int v_rank, .int v_exchanges, .ref q_rows, .int v_width, .long v_scale, .ref q_leads])), (q_rows, .inl (cQ, 4, .inr (.inr (.inr (.inr (kg q_rows_r)))))), (q_rows_r 0, .inl (cJ, 5, .inr (.inl (v_rows 0)))), (q_rows_r 1, .inl (cJ, 5, .inr (.inl (v_rows 1)))), (q_rows_r 2, .inl (cJ, 5, .inr (.inl (v_rows 2)))), (q_rows_r 3, .inl (cJ, 5, .inr (.inl (v_rows 3))))] → va_S A s.heap H locs → lv_has ls 6 [(0, .ref q), (1, .int x1), (2, .int x2), (3, .int x3)] → W p l e R s m args below meth c H locs 0 0 Q (F0 m 2 ls []) := by
    intro x1 x2 v_n v_rank v_exchanges v_width v_scale fu
    induction fu with
    | zero =>
      intro x3 v_rows o0 hf
      cases hf
    | succ fu ih =>
      intro x3 v_rows o0 hf hk0 H locs ls hP hD hS hl
      rw [L_X9_exchangeRows_C_2] at hf
      refine lv_iload_n hx hb dX9_exchangeRows_2 rfl (lv_at hl 3 rfl) ?_
      refine lv_aload_n hx hb dX9_exchangeRows_3 rfl (lv_at hl 0 rfl) ?_
      refine va_get (D := D) (ci := 1) (v := .int v_width) (C := RX1) (T := TX1) (N := 7) hx hb hts kinX1 hown hK hP 0 rfl rfl 4 (by decide) (hts _ kw154) (fun _ h9 => h9) rfl dX9_exchangeRows_4 ?_
      refine lv_icmp_ge (tgt := 52) hx hb dX9_exchangeRows_7 (by decide) (fun c1 => ?_) (fun c1 => ?_)
      · have hf := kp_e hf c1
        obtain rfl := ki1 hf
        exact hk0 _ _ _ hP hD hS (lv_sub hl [] rfl)
      · have hf := kn_e hf c1
        refine lv_aload_n hx hb dX9_exchangeRows_10 rfl (lv_at hl 0 rfl) ?_
        refine va_get (D := D) (ci := 1) (v := .ref q_rows) (C := RX1) (T := TX1) (N := 7) hx hb hts kinX1 hown hK hP 0 rfl rfl 3 (by decide) (hts _ kw149) (fun _ h9 => h9) rfl dX9_exchangeRows_11 ?_
        refine lv_iload_n hx hb dX9_exchangeRows_14 rfl (lv_at hl 1 rfl) ?_
        obtain ⟨c2, hf⟩ := kc_e hf
        refine k_gld hx hb hK hP 1 rfl c2 dX9_exchangeRows_15 ?_
        refine lv_iload_n hx hb dX9_exchangeRows_16 rfl (lv_at hl 3 rfl) ?_
        obtain ⟨c3, hf⟩ := kc_e hf
        refine k_rld hx hb hK hP 2 (fun k hk => (co_4 (P := fun k => ([(q, .inr (1, [.int v_n, .int v_rank, .int v_exchanges, .ref q_rows, .int v_width, .long v_scale, .ref q_leads])), (q_rows, .inl (cQ, 4, .inr (.inr (.inr (.inr (kg q_rows_r)))))), (q_rows_r 0, .inl (cJ, 5, .inr (.inl (v_rows 0)))), (q_rows_r 1, .inl (cJ, 5, .inr (.inl (v_rows 1)))), (q_rows_r 2, .inl (cJ, 5, .inr (.inl (v_rows 2)))), (q_rows_r 3, .inl (cJ, 5, .inr (.inl (v_rows 3))))] : va_W)[2 + k]? = some (q_rows_r k, .inl (cJ, 5, .inr (.inl (v_rows k))))) rfl rfl rfl rfl) hk) (kin_nat c2) c3 dX9_exchangeRows_17 ?_
        refine lv_topl (fun t4 et4 => ?_)
        have hf := kl_e hf t4 et4
        refine lv_lstore (lv' := [(4, .long t4), (0, .ref q), (1, .int x1), (2, .int x2), (3, .int x3)]) hx hb dX9_exchangeRows_18 hl (by decide) rfl (fun ls hl => ?_)
        refine lv_aload_n hx hb dX9_exchangeRows_20 rfl (lv_at hl 1 rfl) ?_
        refine va_get (D := D) (ci := 1) (v := .ref q_rows) (C := RX1) (T := TX1) (N := 7) hx hb hts kinX1 hown hK hP 0 rfl rfl 3 (by decide) (hts _ kw149) (fun _ h9 => h9) rfl dX9_exchangeRows_21 ?_
        refine lv_iload_n hx hb dX9_exchangeRows_24 rfl (lv_at hl 2 rfl) ?_
        obtain ⟨c5, hf⟩ := kc_e hf
        refine k_gld hx hb hK hP 1 rfl c5 dX9_exchangeRows_25 ?_
        refine lv_iload_n hx hb dX9_exchangeRows_26 rfl (lv_at hl 4 rfl) ?_
        refine lv_aload_n hx hb dX9_exchangeRows_27 rfl (lv_at hl 1 rfl) ?_
        refine va_get (D := D) (ci := 1) (v := .ref q_rows) (C := RX1) (T := TX1) (N := 7) hx hb hts kinX1 hown hK hP 0 rfl rfl 3 (by decide) (hts _ kw149) (fun _ h9 => h9) rfl dX9_exchangeRows_28 ?_
        refine lv_iload_n hx hb dX9_exchangeRows_31 rfl (lv_at hl 3 rfl) ?_
        obtain ⟨c6, hf⟩ := kc_e hf
        refine k_gld hx hb hK hP 1 rfl c6 dX9_exchangeRows_32 ?_
        refine lv_iload_n hx hb dX9_exchangeRows_33 rfl (lv_at hl 4 rfl) ?_
        obtain ⟨c7, hf⟩ := kc_e hf
        refine k_rld hx hb hK hP 2 (fun k hk => (co_4 (P := fun k => ([(q, .inr (1, [.int v_n, .int v_rank, .int v_exchanges, .ref q_rows, .int v_width, .long v_scale, .ref q_leads])), (q_rows, .inl (cQ, 4, .inr (.inr (.inr (.inr (kg q_rows_r)))))), (q_rows_r 0, .inl (cJ, 5, .inr (.inl (v_rows 0)))), (q_rows_r 1, .inl (cJ, 5, .inr (.inl (v_rows 1)))), (q_rows_r 2, .inl (cJ, 5, .inr (.inl (v_rows 2)))), (q_rows_r 3, .inl (cJ, 5, .inr (.inl (v_rows 3))))] : va_W)[2 + k]? = some (q_rows_r k, .inl (cJ, 5, .inr (.inl (v_rows k))))) rfl rfl rfl rfl) hk) (kin_nat c6) c7 dX9_exchangeRows_34 ?_
        obtain ⟨c8, hf⟩ := kc_e hf
        refine k_rst (ws' := fun M9 => [(q, .inr (1, [.int v_n, .int v_rank, .int v_exchanges, .ref q_rows, .int v_width, .long v_scale, .ref q_leads])), (q_rows, .inl (cQ, 4, .inr (.inr (.inr (.inr (kg q_rows_r)))))), (q_rows_r 0, .inl (cJ, 5, .inr (.inl (M9 0)))), (q_rows_r 1, .inl (cJ, 5, .inr (.inl (M9 1)))), (q_rows_r 2, .inl (cJ, 5, .inr (.inl (M9 2)))), (q_rows_r 3, .inl (cJ, 5, .inr (.inl (M9 3))))]) hx hb hK hP hD hS 2 (fun k hk => (co_4 (P := fun k => ([(q, .inr (1, [.int v_n, .int v_rank, .int v_exchanges, .ref q_rows, .int v_width, .long v_scale, .ref q_leads])), (q_rows, .inl (cQ, 4, .inr (.inr (.inr (.inr (kg q_rows_r)))))), (q_rows_r 0, .inl (cJ, 5, .inr (.inl (v_rows 0)))), (q_rows_r 1, .inl (cJ, 5, .inr (.inl (v_rows 1)))), (q_rows_r 2, .inl (cJ, 5, .inr (.inl (v_rows 2)))), (q_rows_r 3, .inl (cJ, 5, .inr (.inl (v_rows 3))))] : va_W)[2 + k]? = some (q_rows_r k, .inl (cJ, 5, .inr (.inl (v_rows k))))) rfl rfl rfl rfl) hk) (fun k hk => (co_4 (P := fun k => ∀ f : Nat → Int64, ([(q, .inr (1, [.int v_n, .int v_rank, .int v_exchanges, .ref q_rows, .int v_width, .long v_scale, .ref q_leads])), (q_rows, .inl (cQ, 4, .inr (.inr (.inr (.inr (kg q_rows_r)))))), (q_rows_r 0, .inl (cJ, 5, .inr (.inl (v_rows 0)))), (q_rows_r 1, .inl (cJ, 5, .inr (.inl (v_rows 1)))), (q_rows_r 2, .inl (cJ, 5, .inr (.inl (v_rows 2)))), (q_rows_r 3, .inl (cJ, 5, .inr (.inl (v_rows 3))))] : va_W).set (2 + k) (q_rows_r k, .inl (cJ, 5, .inr (.inl f))) = (fun M9 : Nat → Nat → Int64 => ([(q, .inr (1, [.int v_n, .int v_rank, .int v_exchanges, .ref q_rows, .int v_width, .long v_scale, .ref q_leads])), (q_rows, .inl (cQ, 4, .inr (.inr (.inr (.inr (kg q_rows_r)))))), (q_rows_r 0, .inl (cJ, 5, .inr (.inl (M9 0)))), (q_rows_r 1, .inl (cJ, 5, .inr (.inl (M9 1)))), (q_rows_r 2, .inl (cJ, 5, .inr (.inl (M9 2)))), (q_rows_r 3, .inl (cJ, 5, .inr (.inl (M9 3))))] : va_W)) (ku v_rows k f)) (fun _ => rfl) (fun _ => rfl) (fun _ => rfl) (fun _ => rfl)) hk) (kin_nat c5) c8 dX9_exchangeRows_35 (fun H locs hP hD hS => ?_)
        generalize ew9 : (ku v_rows (x1.toNatClampNeg) (vp_updL (v_rows (x1.toNatClampNeg)) x3.toNatClampNeg (v_rows x2.toNatClampNeg x3.toNatClampNeg))) = w9 at hP hD
        have hf := kl_e hf w9 ew9.symm
        have hP : va_P D vwCl [(q, .inr (1, [.int v_n, .int v_rank, .int v_exchanges, .ref q_rows, .int v_width, .long v_scale, .ref q_leads])), (q_rows, .inl (cQ, 4, .inr (.inr (.inr (.inr (kg q_rows_r)))))), (q_rows_r 0, .inl (cJ, 5, .inr (.inl (w9 0)))), (q_rows_r 1, .inl (cJ, 5, .inr (.inl (w9 1)))), (q_rows_r 2, .inl (cJ, 5, .inr (.inl (w9 2)))), (q_rows_r 3, .inl (cJ, 5, .inr (.inl (w9 3))))] H := hP
        have hD : va_D A [(q, .inr (1, [.int v_n, .int v_rank, .int v_exchanges, .ref q_rows, .int v_width, .long v_scale, .ref q_leads])), (q_rows, .inl (cQ, 4, .inr (.inr (.inr (.inr (kg q_rows_r)))))), (q_rows_r 0, .inl (cJ, 5, .inr (.inl (w9 0)))), (q_rows_r 1, .inl (cJ, 5, .inr (.inl (w9 1)))), (q_rows_r 2, .inl (cJ, 5, .inr (.inl (w9 2)))), (q_rows_r 3, .inl (cJ, 5, .inr (.inl (w9 3))))] := hD
        refine lv_aload_n hx hb dX9_exchangeRows_36 rfl (lv_at hl 1 rfl) ?_
        refine va_get (D := D) (ci := 1) (v := .ref q_rows) (C := RX1) (T := TX1) (N := 7) hx hb hts kinX1 hown hK hP 0 rfl rfl 3 (by decide) (hts _ kw149) (fun _ h9 => h9) rfl dX9_exchangeRows_37 ?_
        refine lv_iload_n hx hb dX9_exchangeRows_40 rfl (lv_at hl 3 rfl) ?_
        obtain ⟨c10, hf⟩ := kc_e hf
        refine k_gld hx hb hK hP 1 rfl c10 dX9_exchangeRows_41 ?_
        refine lv_iload_n hx hb dX9_exchangeRows_42 rfl (lv_at hl 4 rfl) ?_
        refine lv_lload hx hb dX9_exchangeRows_43 (lv_at hl 0 rfl) ?_
        obtain ⟨c11, hf⟩ := kc_e hf
        refine k_rst (ws' := fun M9 => [(q, .inr (1, [.int v_n, .int v_rank, .int v_exchanges, .ref q_rows, .int v_width, .long v_scale, .ref q_leads])), (q_rows, .inl (cQ, 4, .inr (.inr (.inr (.inr (kg q_rows_r)))))), (q_rows_r 0, .inl (cJ, 5, .inr (.inl (M9 0)))), (q_rows_r 1, .inl (cJ, 5, .inr (.inl (M9 1)))), (q_rows_r 2, .inl (cJ, 5, .inr (.inl (M9 2)))), (q_rows_r 3, .inl (cJ, 5, .inr (.inl (M9 3))))]) hx hb hK hP hD hS 2 (fun k hk => (co_4 (P := fun k => ([(q, .inr (1, [.int v_n, .int v_rank, .int v_exchanges, .ref q_rows, .int v_width, .long v_scale, .ref q_leads])), (q_rows, .inl (cQ, 4, .inr (.inr (.inr (.inr (kg q_rows_r)))))), (q_rows_r 0, .inl (cJ, 5, .inr (.inl (w9 0)))), (q_rows_r 1, .inl (cJ, 5, .inr (.inl (w9 1)))), (q_rows_r 2, .inl (cJ, 5, .inr (.inl (w9 2)))), (q_rows_r 3, .inl (cJ, 5, .inr (.inl (w9 3))))] : va_W)[2 + k]? = some (q_rows_r k, .inl (cJ, 5, .inr (.inl (w9 k))))) rfl rfl rfl rfl) hk) (fun k hk => (co_4 (P := fun k => ∀ f : Nat → Int64, ([(q, .inr (1, [.int v_n, .int v_rank, .int v_exchanges, .ref q_rows, .int v_width, .long v_scale, .ref q_leads])), (q_rows, .inl (cQ, 4, .inr (.inr (.inr (.inr (kg q_rows_r)))))), (q_rows_r 0, .inl (cJ, 5, .inr (.inl (w9 0)))), (q_rows_r 1, .inl (cJ, 5, .inr (.inl (w9 1)))), (q_rows_r 2, .inl (cJ, 5, .inr (.inl (w9 2)))), (q_rows_r 3, .inl (cJ, 5, .inr (.inl (w9 3))))] : va_W).set (2 + k) (q_rows_r k, .inl (cJ, 5, .inr (.inl f))) = (fun M9 : Nat → Nat → Int64 => ([(q, .inr (1, [.int v_n, .int v_rank, .int v_exchanges, .ref q_rows, .int v_width, .long v_scale, .ref q_leads])), (q_rows, .inl (cQ, 4, .inr (.inr (.inr (.inr (kg q_rows_r)))))), (q_rows_r 0, .inl (cJ, 5, .inr (.inl (M9 0)))), (q_rows_r 1, .inl (cJ, 5, .inr (.inl (M9 1)))), (q_rows_r 2, .inl (cJ, 5, .inr (.inl (M9 2)))), (q_rows_r 3, .inl (cJ, 5, .inr (.inl (M9 3))))] : va_W)) (ku w9 k f)) (fun _ => rfl) (fun _ => rfl) (fun _ => rfl) (fun _ => rfl)) hk) (kin_nat c10) c11 dX9_exchangeRows_45 (fun H locs hP hD hS => ?_)
        generalize ew12 : (ku w9 (x2.toNatClampNeg) (vp_updL (w9 (x2.toNatClampNeg)) x3.toNatClampNeg t4)) = w12 at hP hD
        have hf := kl_e hf w12 ew12.symm
        have hP : va_P D vwCl [(q, .inr (1, [.int v_n, .int v_rank, .int v_exchanges, .ref q_rows, .int v_width, .long v_scale, .ref q_leads])), (q_rows, .inl (cQ, 4, .inr (.inr (.inr (.inr (kg q_rows_r)))))), (q_rows_r 0, .inl (cJ, 5, .inr (.inl (w12 0)))), (q_rows_r 1, .inl (cJ, 5, .inr (.inl (w12 1)))), (q_rows_r 2, .inl (cJ, 5, .inr (.inl (w12 2)))), (q_rows_r 3, .inl (cJ, 5, .inr (.inl (w12 3))))] H := hP
        have hD : va_D A [(q, .inr (1, [.int v_n, .int v_rank, .int v_exchanges, .ref q_rows, .int v_width, .long v_scale, .ref q_leads])), (q_rows, .inl (cQ, 4, .inr (.inr (.inr (.inr (kg q_rows_r)))))), (q_rows_r 0, .inl (cJ, 5, .inr (.inl (w12 0)))), (q_rows_r 1, .inl (cJ, 5, .inr (.inl (w12 1)))), (q_rows_r 2, .inl (cJ, 5, .inr (.inl (w12 2)))), (q_rows_r 3, .inl (cJ, 5, .inr (.inl (w12 3))))] := hD
        obtain ⟨t13, et13⟩ : ∃ z : Int32, z = (x3 + (1 : Int32)) := ⟨_, rfl⟩
        have hf := kl_e hf t13 et13
        refine lv_iinc (v := t13) (lv' := [(3, .int t13), (4, .long t4), (0, .ref q), (1, .int x1), (2, .int x2)]) hx hb dX9_exchangeRows_46 hl (k := 4) rfl (by rw [et13]; rfl) (by decide) rfl (fun ls hl => ?_)
        refine lv_goto (tgt := 2) hx hb dX9_exchangeRows_49 (by decide) ?_
        exact ih t13 w12 o0 hf hk0 _ _ _ hP hD hS (lv_sub hl [2, 3, 4, 0] rfl)
  unfold f_X9_exchangeRows_C at hf
  refine lv_iconst (v := 0) hx hb dX9_exchangeRows_0 (by decide) ?_
  refine lv_istore_n (lv' := [(3, .int (0 : Int32)), (0, .ref q), (1, .int x1), (2, .int x2)]) hx hb dX9_exchangeRows_1 rfl hl (by decide) rfl (fun ls hl => ?_)
  obtain ⟨w14, hu, hf⟩ := kb1_e hf
  refine hL2 x1 x2 v_n v_rank v_exchanges v_width v_scale F (0 : Int32) v_rows w14 hu (fun H locs ls hP hD hS hl => ?_) _ _ _ hP hD hS (lv_sub hl [1, 2, 3, 0] rfl)
  obtain rfl := ki1 hf
  rw [hQ]
  exact k_vret hat hP hS dX9_exchangeRows_52
set_option maxHeartbeats 4000000 in
set_option maxRecDepth 100000 in
theorem c_X9_raise_C {l : Launch} {D : va_G} {cI cJ cQ : ClassId} {tp : Nat} (q : Nat) (q_rows : Nat) (q_leads : Nat) (q_rows_r : Nat → Nat) (v_n : Int32) (v_rank : Int32) (v_exchanges : Int32) (v_width : Int32) (v_scale : Int64) (v_rows : (Nat → Nat → Int64)) (F : Nat) (x1 : Int32) (r0 : Int32) (o_v_exchanges : Int32) (o_v_rows : (Nat → Nat → Int64)) (hf : f_X9_raise_C F v_n v_rank v_exchanges v_width v_rows x1 = some (r0, o_v_exchanges, o_v_rows)) : kM (fun A => kQi D A [(q, .inr (1, [.int v_n, .int v_rank, .int o_v_exchanges, .ref q_rows, .int v_width, .long v_scale, .ref q_leads])), (q_rows, .inl (cQ, 4, .inr (.inr (.inr (.inr (kg q_rows_r)))))), (q_rows_r 0, .inl (cJ, 5, .inr (.inl (o_v_rows 0)))), (q_rows_r 1, .inl (cJ, 5, .inr (.inl (o_v_rows 1)))), (q_rows_r 2, .inl (cJ, 5, .inr (.inl (o_v_rows 2)))), (q_rows_r 3, .inl (cJ, 5, .inr (.inl (o_v_rows 3))))] r0) (some .boolean) l yX9_raise cX9_raise 3 { frames := 1, cells := 0, slots := 0, locals := 25 } D cI cJ cQ tp [.ref q, .int x1] [(q, .inr (1, [.int v_n, .int v_rank, .int v_exchanges, .ref q_rows, .int v_width, .long v_scale, .ref q_leads])), (q_rows, .inl (cQ, 4, .inr (.inr (.inr (.inr (kg q_rows_r)))))), (q_rows_r 0, .inl (cJ, 5, .inr (.inl (v_rows 0)))), (q_rows_r 1, .inl (cJ, 5, .inr (.inl (v_rows 1)))), (q_rows_r 2, .inl (cJ, 5, .inr (.inl (v_rows 2)))), (q_rows_r 3, .inl (cJ, 5, .inr (.inl (v_rows 3))))] := by
  refine kM_of (by decide +kernel) (Nat.le_of_ble_eq_true rfl) ?_
  intro p e s m args below meth c A ls R Q hR hQ hat hP hD hS hl
  obtain ⟨hx, hb, hr, hml, hown, hts, hT, hlk, hK, hA, hZ⟩ := id hat
  have hown : s.vm.findClass RX9 = some m.cls := hown
  have hl : lv_has ls 3 [(0, .ref q), (1, .int x1)] := hl
  have hL5 : ∀ (x1 : Int32) (v_n : Int32) (v_rank : Int32) (v_exchanges : Int32) (v_width : Int32) (v_scale : Int64) (v_rows : (Nat → Nat → Int64)) (fu : Nat) (x2 : Int32) (o0 : Int32), L_X9_raise_C_5 x1 v_n v_rows fu x2 = some o0 → (∀ (H : Heap) (locs : List Loc) (ls : Array Slot), va_P D vwCl [(q, .inr (1, [.int v_n, .int v_rank, .int v_exchanges, .ref q_rows, .int v_width, .long v_scale, .ref q_leads])), (q_rows, .inl (cQ, 4, .inr (.inr (.inr (.inr (kg q_rows_r)))))), (q_rows_r 0, .inl (cJ, 5, .inr (.inl (v_rows 0)))), (q_rows_r 1, .inl (cJ, 5, .inr (.inl (v_rows 1)))), (q_rows_r 2, .inl (cJ, 5, .inr (.inl (v_rows 2)))), (q_rows_r 3, .inl (cJ, 5, .inr (.inl (v_rows 3))))] H → va_D A [(q, .inr (1, [.int v_n, .int v_rank, .int v_exchanges, .ref q_rows, .int v_width, .long v_scale, .ref q_leads])), (q_rows, .inl (cQ, 4, .inr (.inr (.inr (.inr (kg q_rows_r)))))), (q_rows_r 0, .inl (cJ, 5, .inr (.inl (v_rows 0)))), (q_rows_r 1, .inl (cJ, 5, .inr (.inl (v_rows 1)))), (q_rows_r 2, .inl (cJ, 5, .inr (.inl (v_rows 2)))), (q_rows_r 3, .inl (cJ, 5, .inr (.inl (v_rows 3))))] → va_S A s.heap H locs → lv_has ls 3 [(0, .ref q), (2, .int o0)] → W p l e R s m args below meth c H locs 0 0 Q (F0 m 32 ls [])) → ∀ (H : Heap) (locs : List Loc) (ls : Array Slot), va_P D vwCl [(q, .inr (1, [.int v_n, .int v_rank, .int v_exchanges, .ref q_rows, .int v_width, .long v_scale, .ref q_leads])), (q_rows, .inl (cQ, 4, .inr (.inr (.inr (.inr (kg q_rows_r)))))), (q_rows_r 0, .inl (cJ, 5, .inr (.inl (v_rows 0)))), (q_rows_r 1, .inl (cJ, 5, .inr (.inl (v_rows 1)))), (q_rows_r 2, .inl (cJ, 5, .inr (.inl (v_rows 2)))), (q_rows_r 3, .inl (cJ, 5, .inr (.inl (v_rows 3))))] H → va_D A [(q, .inr (1, [.int v_n, .int v_rank, .int v_exchanges, .ref q_rows, .int v_width, .long v_scale, .ref q_leads])), (q_rows, .inl (cQ, 4, .inr (.inr (.inr (.inr (kg q_rows_r)))))), (q_rows_r 0, .inl (cJ, 5, .inr (.inl (v_rows 0)))), (q_rows_r 1, .inl (cJ, 5, .inr (.inl (v_rows 1)))), (q_rows_r 2, .inl (cJ, 5, .inr (.inl (v_rows 2)))), (q_rows_r 3, .inl (cJ, 5, .inr (.inl (v_rows 3))))] → va_S A s.heap H locs → lv_has ls 3 [(0, .ref q), (1, .int x1), (2, .int x2)] → W p l e R s m args below meth c H locs 0 0 Q (F0 m 5 ls []) := by
    intro x1 v_n v_rank v_exchanges v_width v_scale v_rows fu
    induction fu with
    | zero =>
      intro x2 o0 hf
      cases hf
    | succ fu ih =>
      intro x2 o0 hf hk0 H locs ls hP hD hS hl
      rw [L_X9_raise_C_5] at hf
      refine lv_iload_n hx hb dX9_raise_5 rfl (lv_at hl 2 rfl) ?_
      refine lv_aload_n hx hb dX9_raise_6 rfl (lv_at hl 0 rfl) ?_
      refine va_get (D := D) (ci := 1) (v := .int v_n) (C := RX1) (T := TX1) (N := 7) hx hb hts kinX1 hown hK hP 0 rfl rfl 0 (by decide) (hts _ kw138) (fun _ h9 => h9) rfl dX9_raise_7 ?_
      refine lv_icmp_ge (tgt := 32) hx hb dX9_raise_10 (by decide) (fun c1 => ?_) (fun c1 => ?_)
      · have hf := kp_e hf c1
        obtain rfl := ki1 hf
        exact hk0 _ _ _ hP hD hS (lv_sub hl [0, 2] rfl)
      · have hf := kn_e hf c1
        refine lv_aload_n hx hb dX9_raise_13 rfl (lv_at hl 0 rfl) ?_
        refine va_get (D := D) (ci := 1) (v := .ref q_rows) (C := RX1) (T := TX1) (N := 7) hx hb hts kinX1 hown hK hP 0 rfl rfl 3 (by decide) (hts _ kw149) (fun _ h9 => h9) rfl dX9_raise_14 ?_
        refine lv_iload_n hx hb dX9_raise_17 rfl (lv_at hl 2 rfl) ?_
        obtain ⟨c2, hf⟩ := kc_e hf
        refine k_gld hx hb hK hP 1 rfl c2 dX9_raise_18 ?_
        refine lv_iload_n hx hb dX9_raise_19 rfl (lv_at hl 1 rfl) ?_
        obtain ⟨c3, hf⟩ := kc_e hf
        refine k_rld hx hb hK hP 2 (fun k hk => (co_4 (P := fun k => ([(q, .inr (1, [.int v_n, .int v_rank, .int v_exchanges, .ref q_rows, .int v_width, .long v_scale, .ref q_leads])), (q_rows, .inl (cQ, 4, .inr (.inr (.inr (.inr (kg q_rows_r)))))), (q_rows_r 0, .inl (cJ, 5, .inr (.inl (v_rows 0)))), (q_rows_r 1, .inl (cJ, 5, .inr (.inl (v_rows 1)))), (q_rows_r 2, .inl (cJ, 5, .inr (.inl (v_rows 2)))), (q_rows_r 3, .inl (cJ, 5, .inr (.inl (v_rows 3))))] : va_W)[2 + k]? = some (q_rows_r k, .inl (cJ, 5, .inr (.inl (v_rows k))))) rfl rfl rfl rfl) hk) (kin_nat c2) c3 dX9_raise_20 ?_
        refine lv_lconst (v := 0) hx hb dX9_raise_21 (by decide) ?_
        refine k_lcmp_ne (tgt := 32) hx hb dX9_raise_22 dX9_raise_23 (by decide) (fun c4 => ?_) (fun c4 => ?_)
        · have hf := kn_e hf c4
          obtain rfl := ki1 hf
          exact hk0 _ _ _ hP hD hS (lv_sub hl [0, 2] rfl)
        · have hf := kp_e hf c4
          obtain ⟨t5, et5⟩ : ∃ z : Int32, z = (x2 + (1 : Int32)) := ⟨_, rfl⟩
          have hf := kl_e hf t5 et5
          refine lv_iinc (v := t5) (lv' := [(2, .int t5), (0, .ref q), (1, .int x1)]) hx hb dX9_raise_26 hl (k := 2) rfl (by rw [et5]; rfl) (by decide) rfl (fun ls hl => ?_)
          refine lv_goto (tgt := 5) hx hb dX9_raise_29 (by decide) ?_
          exact ih t5 o0 hf hk0 _ _ _ hP hD hS (lv_sub hl [1, 2, 0] rfl)
  unfold f_X9_raise_C at hf
  refine lv_aload_n hx hb dX9_raise_0 rfl (lv_at hl 0 rfl) ?_
  refine va_get (D := D) (ci := 1) (v := .int v_rank) (C := RX1) (T := TX1) (N := 7) hx hb hts kinX1 hown hK hP 0 rfl rfl 1 (by decide) (hts _ kw139) (fun _ h9 => h9) rfl dX9_raise_1 ?_
  refine lv_istore_n (lv' := [(2, .int v_rank), (0, .ref q), (1, .int x1)]) hx hb dX9_raise_4 rfl hl (by decide) rfl (fun ls hl => ?_)
  obtain ⟨y6, hu, hf⟩ := kb1_e hf
  refine hL5 x1 v_n v_rank v_exchanges v_width v_scale v_rows F v_rank y6 hu (fun H locs ls hP hD hS hl => ?_) _ _ _ hP hD hS (lv_sub hl [1, 2, 0] rfl)
  refine lv_iload_n hx hb dX9_raise_32 rfl (lv_at hl 1 rfl) ?_
  refine lv_aload_n hx hb dX9_raise_33 rfl (lv_at hl 0 rfl) ?_
  refine va_get (D := D) (ci := 1) (v := .int v_n) (C := RX1) (T := TX1) (N := 7) hx hb hts kinX1 hown hK hP 0 rfl rfl 0 (by decide) (hts _ kw138) (fun _ h9 => h9) rfl dX9_raise_34 ?_
  refine lv_icmp_lt (tgt := 42) hx hb dX9_raise_37 (by decide) (fun c7 => ?_) (fun c7 => ?_)
  · have hf := kp_e hf c7
    refine lv_iload_n hx hb dX9_raise_42 rfl (lv_at hl 1 rfl) ?_
    refine lv_aload_n hx hb dX9_raise_43 rfl (lv_at hl 0 rfl) ?_
    refine va_get (D := D) (ci := 1) (v := .int v_rank) (C := RX1) (T := TX1) (N := 7) hx hb hts kinX1 hown hK hP 0 rfl rfl 1 (by decide) (hts _ kw139) (fun _ h9 => h9) rfl dX9_raise_44 ?_
    refine lv_icmp_le (tgt := 69) hx hb dX9_raise_47 (by decide) (fun c8 => ?_) (fun c8 => ?_)
    · have hf := kp_e hf c8
      refine lv_iconst (v := 1) hx hb dX9_raise_69 (by decide) ?_
      obtain ⟨rfl, rfl, rfl⟩ := ki3 hf
      rw [hQ]
      exact k_zret hat hP hS rfl (by decide) dX9_raise_70
    · have hf := kn_e hf c8
      refine lv_aload_n hx hb dX9_raise_50 rfl (lv_at hl 0 rfl) ?_
      refine lv_iload_n hx hb dX9_raise_51 rfl (lv_at hl 1 rfl) ?_
      refine lv_aload_n hx hb dX9_raise_52 rfl (lv_at hl 0 rfl) ?_
      refine va_get (D := D) (ci := 1) (v := .int v_rank) (C := RX1) (T := TX1) (N := 7) hx hb hts kinX1 hown hK hP 0 rfl rfl 1 (by decide) (hts _ kw139) (fun _ h9 => h9) rfl dX9_raise_53 ?_
      obtain ⟨w9, h10, hf⟩ := kb1_e hf
      refine k_gv (nW := 6) (ws' := [(q, .inr (1, [.int v_n, .int v_rank, .int v_exchanges, .ref q_rows, .int v_width, .long v_scale, .ref q_leads])), (q_rows, .inl (cQ, 4, .inr (.inr (.inr (.inr (kg q_rows_r)))))), (q_rows_r 0, .inl (cJ, 5, .inr (.inl (w9 0)))), (q_rows_r 1, .inl (cJ, 5, .inr (.inl (w9 1)))), (q_rows_r 2, .inl (cJ, 5, .inr (.inl (w9 2)))), (q_rows_r 3, .inl (cJ, 5, .inr (.inl (w9 3))))]) (wr := []) (k_runU (rest := []) hat hP hD hS hl.1 (c_X9_exchangeRows_C q q_rows q_leads q_rows_r v_n v_rank v_exchanges v_width v_scale v_rows F y6 v_rank w9 h10) [0, 1, 2, 3, 4, 5] (by decide) rfl (cu_X9_raise_X9_exchangeRows_X1 hat (by rw [hR]; exact ⟨Nat.le_of_ble_eq_true rfl, Nat.le_of_ble_eq_true rfl⟩)) ⟨Nat.zero_le _, Nat.zero_le _⟩ 0 1 rfl rfl rfl rfl (Nat.le_of_ble_eq_true rfl) dX9_raise_56) hat hP hD hS [0, 1, 2, 3, 4, 5] rfl [] rfl rfl rfl rfl rfl (by decide) (fun H locs hP hD hS => ?_)
      refine lv_aload_n hx hb dX9_raise_59 rfl (lv_at hl 0 rfl) ?_
      refine lv_dup hx hb dX9_raise_60 rfl ?_
      refine va_get (D := D) (ci := 1) (v := .int v_exchanges) (C := RX1) (T := TX1) (N := 7) hx hb hts kinX1 hown hK hP 0 rfl rfl 2 (by decide) (hts _ kw146) (fun _ h9 => h9) rfl dX9_raise_61 ?_
      refine lv_iconst (v := 1) hx hb dX9_raise_64 (by decide) ?_
      refine lv_iadd hx hb dX9_raise_65 ?_
      refine lv_topi (fun t11 et11 => ?_)
      have hf := kl_e hf t11 et11
      refine va_put (D := D) (ci := 1) (v := .int t11) (ty := .int) (C := RX1) (T := TX1) (N := 7) hx hb hts kinX1 tyX1 tyX1_ok nmX1 hown hK hP hD hS 0 rfl rfl 2 (by decide) (hts _ kw146) (fun _ h9 => h9) rfl (by decide +kernel) rfl rfl (Nat.le_of_ble_eq_true rfl) dX9_raise_66 (fun H locs hP hD hS => ?_)
      have hP : va_P D vwCl [(q, .inr (1, [.int v_n, .int v_rank, .int t11, .ref q_rows, .int v_width, .long v_scale, .ref q_leads])), (q_rows, .inl (cQ, 4, .inr (.inr (.inr (.inr (kg q_rows_r)))))), (q_rows_r 0, .inl (cJ, 5, .inr (.inl (w9 0)))), (q_rows_r 1, .inl (cJ, 5, .inr (.inl (w9 1)))), (q_rows_r 2, .inl (cJ, 5, .inr (.inl (w9 2)))), (q_rows_r 3, .inl (cJ, 5, .inr (.inl (w9 3))))] H := hP
      have hD : va_D A [(q, .inr (1, [.int v_n, .int v_rank, .int t11, .ref q_rows, .int v_width, .long v_scale, .ref q_leads])), (q_rows, .inl (cQ, 4, .inr (.inr (.inr (.inr (kg q_rows_r)))))), (q_rows_r 0, .inl (cJ, 5, .inr (.inl (w9 0)))), (q_rows_r 1, .inl (cJ, 5, .inr (.inl (w9 1)))), (q_rows_r 2, .inl (cJ, 5, .inr (.inl (w9 2)))), (q_rows_r 3, .inl (cJ, 5, .inr (.inl (w9 3))))] := hD
      refine lv_iconst (v := 1) hx hb dX9_raise_69 (by decide) ?_
      obtain ⟨rfl, rfl, rfl⟩ := ki3 hf
      rw [hQ]
      exact k_zret hat hP hS rfl (by decide) dX9_raise_70
  · have hf := kn_e hf c7
    refine lv_iconst (v := 0) hx hb dX9_raise_40 (by decide) ?_
    obtain ⟨rfl, rfl, rfl⟩ := ki3 hf
    rw [hQ]
    exact k_zret hat hP hS rfl (by decide) dX9_raise_41
set_option maxHeartbeats 4000000 in
set_option maxRecDepth 100000 in
theorem c_X11_quotient {l : Launch} {D : va_G} {cI cJ cQ : ClassId} {tp : Nat} (x0 : Int64) (x2 : Int64) (r0 : Int64) (hf : f_X11_quotient x0 x2 = some r0) : kM (fun A => kQl D A [] r0) (some .long) l yX11_quotient cX11_quotient 4 { frames := 0, cells := 0, slots := 0, locals := 0 } D cI cJ cQ tp [.long x0, .long x2] [] := by
  refine kM_of (by decide +kernel) (Nat.le_of_ble_eq_true rfl) ?_
  intro p e s m args below meth c A ls R Q hR hQ hat hP hD hS hl
  obtain ⟨hx, hb, hr, hml, hown, hts, hT, hlk, hK, hA, hZ⟩ := id hat
  have hown : s.vm.findClass RX11 = some m.cls := hown
  have hl : lv_has ls 4 [(0, .long x0), (2, .long x2)] := hl
  unfold f_X11_quotient at hf
  refine lv_lload_n hx hb dX11_quotient_0 rfl (lv_at hl 1 rfl) ?_
  refine lv_lconst (v := 0) hx hb dX11_quotient_1 (by decide) ?_
  refine k_lcmp_ne (tgt := 10) hx hb dX11_quotient_2 dX11_quotient_3 (by decide) (fun c1 => ?_) (fun c1 => ?_)
  · have hf := kn_e hf c1
    refine lv_lload_n hx hb dX11_quotient_10 rfl (lv_at hl 0 rfl) ?_
    refine lv_lload_n hx hb dX11_quotient_11 rfl (lv_at hl 1 rfl) ?_
    obtain ⟨c2, hf⟩ := kc_e hf
    refine lv_ldiv hx hb dX11_quotient_12 c2 ?_
    obtain rfl := ki1 hf
    rw [hQ]
    exact k_lret hat hP hS rfl dX11_quotient_13
  · have hf := kp_e hf c1
    refine lv_lconst (v := 0) hx hb dX11_quotient_6 (by decide) ?_
    refine lv_goto (tgt := 13) hx hb dX11_quotient_7 (by decide) ?_
    obtain rfl := ki1 hf
    rw [hQ]
    exact k_lret hat hP hS rfl dX11_quotient_13
set_option maxHeartbeats 4000000 in
set_option maxRecDepth 100000 in
theorem c_X1_clearRow {l : Launch} {D : va_G} {cI cJ cQ : ClassId} {tp : Nat} (q : Nat) (q_rows : Nat) (q_leads : Nat) (q_rows_r : Nat → Nat) (v_n : Int32) (v_rank : Int32) (v_exchanges : Int32) (v_width : Int32) (v_scale : Int64) (v_rows : (Nat → Nat → Int64)) (F : Nat) (x1 : Int32) (x2 : Int32) (o_v_rows : (Nat → Nat → Int64)) (hf : f_X1_clearRow F v_rank v_scale v_rows x1 x2 = some o_v_rows) : kM (fun A => kQv D A [(q, .inr (1, [.int v_n, .int v_rank, .int v_exchanges, .ref q_rows, .int v_width, .long v_scale, .ref q_leads])), (q_rows, .inl (cQ, 4, .inr (.inr (.inr (.inr (kg q_rows_r)))))), (q_rows_r 0, .inl (cJ, 5, .inr (.inl (o_v_rows 0)))), (q_rows_r 1, .inl (cJ, 5, .inr (.inl (o_v_rows 1)))), (q_rows_r 2, .inl (cJ, 5, .inr (.inl (o_v_rows 2)))), (q_rows_r 3, .inl (cJ, 5, .inr (.inl (o_v_rows 3))))]) none l yX1_clearRow cX1_clearRow 8 { frames := 1, cells := 0, slots := 0, locals := 23 } D cI cJ cQ tp [.ref q, .int x1, .int x2] [(q, .inr (1, [.int v_n, .int v_rank, .int v_exchanges, .ref q_rows, .int v_width, .long v_scale, .ref q_leads])), (q_rows, .inl (cQ, 4, .inr (.inr (.inr (.inr (kg q_rows_r)))))), (q_rows_r 0, .inl (cJ, 5, .inr (.inl (v_rows 0)))), (q_rows_r 1, .inl (cJ, 5, .inr (.inl (v_rows 1)))), (q_rows_r 2, .inl (cJ, 5, .inr (.inl (v_rows 2)))), (q_rows_r 3, .inl (cJ, 5, .inr (.inl (v_rows 3))))] := by
  refine kM_of (by decide +kernel) (Nat.le_of_ble_eq_true rfl) ?_
  intro p e s m args below meth c A ls R Q hR hQ hat hP hD hS hl
  obtain ⟨hx, hb, hr, hml, hown, hts, hT, hlk, hK, hA, hZ⟩ := id hat
  have hown : s.vm.findClass RX1 = some m.cls := hown
  have hl : lv_has ls 8 [(0, .ref q), (1, .int x1), (2, .int x2)] := hl
  have hL25 : ∀ (x1 : Int32) (x3 : Int64) (x5 : Int64) (v_n : Int32) (v_rank : Int32) (v_exchanges : Int32) (v_width : Int32) (v_scale : Int64) (fu : Nat) (x7 : Int32) (v_rows : (Nat → Nat → Int64)) (o0 : (Nat → Nat → Int64)), L_X1_clearRow_25 x1 x3 x5 v_rank v_scale fu x7 v_rows = some o0 → (∀ (H : Heap) (locs : List Loc) (ls : Array Slot), va_P D vwCl [(q, .inr (1, [.int v_n, .int v_rank, .int v_exchanges, .ref q_rows, .int v_width, .long v_scale, .ref q_leads])), (q_rows, .inl (cQ, 4, .inr (.inr (.inr (.inr (kg q_rows_r)))))), (q_rows_r 0, .inl (cJ, 5, .inr (.inl (o0 0)))), (q_rows_r 1, .inl (cJ, 5, .inr (.inl (o0 1)))), (q_rows_r 2, .inl (cJ, 5, .inr (.inl (o0 2)))), (q_rows_r 3, .inl (cJ, 5, .inr (.inl (o0 3))))] H → va_D A [(q, .inr (1, [.int v_n, .int v_rank, .int v_exchanges, .ref q_rows, .int v_width, .long v_scale, .ref q_leads])), (q_rows, .inl (cQ, 4, .inr (.inr (.inr (.inr (kg q_rows_r)))))), (q_rows_r 0, .inl (cJ, 5, .inr (.inl (o0 0)))), (q_rows_r 1, .inl (cJ, 5, .inr (.inl (o0 1)))), (q_rows_r 2, .inl (cJ, 5, .inr (.inl (o0 2)))), (q_rows_r 3, .inl (cJ, 5, .inr (.inl (o0 3))))] → va_S A s.heap H locs → lv_has ls 8 [] → W p l e R s m args below meth c H locs 0 0 Q (F0 m 80 ls [])) → ∀ (H : Heap) (locs : List Loc) (ls : Array Slot), va_P D vwCl [(q, .inr (1, [.int v_n, .int v_rank, .int v_exchanges, .ref q_rows, .int v_width, .long v_scale, .ref q_leads])), (q_rows, .inl (cQ, 4, .inr (.inr (.inr (.inr (kg q_rows_r)))))), (q_rows_r 0, .inl (cJ, 5, .inr (.inl (v_rows 0)))), (q_rows_r 1, .inl (cJ, 5, .inr (.inl (v_rows 1)))), (q_rows_r 2, .inl (cJ, 5, .inr (.inl (v_rows 2)))), (q_rows_r 3, .inl (cJ, 5, .inr (.inl (v_rows 3))))] H → va_D A [(q, .inr (1, [.int v_n, .int v_rank, .int v_exchanges, .ref q_rows, .int v_width, .long v_scale, .ref q_leads])), (q_rows, .inl (cQ, 4, .inr (.inr (.inr (.inr (kg q_rows_r)))))), (q_rows_r 0, .inl (cJ, 5, .inr (.inl (v_rows 0)))), (q_rows_r 1, .inl (cJ, 5, .inr (.inl (v_rows 1)))), (q_rows_r 2, .inl (cJ, 5, .inr (.inl (v_rows 2)))), (q_rows_r 3, .inl (cJ, 5, .inr (.inl (v_rows 3))))] → va_S A s.heap H locs → lv_has ls 8 [(0, .ref q), (1, .int x1), (3, .long x3), (5, .long x5), (7, .int x7)] → W p l e R s m args below meth c H locs 0 0 Q (F0 m 25 ls []) := by
    intro x1 x3 x5 v_n v_rank v_exchanges v_width v_scale fu
    induction fu with
    | zero =>
      intro x7 v_rows o0 hf
      cases hf
    | succ fu ih =>
      intro x7 v_rows o0 hf hk0 H locs ls hP hD hS hl
      rw [L_X1_clearRow_25] at hf
      refine lv_iload hx hb dX1_clearRow_25 (lv_at hl 4 rfl) ?_
      refine lv_iconst (v := 5) hx hb dX1_clearRow_27 (by decide) ?_
      refine lv_icmp_ge (tgt := 80) hx hb dX1_clearRow_28 (by decide) (fun c7 => ?_) (fun c7 => ?_)
      · have hf := kp_e hf c7
        obtain rfl := ki1 hf
        exact hk0 _ _ _ hP hD hS (lv_sub hl [] rfl)
      · have hf := kn_e hf c7
        refine lv_aload_n hx hb dX1_clearRow_31 rfl (lv_at hl 0 rfl) ?_
        refine va_get (D := D) (ci := 1) (v := .ref q_rows) (C := RX1) (T := TX1) (N := 7) hx hb hts kinX1 hown hK hP 0 rfl rfl 3 (by decide) (hts _ kw150) (u_same (hts _ kw151)) rfl dX1_clearRow_32 ?_
        refine lv_iload_n hx hb dX1_clearRow_35 rfl (lv_at hl 1 rfl) ?_
        obtain ⟨c8, hf⟩ := kc_e hf
        refine k_gld hx hb hK hP 1 rfl c8 dX1_clearRow_36 ?_
        refine lv_iload hx hb dX1_clearRow_37 (lv_at hl 4 rfl) ?_
        refine lv_lload_n hx hb dX1_clearRow_39 rfl (lv_at hl 2 rfl) ?_
        refine lv_aload_n hx hb dX1_clearRow_40 rfl (lv_at hl 0 rfl) ?_
        refine va_get (D := D) (ci := 1) (v := .ref q_rows) (C := RX1) (T := TX1) (N := 7) hx hb hts kinX1 hown hK hP 0 rfl rfl 3 (by decide) (hts _ kw150) (u_same (hts _ kw151)) rfl dX1_clearRow_41 ?_
        refine lv_iload_n hx hb dX1_clearRow_44 rfl (lv_at hl 1 rfl) ?_
        obtain ⟨c9, hf⟩ := kc_e hf
        refine k_gld hx hb hK hP 1 rfl c9 dX1_clearRow_45 ?_
        refine lv_iload hx hb dX1_clearRow_46 (lv_at hl 4 rfl) ?_
        obtain ⟨c10, hf⟩ := kc_e hf
        refine k_rld hx hb hK hP 2 (fun k hk => (co_4 (P := fun k => ([(q, .inr (1, [.int v_n, .int v_rank, .int v_exchanges, .ref q_rows, .int v_width, .long v_scale, .ref q_leads])), (q_rows, .inl (cQ, 4, .inr (.inr (.inr (.inr (kg q_rows_r)))))), (q_rows_r 0, .inl (cJ, 5, .inr (.inl (v_rows 0)))), (q_rows_r 1, .inl (cJ, 5, .inr (.inl (v_rows 1)))), (q_rows_r 2, .inl (cJ, 5, .inr (.inl (v_rows 2)))), (q_rows_r 3, .inl (cJ, 5, .inr (.inl (v_rows 3))))] : va_W)[2 + k]? = some (q_rows_r k, .inl (cJ, 5, .inr (.inl (v_rows k))))) rfl rfl rfl rfl) hk) (kin_nat c9) c10 dX1_clearRow_48 ?_
        refine lv_lmul hx hb dX1_clearRow_49 ?_
        refine lv_lload hx hb dX1_clearRow_50 (lv_at hl 3 rfl) ?_
        refine lv_aload_n hx hb dX1_clearRow_52 rfl (lv_at hl 0 rfl) ?_
        refine va_get (D := D) (ci := 1) (v := .ref q_rows) (C := RX1) (T := TX1) (N := 7) hx hb hts kinX1 hown hK hP 0 rfl rfl 3 (by decide) (hts _ kw150) (u_same (hts _ kw151)) rfl dX1_clearRow_53 ?_
        refine lv_aload_n hx hb dX1_clearRow_56 rfl (lv_at hl 0 rfl) ?_
        refine va_get (D := D) (ci := 1) (v := .int v_rank) (C := RX1) (T := TX1) (N := 7) hx hb hts kinX1 hown hK hP 0 rfl rfl 1 (by decide) (hts _ kw142) (u_same (hts _ kw143)) rfl dX1_clearRow_57 ?_
        obtain ⟨c11, hf⟩ := kc_e hf
        refine k_gld hx hb hK hP 1 rfl c11 dX1_clearRow_60 ?_
        refine lv_iload hx hb dX1_clearRow_61 (lv_at hl 4 rfl) ?_
        obtain ⟨c12, hf⟩ := kc_e hf
        refine k_rld hx hb hK hP 2 (fun k hk => (co_4 (P := fun k => ([(q, .inr (1, [.int v_n, .int v_rank, .int v_exchanges, .ref q_rows, .int v_width, .long v_scale, .ref q_leads])), (q_rows, .inl (cQ, 4, .inr (.inr (.inr (.inr (kg q_rows_r)))))), (q_rows_r 0, .inl (cJ, 5, .inr (.inl (v_rows 0)))), (q_rows_r 1, .inl (cJ, 5, .inr (.inl (v_rows 1)))), (q_rows_r 2, .inl (cJ, 5, .inr (.inl (v_rows 2)))), (q_rows_r 3, .inl (cJ, 5, .inr (.inl (v_rows 3))))] : va_W)[2 + k]? = some (q_rows_r k, .inl (cJ, 5, .inr (.inl (v_rows k))))) rfl rfl rfl rfl) hk) (kin_nat c11) c12 dX1_clearRow_63 ?_
        refine lv_lmul hx hb dX1_clearRow_64 ?_
        refine lv_lsub hx hb dX1_clearRow_65 ?_
        refine lv_aload_n hx hb dX1_clearRow_66 rfl (lv_at hl 0 rfl) ?_
        refine va_get (D := D) (ci := 1) (v := .long v_scale) (C := RX1) (T := TX1) (N := 7) hx hb hts kinX1 hown hK hP 0 rfl rfl 5 (by decide) (hts _ kw132) (fun _ h9 => h9) rfl dX1_clearRow_67 ?_
        obtain ⟨r13, h14, hf⟩ := kb1_e hf
        refine k_gl (nW := 6) (ws' := [(q, .inr (1, [.int v_n, .int v_rank, .int v_exchanges, .ref q_rows, .int v_width, .long v_scale, .ref q_leads])), (q_rows, .inl (cQ, 4, .inr (.inr (.inr (.inr (kg q_rows_r)))))), (q_rows_r 0, .inl (cJ, 5, .inr (.inl (v_rows 0)))), (q_rows_r 1, .inl (cJ, 5, .inr (.inl (v_rows 1)))), (q_rows_r 2, .inl (cJ, 5, .inr (.inl (v_rows 2)))), (q_rows_r 3, .inl (cJ, 5, .inr (.inl (v_rows 3))))]) (wr := [(q, .inr (1, [.int v_n, .int v_rank, .int v_exchanges, .ref q_rows, .int v_width, .long v_scale, .ref q_leads])), (q_rows, .inl (cQ, 4, .inr (.inr (.inr (.inr (kg q_rows_r)))))), (q_rows_r 0, .inl (cJ, 5, .inr (.inl (v_rows 0)))), (q_rows_r 1, .inl (cJ, 5, .inr (.inl (v_rows 1)))), (q_rows_r 2, .inl (cJ, 5, .inr (.inl (v_rows 2)))), (q_rows_r 3, .inl (cJ, 5, .inr (.inl (v_rows 3))))]) (k_runSN (rest := [.int x7, .ref (q_rows_r x1.toNatClampNeg)]) hat hP hD hS hl.1 (c_X11_quotient ((x3 * (v_rows x1.toNatClampNeg x7.toNatClampNeg)) - (x5 * (v_rows v_rank.toNatClampNeg x7.toNatClampNeg))) v_scale r13 h14) [] (by decide) rfl kw407 kw408 kw67 kw409 kdX11_quotient ⟨rfl, rfl⟩ (by rw [hR]; exact ⟨Nat.le_of_ble_eq_true rfl, Nat.le_of_ble_eq_true rfl⟩) ⟨Nat.zero_le _, Nat.zero_le _⟩ rfl rfl (Nat.le_of_ble_eq_true rfl) dX1_clearRow_70) hat hP hD hS [] rfl [0, 1, 2, 3, 4, 5] rfl rfl rfl rfl rfl (by decide) (fun H locs hP hD hS => ?_)
        obtain ⟨c15, hf⟩ := kc_e hf
        refine k_rst (ws' := fun M9 => [(q, .inr (1, [.int v_n, .int v_rank, .int v_exchanges, .ref q_rows, .int v_width, .long v_scale, .ref q_leads])), (q_rows, .inl (cQ, 4, .inr (.inr (.inr (.inr (kg q_rows_r)))))), (q_rows_r 0, .inl (cJ, 5, .inr (.inl (M9 0)))), (q_rows_r 1, .inl (cJ, 5, .inr (.inl (M9 1)))), (q_rows_r 2, .inl (cJ, 5, .inr (.inl (M9 2)))), (q_rows_r 3, .inl (cJ, 5, .inr (.inl (M9 3))))]) hx hb hK hP hD hS 2 (fun k hk => (co_4 (P := fun k => ([(q, .inr (1, [.int v_n, .int v_rank, .int v_exchanges, .ref q_rows, .int v_width, .long v_scale, .ref q_leads])), (q_rows, .inl (cQ, 4, .inr (.inr (.inr (.inr (kg q_rows_r)))))), (q_rows_r 0, .inl (cJ, 5, .inr (.inl (v_rows 0)))), (q_rows_r 1, .inl (cJ, 5, .inr (.inl (v_rows 1)))), (q_rows_r 2, .inl (cJ, 5, .inr (.inl (v_rows 2)))), (q_rows_r 3, .inl (cJ, 5, .inr (.inl (v_rows 3))))] : va_W)[2 + k]? = some (q_rows_r k, .inl (cJ, 5, .inr (.inl (v_rows k))))) rfl rfl rfl rfl) hk) (fun k hk => (co_4 (P := fun k => ∀ f : Nat → Int64, ([(q, .inr (1, [.int v_n, .int v_rank, .int v_exchanges, .ref q_rows, .int v_width, .long v_scale, .ref q_leads])), (q_rows, .inl (cQ, 4, .inr (.inr (.inr (.inr (kg q_rows_r)))))), (q_rows_r 0, .inl (cJ, 5, .inr (.inl (v_rows 0)))), (q_rows_r 1, .inl (cJ, 5, .inr (.inl (v_rows 1)))), (q_rows_r 2, .inl (cJ, 5, .inr (.inl (v_rows 2)))), (q_rows_r 3, .inl (cJ, 5, .inr (.inl (v_rows 3))))] : va_W).set (2 + k) (q_rows_r k, .inl (cJ, 5, .inr (.inl f))) = (fun M9 : Nat → Nat → Int64 => ([(q, .inr (1, [.int v_n, .int v_rank, .int v_exchanges, .ref q_rows, .int v_width, .long v_scale, .ref q_leads])), (q_rows, .inl (cQ, 4, .inr (.inr (.inr (.inr (kg q_rows_r)))))), (q_rows_r 0, .inl (cJ, 5, .inr (.inl (M9 0)))), (q_rows_r 1, .inl (cJ, 5, .inr (.inl (M9 1)))), (q_rows_r 2, .inl (cJ, 5, .inr (.inl (M9 2)))), (q_rows_r 3, .inl (cJ, 5, .inr (.inl (M9 3))))] : va_W)) (ku v_rows k f)) (fun _ => rfl) (fun _ => rfl) (fun _ => rfl) (fun _ => rfl)) hk) (kin_nat c8) c15 dX1_clearRow_73 (fun H locs hP hD hS => ?_)
        generalize ew16 : (ku v_rows (x1.toNatClampNeg) (vp_updL (v_rows (x1.toNatClampNeg)) x7.toNatClampNeg r13)) = w16 at hP hD
        have hf := kl_e hf w16 ew16.symm
        have hP : va_P D vwCl [(q, .inr (1, [.int v_n, .int v_rank, .int v_exchanges, .ref q_rows, .int v_width, .long v_scale, .ref q_leads])), (q_rows, .inl (cQ, 4, .inr (.inr (.inr (.inr (kg q_rows_r)))))), (q_rows_r 0, .inl (cJ, 5, .inr (.inl (w16 0)))), (q_rows_r 1, .inl (cJ, 5, .inr (.inl (w16 1)))), (q_rows_r 2, .inl (cJ, 5, .inr (.inl (w16 2)))), (q_rows_r 3, .inl (cJ, 5, .inr (.inl (w16 3))))] H := hP
        have hD : va_D A [(q, .inr (1, [.int v_n, .int v_rank, .int v_exchanges, .ref q_rows, .int v_width, .long v_scale, .ref q_leads])), (q_rows, .inl (cQ, 4, .inr (.inr (.inr (.inr (kg q_rows_r)))))), (q_rows_r 0, .inl (cJ, 5, .inr (.inl (w16 0)))), (q_rows_r 1, .inl (cJ, 5, .inr (.inl (w16 1)))), (q_rows_r 2, .inl (cJ, 5, .inr (.inl (w16 2)))), (q_rows_r 3, .inl (cJ, 5, .inr (.inl (w16 3))))] := hD
        obtain ⟨t17, et17⟩ : ∃ z : Int32, z = (x7 + (1 : Int32)) := ⟨_, rfl⟩
        have hf := kl_e hf t17 et17
        refine lv_iinc (v := t17) (lv' := [(7, .int t17), (0, .ref q), (1, .int x1), (3, .long x3), (5, .long x5)]) hx hb dX1_clearRow_74 hl (k := 4) rfl (by rw [et17]; rfl) (by decide) rfl (fun ls hl => ?_)
        refine lv_goto (tgt := 25) hx hb dX1_clearRow_77 (by decide) ?_
        exact ih t17 w16 o0 hf hk0 _ _ _ hP hD hS (lv_sub hl [1, 2, 3, 4, 0] rfl)
  unfold f_X1_clearRow at hf
  refine lv_aload_n hx hb dX1_clearRow_0 rfl (lv_at hl 0 rfl) ?_
  refine va_get (D := D) (ci := 1) (v := .ref q_rows) (C := RX1) (T := TX1) (N := 7) hx hb hts kinX1 hown hK hP 0 rfl rfl 3 (by decide) (hts _ kw150) (u_same (hts _ kw151)) rfl dX1_clearRow_1 ?_
  refine lv_aload_n hx hb dX1_clearRow_4 rfl (lv_at hl 0 rfl) ?_
  refine va_get (D := D) (ci := 1) (v := .int v_rank) (C := RX1) (T := TX1) (N := 7) hx hb hts kinX1 hown hK hP 0 rfl rfl 1 (by decide) (hts _ kw142) (u_same (hts _ kw143)) rfl dX1_clearRow_5 ?_
  obtain ⟨c1, hf⟩ := kc_e hf
  refine k_gld hx hb hK hP 1 rfl c1 dX1_clearRow_8 ?_
  refine lv_iload_n hx hb dX1_clearRow_9 rfl (lv_at hl 2 rfl) ?_
  obtain ⟨c2, hf⟩ := kc_e hf
  refine k_rld hx hb hK hP 2 (fun k hk => (co_4 (P := fun k => ([(q, .inr (1, [.int v_n, .int v_rank, .int v_exchanges, .ref q_rows, .int v_width, .long v_scale, .ref q_leads])), (q_rows, .inl (cQ, 4, .inr (.inr (.inr (.inr (kg q_rows_r)))))), (q_rows_r 0, .inl (cJ, 5, .inr (.inl (v_rows 0)))), (q_rows_r 1, .inl (cJ, 5, .inr (.inl (v_rows 1)))), (q_rows_r 2, .inl (cJ, 5, .inr (.inl (v_rows 2)))), (q_rows_r 3, .inl (cJ, 5, .inr (.inl (v_rows 3))))] : va_W)[2 + k]? = some (q_rows_r k, .inl (cJ, 5, .inr (.inl (v_rows k))))) rfl rfl rfl rfl) hk) (kin_nat c1) c2 dX1_clearRow_10 ?_
  refine lv_topl (fun t3 et3 => ?_)
  have hf := kl_e hf t3 et3
  refine lv_lstore_n (lv' := [(3, .long t3), (0, .ref q), (1, .int x1), (2, .int x2)]) hx hb dX1_clearRow_11 rfl hl (by decide) rfl (fun ls hl => ?_)
  refine lv_aload_n hx hb dX1_clearRow_12 rfl (lv_at hl 1 rfl) ?_
  refine va_get (D := D) (ci := 1) (v := .ref q_rows) (C := RX1) (T := TX1) (N := 7) hx hb hts kinX1 hown hK hP 0 rfl rfl 3 (by decide) (hts _ kw150) (u_same (hts _ kw151)) rfl dX1_clearRow_13 ?_
  refine lv_iload_n hx hb dX1_clearRow_16 rfl (lv_at hl 2 rfl) ?_
  obtain ⟨c4, hf⟩ := kc_e hf
  refine k_gld hx hb hK hP 1 rfl c4 dX1_clearRow_17 ?_
  refine lv_iload_n hx hb dX1_clearRow_18 rfl (lv_at hl 3 rfl) ?_
  obtain ⟨c5, hf⟩ := kc_e hf
  refine k_rld hx hb hK hP 2 (fun k hk => (co_4 (P := fun k => ([(q, .inr (1, [.int v_n, .int v_rank, .int v_exchanges, .ref q_rows, .int v_width, .long v_scale, .ref q_leads])), (q_rows, .inl (cQ, 4, .inr (.inr (.inr (.inr (kg q_rows_r)))))), (q_rows_r 0, .inl (cJ, 5, .inr (.inl (v_rows 0)))), (q_rows_r 1, .inl (cJ, 5, .inr (.inl (v_rows 1)))), (q_rows_r 2, .inl (cJ, 5, .inr (.inl (v_rows 2)))), (q_rows_r 3, .inl (cJ, 5, .inr (.inl (v_rows 3))))] : va_W)[2 + k]? = some (q_rows_r k, .inl (cJ, 5, .inr (.inl (v_rows k))))) rfl rfl rfl rfl) hk) (kin_nat c4) c5 dX1_clearRow_19 ?_
  refine lv_topl (fun t6 et6 => ?_)
  have hf := kl_e hf t6 et6
  refine lv_lstore (lv' := [(5, .long t6), (3, .long t3), (0, .ref q), (1, .int x1), (2, .int x2)]) hx hb dX1_clearRow_20 hl (by decide) rfl (fun ls hl => ?_)
  refine lv_iconst (v := 0) hx hb dX1_clearRow_22 (by decide) ?_
  refine lv_istore (lv' := [(7, .int (0 : Int32)), (5, .long t6), (3, .long t3), (0, .ref q), (1, .int x1), (2, .int x2)]) hx hb dX1_clearRow_23 hl (by decide) rfl (fun ls hl => ?_)
  obtain ⟨w18, hu, hf⟩ := kb1_e hf
  refine hL25 x1 t3 t6 v_n v_rank v_exchanges v_width v_scale F (0 : Int32) v_rows w18 hu (fun H locs ls hP hD hS hl => ?_) _ _ _ hP hD hS (lv_sub hl [3, 4, 2, 1, 0] rfl)
  obtain rfl := ki1 hf
  rw [hQ]
  exact k_vret hat hP hS dX1_clearRow_80
