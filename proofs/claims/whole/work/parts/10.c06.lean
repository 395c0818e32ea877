set_option maxHeartbeats 4000000 in
set_option maxRecDepth 100000 in
theorem c_X12_sure {l : Launch} {D : va_G} {cI cJ cQ : ClassId} {tp : Nat} (q : Nat) (q_w : Nat) (q_imageSeed : Nat) (q_bookOf : Nat) (q_bookAt : Nat) (q_bookIs : Nat) (q_rs : Nat) (q_cs : Nat) (q_zs : Nat) (v_known : Int32) (v_kept : Int32) (v_seed : Int32) (v_written : Int32) (v_above : Int64) (v_below : Int64) (v_leftAbove : Int64) (v_leftBelow : Int64) (v_guessAbove : Int64) (v_guessBelow : Int64) (v_sign : Int32) (v_power2 : Int32) (v_bits : Int64) (v_w : (Nat → Int32)) (F : Nat) (r0 : Int32) (hf : f_X12_sure F v_w = some r0) : kM (fun A => kQi D A [(q, .inr (11, [.ref q_w, .int v_known, .int v_kept, .int v_seed, .ref q_imageSeed, .ref q_bookOf, .ref q_bookAt, .ref q_bookIs, .int v_written, .ref q_rs, .ref q_cs, .long v_above, .long v_below, .ref q_zs, .long v_leftAbove, .long v_leftBelow, .long v_guessAbove, .long v_guessBelow, .int v_sign, .int v_power2, .long v_bits])), (q_w, .inl (cI, 418, .inl v_w))] r0) (some .int) l yX12_sure cX12_sure 7 { frames := 2, cells := 0, slots := 0, locals := 44 } D cI cJ cQ tp [.ref q] [(q, .inr (11, [.ref q_w, .int v_known, .int v_kept, .int v_seed, .ref q_imageSeed, .ref q_bookOf, .ref q_bookAt, .ref q_bookIs, .int v_written, .ref q_rs, .ref q_cs, .long v_above, .long v_below, .ref q_zs, .long v_leftAbove, .long v_leftBelow, .long v_guessAbove, .long v_guessBelow, .int v_sign, .int v_power2, .long v_bits])), (q_w, .inl (cI, 418, .inl v_w))] := by
  refine kM_of (by decide +kernel) (Nat.le_of_ble_eq_true rfl) ?_
  intro p e s m args below meth c A ls R Q hR hQ hat hP hD hS hl
  obtain ⟨hx, hb, hr, hml, hown, hts, hT, hlk, hK, hA, hZ⟩ := id hat
  have hown : s.vm.findClass RX12 = some m.cls := hown
  have hl : lv_has ls 7 [(0, .ref q)] := hl
  have hL20 : ∀ (x1 : Int64) (x3 : Int32) (v_known : Int32) (v_kept : Int32) (v_seed : Int32) (v_written : Int32) (v_above : Int64) (v_below : Int64) (v_leftAbove : Int64) (v_leftBelow : Int64) (v_guessAbove : Int64) (v_guessBelow : Int64) (v_sign : Int32) (v_power2 : Int32) (v_bits : Int64) (v_w : (Nat → Int32)) (fu : Nat) (x4 : Int64) (x6 : Int32) (o0 : Int64), L_X12_sure_20 x1 x3 v_w fu x4 x6 = some o0 → (∀ (H : Heap) (locs : List Loc) (ls : Array Slot), va_P D vwCl [(q, .inr (11, [.ref q_w, .int v_known, .int v_kept, .int v_seed, .ref q_imageSeed, .ref q_bookOf, .ref q_bookAt, .ref q_bookIs, .int v_written, .ref q_rs, .ref q_cs, .long v_above, .long v_below, .ref q_zs, .long v_leftAbove, .long v_leftBelow, .long v_guessAbove, .long v_guessBelow, .int v_sign, .int v_power2, .long v_bits])), (q_w, .inl (cI, 418, .inl v_w))] H → va_D A [(q, .inr (11, [.ref q_w, .int v_known, .int v_kept, .int v_seed, .ref q_imageSeed, .ref q_bookOf, .ref q_bookAt, .ref q_bookIs, .int v_written, .ref q_rs, .ref q_cs, .long v_above, .long v_below, .ref q_zs, .long v_leftAbove, .long v_leftBelow, .long v_guessAbove, .long v_guessBelow, .int v_sign, .int v_power2, .long v_bits])), (q_w, .inl (cI, 418, .inl v_w))] → va_S A s.heap H locs → lv_has ls 7 [(0, .ref q), (1, .long x1), (3, .int x3), (4, .long o0)] → W p l e R s m args below meth c H locs 0 0 Q (F0 m 55 ls [])) → ∀ (H : Heap) (locs : List Loc) (ls : Array Slot), va_P D vwCl [(q, .inr (11, [.ref q_w, .int v_known, .int v_kept, .int v_seed, .ref q_imageSeed, .ref q_bookOf, .ref q_bookAt, .ref q_bookIs, .int v_written, .ref q_rs, .ref q_cs, .long v_above, .long v_below, .ref q_zs, .long v_leftAbove, .long v_leftBelow, .long v_guessAbove, .long v_guessBelow, .int v_sign, .int v_power2, .long v_bits])), (q_w, .inl (cI, 418, .inl v_w))] H → va_D A [(q, .inr (11, [.ref q_w, .int v_known, .int v_kept, .int v_seed, .ref q_imageSeed, .ref q_bookOf, .ref q_bookAt, .ref q_bookIs, .int v_written, .ref q_rs, .ref q_cs, .long v_above, .long v_below, .ref q_zs, .long v_leftAbove, .long v_leftBelow, .long v_guessAbove, .long v_guessBelow, .int v_sign, .int v_power2, .long v_bits])), (q_w, .inl (cI, 418, .inl v_w))] → va_S A s.heap H locs → lv_has ls 7 [(0, .ref q), (1, .long x1), (3, .int x3), (4, .long x4), (6, .int x6)] → W p l e R s m args below meth c H locs 0 0 Q (F0 m 20 ls []) := by
    intro x1 x3 v_known v_kept v_seed v_written v_above v_below v_leftAbove v_leftBelow v_guessAbove v_guessBelow v_sign v_power2 v_bits v_w fu
    induction fu with
    | zero =>
      intro x4 x6 o0 hf
      cases hf
    | succ fu ih =>
      intro x4 x6 o0 hf hk0 H locs ls hP hD hS hl
      rw [L_X12_sure_20] at hf
      refine lv_iload hx hb dX12_sure_20 (lv_at hl 4 rfl) ?_
      refine lv_aload_n hx hb dX12_sure_22 rfl (lv_at hl 0 rfl) ?_
      obtain ⟨r4, h5, hf⟩ := kb1_e hf
      refine k_gi (nW := 2) (ws' := [(q, .inr (11, [.ref q_w, .int v_known, .int v_kept, .int v_seed, .ref q_imageSeed, .ref q_bookOf, .ref q_bookAt, .ref q_bookIs, .int v_written, .ref q_rs, .ref q_cs, .long v_above, .long v_below, .ref q_zs, .long v_leftAbove, .long v_leftBelow, .long v_guessAbove, .long v_guessBelow, .int v_sign, .int v_power2, .long v_bits])), (q_w, .inl (cI, 418, .inl v_w))]) (wr := []) (k_runV (rest := [.int x6]) hat hP hD hS hl.1 (c_X12_n q q_w q_imageSeed q_bookOf q_bookAt q_bookIs q_rs q_cs q_zs v_known v_kept v_seed v_written v_above v_below v_leftAbove v_leftBelow v_guessAbove v_guessBelow v_sign v_power2 v_bits v_w r4 h5) [0, 1] (by decide) rfl kw912 kw914 kw19 kw79 kw915 kdVX12_n ⟨rfl, rfl⟩ (by rw [hR]; exact ⟨Nat.le_of_ble_eq_true rfl, Nat.le_of_ble_eq_true rfl⟩) ⟨Nat.zero_le _, Nat.zero_le _⟩ 0 11 rfl rfl rfl rfl (Nat.le_of_ble_eq_true rfl) dX12_sure_23) hat hP hD hS [0, 1] rfl [] rfl rfl rfl rfl rfl (by decide) (fun H locs hP hD hS => ?_)
      refine lv_icmp_ge (tgt := 55) hx hb dX12_sure_26 (by decide) (fun c6 => ?_) (fun c6 => ?_)
      · have hf := kp_e hf c6
        obtain rfl := ki1 hf
        exact hk0 _ _ _ hP hD hS (lv_sub hl [0, 1, 2, 3] rfl)
      · have hf := kn_e hf c6
        refine lv_lload hx hb dX12_sure_29 (lv_at hl 3 rfl) ?_
        refine lv_aload_n hx hb dX12_sure_31 rfl (lv_at hl 0 rfl) ?_
        refine lv_iload_n hx hb dX12_sure_32 rfl (lv_at hl 2 rfl) ?_
        refine lv_iload hx hb dX12_sure_33 (lv_at hl 4 rfl) ?_
        obtain ⟨r7, h8, hf⟩ := kb1_e hf
        refine k_gl (nW := 2) (ws' := [(q, .inr (11, [.ref q_w, .int v_known, .int v_kept, .int v_seed, .ref q_imageSeed, .ref q_bookOf, .ref q_bookAt, .ref q_bookIs, .int v_written, .ref q_rs, .ref q_cs, .long v_above, .long v_below, .ref q_zs, .long v_leftAbove, .long v_leftBelow, .long v_guessAbove, .long v_guessBelow, .int v_sign, .int v_power2, .long v_bits])), (q_w, .inl (cI, 418, .inl v_w))]) (wr := []) (k_runV (rest := [.long x4]) hat hP hD hS hl.1 (c_X12_cell q q_w q_imageSeed q_bookOf q_bookAt q_bookIs q_rs q_cs q_zs v_known v_kept v_seed v_written v_above v_below v_leftAbove v_leftBelow v_guessAbove v_guessBelow v_sign v_power2 v_bits v_w x3 x6 r7 h8) [0, 1] (by decide) rfl kw952 kw954 kw26 kw79 kw955 kdVX12_cell ⟨rfl, rfl⟩ (by rw [hR]; exact ⟨Nat.le_of_ble_eq_true rfl, Nat.le_of_ble_eq_true rfl⟩) ⟨Nat.zero_le _, Nat.zero_le _⟩ 0 11 rfl rfl rfl rfl (Nat.le_of_ble_eq_true rfl) dX12_sure_35) hat hP hD hS [0, 1] rfl [] rfl rfl rfl rfl rfl (by decide) (fun H locs hP hD hS => ?_)
        refine lv_aload_n hx hb dX12_sure_38 rfl (lv_at hl 0 rfl) ?_
        refine lv_iload_n hx hb dX12_sure_39 rfl (lv_at hl 2 rfl) ?_
        refine lv_iload hx hb dX12_sure_40 (lv_at hl 4 rfl) ?_
        obtain ⟨r9, h10, hf⟩ := kb1_e hf
        refine k_gl (nW := 2) (ws' := [(q, .inr (11, [.ref q_w, .int v_known, .int v_kept, .int v_seed, .ref q_imageSeed, .ref q_bookOf, .ref q_bookAt, .ref q_bookIs, .int v_written, .ref q_rs, .ref q_cs, .long v_above, .long v_below, .ref q_zs, .long v_leftAbove, .long v_leftBelow, .long v_guessAbove, .long v_guessBelow, .int v_sign, .int v_power2, .long v_bits])), (q_w, .inl (cI, 418, .inl v_w))]) (wr := []) (k_runV (rest := [.long r7, .long x4]) hat hP hD hS hl.1 (c_X12_cell q q_w q_imageSeed q_bookOf q_bookAt q_bookIs q_rs q_cs q_zs v_known v_kept v_seed v_written v_above v_below v_leftAbove v_leftBelow v_guessAbove v_guessBelow v_sign v_power2 v_bits v_w x3 x6 r9 h10) [0, 1] (by decide) rfl kw952 kw954 kw26 kw79 kw955 kdVX12_cell ⟨rfl, rfl⟩ (by rw [hR]; exact ⟨Nat.le_of_ble_eq_true rfl, Nat.le_of_ble_eq_true rfl⟩) ⟨Nat.zero_le _, Nat.zero_le _⟩ 0 11 rfl rfl rfl rfl (Nat.le_of_ble_eq_true rfl) dX12_sure_42) hat hP hD hS [0, 1] rfl [] rfl rfl rfl rfl rfl (by decide) (fun H locs hP hD hS => ?_)
        refine lv_lmul hx hb dX12_sure_45 ?_
        refine lv_ladd hx hb dX12_sure_46 ?_
        refine lv_topl (fun t11 et11 => ?_)
        have hf := kl_e hf t11 et11
        refine lv_lstore (lv' := [(4, .long t11), (0, .ref q), (1, .long x1), (3, .int x3), (6, .int x6)]) hx hb dX12_sure_47 hl (by decide) rfl (fun ls hl => ?_)
        obtain ⟨t12, et12⟩ : ∃ z : Int32, z = (x6 + (1 : Int32)) := ⟨_, rfl⟩
        have hf := kl_e hf t12 et12
        refine lv_iinc (v := t12) (lv' := [(6, .int t12), (4, .long t11), (0, .ref q), (1, .long x1), (3, .int x3)]) hx hb dX12_sure_49 hl (k := 4) rfl (by rw [et12]; rfl) (by decide) rfl (fun ls hl => ?_)
        refine lv_goto (tgt := 20) hx hb dX12_sure_52 (by decide) ?_
        exact ih t11 t12 o0 hf hk0 _ _ _ hP hD hS (lv_sub hl [2, 3, 4, 1, 0] rfl)
  have hL6 : ∀ (v_known : Int32) (v_kept : Int32) (v_seed : Int32) (v_written : Int32) (v_above : Int64) (v_below : Int64) (v_leftAbove : Int64) (v_leftBelow : Int64) (v_guessAbove : Int64) (v_guessBelow : Int64) (v_sign : Int32) (v_power2 : Int32) (v_bits : Int64) (v_w : (Nat → Int32)) (fu : Nat) (x1 : Int64) (x3 : Int32) (o0 : Int64), L_X12_sure_6 F v_w fu x1 x3 = some o0 → (∀ (H : Heap) (locs : List Loc) (ls : Array Slot), va_P D vwCl [(q, .inr (11, [.ref q_w, .int v_known, .int v_kept, .int v_seed, .ref q_imageSeed, .ref q_bookOf, .ref q_bookAt, .ref q_bookIs, .int v_written, .ref q_rs, .ref q_cs, .long v_above, .long v_below, .ref q_zs, .long v_leftAbove, .long v_leftBelow, .long v_guessAbove, .long v_guessBelow, .int v_sign, .int v_power2, .long v_bits])), (q_w, .inl (cI, 418, .inl v_w))] H → va_D A [(q, .inr (11, [.ref q_w, .int v_known, .int v_kept, .int v_seed, .ref q_imageSeed, .ref q_bookOf, .ref q_bookAt, .ref q_bookIs, .int v_written, .ref q_rs, .ref q_cs, .long v_above, .long v_below, .ref q_zs, .long v_leftAbove, .long v_leftBelow, .long v_guessAbove, .long v_guessBelow, .int v_sign, .int v_power2, .long v_bits])), (q_w, .inl (cI, 418, .inl v_w))] → va_S A s.heap H locs → lv_has ls 7 [(0, .ref q), (1, .long o0)] → W p l e R s m args below meth c H locs 0 0 Q (F0 m 80 ls [])) → ∀ (H : Heap) (locs : List Loc) (ls : Array Slot), va_P D vwCl [(q, .inr (11, [.ref q_w, .int v_known, .int v_kept, .int v_seed, .ref q_imageSeed, .ref q_bookOf, .ref q_bookAt, .ref q_bookIs, .int v_written, .ref q_rs, .ref q_cs, .long v_above, .long v_below, .ref q_zs, .long v_leftAbove, .long v_leftBelow, .long v_guessAbove, .long v_guessBelow, .int v_sign, .int v_power2, .long v_bits])), (q_w, .inl (cI, 418, .inl v_w))] H → va_D A [(q, .inr (11, [.ref q_w, .int v_known, .int v_kept, .int v_seed, .ref q_imageSeed, .ref q_bookOf, .ref q_bookAt, .ref q_bookIs, .int v_written, .ref q_rs, .ref q_cs, .long v_above, .long v_below, .ref q_zs, .long v_leftAbove, .long v_leftBelow, .long v_guessAbove, .long v_guessBelow, .int v_sign, .int v_power2, .long v_bits])), (q_w, .inl (cI, 418, .inl v_w))] → va_S A s.heap H locs → lv_has ls 7 [(0, .ref q), (1, .long x1), (3, .int x3)] → W p l e R s m args below meth c H locs 0 0 Q (F0 m 6 ls []) := by
    intro v_known v_kept v_seed v_written v_above v_below v_leftAbove v_leftBelow v_guessAbove v_guessBelow v_sign v_power2 v_bits v_w fu
    induction fu with
    | zero =>
      intro x1 x3 o0 hf
      cases hf
    | succ fu ih =>
      intro x1 x3 o0 hf hk0 H locs ls hP hD hS hl
      rw [L_X12_sure_6] at hf
      refine lv_iload_n hx hb dX12_sure_6 rfl (lv_at hl 2 rfl) ?_
      refine lv_aload_n hx hb dX12_sure_7 rfl (lv_at hl 0 rfl) ?_
      obtain ⟨r1, h2, hf⟩ := kb1_e hf
      refine k_gi (nW := 2) (ws' := [(q, .inr (11, [.ref q_w, .int v_known, .int v_kept, .int v_seed, .ref q_imageSeed, .ref q_bookOf, .ref q_bookAt, .ref q_bookIs, .int v_written, .ref q_rs, .ref q_cs, .long v_above, .long v_below, .ref q_zs, .long v_leftAbove, .long v_leftBelow, .long v_guessAbove, .long v_guessBelow, .int v_sign, .int v_power2, .long v_bits])), (q_w, .inl (cI, 418, .inl v_w))]) (wr := []) (k_runV (rest := [.int x3]) hat hP hD hS hl.1 (c_X12_n q q_w q_imageSeed q_bookOf q_bookAt q_bookIs q_rs q_cs q_zs v_known v_kept v_seed v_written v_above v_below v_leftAbove v_leftBelow v_guessAbove v_guessBelow v_sign v_power2 v_bits v_w r1 h2) [0, 1] (by decide) rfl kw912 kw914 kw19 kw79 kw915 kdVX12_n ⟨rfl, rfl⟩ (by rw [hR]; exact ⟨Nat.le_of_ble_eq_true rfl, Nat.le_of_ble_eq_true rfl⟩) ⟨Nat.zero_le _, Nat.zero_le _⟩ 0 11 rfl rfl rfl rfl (Nat.le_of_ble_eq_true rfl) dX12_sure_8) hat hP hD hS [0, 1] rfl [] rfl rfl rfl rfl rfl (by decide) (fun H locs hP hD hS => ?_)
      refine lv_icmp_ge (tgt := 80) hx hb dX12_sure_11 (by decide) (fun c3 => ?_) (fun c3 => ?_)
      · have hf := kp_e hf c3
        obtain rfl := ki1 hf
        exact hk0 _ _ _ hP hD hS (lv_sub hl [0, 1] rfl)
      · have hf := kn_e hf c3
        refine lv_lconst (v := 0) hx hb dX12_sure_14 (by decide) ?_
        refine lv_lstore (lv' := [(4, .long (0 : Int64)), (0, .ref q), (1, .long x1), (3, .int x3)]) hx hb dX12_sure_15 hl (by decide) rfl (fun ls hl => ?_)
        refine lv_iconst (v := 0) hx hb dX12_sure_17 (by decide) ?_
        refine lv_istore (lv' := [(6, .int (0 : Int32)), (4, .long (0 : Int64)), (0, .ref q), (1, .long x1), (3, .int x3)]) hx hb dX12_sure_18 hl (by decide) rfl (fun ls hl => ?_)
        obtain ⟨y13, hu, hf⟩ := kb1_e hf
        refine hL20 x1 x3 v_known v_kept v_seed v_written v_above v_below v_leftAbove v_leftBelow v_guessAbove v_guessBelow v_sign v_power2 v_bits v_w F (0 : Int64) (0 : Int32) y13 hu (fun H locs ls hP hD hS hl => ?_) _ _ _ hP hD hS (lv_sub hl [2, 3, 4, 1, 0] rfl)
        refine lv_lload_n hx hb dX12_sure_55 rfl (lv_at hl 1 rfl) ?_
        refine lv_lload hx hb dX12_sure_56 (lv_at hl 3 rfl) ?_
        refine lv_aload_n hx hb dX12_sure_58 rfl (lv_at hl 0 rfl) ?_
        refine lv_iload_n hx hb dX12_sure_59 rfl (lv_at hl 2 rfl) ?_
        refine lv_iconst (v := 4) hx hb dX12_sure_60 (by decide) ?_
        obtain ⟨r14, h15, hf⟩ := kb1_e hf
        refine k_gl (nW := 2) (ws' := [(q, .inr (11, [.ref q_w, .int v_known, .int v_kept, .int v_seed, .ref q_imageSeed, .ref q_bookOf, .ref q_bookAt, .ref q_bookIs, .int v_written, .ref q_rs, .ref q_cs, .long v_above, .long v_below, .ref q_zs, .long v_leftAbove, .long v_leftBelow, .long v_guessAbove, .long v_guessBelow, .int v_sign, .int v_power2, .long v_bits])), (q_w, .inl (cI, 418, .inl v_w))]) (wr := []) (k_runV (rest := [.long y13, .long x1]) hat hP hD hS hl.1 (c_X12_cell q q_w q_imageSeed q_bookOf q_bookAt q_bookIs q_rs q_cs q_zs v_known v_kept v_seed v_written v_above v_below v_leftAbove v_leftBelow v_guessAbove v_guessBelow v_sign v_power2 v_bits v_w x3 (4 : Int32) r14 h15) [0, 1] (by decide) rfl kw952 kw954 kw26 kw79 kw955 kdVX12_cell ⟨rfl, rfl⟩ (by rw [hR]; exact ⟨Nat.le_of_ble_eq_true rfl, Nat.le_of_ble_eq_true rfl⟩) ⟨Nat.zero_le _, Nat.zero_le _⟩ 0 11 rfl rfl rfl rfl (Nat.le_of_ble_eq_true rfl) dX12_sure_61) hat hP hD hS [0, 1] rfl [] rfl rfl rfl rfl rfl (by decide) (fun H locs hP hD hS => ?_)
        refine lv_aload_n hx hb dX12_sure_64 rfl (lv_at hl 0 rfl) ?_
        refine lv_iload_n hx hb dX12_sure_65 rfl (lv_at hl 2 rfl) ?_
        refine lv_iconst (v := 4) hx hb dX12_sure_66 (by decide) ?_
        obtain ⟨r16, h17, hf⟩ := kb1_e hf
        refine k_gl (nW := 2) (ws' := [(q, .inr (11, [.ref q_w, .int v_known, .int v_kept, .int v_seed, .ref q_imageSeed, .ref q_bookOf, .ref q_bookAt, .ref q_bookIs, .int v_written, .ref q_rs, .ref q_cs, .long v_above, .long v_below, .ref q_zs, .long v_leftAbove, .long v_leftBelow, .long v_guessAbove, .long v_guessBelow, .int v_sign, .int v_power2, .long v_bits])), (q_w, .inl (cI, 418, .inl v_w))]) (wr := []) (k_runV (rest := [.long r14, .long y13, .long x1]) hat hP hD hS hl.1 (c_X12_cell q q_w q_imageSeed q_bookOf q_bookAt q_bookIs q_rs q_cs q_zs v_known v_kept v_seed v_written v_above v_below v_leftAbove v_leftBelow v_guessAbove v_guessBelow v_sign v_power2 v_bits v_w x3 (4 : Int32) r16 h17) [0, 1] (by decide) rfl kw952 kw954 kw26 kw79 kw955 kdVX12_cell ⟨rfl, rfl⟩ (by rw [hR]; exact ⟨Nat.le_of_ble_eq_true rfl, Nat.le_of_ble_eq_true rfl⟩) ⟨Nat.zero_le _, Nat.zero_le _⟩ 0 11 rfl rfl rfl rfl (Nat.le_of_ble_eq_true rfl) dX12_sure_67) hat hP hD hS [0, 1] rfl [] rfl rfl rfl rfl rfl (by decide) (fun H locs hP hD hS => ?_)
        refine lv_lmul hx hb dX12_sure_70 ?_
        refine lv_ladd hx hb dX12_sure_71 ?_
        refine lv_lmul hx hb dX12_sure_72 ?_
        refine lv_topl (fun t18 et18 => ?_)
        have hf := kl_e hf t18 et18
        refine lv_lstore_n (lv' := [(1, .long t18), (0, .ref q), (3, .int x3), (4, .long y13)]) hx hb dX12_sure_73 rfl hl (by decide) rfl (fun ls hl => ?_)
        obtain ⟨t19, et19⟩ : ∃ z : Int32, z = (x3 + (1 : Int32)) := ⟨_, rfl⟩
        have hf := kl_e hf t19 et19
        refine lv_iinc (v := t19) (lv' := [(3, .int t19), (1, .long t18), (0, .ref q), (4, .long y13)]) hx hb dX12_sure_74 hl (k := 2) rfl (by rw [et19]; rfl) (by decide) rfl (fun ls hl => ?_)
        refine lv_goto (tgt := 6) hx hb dX12_sure_77 (by decide) ?_
        exact ih t18 t19 o0 hf hk0 _ _ _ hP hD hS (lv_sub hl [2, 1, 0] rfl)
  have hL82 : ∀ (x1 : Int64) (v_known : Int32) (v_kept : Int32) (v_seed : Int32) (v_written : Int32) (v_above : Int64) (v_below : Int64) (v_leftAbove : Int64) (v_leftBelow : Int64) (v_guessAbove : Int64) (v_guessBelow : Int64) (v_sign : Int32) (v_power2 : Int32) (v_bits : Int64) (v_w : (Nat → Int32)) (fu : Nat) (x3 : Int32) (o0 : Int32), L_X12_sure_82 F x1 v_w fu x3 = some o0 → (∀ (H : Heap) (locs : List Loc) (ls : Array Slot), va_P D vwCl [(q, .inr (11, [.ref q_w, .int v_known, .int v_kept, .int v_seed, .ref q_imageSeed, .ref q_bookOf, .ref q_bookAt, .ref q_bookIs, .int v_written, .ref q_rs, .ref q_cs, .long v_above, .long v_below, .ref q_zs, .long v_leftAbove, .long v_leftBelow, .long v_guessAbove, .long v_guessBelow, .int v_sign, .int v_power2, .long v_bits])), (q_w, .inl (cI, 418, .inl v_w))] H → va_D A [(q, .inr (11, [.ref q_w, .int v_known, .int v_kept, .int v_seed, .ref q_imageSeed, .ref q_bookOf, .ref q_bookAt, .ref q_bookIs, .int v_written, .ref q_rs, .ref q_cs, .long v_above, .long v_below, .ref q_zs, .long v_leftAbove, .long v_leftBelow, .long v_guessAbove, .long v_guessBelow, .int v_sign, .int v_power2, .long v_bits])), (q_w, .inl (cI, 418, .inl v_w))] → va_S A s.heap H locs → lv_has ls 7 [(3, .int o0)] → W p l e R s m args below meth c H locs 0 0 Q (F0 m 102 ls [])) → ∀ (H : Heap) (locs : List Loc) (ls : Array Slot), va_P D vwCl [(q, .inr (11, [.ref q_w, .int v_known, .int v_kept, .int v_seed, .ref q_imageSeed, .ref q_bookOf, .ref q_bookAt, .ref q_bookIs, .int v_written, .ref q_rs, .ref q_cs, .long v_above, .long v_below, .ref q_zs, .long v_leftAbove, .long v_leftBelow, .long v_guessAbove, .long v_guessBelow, .int v_sign, .int v_power2, .long v_bits])), (q_w, .inl (cI, 418, .inl v_w))] H → va_D A [(q, .inr (11, [.ref q_w, .int v_known, .int v_kept, .int v_seed, .ref q_imageSeed, .ref q_bookOf, .ref q_bookAt, .ref q_bookIs, .int v_written, .ref q_rs, .ref q_cs, .long v_above, .long v_below, .ref q_zs, .long v_leftAbove, .long v_leftBelow, .long v_guessAbove, .long v_guessBelow, .int v_sign, .int v_power2, .long v_bits])), (q_w, .inl (cI, 418, .inl v_w))] → va_S A s.heap H locs → lv_has ls 7 [(0, .ref q), (1, .long x1), (3, .int x3)] → W p l e R s m args below meth c H locs 0 0 Q (F0 m 82 ls []) := by
    intro x1 v_known v_kept v_seed v_written v_above v_below v_leftAbove v_leftBelow v_guessAbove v_guessBelow v_sign v_power2 v_bits v_w fu
    induction fu with
    | zero =>
      intro x3 o0 hf
      cases hf
    | succ fu ih =>
      intro x3 o0 hf hk0 H locs ls hP hD hS hl
      rw [L_X12_sure_82] at hf
      refine lv_aload_n hx hb dX12_sure_82 rfl (lv_at hl 0 rfl) ?_
      obtain ⟨r21, h22, hf⟩ := kb1_e hf
      refine k_gi (nW := 2) (ws' := [(q, .inr (11, [.ref q_w, .int v_known, .int v_kept, .int v_seed, .ref q_imageSeed, .ref q_bookOf, .ref q_bookAt, .ref q_bookIs, .int v_written, .ref q_rs, .ref q_cs, .long v_above, .long v_below, .ref q_zs, .long v_leftAbove, .long v_leftBelow, .long v_guessAbove, .long v_guessBelow, .int v_sign, .int v_power2, .long v_bits])), (q_w, .inl (cI, 418, .inl v_w))]) (wr := []) (k_runV (rest := []) hat hP hD hS hl.1 (c_X12_p q q_w q_imageSeed q_bookOf q_bookAt q_bookIs q_rs q_cs q_zs v_known v_kept v_seed v_written v_above v_below v_leftAbove v_leftBelow v_guessAbove v_guessBelow v_sign v_power2 v_bits v_w F r21 h22) [0, 1] (by decide) rfl kw916 kw918 kw20 kw79 kw919 kdVX12_p ⟨rfl, rfl⟩ (by rw [hR]; exact ⟨Nat.le_of_ble_eq_true rfl, Nat.le_of_ble_eq_true rfl⟩) ⟨Nat.zero_le _, Nat.zero_le _⟩ 0 11 rfl rfl rfl rfl (Nat.le_of_ble_eq_true rfl) dX12_sure_83) hat hP hD hS [0, 1] rfl [] rfl rfl rfl rfl rfl (by decide) (fun H locs hP hD hS => ?_)
      refine lv_i2l hx hb dX12_sure_86 rfl ?_
      refine lv_iload_n hx hb dX12_sure_87 rfl (lv_at hl 2 rfl) ?_
      obtain ⟨r23, h24, hf⟩ := kb1_e hf
      refine k_gl (nW := 2) (ws' := [(q, .inr (11, [.ref q_w, .int v_known, .int v_kept, .int v_seed, .ref q_imageSeed, .ref q_bookOf, .ref q_bookAt, .ref q_bookIs, .int v_written, .ref q_rs, .ref q_cs, .long v_above, .long v_below, .ref q_zs, .long v_leftAbove, .long v_leftBelow, .long v_guessAbove, .long v_guessBelow, .int v_sign, .int v_power2, .long v_bits])), (q_w, .inl (cI, 418, .inl v_w))]) (wr := [(q, .inr (11, [.ref q_w, .int v_known, .int v_kept, .int v_seed, .ref q_imageSeed, .ref q_bookOf, .ref q_bookAt, .ref q_bookIs, .int v_written, .ref q_rs, .ref q_cs, .long v_above, .long v_below, .ref q_zs, .long v_leftAbove, .long v_leftBelow, .long v_guessAbove, .long v_guessBelow, .int v_sign, .int v_power2, .long v_bits])), (q_w, .inl (cI, 418, .inl v_w))]) (k_runS (rest := []) hat hP hD hS hl.1 (c_X12_power F (r21.toInt64) x3 r23 h24) [] (by decide) rfl kw1025 kw1026 kw79 kw1027 kdX12_power ⟨rfl, rfl⟩ (by rw [hR]; exact ⟨Nat.le_of_ble_eq_true rfl, Nat.le_of_ble_eq_true rfl⟩) ⟨Nat.zero_le _, Nat.zero_le _⟩ rfl rfl (Nat.le_of_ble_eq_true rfl) dX12_sure_88) hat hP hD hS [] rfl [0, 1] rfl rfl rfl rfl rfl (by decide) (fun H locs hP hD hS => ?_)
      refine lv_lload_n hx hb dX12_sure_91 rfl (lv_at hl 1 rfl) ?_
      refine k_lcmp_gt (tgt := 102) hx hb dX12_sure_92 dX12_sure_93 (by decide) (fun c25 => ?_) (fun c25 => ?_)
      · have hf := kp_e hf c25
        obtain rfl := ki1 hf
        exact hk0 _ _ _ hP hD hS (lv_sub hl [2] rfl)
      · have hf := kn_e hf c25
        obtain ⟨t26, et26⟩ : ∃ z : Int32, z = (x3 + (1 : Int32)) := ⟨_, rfl⟩
        have hf := kl_e hf t26 et26
        refine lv_iinc (v := t26) (lv' := [(3, .int t26), (0, .ref q), (1, .long x1)]) hx hb dX12_sure_96 hl (k := 2) rfl (by rw [et26]; rfl) (by decide) rfl (fun ls hl => ?_)
        refine lv_goto (tgt := 82) hx hb dX12_sure_99 (by decide) ?_
        exact ih t26 o0 hf hk0 _ _ _ hP hD hS (lv_sub hl [1, 2, 0] rfl)
  unfold f_X12_sure at hf
  refine lv_ldc2 hx hb hown (hts _ kw1024) dX12_sure_0 ?_
  refine lv_lstore_n (lv' := [(1, .long (2 : Int64)), (0, .ref q)]) hx hb dX12_sure_3 rfl hl (by decide) rfl (fun ls hl => ?_)
  refine lv_iconst (v := 0) hx hb dX12_sure_4 (by decide) ?_
  refine lv_istore_n (lv' := [(3, .int (0 : Int32)), (1, .long (2 : Int64)), (0, .ref q)]) hx hb dX12_sure_5 rfl hl (by decide) rfl (fun ls hl => ?_)
  obtain ⟨y20, hu, hf⟩ := kb1_e hf
  refine hL6 v_known v_kept v_seed v_written v_above v_below v_leftAbove v_leftBelow v_guessAbove v_guessBelow v_sign v_power2 v_bits v_w F (2 : Int64) (0 : Int32) y20 hu (fun H locs ls hP hD hS hl => ?_) _ _ _ hP hD hS (lv_sub hl [2, 1, 0] rfl)
  refine lv_iconst (v := 1) hx hb dX12_sure_80 (by decide) ?_
  refine lv_istore_n (lv' := [(3, .int (1 : Int32)), (0, .ref q), (1, .long y20)]) hx hb dX12_sure_81 rfl hl (by decide) rfl (fun ls hl => ?_)
  obtain ⟨y27, hu, hf⟩ := kb1_e hf
  refine hL82 y20 v_known v_kept v_seed v_written v_above v_below v_leftAbove v_leftBelow v_guessAbove v_guessBelow v_sign v_power2 v_bits v_w F (1 : Int32) y27 hu (fun H locs ls hP hD hS hl => ?_) _ _ _ hP hD hS (lv_sub hl [1, 2, 0] rfl)
  refine lv_iload_n hx hb dX12_sure_102 rfl (lv_at hl 0 rfl) ?_
  obtain rfl := ki1 hf
  rw [hQ]
  exact k_iret hat hP hS rfl dX12_sure_103
set_option maxHeartbeats 4000000 in
set_option maxRecDepth 100000 in
theorem c_X12_allGuessed {l : Launch} {D : va_G} {cI cJ cQ : ClassId} {tp : Nat} (q : Nat) (q_w : Nat) (q_imageSeed : Nat) (q_bookOf : Nat) (q_bookAt : Nat) (q_bookIs : Nat) (q_rs : Nat) (q_cs : Nat) (q_zs : Nat) (v_known : Int32) (v_kept : Int32) (v_seed : Int32) (v_written : Int32) (v_above : Int64) (v_below : Int64) (v_leftAbove : Int64) (v_leftBelow : Int64) (v_guessAbove : Int64) (v_guessBelow : Int64) (v_sign : Int32) (v_power2 : Int32) (v_bits : Int64) (v_w : (Nat → Int32)) (v_rs : (Nat → Int32)) (v_cs : (Nat → Int32)) (F : Nat) (x1 : Int32) (x2 : Int32) (r0 : Int32) (o_v_above : Int64) (o_v_below : Int64) (o_v_guessAbove : Int64) (o_v_guessBelow : Int64) (o_v_rs : (Nat → Int32)) (o_v_cs : (Nat → Int32)) (hf : f_X12_allGuessed F v_above v_below v_guessAbove v_guessBelow v_w v_rs v_cs x1 x2 = some (r0, o_v_above, o_v_below, o_v_guessAbove, o_v_guessBelow, o_v_rs, o_v_cs)) : kM (fun A => kQi D A [(q, .inr (11, [.ref q_w, .int v_known, .int v_kept, .int v_seed, .ref q_imageSeed, .ref q_bookOf, .ref q_bookAt, .ref q_bookIs, .int v_written, .ref q_rs, .ref q_cs, .long o_v_above, .long o_v_below, .ref q_zs, .long v_leftAbove, .long v_leftBelow, .long o_v_guessAbove, .long o_v_guessBelow, .int v_sign, .int v_power2, .long v_bits])), (q_w, .inl (cI, 418, .inl v_w)), (q_rs, .inl (cI, 4, .inl o_v_rs)), (q_cs, .inl (cI, 4, .inl o_v_cs))] r0) (some .boolean) l yX12_allGuessed cX12_allGuessed 5 { frames := 12, cells := 0, slots := 0, locals := 322 } D cI cJ cQ tp [.ref q, .int x1, .int x2] [(q, .inr (11, [.ref q_w, .int v_known, .int v_kept, .int v_seed, .ref q_imageSeed, .ref q_bookOf, .ref q_bookAt, .ref q_bookIs, .int v_written, .ref q_rs, .ref q_cs, .long v_above, .long v_below, .ref q_zs, .long v_leftAbove, .long v_leftBelow, .long v_guessAbove, .long v_guessBelow, .int v_sign, .int v_power2, .long v_bits])), (q_w, .inl (cI, 418, .inl v_w)), (q_rs, .inl (cI, 4, .inl v_rs)), (q_cs, .inl (cI, 4, .inl v_cs))] := by
  refine kM_of (by decide +kernel) (Nat.le_of_ble_eq_true rfl) ?_
  intro p e s m args below meth c A ls R Q hR hQ hat hP hD hS hl
  obtain ⟨hx, hb, hr, hml, hown, hts, hT, hlk, hK, hA, hZ⟩ := id hat
  have hown : s.vm.findClass RX12 = some m.cls := hown
  have hl : lv_has ls 5 [(0, .ref q), (1, .int x1), (2, .int x2)] := hl
  have hL5 : ∀ (x1 : Int32) (x2 : Int32) (v_known : Int32) (v_kept : Int32) (v_seed : Int32) (v_written : Int32) (v_leftAbove : Int64) (v_leftBelow : Int64) (v_sign : Int32) (v_power2 : Int32) (v_bits : Int64) (v_w : (Nat → Int32)) (fu : Nat) (x3 : Int32) (x4 : Int32) (v_above : Int64) (v_below : Int64) (v_guessAbove : Int64) (v_guessBelow : Int64) (v_rs : (Nat → Int32)) (v_cs : (Nat → Int32)) (o0 : Int32) (o1 : Int64) (o2 : Int64) (o3 : Int64) (o4 : Int64) (o5 : (Nat → Int32)) (o6 : (Nat → Int32)), L_X12_allGuessed_5 F x1 x2 v_w fu x3 x4 v_above v_below v_guessAbove v_guessBelow v_rs v_cs = some (o0, o1, o2, o3, o4, o5, o6) → (∀ (H : Heap) (locs : List Loc) (ls : Array Slot), va_P D vwCl [(q, .inr (11, [.ref q_w, .int v_known, .int v_kept, .int v_seed, .ref q_imageSeed, .ref q_bookOf, .ref q_bookAt, .ref q_bookIs, .int v_written, .ref q_rs, .ref q_cs, .long o1, .long o2, .ref q_zs, .long v_leftAbove, .long v_leftBelow, .long o3, .long o4, .int v_sign, .int v_power2, .long v_bits])), (q_w, .inl (cI, 418, .inl v_w)), (q_rs, .inl (cI, 4, .inl o5)), (q_cs, .inl (cI, 4, .inl o6))] H → va_D A [(q, .inr (11, [.ref q_w, .int v_known, .int v_kept, .int v_seed, .ref q_imageSeed, .ref q_bookOf, .ref q_bookAt, .ref q_bookIs, .int v_written, .ref q_rs, .ref q_cs, .long o1, .long o2, .ref q_zs, .long v_leftAbove, .long v_leftBelow, .long o3, .long o4, .int v_sign, .int v_power2, .long v_bits])), (q_w, .inl (cI, 418, .inl v_w)), (q_rs, .inl (cI, 4, .inl o5)), (q_cs, .inl (cI, 4, .inl o6))] → va_S A s.heap H locs → lv_has ls 5 [(3, .int o0)] → W p l e R s m args below meth c H locs 0 0 Q (F0 m 84 ls [])) → ∀ (H : Heap) (locs : List Loc) (ls : Array Slot), va_P D vwCl [(q, .inr (11, [.ref q_w, .int v_known, .int v_kept, .int v_seed, .ref q_imageSeed, .ref q_bookOf, .ref q_bookAt, .ref q_bookIs, .int v_written, .ref q_rs, .ref q_cs, .long v_above, .long v_below, .ref q_zs, .long v_leftAbove, .long v_leftBelow, .long v_guessAbove, .long v_guessBelow, .int v_sign, .int v_power2, .long v_bits])), (q_w, .inl (cI, 418, .inl v_w)), (q_rs, .inl (cI, 4, .inl v_rs)), (q_cs, .inl (cI, 4, .inl v_cs))] H → va_D A [(q, .inr (11, [.ref q_w, .int v_known, .int v_kept, .int v_seed, .ref q_imageSeed, .ref q_bookOf, .ref q_bookAt, .ref q_bookIs, .int v_written, .ref q_rs, .ref q_cs, .long v_above, .long v_below, .ref q_zs, .long v_leftAbove, .long v_leftBelow, .long v_guessAbove, .long v_guessBelow, .int v_sign, .int v_power2, .long v_bits])), (q_w, .inl (cI, 418, .inl v_w)), (q_rs, .inl (cI, 4, .inl v_rs)), (q_cs, .inl (cI, 4, .inl v_cs))] → va_S A s.heap H locs → lv_has ls 5 [(0, .ref q), (1, .int x1), (2, .int x2), (3, .int x3), (4, .int x4)] → W p l e R s m args below meth c H locs 0 0 Q (F0 m 5 ls []) := by
    intro x1 x2 v_known v_kept v_seed v_written v_leftAbove v_leftBelow v_sign v_power2 v_bits v_w fu
    induction fu with
    | zero =>
      intro x3 x4 v_above v_below v_guessAbove v_guessBelow v_rs v_cs o0 o1 o2 o3 o4 o5 o6 hf
      cases hf
    | succ fu ih =>
      intro x3 x4 v_above v_below v_guessAbove v_guessBelow v_rs v_cs o0 o1 o2 o3 o4 o5 o6 hf hk0 H locs ls hP hD hS hl
      rw [L_X12_allGuessed_5] at hf
      refine lv_iload hx hb dX12_allGuessed_5 (lv_at hl 4 rfl) ?_
      refine lv_aload_n hx hb dX12_allGuessed_7 rfl (lv_at hl 0 rfl) ?_
      obtain ⟨r1, h2, hf⟩ := kb1_e hf
      refine k_gi (nW := 4) (ws' := [(q, .inr (11, [.ref q_w, .int v_known, .int v_kept, .int v_seed, .ref q_imageSeed, .ref q_bookOf, .ref q_bookAt, .ref q_bookIs, .int v_written, .ref q_rs, .ref q_cs, .long v_above, .long v_below, .ref q_zs, .long v_leftAbove, .long v_leftBelow, .long v_guessAbove, .long v_guessBelow, .int v_sign, .int v_power2, .long v_bits])), (q_w, .inl (cI, 418, .inl v_w)), (q_rs, .inl (cI, 4, .inl v_rs)), (q_cs, .inl (cI, 4, .inl v_cs))]) (wr := [(q_rs, .inl (cI, 4, .inl v_rs)), (q_cs, .inl (cI, 4, .inl v_cs))]) (k_runV (rest := [.int x4]) hat hP hD hS hl.1 (c_X12_n q q_w q_imageSeed q_bookOf q_bookAt q_bookIs q_rs q_cs q_zs v_known v_kept v_seed v_written v_above v_below v_leftAbove v_leftBelow v_guessAbove v_guessBelow v_sign v_power2 v_bits v_w r1 h2) [0, 1] (by decide) rfl kw912 kw914 kw19 kw79 kw915 kdVX12_n ⟨rfl, rfl⟩ (by rw [hR]; exact ⟨Nat.le_of_ble_eq_true rfl, Nat.le_of_ble_eq_true rfl⟩) ⟨Nat.zero_le _, Nat.zero_le _⟩ 0 11 rfl rfl rfl rfl (Nat.le_of_ble_eq_true rfl) dX12_allGuessed_8) hat hP hD hS [0, 1] rfl [2, 3] rfl rfl rfl rfl rfl (by decide) (fun H locs hP hD hS => ?_)
      refine lv_icmp_ge (tgt := 84) hx hb dX12_allGuessed_11 (by decide) (fun c3 => ?_) (fun c3 => ?_)
      · have hf := kp_e hf c3
        obtain ⟨rfl, rfl, rfl, rfl, rfl, rfl, rfl⟩ := ki7 hf
        exact hk0 _ _ _ hP hD hS (lv_sub hl [3] rfl)
      · have hf := kn_e hf c3
        refine lv_iload_n hx hb dX12_allGuessed_14 rfl (lv_at hl 3 rfl) ?_
        obtain ⟨J11, hJ11_, hf⟩ := kj7_e hf
        have hJ11 : ∀ (t4 : Int32) (w5 : Int64) (w6 : Int64) (w7 : Int64) (w8 : Int64) (w9 : (Nat → Int32)) (w10 : (Nat → Int32)), J11 t4 w5 w6 w7 w8 w9 w10 = some (o0, o1, o2, o3, o4, o5, o6) → ∀ (H : Heap) (locs : List Loc) (ls : Array Slot), va_P D vwCl [(q, .inr (11, [.ref q_w, .int v_known, .int v_kept, .int v_seed, .ref q_imageSeed, .ref q_bookOf, .ref q_bookAt, .ref q_bookIs, .int v_written, .ref q_rs, .ref q_cs, .long w5, .long w6, .ref q_zs, .long v_leftAbove, .long v_leftBelow, .long w7, .long w8, .int v_sign, .int v_power2, .long v_bits])), (q_w, .inl (cI, 418, .inl v_w)), (q_rs, .inl (cI, 4, .inl w9)), (q_cs, .inl (cI, 4, .inl w10))] H → va_D A [(q, .inr (11, [.ref q_w, .int v_known, .int v_kept, .int v_seed, .ref q_imageSeed, .ref q_bookOf, .ref q_bookAt, .ref q_bookIs, .int v_written, .ref q_rs, .ref q_cs, .long w5, .long w6, .ref q_zs, .long v_leftAbove, .long v_leftBelow, .long w7, .long w8, .int v_sign, .int v_power2, .long v_bits])), (q_w, .inl (cI, 418, .inl v_w)), (q_rs, .inl (cI, 4, .inl w9)), (q_cs, .inl (cI, 4, .inl w10))] → va_S A s.heap H locs → lv_has ls 5 [(0, .ref q), (1, .int x1), (2, .int x2), (4, .int x4)] → W p l e R s m args below meth c H locs 0 0 Q (F0 m 33 ls [.int t4]) := by
          intro t4 w5 w6 w7 w8 w9 w10 hf H locs ls hP hD hS hl
          rw [hJ11_] at hf
          refine lv_istore_n (lv' := [(3, .int t4), (0, .ref q), (1, .int x1), (2, .int x2), (4, .int x4)]) hx hb dX12_allGuessed_33 rfl hl (by decide) rfl (fun ls hl => ?_)
          refine lv_aload_n hx hb dX12_allGuessed_34 rfl (lv_at hl 1 rfl) ?_
          refine lv_iload hx hb dX12_allGuessed_35 (lv_at hl 4 rfl) ?_
          obtain ⟨w12, w13, w14, w15, h16, hf⟩ := kb4_e hf
          refine k_gv (nW := 4) (ws' := [(q, .inr (11, [.ref q_w, .int v_known, .int v_kept, .int v_seed, .ref q_imageSeed, .ref q_bookOf, .ref q_bookAt, .ref q_bookIs, .int v_written, .ref q_rs, .ref q_cs, .long w12, .long w13, .ref q_zs, .long v_leftAbove, .long v_leftBelow, .long w7, .long w8, .int v_sign, .int v_power2, .long v_bits])), (q_w, .inl (cI, 418, .inl v_w)), (q_rs, .inl (cI, 4, .inl w14)), (q_cs, .inl (cI, 4, .inl w15))]) (wr := []) (k_runV (rest := []) hat hP hD hS hl.1 (c_X12_laySolution q q_w q_imageSeed q_bookOf q_bookAt q_bookIs q_rs q_cs q_zs v_known v_kept v_seed v_written w5 w6 v_leftAbove v_leftBelow w7 w8 v_sign v_power2 v_bits v_w w9 w10 F x4 w12 w13 w14 w15 h16) [0, 1, 2, 3] (by decide) rfl kw1048 kw1050 kw47 kw79 kw1051 kdVX12_laySolution ⟨rfl, rfl⟩ (by rw [hR]; exact ⟨Nat.le_of_ble_eq_true rfl, Nat.le_of_ble_eq_true rfl⟩) ⟨Nat.zero_le _, Nat.zero_le _⟩ 0 11 rfl rfl rfl rfl (Nat.le_of_ble_eq_true rfl) dX12_allGuessed_37) hat hP hD hS [0, 1, 2, 3] rfl [] rfl rfl rfl rfl rfl (by decide) (fun H locs hP hD hS => ?_)
          refine lv_iload_n hx hb dX12_allGuessed_40 rfl (lv_at hl 0 rfl) ?_
          refine lv_if_eq (tgt := 76) hx hb dX12_allGuessed_41 (by decide) (fun c17 => ?_) (fun c17 => ?_)
          · have hf := kp_e hf c17
            refine lv_iconst (v := 0) hx hb dX12_allGuessed_76 (by decide) ?_
            refine lv_istore_n (lv' := [(3, .int (0 : Int32)), (0, .ref q), (1, .int x1), (2, .int x2), (4, .int x4)]) hx hb dX12_allGuessed_77 rfl hl (by decide) rfl (fun ls hl => ?_)
            obtain ⟨t18, et18⟩ : ∃ z : Int32, z = (x4 + (1 : Int32)) := ⟨_, rfl⟩
            have hf := kl_e hf t18 et18
            refine lv_iinc (v := t18) (lv' := [(4, .int t18), (3, .int (0 : Int32)), (0, .ref q), (1, .int x1), (2, .int x2)]) hx hb dX12_allGuessed_78 hl (k := 4) rfl (by rw [et18]; rfl) (by decide) rfl (fun ls hl => ?_)
            refine lv_goto (tgt := 5) hx hb dX12_allGuessed_81 (by decide) ?_
            exact ih (0 : Int32) t18 w12 w13 w7 w8 w14 w15 o0 o1 o2 o3 o4 o5 o6 hf hk0 _ _ _ hP hD hS (lv_sub hl [2, 3, 4, 1, 0] rfl)
          · have hf := kn_e hf c17
            refine lv_iload_n hx hb dX12_allGuessed_44 rfl (lv_at hl 3 rfl) ?_
            refine lv_if_eq (tgt := 72) hx hb dX12_allGuessed_45 (by decide) (fun c19 => ?_) (fun c19 => ?_)
            · have hf := kp_e hf c19
              refine lv_iconst (v := 1) hx hb dX12_allGuessed_72 (by decide) ?_
              refine lv_goto (tgt := 77) hx hb dX12_allGuessed_73 (by decide) ?_
              refine lv_istore_n (lv' := [(3, .int (1 : Int32)), (0, .ref q), (1, .int x1), (2, .int x2), (4, .int x4)]) hx hb dX12_allGuessed_77 rfl hl (by decide) rfl (fun ls hl => ?_)
              obtain ⟨t20, et20⟩ : ∃ z : Int32, z = (x4 + (1 : Int32)) := ⟨_, rfl⟩
              have hf := kl_e hf t20 et20
              refine lv_iinc (v := t20) (lv' := [(4, .int t20), (3, .int (1 : Int32)), (0, .ref q), (1, .int x1), (2, .int x2)]) hx hb dX12_allGuessed_78 hl (k := 4) rfl (by rw [et20]; rfl) (by decide) rfl (fun ls hl => ?_)
              refine lv_goto (tgt := 5) hx hb dX12_allGuessed_81 (by decide) ?_
              exact ih (1 : Int32) t20 w12 w13 w7 w8 w14 w15 o0 o1 o2 o3 o4 o5 o6 hf hk0 _ _ _ hP hD hS (lv_sub hl [2, 3, 4, 1, 0] rfl)
            · have hf := kn_e hf c19
              refine lv_aload_n hx hb dX12_allGuessed_48 rfl (lv_at hl 1 rfl) ?_
              refine va_get (D := D) (ci := 11) (v := .long w7) (C := RX12) (T := TX12) (N := 21) hx hb hts kinX12 hown hK hP 0 rfl rfl 16 (by decide) (hts _ kw860) (fun _ h9 => h9) rfl dX12_allGuessed_49 ?_
              refine lv_aload_n hx hb dX12_allGuessed_52 rfl (lv_at hl 1 rfl) ?_
              refine va_get (D := D) (ci := 11) (v := .long w12) (C := RX12) (T := TX12) (N := 21) hx hb hts kinX12 hown hK hP 0 rfl rfl 11 (by decide) (hts _ kw855) (fun _ h9 => h9) rfl dX12_allGuessed_53 ?_
              refine k_lcmp_ne (tgt := 76) hx hb dX12_allGuessed_56 dX12_allGuessed_57 (by decide) (fun c21 => ?_) (fun c21 => ?_)
              · have hf := kn_e hf c21
                refine lv_iconst (v := 0) hx hb dX12_allGuessed_76 (by decide) ?_
                refine lv_istore_n (lv' := [(3, .int (0 : Int32)), (0, .ref q), (1, .int x1), (2, .int x2), (4, .int x4)]) hx hb dX12_allGuessed_77 rfl hl (by decide) rfl (fun ls hl => ?_)
                obtain ⟨t22, et22⟩ : ∃ z : Int32, z = (x4 + (1 : Int32)) := ⟨_, rfl⟩
                have hf := kl_e hf t22 et22
                refine lv_iinc (v := t22) (lv' := [(4, .int t22), (3, .int (0 : Int32)), (0, .ref q), (1, .int x1), (2, .int x2)]) hx hb dX12_allGuessed_78 hl (k := 4) rfl (by rw [et22]; rfl) (by decide) rfl (fun ls hl => ?_)
                refine lv_goto (tgt := 5) hx hb dX12_allGuessed_81 (by decide) ?_
                exact ih (0 : Int32) t22 w12 w13 w7 w8 w14 w15 o0 o1 o2 o3 o4 o5 o6 hf hk0 _ _ _ hP hD hS (lv_sub hl [2, 3, 4, 1, 0] rfl)
              · have hf := kp_e hf c21
                refine lv_aload_n hx hb dX12_allGuessed_60 rfl (lv_at hl 1 rfl) ?_
                refine va_get (D := D) (ci := 11) (v := .long w8) (C := RX12) (T := TX12) (N := 21) hx hb hts kinX12 hown hK hP 0 rfl rfl 17 (by decide) (hts _ kw861) (fun _ h9 => h9) rfl dX12_allGuessed_61 ?_
                refine lv_aload_n hx hb dX12_allGuessed_64 rfl (lv_at hl 1 rfl) ?_
                refine va_get (D := D) (ci := 11) (v := .long w13) (C := RX12) (T := TX12) (N := 21) hx hb hts kinX12 hown hK hP 0 rfl rfl 12 (by decide) (hts _ kw856) (fun _ h9 => h9) rfl dX12_allGuessed_65 ?_
                refine k_lcmp_ne (tgt := 76) hx hb dX12_allGuessed_68 dX12_allGuessed_69 (by decide) (fun c23 => ?_) (fun c23 => ?_)
                · have hf := kn_e hf c23
                  refine lv_iconst (v := 0) hx hb dX12_allGuessed_76 (by decide) ?_
                  refine lv_istore_n (lv' := [(3, .int (0 : Int32)), (0, .ref q), (1, .int x1), (2, .int x2), (4, .int x4)]) hx hb dX12_allGuessed_77 rfl hl (by decide) rfl (fun ls hl => ?_)
                  obtain ⟨t24, et24⟩ : ∃ z : Int32, z = (x4 + (1 : Int32)) := ⟨_, rfl⟩
                  have hf := kl_e hf t24 et24
                  refine lv_iinc (v := t24) (lv' := [(4, .int t24), (3, .int (0 : Int32)), (0, .ref q), (1, .int x1), (2, .int x2)]) hx hb dX12_allGuessed_78 hl (k := 4) rfl (by rw [et24]; rfl) (by decide) rfl (fun ls hl => ?_)
                  refine lv_goto (tgt := 5) hx hb dX12_allGuessed_81 (by decide) ?_
                  exact ih (0 : Int32) t24 w12 w13 w7 w8 w14 w15 o0 o1 o2 o3 o4 o5 o6 hf hk0 _ _ _ hP hD hS (lv_sub hl [2, 3, 4, 1, 0] rfl)
                · have hf := kp_e hf c23
                  refine lv_iconst (v := 1) hx hb dX12_allGuessed_72 (by decide) ?_
                  refine lv_goto (tgt := 77) hx hb dX12_allGuessed_73 (by decide) ?_
                  refine lv_istore_n (lv' := [(3, .int (1 : Int32)), (0, .ref q), (1, .int x1), (2, .int x2), (4, .int x4)]) hx hb dX12_allGuessed_77 rfl hl (by decide) rfl (fun ls hl => ?_)
                  obtain ⟨t25, et25⟩ : ∃ z : Int32, z = (x4 + (1 : Int32)) := ⟨_, rfl⟩
                  have hf := kl_e hf t25 et25
                  refine lv_iinc (v := t25) (lv' := [(4, .int t25), (3, .int (1 : Int32)), (0, .ref q), (1, .int x1), (2, .int x2)]) hx hb dX12_allGuessed_78 hl (k := 4) rfl (by rw [et25]; rfl) (by decide) rfl (fun ls hl => ?_)
                  refine lv_goto (tgt := 5) hx hb dX12_allGuessed_81 (by decide) ?_
                  exact ih (1 : Int32) t25 w12 w13 w7 w8 w14 w15 o0 o1 o2 o3 o4 o5 o6 hf hk0 _ _ _ hP hD hS (lv_sub hl [2, 3, 4, 1, 0] rfl)
        obtain ⟨J32, hJ32_, hf⟩ := kj6_e hf
        have hJ32 : ∀ (w26 : Int64) (w27 : Int64) (w28 : Int64) (w29 : Int64) (w30 : (Nat → Int32)) (w31 : (Nat → Int32)), J32 w26 w27 w28 w29 w30 w31 = some (o0, o1, o2, o3, o4, o5, o6) → ∀ (H : Heap) (locs : List Loc) (ls : Array Slot), va_P D vwCl [(q, .inr (11, [.ref q_w, .int v_known, .int v_kept, .int v_seed, .ref q_imageSeed, .ref q_bookOf, .ref q_bookAt, .ref q_bookIs, .int v_written, .ref q_rs, .ref q_cs, .long w26, .long w27, .ref q_zs, .long v_leftAbove, .long v_leftBelow, .long w28, .long w29, .int v_sign, .int v_power2, .long v_bits])), (q_w, .inl (cI, 418, .inl v_w)), (q_rs, .inl (cI, 4, .inl w30)), (q_cs, .inl (cI, 4, .inl w31))] H → va_D A [(q, .inr (11, [.ref q_w, .int v_known, .int v_kept, .int v_seed, .ref q_imageSeed, .ref q_bookOf, .ref q_bookAt, .ref q_bookIs, .int v_written, .ref q_rs, .ref q_cs, .long w26, .long w27, .ref q_zs, .long v_leftAbove, .long v_leftBelow, .long w28, .long w29, .int v_sign, .int v_power2, .long v_bits])), (q_w, .inl (cI, 418, .inl v_w)), (q_rs, .inl (cI, 4, .inl w30)), (q_cs, .inl (cI, 4, .inl w31))] → va_S A s.heap H locs → lv_has ls 5 [(0, .ref q), (1, .int x1), (2, .int x2), (4, .int x4)] → W p l e R s m args below meth c H locs 0 0 Q (F0 m 32 ls []) := by
          intro w26 w27 w28 w29 w30 w31 hf H locs ls hP hD hS hl
          rw [hJ32_] at hf
          refine lv_iconst (v := 0) hx hb dX12_allGuessed_32 (by decide) ?_
          exact hJ11 (0 : Int32) w26 w27 w28 w29 w30 w31 hf _ _ _ hP hD hS hl
        refine lv_if_eq (tgt := 32) hx hb dX12_allGuessed_15 (by decide) (fun c33 => ?_) (fun c33 => ?_)
        · have hf := kp_e hf c33
          exact hJ32 v_above v_below v_guessAbove v_guessBelow v_rs v_cs hf _ _ _ hP hD hS (lv_sub hl [0, 1, 2, 4] rfl)
        · have hf := kn_e hf c33
          refine lv_aload_n hx hb dX12_allGuessed_18 rfl (lv_at hl 0 rfl) ?_
          refine lv_iload hx hb dX12_allGuessed_19 (lv_at hl 4 rfl) ?_
          refine lv_iload_n hx hb dX12_allGuessed_21 rfl (lv_at hl 1 rfl) ?_
          obtain ⟨r34, w35, w36, w37, w38, w39, w40, h41, hf⟩ := kb7_e hf
          refine k_gi (nW := 4) (ws' := [(q, .inr (11, [.ref q_w, .int v_known, .int v_kept, .int v_seed, .ref q_imageSeed, .ref q_bookOf, .ref q_bookAt, .ref q_bookIs, .int v_written, .ref q_rs, .ref q_cs, .long w35, .long w36, .ref q_zs, .long v_leftAbove, .long v_leftBelow, .long w37, .long w38, .int v_sign, .int v_power2, .long v_bits])), (q_w, .inl (cI, 418, .inl v_w)), (q_rs, .inl (cI, 4, .inl w39)), (q_cs, .inl (cI, 4, .inl w40))]) (wr := []) (k_runV (rest := []) hat hP hD hS hl.1 (c_X12_layGuess q q_w q_imageSeed q_bookOf q_bookAt q_bookIs q_rs q_cs q_zs v_known v_kept v_seed v_written v_above v_below v_leftAbove v_leftBelow v_guessAbove v_guessBelow v_sign v_power2 v_bits v_w v_rs v_cs F x4 x1 r34 w35 w36 w37 w38 w39 w40 h41) [0, 1, 2, 3] (by decide) rfl kw1037 kw1039 kw45 kw79 kw1040 kdVX12_layGuess ⟨rfl, rfl⟩ (by rw [hR]; exact ⟨Nat.le_of_ble_eq_true rfl, Nat.le_of_ble_eq_true rfl⟩) ⟨Nat.zero_le _, Nat.zero_le _⟩ 0 11 rfl rfl rfl rfl (Nat.le_of_ble_eq_true rfl) dX12_allGuessed_22) hat hP hD hS [0, 1, 2, 3] rfl [] rfl rfl rfl rfl rfl (by decide) (fun H locs hP hD hS => ?_)
          refine lv_if_eq (tgt := 32) hx hb dX12_allGuessed_25 (by decide) (fun c42 => ?_) (fun c42 => ?_)
          · have hf := kp_e hf c42
            exact hJ32 w35 w36 w37 w38 w39 w40 hf _ _ _ hP hD hS (lv_sub hl [0, 1, 2, 4] rfl)
          · have hf := kn_e hf c42
            refine lv_iconst (v := 1) hx hb dX12_allGuessed_28 (by decide) ?_
            refine lv_goto (tgt := 33) hx hb dX12_allGuessed_29 (by decide) ?_
            exact hJ11 (1 : Int32) w35 w36 w37 w38 w39 w40 hf _ _ _ hP hD hS (lv_sub hl [0, 1, 2, 4] rfl)
  unfold f_X12_allGuessed at hf
  refine lv_iconst (v := 1) hx hb dX12_allGuessed_0 (by decide) ?_
  refine lv_istore_n (lv' := [(3, .int (1 : Int32)), (0, .ref q), (1, .int x1), (2, .int x2)]) hx hb dX12_allGuessed_1 rfl hl (by decide) rfl (fun ls hl => ?_)
  refine lv_iconst (v := 0) hx hb dX12_allGuessed_2 (by decide) ?_
  refine lv_istore (lv' := [(4, .int (0 : Int32)), (3, .int (1 : Int32)), (0, .ref q), (1, .int x1), (2, .int x2)]) hx hb dX12_allGuessed_3 hl (by decide) rfl (fun ls hl => ?_)
  obtain ⟨y43, w44, w45, w46, w47, w48, w49, hu, hf⟩ := kb7_e hf
  refine hL5 x1 x2 v_known v_kept v_seed v_written v_leftAbove v_leftBelow v_sign v_power2 v_bits v_w F (1 : Int32) (0 : Int32) v_above v_below v_guessAbove v_guessBelow v_rs v_cs y43 w44 w45 w46 w47 w48 w49 hu (fun H locs ls hP hD hS hl => ?_) _ _ _ hP hD hS (lv_sub hl [2, 3, 4, 1, 0] rfl)
  refine lv_iload_n hx hb dX12_allGuessed_84 rfl (lv_at hl 0 rfl) ?_
  obtain ⟨c50, hf⟩ := kc_e hf
  obtain ⟨rfl, rfl, rfl, rfl, rfl, rfl, rfl⟩ := ki7 hf
  rw [hQ]
  exact k_zret hat hP hS rfl c50 dX12_allGuessed_85
set_option maxHeartbeats 4000000 in
set_option maxRecDepth 100000 in
theorem c_X12_early {l : Launch} {D : va_G} {cI cJ cQ : ClassId} {tp : Nat} (q : Nat) (q_w : Nat) (q_imageSeed : Nat) (q_bookOf : Nat) (q_bookAt : Nat) (q_bookIs : Nat) (q_rs : Nat) (q_cs : Nat) (q_zs : Nat) (v_known : Int32) (v_kept : Int32) (v_seed : Int32) (v_written : Int32) (v_above : Int64) (v_below : Int64) (v_leftAbove : Int64) (v_leftBelow : Int64) (v_guessAbove : Int64) (v_guessBelow : Int64) (v_sign : Int32) (v_power2 : Int32) (v_bits : Int64) (v_w : (Nat → Int32)) (v_rs : (Nat → Int32)) (v_cs : (Nat → Int32)) (F : Nat) (r0 : Int32) (o_v_above : Int64) (o_v_below : Int64) (o_v_guessAbove : Int64) (o_v_guessBelow : Int64) (o_v_rs : (Nat → Int32)) (o_v_cs : (Nat → Int32)) (hf : f_X12_early F v_above v_below v_guessAbove v_guessBelow v_w v_rs v_cs = some (r0, o_v_above, o_v_below, o_v_guessAbove, o_v_guessBelow, o_v_rs, o_v_cs)) : kM (fun A => kQi D A [(q, .inr (11, [.ref q_w, .int v_known, .int v_kept, .int v_seed, .ref q_imageSeed, .ref q_bookOf, .ref q_bookAt, .ref q_bookIs, .int v_written, .ref q_rs, .ref q_cs, .long o_v_above, .long o_v_below, .ref q_zs, .long v_leftAbove, .long v_leftBelow, .long o_v_guessAbove, .long o_v_guessBelow, .int v_sign, .int v_power2, .long v_bits])), (q_w, .inl (cI, 418, .inl v_w)), (q_rs, .inl (cI, 4, .inl o_v_rs)), (q_cs, .inl (cI, 4, .inl o_v_cs))] r0) (some .int) l yX12_early cX12_early 2 { frames := 13, cells := 0, slots := 0, locals := 346 } D cI cJ cQ tp [.ref q] [(q, .inr (11, [.ref q_w, .int v_known, .int v_kept, .int v_seed, .ref q_imageSeed, .ref q_bookOf, .ref q_bookAt, .ref q_bookIs, .int v_written, .ref q_rs, .ref q_cs, .long v_above, .long v_below, .ref q_zs, .long v_leftAbove, .long v_leftBelow, .long v_guessAbove, .long v_guessBelow, .int v_sign, .int v_power2, .long v_bits])), (q_w, .inl (cI, 418, .inl v_w)), (q_rs, .inl (cI, 4, .inl v_rs)), (q_cs, .inl (cI, 4, .inl v_cs))] := by
  refine kM_of (by decide +kernel) (Nat.le_of_ble_eq_true rfl) ?_
  intro p e s m args below meth c A ls R Q hR hQ hat hP hD hS hl
  obtain ⟨hx, hb, hr, hml, hown, hts, hT, hlk, hK, hA, hZ⟩ := id hat
  have hown : s.vm.findClass RX12 = some m.cls := hown
  have hl : lv_has ls 2 [(0, .ref q)] := hl
  have hL2 : ∀ (v_known : Int32) (v_kept : Int32) (v_seed : Int32) (v_written : Int32) (v_leftAbove : Int64) (v_leftBelow : Int64) (v_sign : Int32) (v_power2 : Int32) (v_bits : Int64) (v_w : (Nat → Int32)) (fu : Nat) (x1 : Int32) (v_above : Int64) (v_below : Int64) (v_guessAbove : Int64) (v_guessBelow : Int64) (v_rs : (Nat → Int32)) (v_cs : (Nat → Int32)) (o0 : Int32) (o1 : Int64) (o2 : Int64) (o3 : Int64) (o4 : Int64) (o5 : (Nat → Int32)) (o6 : (Nat → Int32)), L_X12_early_2 F v_w fu x1 v_above v_below v_guessAbove v_guessBelow v_rs v_cs = some (o0, o1, o2, o3, o4, o5, o6) → (∀ (H : Heap) (locs : List Loc) (ls : Array Slot), va_P D vwCl [(q, .inr (11, [.ref q_w, .int v_known, .int v_kept, .int v_seed, .ref q_imageSeed, .ref q_bookOf, .ref q_bookAt, .ref q_bookIs, .int v_written, .ref q_rs, .ref q_cs, .long o1, .long o2, .ref q_zs, .long v_leftAbove, .long v_leftBelow, .long o3, .long o4, .int v_sign, .int v_power2, .long v_bits])), (q_w, .inl (cI, 418, .inl v_w)), (q_rs, .inl (cI, 4, .inl o5)), (q_cs, .inl (cI, 4, .inl o6))] H → va_D A [(q, .inr (11, [.ref q_w, .int v_known, .int v_kept, .int v_seed, .ref q_imageSeed, .ref q_bookOf, .ref q_bookAt, .ref q_bookIs, .int v_written, .ref q_rs, .ref q_cs, .long o1, .long o2, .ref q_zs, .long v_leftAbove, .long v_leftBelow, .long o3, .long o4, .int v_sign, .int v_power2, .long v_bits])), (q_w, .inl (cI, 418, .inl v_w)), (q_rs, .inl (cI, 4, .inl o5)), (q_cs, .inl (cI, 4, .inl o6))] → va_S A s.heap H locs → lv_has ls 2 [(1, .int o0)] → W p l e R s m args below meth c H locs 0 0 Q (F0 m 17 ls [])) → ∀ (H : Heap) (locs : List Loc) (ls : Array Slot), va_P D vwCl [(q, .inr (11, [.ref q_w, .int v_known, .int v_kept, .int v_seed, .ref q_imageSeed, .ref q_bookOf, .ref q_bookAt, .ref q_bookIs, .int v_written, .ref q_rs, .ref q_cs, .long v_above, .long v_below, .ref q_zs, .long v_leftAbove, .long v_leftBelow, .long v_guessAbove, .long v_guessBelow, .int v_sign, .int v_power2, .long v_bits])), (q_w, .inl (cI, 418, .inl v_w)), (q_rs, .inl (cI, 4, .inl v_rs)), (q_cs, .inl (cI, 4, .inl v_cs))] H → va_D A [(q, .inr (11, [.ref q_w, .int v_known, .int v_kept, .int v_seed, .ref q_imageSeed, .ref q_bookOf, .ref q_bookAt, .ref q_bookIs, .int v_written, .ref q_rs, .ref q_cs, .long v_above, .long v_below, .ref q_zs, .long v_leftAbove, .long v_leftBelow, .long v_guessAbove, .long v_guessBelow, .int v_sign, .int v_power2, .long v_bits])), (q_w, .inl (cI, 418, .inl v_w)), (q_rs, .inl (cI, 4, .inl v_rs)), (q_cs, .inl (cI, 4, .inl v_cs))] → va_S A s.heap H locs → lv_has ls 2 [(0, .ref q), (1, .int x1)] → W p l e R s m args below meth c H locs 0 0 Q (F0 m 2 ls []) := by
    intro v_known v_kept v_seed v_written v_leftAbove v_leftBelow v_sign v_power2 v_bits v_w fu
    induction fu with
    | zero =>
      intro x1 v_above v_below v_guessAbove v_guessBelow v_rs v_cs o0 o1 o2 o3 o4 o5 o6 hf
      cases hf
    | succ fu ih =>
      intro x1 v_above v_below v_guessAbove v_guessBelow v_rs v_cs o0 o1 o2 o3 o4 o5 o6 hf hk0 H locs ls hP hD hS hl
      rw [L_X12_early_2] at hf
      refine lv_aload_n hx hb dX12_early_2 rfl (lv_at hl 0 rfl) ?_
      refine lv_iload_n hx hb dX12_early_3 rfl (lv_at hl 1 rfl) ?_
      refine lv_iconst (v := 1) hx hb dX12_early_4 (by decide) ?_
      obtain ⟨r1, w2, w3, w4, w5, w6, w7, h8, hf⟩ := kb7_e hf
      refine k_gi (nW := 4) (ws' := [(q, .inr (11, [.ref q_w, .int v_known, .int v_kept, .int v_seed, .ref q_imageSeed, .ref q_bookOf, .ref q_bookAt, .ref q_bookIs, .int v_written, .ref q_rs, .ref q_cs, .long w2, .long w3, .ref q_zs, .long v_leftAbove, .long v_leftBelow, .long w4, .long w5, .int v_sign, .int v_power2, .long v_bits])), (q_w, .inl (cI, 418, .inl v_w)), (q_rs, .inl (cI, 4, .inl w6)), (q_cs, .inl (cI, 4, .inl w7))]) (wr := []) (k_runV (rest := []) hat hP hD hS hl.1 (c_X12_allGuessed q q_w q_imageSeed q_bookOf q_bookAt q_bookIs q_rs q_cs q_zs v_known v_kept v_seed v_written v_above v_below v_leftAbove v_leftBelow v_guessAbove v_guessBelow v_sign v_power2 v_bits v_w v_rs v_cs F x1 (1 : Int32) r1 w2 w3 w4 w5 w6 w7 h8) [0, 1, 2, 3] (by decide) rfl kw1033 kw1035 kw44 kw79 kw1036 kdVX12_allGuessed ⟨rfl, rfl⟩ (by rw [hR]; exact ⟨Nat.le_of_ble_eq_true rfl, Nat.le_of_ble_eq_true rfl⟩) ⟨Nat.zero_le _, Nat.zero_le _⟩ 0 11 rfl rfl rfl rfl (Nat.le_of_ble_eq_true rfl) dX12_early_5) hat hP hD hS [0, 1, 2, 3] rfl [] rfl rfl rfl rfl rfl (by decide) (fun H locs hP hD hS => ?_)
      refine lv_if_ne (tgt := 17) hx hb dX12_early_8 (by decide) (fun c9 => ?_) (fun c9 => ?_)
      · have hf := kn_e hf c9
        obtain ⟨rfl, rfl, rfl, rfl, rfl, rfl, rfl⟩ := ki7 hf
        exact hk0 _ _ _ hP hD hS (lv_sub hl [1] rfl)
      · have hf := kp_e hf c9
        obtain ⟨t10, et10⟩ : ∃ z : Int32, z = (x1 + (1 : Int32)) := ⟨_, rfl⟩
        have hf := kl_e hf t10 et10
        refine lv_iinc (v := t10) (lv' := [(1, .int t10), (0, .ref q)]) hx hb dX12_early_11 hl (k := 1) rfl (by rw [et10]; rfl) (by decide) rfl (fun ls hl => ?_)
        refine lv_goto (tgt := 2) hx hb dX12_early_14 (by decide) ?_
        exact ih t10 w2 w3 w4 w5 w6 w7 o0 o1 o2 o3 o4 o5 o6 hf hk0 _ _ _ hP hD hS (lv_sub hl [1, 0] rfl)
  unfold f_X12_early at hf
  refine lv_iconst (v := 1) hx hb dX12_early_0 (by decide) ?_
  refine lv_istore_n (lv' := [(1, .int (1 : Int32)), (0, .ref q)]) hx hb dX12_early_1 rfl hl (by decide) rfl (fun ls hl => ?_)
  obtain ⟨y11, w12, w13, w14, w15, w16, w17, hu, hf⟩ := kb7_e hf
  refine hL2 v_known v_kept v_seed v_written v_leftAbove v_leftBelow v_sign v_power2 v_bits v_w F (1 : Int32) v_above v_below v_guessAbove v_guessBelow v_rs v_cs y11 w12 w13 w14 w15 w16 w17 hu (fun H locs ls hP hD hS hl => ?_) _ _ _ hP hD hS (lv_sub hl [1, 0] rfl)
  refine lv_iload_n hx hb dX12_early_17 rfl (lv_at hl 0 rfl) ?_
  obtain ⟨rfl, rfl, rfl, rfl, rfl, rfl, rfl⟩ := ki7 hf
  rw [hQ]
  exact k_iret hat hP hS rfl dX12_early_18
set_option maxHeartbeats 4000000 in
set_option maxRecDepth 100000 in
theorem c_X12_tooSoon {l : Launch} {D : va_G} {cI cJ cQ : ClassId} {tp : Nat} (q : Nat) (q_w : Nat) (q_imageSeed : Nat) (q_bookOf : Nat) (q_bookAt : Nat) (q_bookIs : Nat) (q_rs : Nat) (q_cs : Nat) (q_zs : Nat) (v_known : Int32) (v_kept : Int32) (v_seed : Int32) (v_written : Int32) (v_above : Int64) (v_below : Int64) (v_leftAbove : Int64) (v_leftBelow : Int64) (v_guessAbove : Int64) (v_guessBelow : Int64) (v_sign : Int32) (v_power2 : Int32) (v_bits : Int64) (v_w : (Nat → Int32)) (v_rs : (Nat → Int32)) (v_cs : (Nat → Int32)) (F : Nat) (r0 : Int32) (o_v_above : Int64) (o_v_below : Int64) (o_v_guessAbove : Int64) (o_v_guessBelow : Int64) (o_v_rs : (Nat → Int32)) (o_v_cs : (Nat → Int32)) (hf : f_X12_tooSoon F v_above v_below v_guessAbove v_guessBelow v_w v_rs v_cs = some (r0, o_v_above, o_v_below, o_v_guessAbove, o_v_guessBelow, o_v_rs, o_v_cs)) : kM (fun A => kQi D A [(q, .inr (11, [.ref q_w, .int v_known, .int v_kept, .int v_seed, .ref q_imageSeed, .ref q_bookOf, .ref q_bookAt, .ref q_bookIs, .int v_written, .ref q_rs, .ref q_cs, .long o_v_above, .long o_v_below, .ref q_zs, .long v_leftAbove, .long v_leftBelow, .long o_v_guessAbove, .long o_v_guessBelow, .int v_sign, .int v_power2, .long v_bits])), (q_w, .inl (cI, 418, .inl v_w)), (q_rs, .inl (cI, 4, .inl o_v_rs)), (q_cs, .inl (cI, 4, .inl o_v_cs))] r0) (some .int) l yX12_tooSoon cX12_tooSoon 4 { frames := 14, cells := 0, slots := 0, locals := 367 } D cI cJ cQ tp [.ref q] [(q, .inr (11, [.ref q_w, .int v_known, .int v_kept, .int v_seed, .ref q_imageSeed, .ref q_bookOf, .ref q_bookAt, .ref q_bookIs, .int v_written, .ref q_rs, .ref q_cs, .long v_above, .long v_below, .ref q_zs, .long v_leftAbove, .long v_leftBelow, .long v_guessAbove, .long v_guessBelow, .int v_sign, .int v_power2, .long v_bits])), (q_w, .inl (cI, 418, .inl v_w)), (q_rs, .inl (cI, 4, .inl v_rs)), (q_cs, .inl (cI, 4, .inl v_cs))] := by
  refine kM_of (by decide +kernel) (Nat.le_of_ble_eq_true rfl) ?_
  intro p e s m args below meth c A ls R Q hR hQ hat hP hD hS hl
  obtain ⟨hx, hb, hr, hml, hown, hts, hT, hlk, hK, hA, hZ⟩ := id hat
  have hown : s.vm.findClass RX12 = some m.cls := hown
  have hl : lv_has ls 4 [(0, .ref q)] := hl
  have hL9 : ∀ (x2 : Int32) (v_known : Int32) (v_kept : Int32) (v_seed : Int32) (v_written : Int32) (v_leftAbove : Int64) (v_leftBelow : Int64) (v_sign : Int32) (v_power2 : Int32) (v_bits : Int64) (v_w : (Nat → Int32)) (fu : Nat) (x1 : Int32) (x3 : Int32) (v_above : Int64) (v_below : Int64) (v_guessAbove : Int64) (v_guessBelow : Int64) (v_rs : (Nat → Int32)) (v_cs : (Nat → Int32)) (o0 : Int32) (o1 : Int64) (o2 : Int64) (o3 : Int64) (o4 : Int64) (o5 : (Nat → Int32)) (o6 : (Nat → Int32)), L_X12_tooSoon_9 F x2 v_w fu x1 x3 v_above v_below v_guessAbove v_guessBelow v_rs v_cs = some (o0, o1, o2, o3, o4, o5, o6) → (∀ (H : Heap) (locs : List Loc) (ls : Array Slot), va_P D vwCl [(q, .inr (11, [.ref q_w, .int v_known, .int v_kept, .int v_seed, .ref q_imageSeed, .ref q_bookOf, .ref q_bookAt, .ref q_bookIs, .int v_written, .ref q_rs, .ref q_cs, .long o1, .long o2, .ref q_zs, .long v_leftAbove, .long v_leftBelow, .long o3, .long o4, .int v_sign, .int v_power2, .long v_bits])), (q_w, .inl (cI, 418, .inl v_w)), (q_rs, .inl (cI, 4, .inl o5)), (q_cs, .inl (cI, 4, .inl o6))] H → va_D A [(q, .inr (11, [.ref q_w, .int v_known, .int v_kept, .int v_seed, .ref q_imageSeed, .ref q_bookOf, .ref q_bookAt, .ref q_bookIs, .int v_written, .ref q_rs, .ref q_cs, .long o1, .long o2, .ref q_zs, .long v_leftAbove, .long v_leftBelow, .long o3, .long o4, .int v_sign, .int v_power2, .long v_bits])), (q_w, .inl (cI, 418, .inl v_w)), (q_rs, .inl (cI, 4, .inl o5)), (q_cs, .inl (cI, 4, .inl o6))] → va_S A s.heap H locs → lv_has ls 4 [(1, .int o0)] → W p l e R s m args below meth c H locs 0 0 Q (F0 m 37 ls [])) → ∀ (H : Heap) (locs : List Loc) (ls : Array Slot), va_P D vwCl [(q, .inr (11, [.ref q_w, .int v_known, .int v_kept, .int v_seed, .ref q_imageSeed, .ref q_bookOf, .ref q_bookAt, .ref q_bookIs, .int v_written, .ref q_rs, .ref q_cs, .long v_above, .long v_below, .ref q_zs, .long v_leftAbove, .long v_leftBelow, .long v_guessAbove, .long v_guessBelow, .int v_sign, .int v_power2, .long v_bits])), (q_w, .inl (cI, 418, .inl v_w)), (q_rs, .inl (cI, 4, .inl v_rs)), (q_cs, .inl (cI, 4, .inl v_cs))] H → va_D A [(q, .inr (11, [.ref q_w, .int v_known, .int v_kept, .int v_seed, .ref q_imageSeed, .ref q_bookOf, .ref q_bookAt, .ref q_bookIs, .int v_written, .ref q_rs, .ref q_cs, .long v_above, .long v_below, .ref q_zs, .long v_leftAbove, .long v_leftBelow, .long v_guessAbove, .long v_guessBelow, .int v_sign, .int v_power2, .long v_bits])), (q_w, .inl (cI, 418, .inl v_w)), (q_rs, .inl (cI, 4, .inl v_rs)), (q_cs, .inl (cI, 4, .inl v_cs))] → va_S A s.heap H locs → lv_has ls 4 [(0, .ref q), (1, .int x1), (2, .int x2), (3, .int x3)] → W p l e R s m args below meth c H locs 0 0 Q (F0 m 9 ls []) := by
    intro x2 v_known v_kept v_seed v_written v_leftAbove v_leftBelow v_sign v_power2 v_bits v_w fu
    induction fu with
    | zero =>
      intro x1 x3 v_above v_below v_guessAbove v_guessBelow v_rs v_cs o0 o1 o2 o3 o4 o5 o6 hf
      cases hf
    | succ fu ih =>
      intro x1 x3 v_above v_below v_guessAbove v_guessBelow v_rs v_cs o0 o1 o2 o3 o4 o5 o6 hf hk0 H locs ls hP hD hS hl
      rw [L_X12_tooSoon_9] at hf
      refine lv_iload_n hx hb dX12_tooSoon_9 rfl (lv_at hl 3 rfl) ?_
      refine lv_iload_n hx hb dX12_tooSoon_10 rfl (lv_at hl 2 rfl) ?_
      refine lv_icmp_ge (tgt := 37) hx hb dX12_tooSoon_11 (by decide) (fun c9 => ?_) (fun c9 => ?_)
      · have hf := kp_e hf c9
        obtain ⟨rfl, rfl, rfl, rfl, rfl, rfl, rfl⟩ := ki7 hf
        exact hk0 _ _ _ hP hD hS (lv_sub hl [1] rfl)
      · have hf := kn_e hf c9
        refine lv_iload_n hx hb dX12_tooSoon_14 rfl (lv_at hl 1 rfl) ?_
        refine lv_aload_n hx hb dX12_tooSoon_15 rfl (lv_at hl 0 rfl) ?_
        refine lv_iload_n hx hb dX12_tooSoon_16 rfl (lv_at hl 3 rfl) ?_
        refine lv_iconst (v := 0) hx hb dX12_tooSoon_17 (by decide) ?_
        obtain ⟨r10, w11, w12, w13, w14, w15, w16, h17, hf⟩ := kb7_e hf
        refine k_gi (nW := 4) (ws' := [(q, .inr (11, [.ref q_w, .int v_known, .int v_kept, .int v_seed, .ref q_imageSeed, .ref q_bookOf, .ref q_bookAt, .ref q_bookIs, .int v_written, .ref q_rs, .ref q_cs, .long w11, .long w12, .ref q_zs, .long v_leftAbove, .long v_leftBelow, .long w13, .long w14, .int v_sign, .int v_power2, .long v_bits])), (q_w, .inl (cI, 418, .inl v_w)), (q_rs, .inl (cI, 4, .inl w15)), (q_cs, .inl (cI, 4, .inl w16))]) (wr := []) (k_runV (rest := [.int x1]) hat hP hD hS hl.1 (c_X12_allGuessed q q_w q_imageSeed q_bookOf q_bookAt q_bookIs q_rs q_cs q_zs v_known v_kept v_seed v_written v_above v_below v_leftAbove v_leftBelow v_guessAbove v_guessBelow v_sign v_power2 v_bits v_w v_rs v_cs F x3 (0 : Int32) r10 w11 w12 w13 w14 w15 w16 h17) [0, 1, 2, 3] (by decide) rfl kw1033 kw1035 kw44 kw79 kw1036 kdVX12_allGuessed ⟨rfl, rfl⟩ (by rw [hR]; exact ⟨Nat.le_of_ble_eq_true rfl, Nat.le_of_ble_eq_true rfl⟩) ⟨Nat.zero_le _, Nat.zero_le _⟩ 0 11 rfl rfl rfl rfl (Nat.le_of_ble_eq_true rfl) dX12_tooSoon_18) hat hP hD hS [0, 1, 2, 3] rfl [] rfl rfl rfl rfl rfl (by decide) (fun H locs hP hD hS => ?_)
        refine lv_if_eq (tgt := 28) hx hb dX12_tooSoon_21 (by decide) (fun c18 => ?_) (fun c18 => ?_)
        · have hf := kp_e hf c18
          refine lv_iconst (v := 0) hx hb dX12_tooSoon_28 (by decide) ?_
          refine lv_iadd hx hb dX12_tooSoon_29 ?_
          refine lv_topi (fun t19 et19 => ?_)
          have hf := kl_e hf t19 et19
          refine lv_istore_n (lv' := [(1, .int t19), (0, .ref q), (2, .int x2), (3, .int x3)]) hx hb dX12_tooSoon_30 rfl hl (by decide) rfl (fun ls hl => ?_)
          obtain ⟨t20, et20⟩ : ∃ z : Int32, z = (x3 + (1 : Int32)) := ⟨_, rfl⟩
          have hf := kl_e hf t20 et20
          refine lv_iinc (v := t20) (lv' := [(3, .int t20), (1, .int t19), (0, .ref q), (2, .int x2)]) hx hb dX12_tooSoon_31 hl (k := 3) rfl (by rw [et20]; rfl) (by decide) rfl (fun ls hl => ?_)
          refine lv_goto (tgt := 9) hx hb dX12_tooSoon_34 (by decide) ?_
          exact ih t19 t20 w11 w12 w13 w14 w15 w16 o0 o1 o2 o3 o4 o5 o6 hf hk0 _ _ _ hP hD hS (lv_sub hl [2, 1, 3, 0] rfl)
        · have hf := kn_e hf c18
          refine lv_iconst (v := 1) hx hb dX12_tooSoon_24 (by decide) ?_
          refine lv_goto (tgt := 29) hx hb dX12_tooSoon_25 (by decide) ?_
          refine lv_iadd hx hb dX12_tooSoon_29 ?_
          refine lv_topi (fun t21 et21 => ?_)
          have hf := kl_e hf t21 et21
          refine lv_istore_n (lv' := [(1, .int t21), (0, .ref q), (2, .int x2), (3, .int x3)]) hx hb dX12_tooSoon_30 rfl hl (by decide) rfl (fun ls hl => ?_)
          obtain ⟨t22, et22⟩ : ∃ z : Int32, z = (x3 + (1 : Int32)) := ⟨_, rfl⟩
          have hf := kl_e hf t22 et22
          refine lv_iinc (v := t22) (lv' := [(3, .int t22), (1, .int t21), (0, .ref q), (2, .int x2)]) hx hb dX12_tooSoon_31 hl (k := 3) rfl (by rw [et22]; rfl) (by decide) rfl (fun ls hl => ?_)
          refine lv_goto (tgt := 9) hx hb dX12_tooSoon_34 (by decide) ?_
          exact ih t21 t22 w11 w12 w13 w14 w15 w16 o0 o1 o2 o3 o4 o5 o6 hf hk0 _ _ _ hP hD hS (lv_sub hl [2, 1, 3, 0] rfl)
  unfold f_X12_tooSoon at hf
  refine lv_iconst (v := 0) hx hb dX12_tooSoon_0 (by decide) ?_
  refine lv_istore_n (lv' := [(1, .int (0 : Int32)), (0, .ref q)]) hx hb dX12_tooSoon_1 rfl hl (by decide) rfl (fun ls hl => ?_)
  refine lv_aload_n hx hb dX12_tooSoon_2 rfl (lv_at hl 1 rfl) ?_
  obtain ⟨r1, w2, w3, w4, w5, w6, w7, h8, hf⟩ := kb7_e hf
  refine k_gi (nW := 4) (ws' := [(q, .inr (11, [.ref q_w, .int v_known, .int v_kept, .int v_seed, .ref q_imageSeed, .ref q_bookOf, .ref q_bookAt, .ref q_bookIs, .int v_written, .ref q_rs, .ref q_cs, .long w2, .long w3, .ref q_zs, .long v_leftAbove, .long v_leftBelow, .long w4, .long w5, .int v_sign, .int v_power2, .long v_bits])), (q_w, .inl (cI, 418, .inl v_w)), (q_rs, .inl (cI, 4, .inl w6)), (q_cs, .inl (cI, 4, .inl w7))]) (wr := []) (k_runV (rest := []) hat hP hD hS hl.1 (c_X12_early q q_w q_imageSeed q_bookOf q_bookAt q_bookIs q_rs q_cs q_zs v_known v_kept v_seed v_written v_above v_below v_leftAbove v_leftBelow v_guessAbove v_guessBelow v_sign v_power2 v_bits v_w v_rs v_cs F r1 w2 w3 w4 w5 w6 w7 h8) [0, 1, 2, 3] (by decide) rfl kw1029 kw1031 kw43 kw79 kw1032 kdVX12_early ⟨rfl, rfl⟩ (by rw [hR]; exact ⟨Nat.le_of_ble_eq_true rfl, Nat.le_of_ble_eq_true rfl⟩) ⟨Nat.zero_le _, Nat.zero_le _⟩ 0 11 rfl rfl rfl rfl (Nat.le_of_ble_eq_true rfl) dX12_tooSoon_3) hat hP hD hS [0, 1, 2, 3] rfl [] rfl rfl rfl rfl rfl (by decide) (fun H locs hP hD hS => ?_)
  refine lv_istore_n (lv' := [(2, .int r1), (1, .int (0 : Int32)), (0, .ref q)]) hx hb dX12_tooSoon_6 rfl hl (by decide) rfl (fun ls hl => ?_)
  refine lv_iconst (v := 1) hx hb dX12_tooSoon_7 (by decide) ?_
  refine lv_istore_n (lv' := [(3, .int (1 : Int32)), (2, .int r1), (1, .int (0 : Int32)), (0, .ref q)]) hx hb dX12_tooSoon_8 rfl hl (by decide) rfl (fun ls hl => ?_)
  obtain ⟨y23, w24, w25, w26, w27, w28, w29, hu, hf⟩ := kb7_e hf
  refine hL9 r1 v_known v_kept v_seed v_written v_leftAbove v_leftBelow v_sign v_power2 v_bits v_w F (0 : Int32) (1 : Int32) w2 w3 w4 w5 w6 w7 y23 w24 w25 w26 w27 w28 w29 hu (fun H locs ls hP hD hS hl => ?_) _ _ _ hP hD hS (lv_sub hl [3, 2, 1, 0] rfl)
  refine lv_iload_n hx hb dX12_tooSoon_37 rfl (lv_at hl 0 rfl) ?_
  obtain ⟨rfl, rfl, rfl, rfl, rfl, rfl, rfl⟩ := ki7 hf
  rw [hQ]
  exact k_iret hat hP hS rfl dX12_tooSoon_38
set_option maxHeartbeats 4000000 in
set_option maxRecDepth 100000 in
theorem c_X12_shorten {l : Launch} {D : va_G} {cI cJ cQ : ClassId} {tp : Nat} (q : Nat) (q_w : Nat) (q_imageSeed : Nat) (q_bookOf : Nat) (q_bookAt : Nat) (q_bookIs : Nat) (q_rs : Nat) (q_cs : Nat) (q_zs : Nat) (v_known : Int32) (v_kept : Int32) (v_seed : Int32) (v_written : Int32) (v_above : Int64) (v_below : Int64) (v_leftAbove : Int64) (v_leftBelow : Int64) (v_guessAbove : Int64) (v_guessBelow : Int64) (v_sign : Int32) (v_power2 : Int32) (v_bits : Int64) (x1 : Int32) (o_v_power2 : Int32) (o_v_bits : Int64) (hf : f_X12_shorten v_power2 v_bits x1 = some (o_v_power2, o_v_bits)) : kM (fun A => kQv D A [(q, .inr (11, [.ref q_w, .int v_known, .int v_kept, .int v_seed, .ref q_imageSeed, .ref q_bookOf, .ref q_bookAt, .ref q_bookIs, .int v_written, .ref q_rs, .ref q_cs, .long v_above, .long v_below, .ref q_zs, .long v_leftAbove, .long v_leftBelow, .long v_guessAbove, .long v_guessBelow, .int v_sign, .int o_v_power2, .long o_v_bits]))]) none l yX12_shorten cX12_shorten 2 { frames := 0, cells := 0, slots := 0, locals := 0 } D cI cJ cQ tp [.ref q, .int x1] [(q, .inr (11, [.ref q_w, .int v_known, .int v_kept, .int v_seed, .ref q_imageSeed, .ref q_bookOf, .ref q_bookAt, .ref q_bookIs, .int v_written, .ref q_rs, .ref q_cs, .long v_above, .long v_below, .ref q_zs, .long v_leftAbove, .long v_leftBelow, .long v_guessAbove, .long v_guessBelow, .int v_sign, .int v_power2, .long v_bits]))] := by
  refine kM_of (by decide +kernel) (Nat.le_of_ble_eq_true rfl) ?_
  intro p e s m args below meth c A ls R Q hR hQ hat hP hD hS hl
  obtain ⟨hx, hb, hr, hml, hown, hts, hT, hlk, hK, hA, hZ⟩ := id hat
  have hown : s.vm.findClass RX12 = some m.cls := hown
  have hl : lv_has ls 2 [(0, .ref q), (1, .int x1)] := hl
  unfold f_X12_shorten at hf
  refine lv_aload_n hx hb dX12_shorten_0 rfl (lv_at hl 0 rfl) ?_
  refine va_get (D := D) (ci := 11) (v := .long v_bits) (C := RX12) (T := TX12) (N := 21) hx hb hts kinX12 hown hK hP 0 rfl rfl 20 (by decide) (hts _ kw864) (fun _ h9 => h9) rfl dX12_shorten_1 ?_
  refine lv_lconst (v := 1) hx hb dX12_shorten_4 (by decide) ?_
  refine lv_iload_n hx hb dX12_shorten_5 rfl (lv_at hl 1 rfl) ?_
  refine lv_lshl hx hb dX12_shorten_6 rfl ?_
  refine k_lcmp_ne (tgt := 33) hx hb dX12_shorten_7 dX12_shorten_8 (by decide) (fun c1 => ?_) (fun c1 => ?_)
  · have hf := kn_e hf c1
    obtain ⟨rfl, rfl⟩ := ki2 hf
    rw [hQ]
    exact k_vret hat hP hS dX12_shorten_33
  · have hf := kp_e hf c1
    refine lv_aload_n hx hb dX12_shorten_11 rfl (lv_at hl 0 rfl) ?_
    refine lv_dup hx hb dX12_shorten_12 rfl ?_
    refine va_get (D := D) (ci := 11) (v := .long v_bits) (C := RX12) (T := TX12) (N := 21) hx hb hts kinX12 hown hK hP 0 rfl rfl 20 (by decide) (hts _ kw864) (fun _ h9 => h9) rfl dX12_shorten_13 ?_
    refine lv_ldc2 hx hb hown (hts _ kw1024) dX12_shorten_16 ?_
    refine lv_ldiv hx hb dX12_shorten_19 (by decide) ?_
    refine lv_topl (fun t2 et2 => ?_)
    have hf := kl_e hf t2 et2
    refine va_put (D := D) (ci := 11) (v := .long t2) (ty := .long) (C := RX12) (T := TX12) (N := 21) hx hb hts kinX12 tyX12 tyX12_ok nmX12 hown hK hP hD hS 0 rfl rfl 20 (by decide) (hts _ kw864) (fun _ h9 => h9) rfl (by decide +kernel) rfl rfl (Nat.le_of_ble_eq_true rfl) dX12_shorten_20 (fun H locs hP hD hS => ?_)
    have hP : va_P D vwCl [(q, .inr (11, [.ref q_w, .int v_known, .int v_kept, .int v_seed, .ref q_imageSeed, .ref q_bookOf, .ref q_bookAt, .ref q_bookIs, .int v_written, .ref q_rs, .ref q_cs, .long v_above, .long v_below, .ref q_zs, .long v_leftAbove, .long v_leftBelow, .long v_guessAbove, .long v_guessBelow, .int v_sign, .int v_power2, .long t2]))] H := hP
    have hD : va_D A [(q, .inr (11, [.ref q_w, .int v_known, .int v_kept, .int v_seed, .ref q_imageSeed, .ref q_bookOf, .ref q_bookAt, .ref q_bookIs, .int v_written, .ref q_rs, .ref q_cs, .long v_above, .long v_below, .ref q_zs, .long v_leftAbove, .long v_leftBelow, .long v_guessAbove, .long v_guessBelow, .int v_sign, .int v_power2, .long t2]))] := hD
    refine lv_aload_n hx hb dX12_shorten_23 rfl (lv_at hl 0 rfl) ?_
    refine lv_dup hx hb dX12_shorten_24 rfl ?_
    refine va_get (D := D) (ci := 11) (v := .int v_power2) (C := RX12) (T := TX12) (N := 21) hx hb hts kinX12 hown hK hP 0 rfl rfl 19 (by decide) (hts _ kw863) (fun _ h9 => h9) rfl dX12_shorten_25 ?_
    refine lv_iconst (v := 1) hx hb dX12_shorten_28 (by decide) ?_
    refine lv_iadd hx hb dX12_shorten_29 ?_
    refine lv_topi (fun t3 et3 => ?_)
    have hf := kl_e hf t3 et3
    refine va_put (D := D) (ci := 11) (v := .int t3) (ty := .int) (C := RX12) (T := TX12) (N := 21) hx hb hts kinX12 tyX12 tyX12_ok nmX12 hown hK hP hD hS 0 rfl rfl 19 (by decide) (hts _ kw863) (fun _ h9 => h9) rfl (by decide +kernel) rfl rfl (Nat.le_of_ble_eq_true rfl) dX12_shorten_30 (fun H locs hP hD hS => ?_)
    have hP : va_P D vwCl [(q, .inr (11, [.ref q_w, .int v_known, .int v_kept, .int v_seed, .ref q_imageSeed, .ref q_bookOf, .ref q_bookAt, .ref q_bookIs, .int v_written, .ref q_rs, .ref q_cs, .long v_above, .long v_below, .ref q_zs, .long v_leftAbove, .long v_leftBelow, .long v_guessAbove, .long v_guessBelow, .int v_sign, .int t3, .long t2]))] H := hP
    have hD : va_D A [(q, .inr (11, [.ref q_w, .int v_known, .int v_kept, .int v_seed, .ref q_imageSeed, .ref q_bookOf, .ref q_bookAt, .ref q_bookIs, .int v_written, .ref q_rs, .ref q_cs, .long v_above, .long v_below, .ref q_zs, .long v_leftAbove, .long v_leftBelow, .long v_guessAbove, .long v_guessBelow, .int v_sign, .int t3, .long t2]))] := hD
    obtain ⟨rfl, rfl⟩ := ki2 hf
    rw [hQ]
    exact k_vret hat hP hS dX12_shorten_33
