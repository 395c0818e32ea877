set_option maxHeartbeats 4000000 in
set_option maxRecDepth 100000 in
theorem c_X12_layNothing {l : Launch} {D : va_G} {cI cJ cQ : ClassId} {tp : Nat} (q : Nat) (q_w : Nat) (q_imageSeed : Nat) (q_bookOf : Nat) (q_bookAt : Nat) (q_bookIs : Nat) (q_rs : Nat) (q_cs : Nat) (q_zs : Nat) (v_known : Int32) (v_kept : Int32) (v_seed : Int32) (v_written : Int32) (v_above : Int64) (v_below : Int64) (v_leftAbove : Int64) (v_leftBelow : Int64) (v_guessAbove : Int64) (v_guessBelow : Int64) (v_sign : Int32) (v_power2 : Int32) (v_bits : Int64) (v_w : (Nat → Int32)) (v_rs : (Nat → Int32)) (v_cs : (Nat → Int32)) (v_zs : (Nat → Int64)) (F : Nat) (o_v_above : Int64) (o_v_below : Int64) (o_v_rs : (Nat → Int32)) (o_v_cs : (Nat → Int32)) (o_v_zs : (Nat → Int64)) (hf : f_X12_layNothing F v_above v_below v_w v_rs v_cs v_zs = some (o_v_above, o_v_below, o_v_rs, o_v_cs, o_v_zs)) : kM (fun A => kQv D A [(q, .inr (11, [.ref q_w, .int v_known, .int v_kept, .int v_seed, .ref q_imageSeed, .ref q_bookOf, .ref q_bookAt, .ref q_bookIs, .int v_written, .ref q_rs, .ref q_cs, .long o_v_above, .long o_v_below, .ref q_zs, .long v_leftAbove, .long v_leftBelow, .long v_guessAbove, .long v_guessBelow, .int v_sign, .int v_power2, .long v_bits])), (q_w, .inl (cI, 418, .inl v_w)), (q_rs, .inl (cI, 4, .inl o_v_rs)), (q_cs, .inl (cI, 4, .inl o_v_cs)), (q_zs, .inl (cJ, 4, .inr (.inl o_v_zs)))]) none l yX12_layNothing cX12_layNothing 6 { frames := 9, cells := 0, slots := 0, locals := 214 } D cI cJ cQ tp [.ref q] [(q, .inr (11, [.ref q_w, .int v_known, .int v_kept, .int v_seed, .ref q_imageSeed, .ref q_bookOf, .ref q_bookAt, .ref q_bookIs, .int v_written, .ref q_rs, .ref q_cs, .long v_above, .long v_below, .ref q_zs, .long v_leftAbove, .long v_leftBelow, .long v_guessAbove, .long v_guessBelow, .int v_sign, .int v_power2, .long v_bits])), (q_w, .inl (cI, 418, .inl v_w)), (q_rs, .inl (cI, 4, .inl v_rs)), (q_cs, .inl (cI, 4, .inl v_cs)), (q_zs, .inl (cJ, 4, .inr (.inl v_zs)))] := by
  refine kM_of (by decide +kernel) (Nat.le_of_ble_eq_true rfl) ?_
  intro p e s m args below meth c A ls R Q hR hQ hat hP hD hS hl
  obtain ⟨hx, hb, hr, hml, hown, hts, hT, hlk, hK, hA, hZ⟩ := id hat
  have hown : s.vm.findClass RX12 = some m.cls := hown
  have hl : lv_has ls 6 [(0, .ref q)] := hl
  have hL7 : ∀ (x1 : Int32) (v_known : Int32) (v_kept : Int32) (v_seed : Int32) (v_written : Int32) (v_above : Int64) (v_below : Int64) (v_leftAbove : Int64) (v_leftBelow : Int64) (v_guessAbove : Int64) (v_guessBelow : Int64) (v_sign : Int32) (v_power2 : Int32) (v_bits : Int64) (v_w : (Nat → Int32)) (v_rs : (Nat → Int32)) (v_cs : (Nat → Int32)) (v_zs : (Nat → Int64)) (fu : Nat) (x2 : Int32) (o0 : Int32), L_X12_layNothing_7 x1 fu x2 = some o0 → (∀ (H : Heap) (locs : List Loc) (ls : Array Slot), va_P D vwCl [(q, .inr (11, [.ref q_w, .int v_known, .int v_kept, .int v_seed, .ref q_imageSeed, .ref q_bookOf, .ref q_bookAt, .ref q_bookIs, .int v_written, .ref q_rs, .ref q_cs, .long v_above, .long v_below, .ref q_zs, .long v_leftAbove, .long v_leftBelow, .long v_guessAbove, .long v_guessBelow, .int v_sign, .int v_power2, .long v_bits])), (q_w, .inl (cI, 418, .inl v_w)), (q_rs, .inl (cI, 4, .inl v_rs)), (q_cs, .inl (cI, 4, .inl v_cs)), (q_zs, .inl (cJ, 4, .inr (.inl v_zs)))] H → va_D A [(q, .inr (11, [.ref q_w, .int v_known, .int v_kept, .int v_seed, .ref q_imageSeed, .ref q_bookOf, .ref q_bookAt, .ref q_bookIs, .int v_written, .ref q_rs, .ref q_cs, .long v_above, .long v_below, .ref q_zs, .long v_leftAbove, .long v_leftBelow, .long v_guessAbove, .long v_guessBelow, .int v_sign, .int v_power2, .long v_bits])), (q_w, .inl (cI, 418, .inl v_w)), (q_rs, .inl (cI, 4, .inl v_rs)), (q_cs, .inl (cI, 4, .inl v_cs)), (q_zs, .inl (cJ, 4, .inr (.inl v_zs)))] → va_S A s.heap H locs → lv_has ls 6 [(0, .ref q), (1, .int x1), (2, .int o0)] → W p l e R s m args below meth c H locs 0 0 Q (F0 m 21 ls [])) → ∀ (H : Heap) (locs : List Loc) (ls : Array Slot), va_P D vwCl [(q, .inr (11, [.ref q_w, .int v_known, .int v_kept, .int v_seed, .ref q_imageSeed, .ref q_bookOf, .ref q_bookAt, .ref q_bookIs, .int v_written, .ref q_rs, .ref q_cs, .long v_above, .long v_below, .ref q_zs, .long v_leftAbove, .long v_leftBelow, .long v_guessAbove, .long v_guessBelow, .int v_sign, .int v_power2, .long v_bits])), (q_w, .inl (cI, 418, .inl v_w)), (q_rs, .inl (cI, 4, .inl v_rs)), (q_cs, .inl (cI, 4, .inl v_cs)), (q_zs, .inl (cJ, 4, .inr (.inl v_zs)))] H → va_D A [(q, .inr (11, [.ref q_w, .int v_known, .int v_kept, .int v_seed, .ref q_imageSeed, .ref q_bookOf, .ref q_bookAt, .ref q_bookIs, .int v_written, .ref q_rs, .ref q_cs, .long v_above, .long v_below, .ref q_zs, .long v_leftAbove, .long v_leftBelow, .long v_guessAbove, .long v_guessBelow, .int v_sign, .int v_power2, .long v_bits])), (q_w, .inl (cI, 418, .inl v_w)), (q_rs, .inl (cI, 4, .inl v_rs)), (q_cs, .inl (cI, 4, .inl v_cs)), (q_zs, .inl (cJ, 4, .inr (.inl v_zs)))] → va_S A s.heap H locs → lv_has ls 6 [(0, .ref q), (1, .int x1), (2, .int x2)] → W p l e R s m args below meth c H locs 0 0 Q (F0 m 7 ls []) := by
    intro x1 v_known v_kept v_seed v_written v_above v_below v_leftAbove v_leftBelow v_guessAbove v_guessBelow v_sign v_power2 v_bits v_w v_rs v_cs v_zs fu
    induction fu with
    | zero =>
      intro x2 o0 hf
      cases hf
    | succ fu ih =>
      intro x2 o0 hf hk0 H locs ls hP hD hS hl
      rw [L_X12_layNothing_7] at hf
      refine lv_iload_n hx hb dX12_layNothing_7 rfl (lv_at hl 1 rfl) ?_
      refine lv_iload_n hx hb dX12_layNothing_8 rfl (lv_at hl 2 rfl) ?_
      obtain ⟨r5, h6, hf⟩ := kb1_e hf
      refine k_gi (nW := 5) (ws' := [(q, .inr (11, [.ref q_w, .int v_known, .int v_kept, .int v_seed, .ref q_imageSeed, .ref q_bookOf, .ref q_bookAt, .ref q_bookIs, .int v_written, .ref q_rs, .ref q_cs, .long v_above, .long v_below, .ref q_zs, .long v_leftAbove, .long v_leftBelow, .long v_guessAbove, .long v_guessBelow, .int v_sign, .int v_power2, .long v_bits])), (q_w, .inl (cI, 418, .inl v_w)), (q_rs, .inl (cI, 4, .inl v_rs)), (q_cs, .inl (cI, 4, .inl v_cs)), (q_zs, .inl (cJ, 4, .inr (.inl v_zs)))]) (wr := [(q, .inr (11, [.ref q_w, .int v_known, .int v_kept, .int v_seed, .ref q_imageSeed, .ref q_bookOf, .ref q_bookAt, .ref q_bookIs, .int v_written, .ref q_rs, .ref q_cs, .long v_above, .long v_below, .ref q_zs, .long v_leftAbove, .long v_leftBelow, .long v_guessAbove, .long v_guessBelow, .int v_sign, .int v_power2, .long v_bits])), (q_w, .inl (cI, 418, .inl v_w)), (q_rs, .inl (cI, 4, .inl v_rs)), (q_cs, .inl (cI, 4, .inl v_cs)), (q_zs, .inl (cJ, 4, .inr (.inl v_zs)))]) (k_runS (rest := []) hat hP hD hS hl.1 (c_X12_has x1 x2 r5 h6) [] (by decide) rfl kw941 kw942 kw79 kw943 kdX12_has ⟨rfl, rfl⟩ (by rw [hR]; exact ⟨Nat.le_of_ble_eq_true rfl, Nat.le_of_ble_eq_true rfl⟩) ⟨Nat.zero_le _, Nat.zero_le _⟩ rfl rfl (Nat.le_of_ble_eq_true rfl) dX12_layNothing_9) hat hP hD hS [] rfl [0, 1, 2, 3, 4] rfl rfl rfl rfl rfl (by decide) (fun H locs hP hD hS => ?_)
      refine lv_if_eq (tgt := 21) hx hb dX12_layNothing_12 (by decide) (fun c7 => ?_) (fun c7 => ?_)
      · have hf := kp_e hf c7
        obtain rfl := ki1 hf
        exact hk0 _ _ _ hP hD hS hl
      · have hf := kn_e hf c7
        obtain ⟨t8, et8⟩ : ∃ z : Int32, z = (x2 + (1 : Int32)) := ⟨_, rfl⟩
        have hf := kl_e hf t8 et8
        refine lv_iinc (v := t8) (lv' := [(2, .int t8), (0, .ref q), (1, .int x1)]) hx hb dX12_layNothing_15 hl (k := 2) rfl (by rw [et8]; rfl) (by decide) rfl (fun ls hl => ?_)
        refine lv_goto (tgt := 7) hx hb dX12_layNothing_18 (by decide) ?_
        exact ih t8 o0 hf hk0 _ _ _ hP hD hS (lv_sub hl [1, 2, 0] rfl)
  have hL26 : ∀ (x1 : Int32) (x2 : Int32) (v_known : Int32) (v_kept : Int32) (v_seed : Int32) (v_written : Int32) (v_leftAbove : Int64) (v_leftBelow : Int64) (v_guessAbove : Int64) (v_guessBelow : Int64) (v_sign : Int32) (v_power2 : Int32) (v_bits : Int64) (v_w : (Nat → Int32)) (v_zs : (Nat → Int64)) (fu : Nat) (x3 : Int64) (x5 : Int32) (v_above : Int64) (v_below : Int64) (v_rs : (Nat → Int32)) (v_cs : (Nat → Int32)) (o0 : Int64) (o1 : Int64) (o2 : Int64) (o3 : (Nat → Int32)) (o4 : (Nat → Int32)), L_X12_layNothing_26 F x1 x2 v_w fu x3 x5 v_above v_below v_rs v_cs = some (o0, o1, o2, o3, o4) → (∀ (H : Heap) (locs : List Loc) (ls : Array Slot), va_P D vwCl [(q, .inr (11, [.ref q_w, .int v_known, .int v_kept, .int v_seed, .ref q_imageSeed, .ref q_bookOf, .ref q_bookAt, .ref q_bookIs, .int v_written, .ref q_rs, .ref q_cs, .long o1, .long o2, .ref q_zs, .long v_leftAbove, .long v_leftBelow, .long v_guessAbove, .long v_guessBelow, .int v_sign, .int v_power2, .long v_bits])), (q_w, .inl (cI, 418, .inl v_w)), (q_rs, .inl (cI, 4, .inl o3)), (q_cs, .inl (cI, 4, .inl o4)), (q_zs, .inl (cJ, 4, .inr (.inl v_zs)))] H → va_D A [(q, .inr (11, [.ref q_w, .int v_known, .int v_kept, .int v_seed, .ref q_imageSeed, .ref q_bookOf, .ref q_bookAt, .ref q_bookIs, .int v_written, .ref q_rs, .ref q_cs, .long o1, .long o2, .ref q_zs, .long v_leftAbove, .long v_leftBelow, .long v_guessAbove, .long v_guessBelow, .int v_sign, .int v_power2, .long v_bits])), (q_w, .inl (cI, 418, .inl v_w)), (q_rs, .inl (cI, 4, .inl o3)), (q_cs, .inl (cI, 4, .inl o4)), (q_zs, .inl (cJ, 4, .inr (.inl v_zs)))] → va_S A s.heap H locs → lv_has ls 6 [(0, .ref q), (1, .int x1), (2, .int x2), (3, .long o0)] → W p l e R s m args below meth c H locs 0 0 Q (F0 m 64 ls [])) → ∀ (H : Heap) (locs : List Loc) (ls : Array Slot), va_P D vwCl [(q, .inr (11, [.ref q_w, .int v_known, .int v_kept, .int v_seed, .ref q_imageSeed, .ref q_bookOf, .ref q_bookAt, .ref q_bookIs, .int v_written, .ref q_rs, .ref q_cs, .long v_above, .long v_below, .ref q_zs, .long v_leftAbove, .long v_leftBelow, .long v_guessAbove, .long v_guessBelow, .int v_sign, .int v_power2, .long v_bits])), (q_w, .inl (cI, 418, .inl v_w)), (q_rs, .inl (cI, 4, .inl v_rs)), (q_cs, .inl (cI, 4, .inl v_cs)), (q_zs, .inl (cJ, 4, .inr (.inl v_zs)))] H → va_D A [(q, .inr (11, [.ref q_w, .int v_known, .int v_kept, .int v_seed, .ref q_imageSeed, .ref q_bookOf, .ref q_bookAt, .ref q_bookIs, .int v_written, .ref q_rs, .ref q_cs, .long v_above, .long v_below, .ref q_zs, .long v_leftAbove, .long v_leftBelow, .long v_guessAbove, .long v_guessBelow, .int v_sign, .int v_power2, .long v_bits])), (q_w, .inl (cI, 418, .inl v_w)), (q_rs, .inl (cI, 4, .inl v_rs)), (q_cs, .inl (cI, 4, .inl v_cs)), (q_zs, .inl (cJ, 4, .inr (.inl v_zs)))] → va_S A s.heap H locs → lv_has ls 6 [(0, .ref q), (1, .int x1), (2, .int x2), (3, .long x3), (5, .int x5)] → W p l e R s m args below meth c H locs 0 0 Q (F0 m 26 ls []) := by
    intro x1 x2 v_known v_kept v_seed v_written v_leftAbove v_leftBelow v_guessAbove v_guessBelow v_sign v_power2 v_bits v_w v_zs fu
    induction fu with
    | zero =>
      intro x3 x5 v_above v_below v_rs v_cs o0 o1 o2 o3 o4 hf
      cases hf
    | succ fu ih =>
      intro x3 x5 v_above v_below v_rs v_cs o0 o1 o2 o3 o4 hf hk0 H locs ls hP hD hS hl
      rw [L_X12_layNothing_26] at hf
      refine lv_iload hx hb dX12_layNothing_26 (lv_at hl 4 rfl) ?_
      refine lv_iload_n hx hb dX12_layNothing_28 rfl (lv_at hl 1 rfl) ?_
      obtain ⟨r10, h11, hf⟩ := kb1_e hf
      refine k_gi (nW := 5) (ws' := [(q, .inr (11, [.ref q_w, .int v_known, .int v_kept, .int v_seed, .ref q_imageSeed, .ref q_bookOf, .ref q_bookAt, .ref q_bookIs, .int v_written, .ref q_rs, .ref q_cs, .long v_above, .long v_below, .ref q_zs, .long v_leftAbove, .long v_leftBelow, .long v_guessAbove, .long v_guessBelow, .int v_sign, .int v_power2, .long v_bits])), (q_w, .inl (cI, 418, .inl v_w)), (q_rs, .inl (cI, 4, .inl v_rs)), (q_cs, .inl (cI, 4, .inl v_cs)), (q_zs, .inl (cJ, 4, .inr (.inl v_zs)))]) (wr := [(q, .inr (11, [.ref q_w, .int v_known, .int v_kept, .int v_seed, .ref q_imageSeed, .ref q_bookOf, .ref q_bookAt, .ref q_bookIs, .int v_written, .ref q_rs, .ref q_cs, .long v_above, .long v_below, .ref q_zs, .long v_leftAbove, .long v_leftBelow, .long v_guessAbove, .long v_guessBelow, .int v_sign, .int v_power2, .long v_bits])), (q_w, .inl (cI, 418, .inl v_w)), (q_rs, .inl (cI, 4, .inl v_rs)), (q_cs, .inl (cI, 4, .inl v_cs)), (q_zs, .inl (cJ, 4, .inr (.inl v_zs)))]) (k_runS (rest := [.int x5]) hat hP hD hS hl.1 (c_X12_ones x1 r10 h11) [] (by decide) rfl kw935 kw936 kw79 kw937 kdX12_ones ⟨rfl, rfl⟩ (by rw [hR]; exact ⟨Nat.le_of_ble_eq_true rfl, Nat.le_of_ble_eq_true rfl⟩) ⟨Nat.zero_le _, Nat.zero_le _⟩ rfl rfl (Nat.le_of_ble_eq_true rfl) dX12_layNothing_29) hat hP hD hS [] rfl [0, 1, 2, 3, 4] rfl rfl rfl rfl rfl (by decide) (fun H locs hP hD hS => ?_)
      refine lv_icmp_ge (tgt := 64) hx hb dX12_layNothing_32 (by decide) (fun c12 => ?_) (fun c12 => ?_)
      · have hf := kp_e hf c12
        obtain ⟨rfl, rfl, rfl, rfl, rfl⟩ := ki5 hf
        exact hk0 _ _ _ hP hD hS (lv_sub hl [0, 1, 2, 3] rfl)
      · have hf := kn_e hf c12
        refine lv_aload_n hx hb dX12_layNothing_35 rfl (lv_at hl 0 rfl) ?_
        refine lv_iload hx hb dX12_layNothing_36 (lv_at hl 4 rfl) ?_
        refine lv_iload_n hx hb dX12_layNothing_38 rfl (lv_at hl 2 rfl) ?_
        obtain ⟨w13, w14, w15, w16, h17, hf⟩ := kb4_e hf
        refine k_gv (nW := 5) (ws' := [(q, .inr (11, [.ref q_w, .int v_known, .int v_kept, .int v_seed, .ref q_imageSeed, .ref q_bookOf, .ref q_bookAt, .ref q_bookIs, .int v_written, .ref q_rs, .ref q_cs, .long w13, .long w14, .ref q_zs, .long v_leftAbove, .long v_leftBelow, .long v_guessAbove, .long v_guessBelow, .int v_sign, .int v_power2, .long v_bits])), (q_w, .inl (cI, 418, .inl v_w)), (q_rs, .inl (cI, 4, .inl w15)), (q_cs, .inl (cI, 4, .inl w16)), (q_zs, .inl (cJ, 4, .inr (.inl v_zs)))]) (wr := [(q_zs, .inl (cJ, 4, .inr (.inl v_zs)))]) (k_runV (rest := []) hat hP hD hS hl.1 (c_X12_layShare q q_w q_imageSeed q_bookOf q_bookAt q_bookIs q_rs q_cs q_zs v_known v_kept v_seed v_written v_above v_below v_leftAbove v_leftBelow v_guessAbove v_guessBelow v_sign v_power2 v_bits v_w v_rs v_cs F x5 x2 w13 w14 w15 w16 h17) [0, 1, 2, 3] (by decide) rfl kw989 kw991 kw35 kw79 kw992 kdVX12_layShare ⟨rfl, rfl⟩ (by rw [hR]; exact ⟨Nat.le_of_ble_eq_true rfl, Nat.le_of_ble_eq_true rfl⟩) ⟨Nat.zero_le _, Nat.zero_le _⟩ 0 11 rfl rfl rfl rfl (Nat.le_of_ble_eq_true rfl) dX12_layNothing_39) hat hP hD hS [0, 1, 2, 3] rfl [4] rfl rfl rfl rfl rfl (by decide) (fun H locs hP hD hS => ?_)
        refine lv_lload_n hx hb dX12_layNothing_42 rfl (lv_at hl 3 rfl) ?_
        refine lv_lload_n hx hb dX12_layNothing_43 rfl (lv_at hl 3 rfl) ?_
        refine lv_aload_n hx hb dX12_layNothing_44 rfl (lv_at hl 0 rfl) ?_
        refine va_get (D := D) (ci := 11) (v := .long w14) (C := RX12) (T := TX12) (N := 21) hx hb hts kinX12 hown hK hP 0 rfl rfl 12 (by decide) (hts _ kw856) (fun _ h9 => h9) rfl dX12_layNothing_45 ?_
        obtain ⟨r18, h19, hf⟩ := kb1_e hf
        refine k_gl (nW := 5) (ws' := [(q, .inr (11, [.ref q_w, .int v_known, .int v_kept, .int v_seed, .ref q_imageSeed, .ref q_bookOf, .ref q_bookAt, .ref q_bookIs, .int v_written, .ref q_rs, .ref q_cs, .long w13, .long w14, .ref q_zs, .long v_leftAbove, .long v_leftBelow, .long v_guessAbove, .long v_guessBelow, .int v_sign, .int v_power2, .long v_bits])), (q_w, .inl (cI, 418, .inl v_w)), (q_rs, .inl (cI, 4, .inl w15)), (q_cs, .inl (cI, 4, .inl w16)), (q_zs, .inl (cJ, 4, .inr (.inl v_zs)))]) (wr := [(q, .inr (11, [.ref q_w, .int v_known, .int v_kept, .int v_seed, .ref q_imageSeed, .ref q_bookOf, .ref q_bookAt, .ref q_bookIs, .int v_written, .ref q_rs, .ref q_cs, .long w13, .long w14, .ref q_zs, .long v_leftAbove, .long v_leftBelow, .long v_guessAbove, .long v_guessBelow, .int v_sign, .int v_power2, .long v_bits])), (q_w, .inl (cI, 418, .inl v_w)), (q_rs, .inl (cI, 4, .inl w15)), (q_cs, .inl (cI, 4, .inl w16)), (q_zs, .inl (cJ, 4, .inr (.inl v_zs)))]) (k_runS (rest := [.long x3]) hat hP hD hS hl.1 (c_X12_divisor F x3 w14 r18 h19) [] (by decide) rfl kw1001 kw1002 kw79 kw1003 kdX12_divisor ⟨rfl, rfl⟩ (by rw [hR]; exact ⟨Nat.le_of_ble_eq_true rfl, Nat.le_of_ble_eq_true rfl⟩) ⟨Nat.zero_le _, Nat.zero_le _⟩ rfl rfl (Nat.le_of_ble_eq_true rfl) dX12_layNothing_48) hat hP hD hS [] rfl [0, 1, 2, 3, 4] rfl rfl rfl rfl rfl (by decide) (fun H locs hP hD hS => ?_)
        obtain ⟨c20, hf⟩ := kc_e hf
        refine lv_ldiv hx hb dX12_layNothing_51 c20 ?_
        refine lv_aload_n hx hb dX12_layNothing_52 rfl (lv_at hl 0 rfl) ?_
        refine va_get (D := D) (ci := 11) (v := .long w14) (C := RX12) (T := TX12) (N := 21) hx hb hts kinX12 hown hK hP 0 rfl rfl 12 (by decide) (hts _ kw856) (fun _ h9 => h9) rfl dX12_layNothing_53 ?_
        refine lv_lmul hx hb dX12_layNothing_56 ?_
        refine lv_topl (fun t21 et21 => ?_)
        have hf := kl_e hf t21 et21
        refine lv_lstore_n (lv' := [(3, .long t21), (0, .ref q), (1, .int x1), (2, .int x2), (5, .int x5)]) hx hb dX12_layNothing_57 rfl hl (by decide) rfl (fun ls hl => ?_)
        obtain ⟨t22, et22⟩ : ∃ z : Int32, z = (x5 + (1 : Int32)) := ⟨_, rfl⟩
        have hf := kl_e hf t22 et22
        refine lv_iinc (v := t22) (lv' := [(5, .int t22), (3, .long t21), (0, .ref q), (1, .int x1), (2, .int x2)]) hx hb dX12_layNothing_58 hl (k := 4) rfl (by rw [et22]; rfl) (by decide) rfl (fun ls hl => ?_)
        refine lv_goto (tgt := 26) hx hb dX12_layNothing_61 (by decide) ?_
        exact ih t21 t22 w13 w14 w15 w16 o0 o1 o2 o3 o4 hf hk0 _ _ _ hP hD hS (lv_sub hl [2, 3, 4, 1, 0] rfl)
  have hL67 : ∀ (x1 : Int32) (x2 : Int32) (x3 : Int64) (v_known : Int32) (v_kept : Int32) (v_seed : Int32) (v_written : Int32) (v_above : Int64) (v_below : Int64) (v_leftAbove : Int64) (v_leftBelow : Int64) (v_guessAbove : Int64) (v_guessBelow : Int64) (v_sign : Int32) (v_power2 : Int32) (v_bits : Int64) (v_w : (Nat → Int32)) (v_rs : (Nat → Int32)) (v_cs : (Nat → Int32)) (fu : Nat) (x5 : Int32) (v_zs : (Nat → Int64)) (o0 : (Nat → Int64)), L_X12_layNothing_67 x1 x2 x3 v_w fu x5 v_zs = some o0 → (∀ (H : Heap) (locs : List Loc) (ls : Array Slot), va_P D vwCl [(q, .inr (11, [.ref q_w, .int v_known, .int v_kept, .int v_seed, .ref q_imageSeed, .ref q_bookOf, .ref q_bookAt, .ref q_bookIs, .int v_written, .ref q_rs, .ref q_cs, .long v_above, .long v_below, .ref q_zs, .long v_leftAbove, .long v_leftBelow, .long v_guessAbove, .long v_guessBelow, .int v_sign, .int v_power2, .long v_bits])), (q_w, .inl (cI, 418, .inl v_w)), (q_rs, .inl (cI, 4, .inl v_rs)), (q_cs, .inl (cI, 4, .inl v_cs)), (q_zs, .inl (cJ, 4, .inr (.inl o0)))] H → va_D A [(q, .inr (11, [.ref q_w, .int v_known, .int v_kept, .int v_seed, .ref q_imageSeed, .ref q_bookOf, .ref q_bookAt, .ref q_bookIs, .int v_written, .ref q_rs, .ref q_cs, .long v_above, .long v_below, .ref q_zs, .long v_leftAbove, .long v_leftBelow, .long v_guessAbove, .long v_guessBelow, .int v_sign, .int v_power2, .long v_bits])), (q_w, .inl (cI, 418, .inl v_w)), (q_rs, .inl (cI, 4, .inl v_rs)), (q_cs, .inl (cI, 4, .inl v_cs)), (q_zs, .inl (cJ, 4, .inr (.inl o0)))] → va_S A s.heap H locs → lv_has ls 6 [(0, .ref q), (1, .int x1), (2, .int x2), (3, .long x3)] → W p l e R s m args below meth c H locs 0 0 Q (F0 m 100 ls [])) → ∀ (H : Heap) (locs : List Loc) (ls : Array Slot), va_P D vwCl [(q, .inr (11, [.ref q_w, .int v_known, .int v_kept, .int v_seed, .ref q_imageSeed, .ref q_bookOf, .ref q_bookAt, .ref q_bookIs, .int v_written, .ref q_rs, .ref q_cs, .long v_above, .long v_below, .ref q_zs, .long v_leftAbove, .long v_leftBelow, .long v_guessAbove, .long v_guessBelow, .int v_sign, .int v_power2, .long v_bits])), (q_w, .inl (cI, 418, .inl v_w)), (q_rs, .inl (cI, 4, .inl v_rs)), (q_cs, .inl (cI, 4, .inl v_cs)), (q_zs, .inl (cJ, 4, .inr (.inl v_zs)))] H → va_D A [(q, .inr (11, [.ref q_w, .int v_known, .int v_kept, .int v_seed, .ref q_imageSeed, .ref q_bookOf, .ref q_bookAt, .ref q_bookIs, .int v_written, .ref q_rs, .ref q_cs, .long v_above, .long v_below, .ref q_zs, .long v_leftAbove, .long v_leftBelow, .long v_guessAbove, .long v_guessBelow, .int v_sign, .int v_power2, .long v_bits])), (q_w, .inl (cI, 418, .inl v_w)), (q_rs, .inl (cI, 4, .inl v_rs)), (q_cs, .inl (cI, 4, .inl v_cs)), (q_zs, .inl (cJ, 4, .inr (.inl v_zs)))] → va_S A s.heap H locs → lv_has ls 6 [(0, .ref q), (1, .int x1), (2, .int x2), (3, .long x3), (5, .int x5)] → W p l e R s m args below meth c H locs 0 0 Q (F0 m 67 ls []) := by
    intro x1 x2 x3 v_known v_kept v_seed v_written v_above v_below v_leftAbove v_leftBelow v_guessAbove v_guessBelow v_sign v_power2 v_bits v_w v_rs v_cs fu
    induction fu with
    | zero =>
      intro x5 v_zs o0 hf
      cases hf
    | succ fu ih =>
      intro x5 v_zs o0 hf hk0 H locs ls hP hD hS hl
      rw [L_X12_layNothing_67] at hf
      refine lv_iload hx hb dX12_layNothing_67 (lv_at hl 4 rfl) ?_
      refine lv_aload_n hx hb dX12_layNothing_69 rfl (lv_at hl 0 rfl) ?_
      obtain ⟨r28, h29, hf⟩ := kb1_e hf
      refine k_gi (nW := 5) (ws' := [(q, .inr (11, [.ref q_w, .int v_known, .int v_kept, .int v_seed, .ref q_imageSeed, .ref q_bookOf, .ref q_bookAt, .ref q_bookIs, .int v_written, .ref q_rs, .ref q_cs, .long v_above, .long v_below, .ref q_zs, .long v_leftAbove, .long v_leftBelow, .long v_guessAbove, .long v_guessBelow, .int v_sign, .int v_power2, .long v_bits])), (q_w, .inl (cI, 418, .inl v_w)), (q_rs, .inl (cI, 4, .inl v_rs)), (q_cs, .inl (cI, 4, .inl v_cs)), (q_zs, .inl (cJ, 4, .inr (.inl v_zs)))]) (wr := [(q_rs, .inl (cI, 4, .inl v_rs)), (q_cs, .inl (cI, 4, .inl v_cs)), (q_zs, .inl (cJ, 4, .inr (.inl v_zs)))]) (k_runV (rest := [.int x5]) hat hP hD hS hl.1 (c_X12_n q q_w q_imageSeed q_bookOf q_bookAt q_bookIs q_rs q_cs q_zs v_known v_kept v_seed v_written v_above v_below v_leftAbove v_leftBelow v_guessAbove v_guessBelow v_sign v_power2 v_bits v_w r28 h29) [0, 1] (by decide) rfl kw912 kw914 kw19 kw79 kw915 kdVX12_n ⟨rfl, rfl⟩ (by rw [hR]; exact ⟨Nat.le_of_ble_eq_true rfl, Nat.le_of_ble_eq_true rfl⟩) ⟨Nat.zero_le _, Nat.zero_le _⟩ 0 11 rfl rfl rfl rfl (Nat.le_of_ble_eq_true rfl) dX12_layNothing_70) hat hP hD hS [0, 1] rfl [2, 3, 4] rfl rfl rfl rfl rfl (by decide) (fun H locs hP hD hS => ?_)
      refine lv_icmp_ge (tgt := 100) hx hb dX12_layNothing_73 (by decide) (fun c30 => ?_) (fun c30 => ?_)
      · have hf := kp_e hf c30
        obtain rfl := ki1 hf
        exact hk0 _ _ _ hP hD hS (lv_sub hl [0, 1, 2, 3] rfl)
      · have hf := kn_e hf c30
        refine lv_aload_n hx hb dX12_layNothing_76 rfl (lv_at hl 0 rfl) ?_
        refine va_get (D := D) (ci := 11) (v := .ref q_zs) (C := RX12) (T := TX12) (N := 21) hx hb hts kinX12 hown hK hP 0 rfl rfl 13 (by decide) (hts _ kw857) (fun _ h9 => h9) rfl dX12_layNothing_77 ?_
        refine lv_iload hx hb dX12_layNothing_80 (lv_at hl 4 rfl) ?_
        refine lv_iload hx hb dX12_layNothing_82 (lv_at hl 4 rfl) ?_
        refine lv_iload_n hx hb dX12_layNothing_84 rfl (lv_at hl 2 rfl) ?_
        refine lv_icmp_ne (tgt := 92) hx hb dX12_layNothing_85 (by decide) (fun c31 => ?_) (fun c31 => ?_)
        · have hf := kn_e hf c31
          refine lv_lconst (v := 0) hx hb dX12_layNothing_92 (by decide) ?_
          obtain ⟨c32, hf⟩ := kc_e hf
          refine va_last hx hb hK hP hD hS 4 1 rfl rfl (kin_e c32) dX12_layNothing_93 (fun H locs hP hD hS => ?_)
          generalize ew33 : (vp_updL v_zs x5.toNatClampNeg (0 : Int64)) = w33 at hP hD
          have hf := kl_e hf w33 ew33.symm
          have hP : va_P D vwCl [(q, .inr (11, [.ref q_w, .int v_known, .int v_kept, .int v_seed, .ref q_imageSeed, .ref q_bookOf, .ref q_bookAt, .ref q_bookIs, .int v_written, .ref q_rs, .ref q_cs, .long v_above, .long v_below, .ref q_zs, .long v_leftAbove, .long v_leftBelow, .long v_guessAbove, .long v_guessBelow, .int v_sign, .int v_power2, .long v_bits])), (q_w, .inl (cI, 418, .inl v_w)), (q_rs, .inl (cI, 4, .inl v_rs)), (q_cs, .inl (cI, 4, .inl v_cs)), (q_zs, .inl (cJ, 4, .inr (.inl w33)))] H := hP
          have hD : va_D A [(q, .inr (11, [.ref q_w, .int v_known, .int v_kept, .int v_seed, .ref q_imageSeed, .ref q_bookOf, .ref q_bookAt, .ref q_bookIs, .int v_written, .ref q_rs, .ref q_cs, .long v_above, .long v_below, .ref q_zs, .long v_leftAbove, .long v_leftBelow, .long v_guessAbove, .long v_guessBelow, .int v_sign, .int v_power2, .long v_bits])), (q_w, .inl (cI, 418, .inl v_w)), (q_rs, .inl (cI, 4, .inl v_rs)), (q_cs, .inl (cI, 4, .inl v_cs)), (q_zs, .inl (cJ, 4, .inr (.inl w33)))] := hD
          obtain ⟨t34, et34⟩ : ∃ z : Int32, z = (x5 + (1 : Int32)) := ⟨_, rfl⟩
          have hf := kl_e hf t34 et34
          refine lv_iinc (v := t34) (lv' := [(5, .int t34), (0, .ref q), (1, .int x1), (2, .int x2), (3, .long x3)]) hx hb dX12_layNothing_94 hl (k := 4) rfl (by rw [et34]; rfl) (by decide) rfl (fun ls hl => ?_)
          refine lv_goto (tgt := 67) hx hb dX12_layNothing_97 (by decide) ?_
          exact ih t34 w33 o0 hf hk0 _ _ _ hP hD hS (lv_sub hl [1, 2, 3, 4, 0] rfl)
        · have hf := kp_e hf c31
          refine lv_lload_n hx hb dX12_layNothing_88 rfl (lv_at hl 3 rfl) ?_
          refine lv_goto (tgt := 93) hx hb dX12_layNothing_89 (by decide) ?_
          obtain ⟨c35, hf⟩ := kc_e hf
          refine va_last hx hb hK hP hD hS 4 1 rfl rfl (kin_e c35) dX12_layNothing_93 (fun H locs hP hD hS => ?_)
          generalize ew36 : (vp_updL v_zs x5.toNatClampNeg x3) = w36 at hP hD
          have hf := kl_e hf w36 ew36.symm
          have hP : va_P D vwCl [(q, .inr (11, [.ref q_w, .int v_known, .int v_kept, .int v_seed, .ref q_imageSeed, .ref q_bookOf, .ref q_bookAt, .ref q_bookIs, .int v_written, .ref q_rs, .ref q_cs, .long v_above, .long v_below, .ref q_zs, .long v_leftAbove, .long v_leftBelow, .long v_guessAbove, .long v_guessBelow, .int v_sign, .int v_power2, .long v_bits])), (q_w, .inl (cI, 418, .inl v_w)), (q_rs, .inl (cI, 4, .inl v_rs)), (q_cs, .inl (cI, 4, .inl v_cs)), (q_zs, .inl (cJ, 4, .inr (.inl w36)))] H := hP
          have hD : va_D A [(q, .inr (11, [.ref q_w, .int v_known, .int v_kept, .int v_seed, .ref q_imageSeed, .ref q_bookOf, .ref q_bookAt, .ref q_bookIs, .int v_written, .ref q_rs, .ref q_cs, .long v_above, .long v_below, .ref q_zs, .long v_leftAbove, .long v_leftBelow, .long v_guessAbove, .long v_guessBelow, .int v_sign, .int v_power2, .long v_bits])), (q_w, .inl (cI, 418, .inl v_w)), (q_rs, .inl (cI, 4, .inl v_rs)), (q_cs, .inl (cI, 4, .inl v_cs)), (q_zs, .inl (cJ, 4, .inr (.inl w36)))] := hD
          obtain ⟨t37, et37⟩ : ∃ z : Int32, z = (x5 + (1 : Int32)) := ⟨_, rfl⟩
          have hf := kl_e hf t37 et37
          refine lv_iinc (v := t37) (lv' := [(5, .int t37), (0, .ref q), (1, .int x1), (2, .int x2), (3, .long x3)]) hx hb dX12_layNothing_94 hl (k := 4) rfl (by rw [et37]; rfl) (by decide) rfl (fun ls hl => ?_)
          refine lv_goto (tgt := 67) hx hb dX12_layNothing_97 (by decide) ?_
          exact ih t37 w36 o0 hf hk0 _ _ _ hP hD hS (lv_sub hl [1, 2, 3, 4, 0] rfl)
  have hL103 : ∀ (x1 : Int32) (x2 : Int32) (x3 : Int64) (v_known : Int32) (v_kept : Int32) (v_seed : Int32) (v_written : Int32) (v_leftAbove : Int64) (v_leftBelow : Int64) (v_guessAbove : Int64) (v_guessBelow : Int64) (v_sign : Int32) (v_power2 : Int32) (v_bits : Int64) (v_w : (Nat → Int32)) (fu : Nat) (x5 : Int32) (v_above : Int64) (v_below : Int64) (v_rs : (Nat → Int32)) (v_cs : (Nat → Int32)) (v_zs : (Nat → Int64)) (o0 : Int64) (o1 : Int64) (o2 : (Nat → Int32)) (o3 : (Nat → Int32)) (o4 : (Nat → Int64)), L_X12_layNothing_103 F x1 x2 x3 v_w fu x5 v_above v_below v_rs v_cs v_zs = some (o0, o1, o2, o3, o4) → (∀ (H : Heap) (locs : List Loc) (ls : Array Slot), va_P D vwCl [(q, .inr (11, [.ref q_w, .int v_known, .int v_kept, .int v_seed, .ref q_imageSeed, .ref q_bookOf, .ref q_bookAt, .ref q_bookIs, .int v_written, .ref q_rs, .ref q_cs, .long o0, .long o1, .ref q_zs, .long v_leftAbove, .long v_leftBelow, .long v_guessAbove, .long v_guessBelow, .int v_sign, .int v_power2, .long v_bits])), (q_w, .inl (cI, 418, .inl v_w)), (q_rs, .inl (cI, 4, .inl o2)), (q_cs, .inl (cI, 4, .inl o3)), (q_zs, .inl (cJ, 4, .inr (.inl o4)))] H → va_D A [(q, .inr (11, [.ref q_w, .int v_known, .int v_kept, .int v_seed, .ref q_imageSeed, .ref q_bookOf, .ref q_bookAt, .ref q_bookIs, .int v_written, .ref q_rs, .ref q_cs, .long o0, .long o1, .ref q_zs, .long v_leftAbove, .long v_leftBelow, .long v_guessAbove, .long v_guessBelow, .int v_sign, .int v_power2, .long v_bits])), (q_w, .inl (cI, 418, .inl v_w)), (q_rs, .inl (cI, 4, .inl o2)), (q_cs, .inl (cI, 4, .inl o3)), (q_zs, .inl (cJ, 4, .inr (.inl o4)))] → va_S A s.heap H locs → lv_has ls 6 [] → W p l e R s m args below meth c H locs 0 0 Q (F0 m 148 ls [])) → ∀ (H : Heap) (locs : List Loc) (ls : Array Slot), va_P D vwCl [(q, .inr (11, [.ref q_w, .int v_known, .int v_kept, .int v_seed, .ref q_imageSeed, .ref q_bookOf, .ref q_bookAt, .ref q_bookIs, .int v_written, .ref q_rs, .ref q_cs, .long v_above, .long v_below, .ref q_zs, .long v_leftAbove, .long v_leftBelow, .long v_guessAbove, .long v_guessBelow, .int v_sign, .int v_power2, .long v_bits])), (q_w, .inl (cI, 418, .inl v_w)), (q_rs, .inl (cI, 4, .inl v_rs)), (q_cs, .inl (cI, 4, .inl v_cs)), (q_zs, .inl (cJ, 4, .inr (.inl v_zs)))] H → va_D A [(q, .inr (11, [.ref q_w, .int v_known, .int v_kept, .int v_seed, .ref q_imageSeed, .ref q_bookOf, .ref q_bookAt, .ref q_bookIs, .int v_written, .ref q_rs, .ref q_cs, .long v_above, .long v_below, .ref q_zs, .long v_leftAbove, .long v_leftBelow, .long v_guessAbove, .long v_guessBelow, .int v_sign, .int v_power2, .long v_bits])), (q_w, .inl (cI, 418, .inl v_w)), (q_rs, .inl (cI, 4, .inl v_rs)), (q_cs, .inl (cI, 4, .inl v_cs)), (q_zs, .inl (cJ, 4, .inr (.inl v_zs)))] → va_S A s.heap H locs → lv_has ls 6 [(0, .ref q), (1, .int x1), (2, .int x2), (3, .long x3), (5, .int x5)] → W p l e R s m args below meth c H locs 0 0 Q (F0 m 103 ls []) := by
    intro x1 x2 x3 v_known v_kept v_seed v_written v_leftAbove v_leftBelow v_guessAbove v_guessBelow v_sign v_power2 v_bits v_w fu
    induction fu with
    | zero =>
      intro x5 v_above v_below v_rs v_cs v_zs o0 o1 o2 o3 o4 hf
      cases hf
    | succ fu ih =>
      intro x5 v_above v_below v_rs v_cs v_zs o0 o1 o2 o3 o4 hf hk0 H locs ls hP hD hS hl
      rw [L_X12_layNothing_103] at hf
      refine lv_iload hx hb dX12_layNothing_103 (lv_at hl 4 rfl) ?_
      refine lv_iload_n hx hb dX12_layNothing_105 rfl (lv_at hl 1 rfl) ?_
      obtain ⟨r39, h40, hf⟩ := kb1_e hf
      refine k_gi (nW := 5) (ws' := [(q, .inr (11, [.ref q_w, .int v_known, .int v_kept, .int v_seed, .ref q_imageSeed, .ref q_bookOf, .ref q_bookAt, .ref q_bookIs, .int v_written, .ref q_rs, .ref q_cs, .long v_above, .long v_below, .ref q_zs, .long v_leftAbove, .long v_leftBelow, .long v_guessAbove, .long v_guessBelow, .int v_sign, .int v_power2, .long v_bits])), (q_w, .inl (cI, 418, .inl v_w)), (q_rs, .inl (cI, 4, .inl v_rs)), (q_cs, .inl (cI, 4, .inl v_cs)), (q_zs, .inl (cJ, 4, .inr (.inl v_zs)))]) (wr := [(q, .inr (11, [.ref q_w, .int v_known, .int v_kept, .int v_seed, .ref q_imageSeed, .ref q_bookOf, .ref q_bookAt, .ref q_bookIs, .int v_written, .ref q_rs, .ref q_cs, .long v_above, .long v_below, .ref q_zs, .long v_leftAbove, .long v_leftBelow, .long v_guessAbove, .long v_guessBelow, .int v_sign, .int v_power2, .long v_bits])), (q_w, .inl (cI, 418, .inl v_w)), (q_rs, .inl (cI, 4, .inl v_rs)), (q_cs, .inl (cI, 4, .inl v_cs)), (q_zs, .inl (cJ, 4, .inr (.inl v_zs)))]) (k_runS (rest := [.int x5]) hat hP hD hS hl.1 (c_X12_ones x1 r39 h40) [] (by decide) rfl kw935 kw936 kw79 kw937 kdX12_ones ⟨rfl, rfl⟩ (by rw [hR]; exact ⟨Nat.le_of_ble_eq_true rfl, Nat.le_of_ble_eq_true rfl⟩) ⟨Nat.zero_le _, Nat.zero_le _⟩ rfl rfl (Nat.le_of_ble_eq_true rfl) dX12_layNothing_106) hat hP hD hS [] rfl [0, 1, 2, 3, 4] rfl rfl rfl rfl rfl (by decide) (fun H locs hP hD hS => ?_)
      refine lv_icmp_ge (tgt := 148) hx hb dX12_layNothing_109 (by decide) (fun c41 => ?_) (fun c41 => ?_)
      · have hf := kp_e hf c41
        obtain ⟨rfl, rfl, rfl, rfl, rfl⟩ := ki5 hf
        exact hk0 _ _ _ hP hD hS (lv_sub hl [] rfl)
      · have hf := kn_e hf c41
        refine lv_aload_n hx hb dX12_layNothing_112 rfl (lv_at hl 0 rfl) ?_
        refine lv_iload hx hb dX12_layNothing_113 (lv_at hl 4 rfl) ?_
        refine lv_iload_n hx hb dX12_layNothing_115 rfl (lv_at hl 2 rfl) ?_
        obtain ⟨w42, w43, w44, w45, h46, hf⟩ := kb4_e hf
        refine k_gv (nW := 5) (ws' := [(q, .inr (11, [.ref q_w, .int v_known, .int v_kept, .int v_seed, .ref q_imageSeed, .ref q_bookOf, .ref q_bookAt, .ref q_bookIs, .int v_written, .ref q_rs, .ref q_cs, .long w42, .long w43, .ref q_zs, .long v_leftAbove, .long v_leftBelow, .long v_guessAbove, .long v_guessBelow, .int v_sign, .int v_power2, .long v_bits])), (q_w, .inl (cI, 418, .inl v_w)), (q_rs, .inl (cI, 4, .inl w44)), (q_cs, .inl (cI, 4, .inl w45)), (q_zs, .inl (cJ, 4, .inr (.inl v_zs)))]) (wr := [(q_zs, .inl (cJ, 4, .inr (.inl v_zs)))]) (k_runV (rest := []) hat hP hD hS hl.1 (c_X12_layShare q q_w q_imageSeed q_bookOf q_bookAt q_bookIs q_rs q_cs q_zs v_known v_kept v_seed v_written v_above v_below v_leftAbove v_leftBelow v_guessAbove v_guessBelow v_sign v_power2 v_bits v_w v_rs v_cs F x5 x2 w42 w43 w44 w45 h46) [0, 1, 2, 3] (by decide) rfl kw989 kw991 kw35 kw79 kw992 kdVX12_layShare ⟨rfl, rfl⟩ (by rw [hR]; exact ⟨Nat.le_of_ble_eq_true rfl, Nat.le_of_ble_eq_true rfl⟩) ⟨Nat.zero_le _, Nat.zero_le _⟩ 0 11 rfl rfl rfl rfl (Nat.le_of_ble_eq_true rfl) dX12_layNothing_116) hat hP hD hS [0, 1, 2, 3] rfl [4] rfl rfl rfl rfl rfl (by decide) (fun H locs hP hD hS => ?_)
        refine lv_aload_n hx hb dX12_layNothing_119 rfl (lv_at hl 0 rfl) ?_
        refine va_get (D := D) (ci := 11) (v := .ref q_zs) (C := RX12) (T := TX12) (N := 21) hx hb hts kinX12 hown hK hP 0 rfl rfl 13 (by decide) (hts _ kw857) (fun _ h9 => h9) rfl dX12_layNothing_120 ?_
        refine lv_iload_n hx hb dX12_layNothing_123 rfl (lv_at hl 1 rfl) ?_
        refine lv_iload hx hb dX12_layNothing_124 (lv_at hl 4 rfl) ?_
        obtain ⟨r47, h48, hf⟩ := kb1_e hf
        refine k_gi (nW := 5) (ws' := [(q, .inr (11, [.ref q_w, .int v_known, .int v_kept, .int v_seed, .ref q_imageSeed, .ref q_bookOf, .ref q_bookAt, .ref q_bookIs, .int v_written, .ref q_rs, .ref q_cs, .long w42, .long w43, .ref q_zs, .long v_leftAbove, .long v_leftBelow, .long v_guessAbove, .long v_guessBelow, .int v_sign, .int v_power2, .long v_bits])), (q_w, .inl (cI, 418, .inl v_w)), (q_rs, .inl (cI, 4, .inl w44)), (q_cs, .inl (cI, 4, .inl w45)), (q_zs, .inl (cJ, 4, .inr (.inl v_zs)))]) (wr := [(q, .inr (11, [.ref q_w, .int v_known, .int v_kept, .int v_seed, .ref q_imageSeed, .ref q_bookOf, .ref q_bookAt, .ref q_bookIs, .int v_written, .ref q_rs, .ref q_cs, .long w42, .long w43, .ref q_zs, .long v_leftAbove, .long v_leftBelow, .long v_guessAbove, .long v_guessBelow, .int v_sign, .int v_power2, .long v_bits])), (q_w, .inl (cI, 418, .inl v_w)), (q_rs, .inl (cI, 4, .inl w44)), (q_cs, .inl (cI, 4, .inl w45)), (q_zs, .inl (cJ, 4, .inr (.inl v_zs)))]) (k_runS (rest := [.ref q_zs]) hat hP hD hS hl.1 (c_X12_pick F x1 x5 r47 h48) [] (by decide) rfl kw938 kw939 kw79 kw940 kdX12_pick ⟨rfl, rfl⟩ (by rw [hR]; exact ⟨Nat.le_of_ble_eq_true rfl, Nat.le_of_ble_eq_true rfl⟩) ⟨Nat.zero_le _, Nat.zero_le _⟩ rfl rfl (Nat.le_of_ble_eq_true rfl) dX12_layNothing_126) hat hP hD hS [] rfl [0, 1, 2, 3, 4] rfl rfl rfl rfl rfl (by decide) (fun H locs hP hD hS => ?_)
        refine lv_aload_n hx hb dX12_layNothing_129 rfl (lv_at hl 0 rfl) ?_
        refine va_get (D := D) (ci := 11) (v := .long w42) (C := RX12) (T := TX12) (N := 21) hx hb hts kinX12 hown hK hP 0 rfl rfl 11 (by decide) (hts _ kw855) (fun _ h9 => h9) rfl dX12_layNothing_130 ?_
        refine lv_lneg hx hb dX12_layNothing_133 ?_
        refine lv_lload_n hx hb dX12_layNothing_134 rfl (lv_at hl 3 rfl) ?_
        refine lv_aload_n hx hb dX12_layNothing_135 rfl (lv_at hl 0 rfl) ?_
        refine va_get (D := D) (ci := 11) (v := .long w43) (C := RX12) (T := TX12) (N := 21) hx hb hts kinX12 hown hK hP 0 rfl rfl 12 (by decide) (hts _ kw856) (fun _ h9 => h9) rfl dX12_layNothing_136 ?_
        obtain ⟨c49, hf⟩ := kc_e hf
        refine lv_ldiv hx hb dX12_layNothing_139 c49 ?_
        refine lv_lmul hx hb dX12_layNothing_140 ?_
        obtain ⟨c50, hf⟩ := kc_e hf
        refine va_last hx hb hK hP hD hS 4 1 rfl rfl (kin_e c50) dX12_layNothing_141 (fun H locs hP hD hS => ?_)
        generalize ew51 : (vp_updL v_zs r47.toNatClampNeg ((-w42) * (x3 / w43))) = w51 at hP hD
        have hf := kl_e hf w51 ew51.symm
        have hP : va_P D vwCl [(q, .inr (11, [.ref q_w, .int v_known, .int v_kept, .int v_seed, .ref q_imageSeed, .ref q_bookOf, .ref q_bookAt, .ref q_bookIs, .int v_written, .ref q_rs, .ref q_cs, .long w42, .long w43, .ref q_zs, .long v_leftAbove, .long v_leftBelow, .long v_guessAbove, .long v_guessBelow, .int v_sign, .int v_power2, .long v_bits])), (q_w, .inl (cI, 418, .inl v_w)), (q_rs, .inl (cI, 4, .inl w44)), (q_cs, .inl (cI, 4, .inl w45)), (q_zs, .inl (cJ, 4, .inr (.inl w51)))] H := hP
        have hD : va_D A [(q, .inr (11, [.ref q_w, .int v_known, .int v_kept, .int v_seed, .ref q_imageSeed, .ref q_bookOf, .ref q_bookAt, .ref q_bookIs, .int v_written, .ref q_rs, .ref q_cs, .long w42, .long w43, .ref q_zs, .long v_leftAbove, .long v_leftBelow, .long v_guessAbove, .long v_guessBelow, .int v_sign, .int v_power2, .long v_bits])), (q_w, .inl (cI, 418, .inl v_w)), (q_rs, .inl (cI, 4, .inl w44)), (q_cs, .inl (cI, 4, .inl w45)), (q_zs, .inl (cJ, 4, .inr (.inl w51)))] := hD
        obtain ⟨t52, et52⟩ : ∃ z : Int32, z = (x5 + (1 : Int32)) := ⟨_, rfl⟩
        have hf := kl_e hf t52 et52
        refine lv_iinc (v := t52) (lv' := [(5, .int t52), (0, .ref q), (1, .int x1), (2, .int x2), (3, .long x3)]) hx hb dX12_layNothing_142 hl (k := 4) rfl (by rw [et52]; rfl) (by decide) rfl (fun ls hl => ?_)
        refine lv_goto (tgt := 103) hx hb dX12_layNothing_145 (by decide) ?_
        exact ih t52 w42 w43 w44 w45 w51 o0 o1 o2 o3 o4 hf hk0 _ _ _ hP hD hS (lv_sub hl [1, 2, 3, 4, 0] rfl)
  unfold f_X12_layNothing at hf
  refine lv_aload_n hx hb dX12_layNothing_0 rfl (lv_at hl 0 rfl) ?_
  obtain ⟨r1, w2, w3, h4, hf⟩ := kb3_e hf
  refine k_gi (nW := 5) (ws' := [(q, .inr (11, [.ref q_w, .int v_known, .int v_kept, .int v_seed, .ref q_imageSeed, .ref q_bookOf, .ref q_bookAt, .ref q_bookIs, .int v_written, .ref q_rs, .ref q_cs, .long v_above, .long v_below, .ref q_zs, .long v_leftAbove, .long v_leftBelow, .long v_guessAbove, .long v_guessBelow, .int v_sign, .int v_power2, .long v_bits])), (q_w, .inl (cI, 418, .inl v_w)), (q_rs, .inl (cI, 4, .inl w2)), (q_cs, .inl (cI, 4, .inl w3)), (q_zs, .inl (cJ, 4, .inr (.inl v_zs)))]) (wr := [(q_zs, .inl (cJ, 4, .inr (.inl v_zs)))]) (k_runV (rest := []) hat hP hD hS hl.1 (c_X12_leading q q_w q_imageSeed q_bookOf q_bookAt q_bookIs q_rs q_cs q_zs v_known v_kept v_seed v_written v_above v_below v_leftAbove v_leftBelow v_guessAbove v_guessBelow v_sign v_power2 v_bits v_w v_rs v_cs F r1 w2 w3 h4) [0, 1, 2, 3] (by decide) rfl kw981 kw983 kw33 kw79 kw984 kdVX12_leading ⟨rfl, rfl⟩ (by rw [hR]; exact ⟨Nat.le_of_ble_eq_true rfl, Nat.le_of_ble_eq_true rfl⟩) ⟨Nat.zero_le _, Nat.zero_le _⟩ 0 11 rfl rfl rfl rfl (Nat.le_of_ble_eq_true rfl) dX12_layNothing_1) hat hP hD hS [0, 1, 2, 3] rfl [4] rfl rfl rfl rfl rfl (by decide) (fun H locs hP hD hS => ?_)
  refine lv_istore_n (lv' := [(1, .int r1), (0, .ref q)]) hx hb dX12_layNothing_4 rfl hl (by decide) rfl (fun ls hl => ?_)
  refine lv_iconst (v := 0) hx hb dX12_layNothing_5 (by decide) ?_
  refine lv_istore_n (lv' := [(2, .int (0 : Int32)), (1, .int r1), (0, .ref q)]) hx hb dX12_layNothing_6 rfl hl (by decide) rfl (fun ls hl => ?_)
  obtain ⟨y9, hu, hf⟩ := kb1_e hf
  refine hL7 r1 v_known v_kept v_seed v_written v_above v_below v_leftAbove v_leftBelow v_guessAbove v_guessBelow v_sign v_power2 v_bits v_w w2 w3 v_zs F (0 : Int32) y9 hu (fun H locs ls hP hD hS hl => ?_) _ _ _ hP hD hS (lv_sub hl [2, 1, 0] rfl)
  refine lv_lconst (v := 1) hx hb dX12_layNothing_21 (by decide) ?_
  refine lv_lstore_n (lv' := [(3, .long (1 : Int64)), (0, .ref q), (1, .int r1), (2, .int y9)]) hx hb dX12_layNothing_22 rfl hl (by decide) rfl (fun ls hl => ?_)
  refine lv_iconst (v := 0) hx hb dX12_layNothing_23 (by decide) ?_
  refine lv_istore (lv' := [(5, .int (0 : Int32)), (3, .long (1 : Int64)), (0, .ref q), (1, .int r1), (2, .int y9)]) hx hb dX12_layNothing_24 hl (by decide) rfl (fun ls hl => ?_)
  obtain ⟨y23, w24, w25, w26, w27, hu, hf⟩ := kb5_e hf
  refine hL26 r1 y9 v_known v_kept v_seed v_written v_leftAbove v_leftBelow v_guessAbove v_guessBelow v_sign v_power2 v_bits v_w v_zs F (1 : Int64) (0 : Int32) v_above v_below w2 w3 y23 w24 w25 w26 w27 hu (fun H locs ls hP hD hS hl => ?_) _ _ _ hP hD hS (lv_sub hl [2, 3, 4, 1, 0] rfl)
  refine lv_iconst (v := 0) hx hb dX12_layNothing_64 (by decide) ?_
  refine lv_istore (lv' := [(5, .int (0 : Int32)), (0, .ref q), (1, .int r1), (2, .int y9), (3, .long y23)]) hx hb dX12_layNothing_65 hl (by decide) rfl (fun ls hl => ?_)
  obtain ⟨w38, hu, hf⟩ := kb1_e hf
  refine hL67 r1 y9 y23 v_known v_kept v_seed v_written w24 w25 v_leftAbove v_leftBelow v_guessAbove v_guessBelow v_sign v_power2 v_bits v_w w26 w27 F (0 : Int32) v_zs w38 hu (fun H locs ls hP hD hS hl => ?_) _ _ _ hP hD hS (lv_sub hl [1, 2, 3, 4, 0] rfl)
  refine lv_iconst (v := 0) hx hb dX12_layNothing_100 (by decide) ?_
  refine lv_istore (lv' := [(5, .int (0 : Int32)), (0, .ref q), (1, .int r1), (2, .int y9), (3, .long y23)]) hx hb dX12_layNothing_101 hl (by decide) rfl (fun ls hl => ?_)
  obtain ⟨w53, w54, w55, w56, w57, hu, hf⟩ := kb5_e hf
  refine hL103 r1 y9 y23 v_known v_kept v_seed v_written v_leftAbove v_leftBelow v_guessAbove v_guessBelow v_sign v_power2 v_bits v_w F (0 : Int32) w24 w25 w26 w27 w38 w53 w54 w55 w56 w57 hu (fun H locs ls hP hD hS hl => ?_) _ _ _ hP hD hS (lv_sub hl [1, 2, 3, 4, 0] rfl)
  obtain ⟨rfl, rfl, rfl, rfl, rfl⟩ := ki5 hf
  rw [hQ]
  exact k_vret hat hP hS dX12_layNothing_148
set_option maxHeartbeats 4000000 in
set_option maxRecDepth 100000 in
theorem c_X12_isBad {l : Launch} {D : va_G} {cI cJ cQ : ClassId} {tp : Nat} (q : Nat) (q_w : Nat) (q_imageSeed : Nat) (q_bookOf : Nat) (q_bookAt : Nat) (q_bookIs : Nat) (q_rs : Nat) (q_cs : Nat) (q_zs : Nat) (v_known : Int32) (v_kept : Int32) (v_seed : Int32) (v_written : Int32) (v_above : Int64) (v_below : Int64) (v_leftAbove : Int64) (v_leftBelow : Int64) (v_guessAbove : Int64) (v_guessBelow : Int64) (v_sign : Int32) (v_power2 : Int32) (v_bits : Int64) (v_w : (Nat → Int32)) (v_rs : (Nat → Int32)) (v_cs : (Nat → Int32)) (F : Nat) (r0 : Int32) (o_v_rs : (Nat → Int32)) (o_v_cs : (Nat → Int32)) (hf : f_X12_isBad F v_w v_rs v_cs = some (r0, o_v_rs, o_v_cs)) : kM (fun A => kQi D A [(q, .inr (11, [.ref q_w, .int v_known, .int v_kept, .int v_seed, .ref q_imageSeed, .ref q_bookOf, .ref q_bookAt, .ref q_bookIs, .int v_written, .ref q_rs, .ref q_cs, .long v_above, .long v_below, .ref q_zs, .long v_leftAbove, .long v_leftBelow, .long v_guessAbove, .long v_guessBelow, .int v_sign, .int v_power2, .long v_bits])), (q_w, .inl (cI, 418, .inl v_w)), (q_rs, .inl (cI, 4, .inl o_v_rs)), (q_cs, .inl (cI, 4, .inl o_v_cs))] r0) (some .boolean) l yX12_isBad cX12_isBad 1 { frames := 7, cells := 0, slots := 0, locals := 157 } D cI cJ cQ tp [.ref q] [(q, .inr (11, [.ref q_w, .int v_known, .int v_kept, .int v_seed, .ref q_imageSeed, .ref q_bookOf, .ref q_bookAt, .ref q_bookIs, .int v_written, .ref q_rs, .ref q_cs, .long v_above, .long v_below, .ref q_zs, .long v_leftAbove, .long v_leftBelow, .long v_guessAbove, .long v_guessBelow, .int v_sign, .int v_power2, .long v_bits])), (q_w, .inl (cI, 418, .inl v_w)), (q_rs, .inl (cI, 4, .inl v_rs)), (q_cs, .inl (cI, 4, .inl v_cs))] := by
  refine kM_of (by decide +kernel) (Nat.le_of_ble_eq_true rfl) ?_
  intro p e s m args below meth c A ls R Q hR hQ hat hP hD hS hl
  obtain ⟨hx, hb, hr, hml, hown, hts, hT, hlk, hK, hA, hZ⟩ := id hat
  have hown : s.vm.findClass RX12 = some m.cls := hown
  have hl : lv_has ls 1 [(0, .ref q)] := hl
  unfold f_X12_isBad at hf
  refine lv_aload_n hx hb dX12_isBad_0 rfl (lv_at hl 0 rfl) ?_
  obtain ⟨r1, w2, w3, h4, hf⟩ := kb3_e hf
  refine k_gl (nW := 4) (ws' := [(q, .inr (11, [.ref q_w, .int v_known, .int v_kept, .int v_seed, .ref q_imageSeed, .ref q_bookOf, .ref q_bookAt, .ref q_bookIs, .int v_written, .ref q_rs, .ref q_cs, .long v_above, .long v_below, .ref q_zs, .long v_leftAbove, .long v_leftBelow, .long v_guessAbove, .long v_guessBelow, .int v_sign, .int v_power2, .long v_bits])), (q_w, .inl (cI, 418, .inl v_w)), (q_rs, .inl (cI, 4, .inl w2)), (q_cs, .inl (cI, 4, .inl w3))]) (wr := []) (k_runV (rest := []) hat hP hD hS hl.1 (c_X12_determinant q q_w q_imageSeed q_bookOf q_bookAt q_bookIs q_rs q_cs q_zs v_known v_kept v_seed v_written v_above v_below v_leftAbove v_leftBelow v_guessAbove v_guessBelow v_sign v_power2 v_bits v_w v_rs v_cs F r1 w2 w3 h4) [0, 1, 2, 3] (by decide) rfl kw923 kw925 kw21 kw79 kw926 kdVX12_determinant ⟨rfl, rfl⟩ (by rw [hR]; exact ⟨Nat.le_of_ble_eq_true rfl, Nat.le_of_ble_eq_true rfl⟩) ⟨Nat.zero_le _, Nat.zero_le _⟩ 0 11 rfl rfl rfl rfl (Nat.le_of_ble_eq_true rfl) dX12_isBad_1) hat hP hD hS [0, 1, 2, 3] rfl [] rfl rfl rfl rfl rfl (by decide) (fun H locs hP hD hS => ?_)
  refine lv_aload_n hx hb dX12_isBad_4 rfl (lv_at hl 0 rfl) ?_
  obtain ⟨r5, h6, hf⟩ := kb1_e hf
  refine k_gi (nW := 4) (ws' := [(q, .inr (11, [.ref q_w, .int v_known, .int v_kept, .int v_seed, .ref q_imageSeed, .ref q_bookOf, .ref q_bookAt, .ref q_bookIs, .int v_written, .ref q_rs, .ref q_cs, .long v_above, .long v_below, .ref q_zs, .long v_leftAbove, .long v_leftBelow, .long v_guessAbove, .long v_guessBelow, .int v_sign, .int v_power2, .long v_bits])), (q_w, .inl (cI, 418, .inl v_w)), (q_rs, .inl (cI, 4, .inl w2)), (q_cs, .inl (cI, 4, .inl w3))]) (wr := [(q_rs, .inl (cI, 4, .inl w2)), (q_cs, .inl (cI, 4, .inl w3))]) (k_runV (rest := [.long r1]) hat hP hD hS hl.1 (c_X12_p q q_w q_imageSeed q_bookOf q_bookAt q_bookIs q_rs q_cs q_zs v_known v_kept v_seed v_written v_above v_below v_leftAbove v_leftBelow v_guessAbove v_guessBelow v_sign v_power2 v_bits v_w F r5 h6) [0, 1] (by decide) rfl kw916 kw918 kw20 kw79 kw919 kdVX12_p ⟨rfl, rfl⟩ (by rw [hR]; exact ⟨Nat.le_of_ble_eq_true rfl, Nat.le_of_ble_eq_true rfl⟩) ⟨Nat.zero_le _, Nat.zero_le _⟩ 0 11 rfl rfl rfl rfl (Nat.le_of_ble_eq_true rfl) dX12_isBad_5) hat hP hD hS [0, 1] rfl [2, 3] rfl rfl rfl rfl rfl (by decide) (fun H locs hP hD hS => ?_)
  refine lv_i2l hx hb dX12_isBad_8 rfl ?_
  obtain ⟨c7, hf⟩ := kc_e hf
  refine lv_lrem hx hb dX12_isBad_9 c7 ?_
  refine lv_lconst (v := 0) hx hb dX12_isBad_10 (by decide) ?_
  refine k_lcmp_ne (tgt := 19) hx hb dX12_isBad_11 dX12_isBad_12 (by decide) (fun c8 => ?_) (fun c8 => ?_)
  · have hf := kn_e hf c8
    refine lv_iconst (v := 0) hx hb dX12_isBad_19 (by decide) ?_
    obtain ⟨rfl, rfl, rfl⟩ := ki3 hf
    rw [hQ]
    exact k_zret hat hP hS rfl (by decide) dX12_isBad_20
  · have hf := kp_e hf c8
    refine lv_iconst (v := 1) hx hb dX12_isBad_15 (by decide) ?_
    refine lv_goto (tgt := 20) hx hb dX12_isBad_16 (by decide) ?_
    obtain ⟨rfl, rfl, rfl⟩ := ki3 hf
    rw [hQ]
    exact k_zret hat hP hS rfl (by decide) dX12_isBad_20
set_option maxHeartbeats 4000000 in
set_option maxRecDepth 100000 in
theorem c_X12_badMany {l : Launch} {D : va_G} {cI cJ cQ : ClassId} {tp : Nat} (q : Nat) (q_w : Nat) (q_imageSeed : Nat) (q_bookOf : Nat) (q_bookAt : Nat) (q_bookIs : Nat) (q_rs : Nat) (q_cs : Nat) (q_zs : Nat) (v_known : Int32) (v_kept : Int32) (v_seed : Int32) (v_written : Int32) (v_above : Int64) (v_below : Int64) (v_leftAbove : Int64) (v_leftBelow : Int64) (v_guessAbove : Int64) (v_guessBelow : Int64) (v_sign : Int32) (v_power2 : Int32) (v_bits : Int64) (v_w : (Nat → Int32)) (v_rs : (Nat → Int32)) (v_cs : (Nat → Int32)) (F : Nat) (r0 : Int32) (o_v_rs : (Nat → Int32)) (o_v_cs : (Nat → Int32)) (hf : f_X12_badMany F v_w v_rs v_cs = some (r0, o_v_rs, o_v_cs)) : kM (fun A => kQi D A [(q, .inr (11, [.ref q_w, .int v_known, .int v_kept, .int v_seed, .ref q_imageSeed, .ref q_bookOf, .ref q_bookAt, .ref q_bookIs, .int v_written, .ref q_rs, .ref q_cs, .long v_above, .long v_below, .ref q_zs, .long v_leftAbove, .long v_leftBelow, .long v_guessAbove, .long v_guessBelow, .int v_sign, .int v_power2, .long v_bits])), (q_w, .inl (cI, 418, .inl v_w)), (q_rs, .inl (cI, 4, .inl o_v_rs)), (q_cs, .inl (cI, 4, .inl o_v_cs))] r0) (some .int) l yX12_badMany cX12_badMany 5 { frames := 7, cells := 0, slots := 0, locals := 157 } D cI cJ cQ tp [.ref q] [(q, .inr (11, [.ref q_w, .int v_known, .int v_kept, .int v_seed, .ref q_imageSeed, .ref q_bookOf, .ref q_bookAt, .ref q_bookIs, .int v_written, .ref q_rs, .ref q_cs, .long v_above, .long v_below, .ref q_zs, .long v_leftAbove, .long v_leftBelow, .long v_guessAbove, .long v_guessBelow, .int v_sign, .int v_power2, .long v_bits])), (q_w, .inl (cI, 418, .inl v_w)), (q_rs, .inl (cI, 4, .inl v_rs)), (q_cs, .inl (cI, 4, .inl v_cs))] := by
  refine kM_of (by decide +kernel) (Nat.le_of_ble_eq_true rfl) ?_
  intro p e s m args below meth c A ls R Q hR hQ hat hP hD hS hl
  obtain ⟨hx, hb, hr, hml, hown, hts, hT, hlk, hK, hA, hZ⟩ := id hat
  have hown : s.vm.findClass RX12 = some m.cls := hown
  have hl : lv_has ls 5 [(0, .ref q)] := hl
  have hL10 : ∀ (x2 : Int64) (v_known : Int32) (v_kept : Int32) (v_seed : Int32) (v_written : Int32) (v_above : Int64) (v_below : Int64) (v_leftAbove : Int64) (v_leftBelow : Int64) (v_guessAbove : Int64) (v_guessBelow : Int64) (v_sign : Int32) (v_power2 : Int32) (v_bits : Int64) (v_w : (Nat → Int32)) (v_rs : (Nat → Int32)) (v_cs : (Nat → Int32)) (fu : Nat) (x1 : Int32) (x4 : Int32) (o0 : Int32), L_X12_badMany_10 F x2 fu x1 x4 = some o0 → (∀ (H : Heap) (locs : List Loc) (ls : Array Slot), va_P D vwCl [(q, .inr (11, [.ref q_w, .int v_known, .int v_kept, .int v_seed, .ref q_imageSeed, .ref q_bookOf, .ref q_bookAt, .ref q_bookIs, .int v_written, .ref q_rs, .ref q_cs, .long v_above, .long v_below, .ref q_zs, .long v_leftAbove, .long v_leftBelow, .long v_guessAbove, .long v_guessBelow, .int v_sign, .int v_power2, .long v_bits])), (q_w, .inl (cI, 418, .inl v_w)), (q_rs, .inl (cI, 4, .inl v_rs)), (q_cs, .inl (cI, 4, .inl v_cs))] H → va_D A [(q, .inr (11, [.ref q_w, .int v_known, .int v_kept, .int v_seed, .ref q_imageSeed, .ref q_bookOf, .ref q_bookAt, .ref q_bookIs, .int v_written, .ref q_rs, .ref q_cs, .long v_above, .long v_below, .ref q_zs, .long v_leftAbove, .long v_leftBelow, .long v_guessAbove, .long v_guessBelow, .int v_sign, .int v_power2, .long v_bits])), (q_w, .inl (cI, 418, .inl v_w)), (q_rs, .inl (cI, 4, .inl v_rs)), (q_cs, .inl (cI, 4, .inl v_cs))] → va_S A s.heap H locs → lv_has ls 5 [(1, .int o0)] → W p l e R s m args below meth c H locs 0 0 Q (F0 m 49 ls [])) → ∀ (H : Heap) (locs : List Loc) (ls : Array Slot), va_P D vwCl [(q, .inr (11, [.ref q_w, .int v_known, .int v_kept, .int v_seed, .ref q_imageSeed, .ref q_bookOf, .ref q_bookAt, .ref q_bookIs, .int v_written, .ref q_rs, .ref q_cs, .long v_above, .long v_below, .ref q_zs, .long v_leftAbove, .long v_leftBelow, .long v_guessAbove, .long v_guessBelow, .int v_sign, .int v_power2, .long v_bits])), (q_w, .inl (cI, 418, .inl v_w)), (q_rs, .inl (cI, 4, .inl v_rs)), (q_cs, .inl (cI, 4, .inl v_cs))] H → va_D A [(q, .inr (11, [.ref q_w, .int v_known, .int v_kept, .int v_seed, .ref q_imageSeed, .ref q_bookOf, .ref q_bookAt, .ref q_bookIs, .int v_written, .ref q_rs, .ref q_cs, .long v_above, .long v_below, .ref q_zs, .long v_leftAbove, .long v_leftBelow, .long v_guessAbove, .long v_guessBelow, .int v_sign, .int v_power2, .long v_bits])), (q_w, .inl (cI, 418, .inl v_w)), (q_rs, .inl (cI, 4, .inl v_rs)), (q_cs, .inl (cI, 4, .inl v_cs))] → va_S A s.heap H locs → lv_has ls 5 [(1, .int x1), (2, .long x2), (4, .int x4)] → W p l e R s m args below meth c H locs 0 0 Q (F0 m 10 ls []) := by
    intro x2 v_known v_kept v_seed v_written v_above v_below v_leftAbove v_leftBelow v_guessAbove v_guessBelow v_sign v_power2 v_bits v_w v_rs v_cs fu
    induction fu with
    | zero =>
      intro x1 x4 o0 hf
      cases hf
    | succ fu ih =>
      intro x1 x4 o0 hf hk0 H locs ls hP hD hS hl
      rw [L_X12_badMany_10] at hf
      refine lv_iload hx hb dX12_badMany_10 (lv_at hl 2 rfl) ?_
      refine lv_bipush (v := 98) hx hb dX12_badMany_12 (by decide) ?_
      refine lv_icmp_ge (tgt := 49) hx hb dX12_badMany_14 (by decide) (fun c5 => ?_) (fun c5 => ?_)
      · have hf := kp_e hf c5
        obtain rfl := ki1 hf
        exact hk0 _ _ _ hP hD hS (lv_sub hl [0] rfl)
      · have hf := kn_e hf c5
        refine lv_iload_n hx hb dX12_badMany_17 rfl (lv_at hl 0 rfl) ?_
        refine lv_iload hx hb dX12_badMany_18 (lv_at hl 2 rfl) ?_
        obtain ⟨r6, h7, hf⟩ := kb1_e hf
        refine k_gi (nW := 4) (ws' := [(q, .inr (11, [.ref q_w, .int v_known, .int v_kept, .int v_seed, .ref q_imageSeed, .ref q_bookOf, .ref q_bookAt, .ref q_bookIs, .int v_written, .ref q_rs, .ref q_cs, .long v_above, .long v_below, .ref q_zs, .long v_leftAbove, .long v_leftBelow, .long v_guessAbove, .long v_guessBelow, .int v_sign, .int v_power2, .long v_bits])), (q_w, .inl (cI, 418, .inl v_w)), (q_rs, .inl (cI, 4, .inl v_rs)), (q_cs, .inl (cI, 4, .inl v_cs))]) (wr := [(q, .inr (11, [.ref q_w, .int v_known, .int v_kept, .int v_seed, .ref q_imageSeed, .ref q_bookOf, .ref q_bookAt, .ref q_bookIs, .int v_written, .ref q_rs, .ref q_cs, .long v_above, .long v_below, .ref q_zs, .long v_leftAbove, .long v_leftBelow, .long v_guessAbove, .long v_guessBelow, .int v_sign, .int v_power2, .long v_bits])), (q_w, .inl (cI, 418, .inl v_w)), (q_rs, .inl (cI, 4, .inl v_rs)), (q_cs, .inl (cI, 4, .inl v_cs))]) (k_runS (rest := [.int x1]) hat hP hD hS hl.1 (c_X12_isPrime F x4 r6 h7) [] (by decide) rfl kw920 kw921 kw79 kw922 kdX12_isPrime ⟨rfl, rfl⟩ (by rw [hR]; exact ⟨Nat.le_of_ble_eq_true rfl, Nat.le_of_ble_eq_true rfl⟩) ⟨Nat.zero_le _, Nat.zero_le _⟩ rfl rfl (Nat.le_of_ble_eq_true rfl) dX12_badMany_20) hat hP hD hS [] rfl [0, 1, 2, 3] rfl rfl rfl rfl rfl (by decide) (fun H locs hP hD hS => ?_)
        refine lv_if_eq (tgt := 40) hx hb dX12_badMany_23 (by decide) (fun c8 => ?_) (fun c8 => ?_)
        · have hf := kp_e hf c8
          refine lv_iconst (v := 0) hx hb dX12_badMany_40 (by decide) ?_
          refine lv_iadd hx hb dX12_badMany_41 ?_
          refine lv_topi (fun t9 et9 => ?_)
          have hf := kl_e hf t9 et9
          refine lv_istore_n (lv' := [(1, .int t9), (2, .long x2), (4, .int x4)]) hx hb dX12_badMany_42 rfl hl (by decide) rfl (fun ls hl => ?_)
          obtain ⟨t10, et10⟩ : ∃ z : Int32, z = (x4 + (1 : Int32)) := ⟨_, rfl⟩
          have hf := kl_e hf t10 et10
          refine lv_iinc (v := t10) (lv' := [(4, .int t10), (1, .int t9), (2, .long x2)]) hx hb dX12_badMany_43 hl (k := 2) rfl (by rw [et10]; rfl) (by decide) rfl (fun ls hl => ?_)
          refine lv_goto (tgt := 10) hx hb dX12_badMany_46 (by decide) ?_
          exact ih t9 t10 o0 hf hk0 _ _ _ hP hD hS (lv_sub hl [1, 2, 0] rfl)
        · have hf := kn_e hf c8
          refine lv_lload_n hx hb dX12_badMany_26 rfl (lv_at hl 1 rfl) ?_
          refine lv_iload hx hb dX12_badMany_27 (lv_at hl 2 rfl) ?_
          refine lv_i2l hx hb dX12_badMany_29 rfl ?_
          obtain ⟨c11, hf⟩ := kc_e hf
          refine lv_lrem hx hb dX12_badMany_30 c11 ?_
          refine lv_lconst (v := 0) hx hb dX12_badMany_31 (by decide) ?_
          refine k_lcmp_ne (tgt := 40) hx hb dX12_badMany_32 dX12_badMany_33 (by decide) (fun c12 => ?_) (fun c12 => ?_)
          · have hf := kn_e hf c12
            refine lv_iconst (v := 0) hx hb dX12_badMany_40 (by decide) ?_
            refine lv_iadd hx hb dX12_badMany_41 ?_
            refine lv_topi (fun t13 et13 => ?_)
            have hf := kl_e hf t13 et13
            refine lv_istore_n (lv' := [(1, .int t13), (2, .long x2), (4, .int x4)]) hx hb dX12_badMany_42 rfl hl (by decide) rfl (fun ls hl => ?_)
            obtain ⟨t14, et14⟩ : ∃ z : Int32, z = (x4 + (1 : Int32)) := ⟨_, rfl⟩
            have hf := kl_e hf t14 et14
            refine lv_iinc (v := t14) (lv' := [(4, .int t14), (1, .int t13), (2, .long x2)]) hx hb dX12_badMany_43 hl (k := 2) rfl (by rw [et14]; rfl) (by decide) rfl (fun ls hl => ?_)
            refine lv_goto (tgt := 10) hx hb dX12_badMany_46 (by decide) ?_
            exact ih t13 t14 o0 hf hk0 _ _ _ hP hD hS (lv_sub hl [1, 2, 0] rfl)
          · have hf := kp_e hf c12
            refine lv_iconst (v := 1) hx hb dX12_badMany_36 (by decide) ?_
            refine lv_goto (tgt := 41) hx hb dX12_badMany_37 (by decide) ?_
            refine lv_iadd hx hb dX12_badMany_41 ?_
            refine lv_topi (fun t15 et15 => ?_)
            have hf := kl_e hf t15 et15
            refine lv_istore_n (lv' := [(1, .int t15), (2, .long x2), (4, .int x4)]) hx hb dX12_badMany_42 rfl hl (by decide) rfl (fun ls hl => ?_)
            obtain ⟨t16, et16⟩ : ∃ z : Int32, z = (x4 + (1 : Int32)) := ⟨_, rfl⟩
            have hf := kl_e hf t16 et16
            refine lv_iinc (v := t16) (lv' := [(4, .int t16), (1, .int t15), (2, .long x2)]) hx hb dX12_badMany_43 hl (k := 2) rfl (by rw [et16]; rfl) (by decide) rfl (fun ls hl => ?_)
            refine lv_goto (tgt := 10) hx hb dX12_badMany_46 (by decide) ?_
            exact ih t15 t16 o0 hf hk0 _ _ _ hP hD hS (lv_sub hl [1, 2, 0] rfl)
  unfold f_X12_badMany at hf
  refine lv_iconst (v := 0) hx hb dX12_badMany_0 (by decide) ?_
  refine lv_istore_n (lv' := [(1, .int (0 : Int32)), (0, .ref q)]) hx hb dX12_badMany_1 rfl hl (by decide) rfl (fun ls hl => ?_)
  refine lv_aload_n hx hb dX12_badMany_2 rfl (lv_at hl 1 rfl) ?_
  obtain ⟨r1, w2, w3, h4, hf⟩ := kb3_e hf
  refine k_gl (nW := 4) (ws' := [(q, .inr (11, [.ref q_w, .int v_known, .int v_kept, .int v_seed, .ref q_imageSeed, .ref q_bookOf, .ref q_bookAt, .ref q_bookIs, .int v_written, .ref q_rs, .ref q_cs, .long v_above, .long v_below, .ref q_zs, .long v_leftAbove, .long v_leftBelow, .long v_guessAbove, .long v_guessBelow, .int v_sign, .int v_power2, .long v_bits])), (q_w, .inl (cI, 418, .inl v_w)), (q_rs, .inl (cI, 4, .inl w2)), (q_cs, .inl (cI, 4, .inl w3))]) (wr := []) (k_runV (rest := []) hat hP hD hS hl.1 (c_X12_determinant q q_w q_imageSeed q_bookOf q_bookAt q_bookIs q_rs q_cs q_zs v_known v_kept v_seed v_written v_above v_below v_leftAbove v_leftBelow v_guessAbove v_guessBelow v_sign v_power2 v_bits v_w v_rs v_cs F r1 w2 w3 h4) [0, 1, 2, 3] (by decide) rfl kw923 kw925 kw21 kw79 kw926 kdVX12_determinant ⟨rfl, rfl⟩ (by rw [hR]; exact ⟨Nat.le_of_ble_eq_true rfl, Nat.le_of_ble_eq_true rfl⟩) ⟨Nat.zero_le _, Nat.zero_le _⟩ 0 11 rfl rfl rfl rfl (Nat.le_of_ble_eq_true rfl) dX12_badMany_3) hat hP hD hS [0, 1, 2, 3] rfl [] rfl rfl rfl rfl rfl (by decide) (fun H locs hP hD hS => ?_)
  refine lv_lstore_n (lv' := [(2, .long r1), (1, .int (0 : Int32)), (0, .ref q)]) hx hb dX12_badMany_6 rfl hl (by decide) rfl (fun ls hl => ?_)
  refine lv_iconst (v := 2) hx hb dX12_badMany_7 (by decide) ?_
  refine lv_istore (lv' := [(4, .int (2 : Int32)), (2, .long r1), (1, .int (0 : Int32)), (0, .ref q)]) hx hb dX12_badMany_8 hl (by decide) rfl (fun ls hl => ?_)
  obtain ⟨y17, hu, hf⟩ := kb1_e hf
  refine hL10 r1 v_known v_kept v_seed v_written v_above v_below v_leftAbove v_leftBelow v_guessAbove v_guessBelow v_sign v_power2 v_bits v_w w2 w3 F (0 : Int32) (2 : Int32) y17 hu (fun H locs ls hP hD hS hl => ?_) _ _ _ hP hD hS (lv_sub hl [2, 1, 0] rfl)
  refine lv_iload_n hx hb dX12_badMany_49 rfl (lv_at hl 0 rfl) ?_
  obtain ⟨rfl, rfl, rfl⟩ := ki3 hf
  rw [hQ]
  exact k_iret hat hP hS rfl dX12_badMany_50
set_option maxHeartbeats 4000000 in
set_option maxRecDepth 100000 in
theorem c_X12_leftOver {l : Launch} {D : va_G} {cI cJ cQ : ClassId} {tp : Nat} (x0 : Int64) (x2 : Int64) (r0 : Int64) (hf : f_X12_leftOver x0 x2 = some r0) : kM (fun A => kQl D A [] r0) (some .long) l yX12_leftOver cX12_leftOver 4 { frames := 0, cells := 0, slots := 0, locals := 0 } D cI cJ cQ tp [.long x0, .long x2] [] := by
  refine kM_of (by decide +kernel) (Nat.le_of_ble_eq_true rfl) ?_
  intro p e s m args below meth c A ls R Q hR hQ hat hP hD hS hl
  obtain ⟨hx, hb, hr, hml, hown, hts, hT, hlk, hK, hA, hZ⟩ := id hat
  have hown : s.vm.findClass RX12 = some m.cls := hown
  have hl : lv_has ls 4 [(0, .long x0), (2, .long x2)] := hl
  unfold f_X12_leftOver at hf
  refine lv_lload_n hx hb dX12_leftOver_0 rfl (lv_at hl 0 rfl) ?_
  refine lv_lload_n hx hb dX12_leftOver_1 rfl (lv_at hl 1 rfl) ?_
  obtain ⟨c1, hf⟩ := kc_e hf
  refine lv_lrem hx hb dX12_leftOver_2 c1 ?_
  refine lv_lload_n hx hb dX12_leftOver_3 rfl (lv_at hl 1 rfl) ?_
  refine lv_ladd hx hb dX12_leftOver_4 ?_
  refine lv_lload_n hx hb dX12_leftOver_5 rfl (lv_at hl 1 rfl) ?_
  obtain ⟨c2, hf⟩ := kc_e hf
  refine lv_lrem hx hb dX12_leftOver_6 c2 ?_
  obtain rfl := ki1 hf
  rw [hQ]
  exact k_lret hat hP hS rfl dX12_leftOver_7
set_option maxHeartbeats 4000000 in
set_option maxRecDepth 100000 in
theorem c_X12_waysNow {l : Launch} {D : va_G} {cI cJ cQ : ClassId} {tp : Nat} (q : Nat) (q_w : Nat) (q_imageSeed : Nat) (q_bookOf : Nat) (q_bookAt : Nat) (q_bookIs : Nat) (q_rs : Nat) (q_cs : Nat) (q_zs : Nat) (v_known : Int32) (v_kept : Int32) (v_seed : Int32) (v_written : Int32) (v_above : Int64) (v_below : Int64) (v_leftAbove : Int64) (v_leftBelow : Int64) (v_guessAbove : Int64) (v_guessBelow : Int64) (v_sign : Int32) (v_power2 : Int32) (v_bits : Int64) (v_w : (Nat → Int32)) (v_rs : (Nat → Int32)) (v_cs : (Nat → Int32)) (F : Nat) (r0 : Int32) (o_v_rs : (Nat → Int32)) (o_v_cs : (Nat → Int32)) (hf : f_X12_waysNow F v_w v_rs v_cs = some (r0, o_v_rs, o_v_cs)) : kM (fun A => kQi D A [(q, .inr (11, [.ref q_w, .int v_known, .int v_kept, .int v_seed, .ref q_imageSeed, .ref q_bookOf, .ref q_bookAt, .ref q_bookIs, .int v_written, .ref q_rs, .ref q_cs, .long v_above, .long v_below, .ref q_zs, .long v_leftAbove, .long v_leftBelow, .long v_guessAbove, .long v_guessBelow, .int v_sign, .int v_power2, .long v_bits])), (q_w, .inl (cI, 418, .inl v_w)), (q_rs, .inl (cI, 4, .inl o_v_rs)), (q_cs, .inl (cI, 4, .inl o_v_cs))] r0) (some .int) l yX12_waysNow cX12_waysNow 5 { frames := 8, cells := 0, slots := 0, locals := 185 } D cI cJ cQ tp [.ref q] [(q, .inr (11, [.ref q_w, .int v_known, .int v_kept, .int v_seed, .ref q_imageSeed, .ref q_bookOf, .ref q_bookAt, .ref q_bookIs, .int v_written, .ref q_rs, .ref q_cs, .long v_above, .long v_below, .ref q_zs, .long v_leftAbove, .long v_leftBelow, .long v_guessAbove, .long v_guessBelow, .int v_sign, .int v_power2, .long v_bits])), (q_w, .inl (cI, 418, .inl v_w)), (q_rs, .inl (cI, 4, .inl v_rs)), (q_cs, .inl (cI, 4, .inl v_cs))] := by
  refine kM_of (by decide +kernel) (Nat.le_of_ble_eq_true rfl) ?_
  intro p e s m args below meth c A ls R Q hR hQ hat hP hD hS hl
  obtain ⟨hx, hb, hr, hml, hown, hts, hT, hlk, hK, hA, hZ⟩ := id hat
  have hown : s.vm.findClass RX12 = some m.cls := hown
  have hl : lv_has ls 5 [(0, .ref q)] := hl
  have hL33 : ∀ (x1 : Int32) (v_known : Int32) (v_kept : Int32) (v_seed : Int32) (v_written : Int32) (v_above : Int64) (v_below : Int64) (v_leftAbove : Int64) (v_leftBelow : Int64) (v_guessAbove : Int64) (v_guessBelow : Int64) (v_sign : Int32) (v_power2 : Int32) (v_bits : Int64) (v_w : (Nat → Int32)) (v_rs : (Nat → Int32)) (v_cs : (Nat → Int32)) (fu : Nat) (x3 : Int32) (x4 : Int32) (o0 : Int32), L_X12_waysNow_33 x1 v_w fu x3 x4 = some o0 → (∀ (H : Heap) (locs : List Loc) (ls : Array Slot), va_P D vwCl [(q, .inr (11, [.ref q_w, .int v_known, .int v_kept, .int v_seed, .ref q_imageSeed, .ref q_bookOf, .ref q_bookAt, .ref q_bookIs, .int v_written, .ref q_rs, .ref q_cs, .long v_above, .long v_below, .ref q_zs, .long v_leftAbove, .long v_leftBelow, .long v_guessAbove, .long v_guessBelow, .int v_sign, .int v_power2, .long v_bits])), (q_w, .inl (cI, 418, .inl v_w)), (q_rs, .inl (cI, 4, .inl v_rs)), (q_cs, .inl (cI, 4, .inl v_cs))] H → va_D A [(q, .inr (11, [.ref q_w, .int v_known, .int v_kept, .int v_seed, .ref q_imageSeed, .ref q_bookOf, .ref q_bookAt, .ref q_bookIs, .int v_written, .ref q_rs, .ref q_cs, .long v_above, .long v_below, .ref q_zs, .long v_leftAbove, .long v_leftBelow, .long v_guessAbove, .long v_guessBelow, .int v_sign, .int v_power2, .long v_bits])), (q_w, .inl (cI, 418, .inl v_w)), (q_rs, .inl (cI, 4, .inl v_rs)), (q_cs, .inl (cI, 4, .inl v_cs))] → va_S A s.heap H locs → lv_has ls 5 [(3, .int o0)] → W p l e R s m args below meth c H locs 0 0 Q (F0 m 52 ls [])) → ∀ (H : Heap) (locs : List Loc) (ls : Array Slot), va_P D vwCl [(q, .inr (11, [.ref q_w, .int v_known, .int v_kept, .int v_seed, .ref q_imageSeed, .ref q_bookOf, .ref q_bookAt, .ref q_bookIs, .int v_written, .ref q_rs, .ref q_cs, .long v_above, .long v_below, .ref q_zs, .long v_leftAbove, .long v_leftBelow, .long v_guessAbove, .long v_guessBelow, .int v_sign, .int v_power2, .long v_bits])), (q_w, .inl (cI, 418, .inl v_w)), (q_rs, .inl (cI, 4, .inl v_rs)), (q_cs, .inl (cI, 4, .inl v_cs))] H → va_D A [(q, .inr (11, [.ref q_w, .int v_known, .int v_kept, .int v_seed, .ref q_imageSeed, .ref q_bookOf, .ref q_bookAt, .ref q_bookIs, .int v_written, .ref q_rs, .ref q_cs, .long v_above, .long v_below, .ref q_zs, .long v_leftAbove, .long v_leftBelow, .long v_guessAbove, .long v_guessBelow, .int v_sign, .int v_power2, .long v_bits])), (q_w, .inl (cI, 418, .inl v_w)), (q_rs, .inl (cI, 4, .inl v_rs)), (q_cs, .inl (cI, 4, .inl v_cs))] → va_S A s.heap H locs → lv_has ls 5 [(0, .ref q), (1, .int x1), (3, .int x3), (4, .int x4)] → W p l e R s m args below meth c H locs 0 0 Q (F0 m 33 ls []) := by
    intro x1 v_known v_kept v_seed v_written v_above v_below v_leftAbove v_leftBelow v_guessAbove v_guessBelow v_sign v_power2 v_bits v_w v_rs v_cs fu
    induction fu with
    | zero =>
      intro x3 x4 o0 hf
      cases hf
    | succ fu ih =>
      intro x3 x4 o0 hf hk0 H locs ls hP hD hS hl
      rw [L_X12_waysNow_33] at hf
      refine lv_iload hx hb dX12_waysNow_33 (lv_at hl 3 rfl) ?_
      refine lv_aload_n hx hb dX12_waysNow_35 rfl (lv_at hl 0 rfl) ?_
      obtain ⟨r14, h15, hf⟩ := kb1_e hf
      refine k_gi (nW := 4) (ws' := [(q, .inr (11, [.ref q_w, .int v_known, .int v_kept, .int v_seed, .ref q_imageSeed, .ref q_bookOf, .ref q_bookAt, .ref q_bookIs, .int v_written, .ref q_rs, .ref q_cs, .long v_above, .long v_below, .ref q_zs, .long v_leftAbove, .long v_leftBelow, .long v_guessAbove, .long v_guessBelow, .int v_sign, .int v_power2, .long v_bits])), (q_w, .inl (cI, 418, .inl v_w)), (q_rs, .inl (cI, 4, .inl v_rs)), (q_cs, .inl (cI, 4, .inl v_cs))]) (wr := [(q_rs, .inl (cI, 4, .inl v_rs)), (q_cs, .inl (cI, 4, .inl v_cs))]) (k_runV (rest := [.int x4]) hat hP hD hS hl.1 (c_X12_n q q_w q_imageSeed q_bookOf q_bookAt q_bookIs q_rs q_cs q_zs v_known v_kept v_seed v_written v_above v_below v_leftAbove v_leftBelow v_guessAbove v_guessBelow v_sign v_power2 v_bits v_w r14 h15) [0, 1] (by decide) rfl kw912 kw914 kw19 kw79 kw915 kdVX12_n ⟨rfl, rfl⟩ (by rw [hR]; exact ⟨Nat.le_of_ble_eq_true rfl, Nat.le_of_ble_eq_true rfl⟩) ⟨Nat.zero_le _, Nat.zero_le _⟩ 0 11 rfl rfl rfl rfl (Nat.le_of_ble_eq_true rfl) dX12_waysNow_36) hat hP hD hS [0, 1] rfl [2, 3] rfl rfl rfl rfl rfl (by decide) (fun H locs hP hD hS => ?_)
      refine lv_icmp_ge (tgt := 52) hx hb dX12_waysNow_39 (by decide) (fun c16 => ?_) (fun c16 => ?_)
      · have hf := kp_e hf c16
        obtain rfl := ki1 hf
        exact hk0 _ _ _ hP hD hS (lv_sub hl [2] rfl)
      · have hf := kn_e hf c16
        refine lv_iload_n hx hb dX12_waysNow_42 rfl (lv_at hl 2 rfl) ?_
        refine lv_iload_n hx hb dX12_waysNow_43 rfl (lv_at hl 1 rfl) ?_
        refine lv_imul hx hb dX12_waysNow_44 ?_
        refine lv_topi (fun t17 et17 => ?_)
        have hf := kl_e hf t17 et17
        refine lv_istore_n (lv' := [(3, .int t17), (0, .ref q), (1, .int x1), (4, .int x4)]) hx hb dX12_waysNow_45 rfl hl (by decide) rfl (fun ls hl => ?_)
        obtain ⟨t18, et18⟩ : ∃ z : Int32, z = (x4 + (1 : Int32)) := ⟨_, rfl⟩
        have hf := kl_e hf t18 et18
        refine lv_iinc (v := t18) (lv' := [(4, .int t18), (3, .int t17), (0, .ref q), (1, .int x1)]) hx hb dX12_waysNow_46 hl (k := 3) rfl (by rw [et18]; rfl) (by decide) rfl (fun ls hl => ?_)
        refine lv_goto (tgt := 33) hx hb dX12_waysNow_49 (by decide) ?_
        exact ih t17 t18 o0 hf hk0 _ _ _ hP hD hS (lv_sub hl [2, 3, 1, 0] rfl)
  unfold f_X12_waysNow at hf
  refine lv_aload_n hx hb dX12_waysNow_0 rfl (lv_at hl 0 rfl) ?_
  obtain ⟨r1, h2, hf⟩ := kb1_e hf
  refine k_gi (nW := 4) (ws' := [(q, .inr (11, [.ref q_w, .int v_known, .int v_kept, .int v_seed, .ref q_imageSeed, .ref q_bookOf, .ref q_bookAt, .ref q_bookIs, .int v_written, .ref q_rs, .ref q_cs, .long v_above, .long v_below, .ref q_zs, .long v_leftAbove, .long v_leftBelow, .long v_guessAbove, .long v_guessBelow, .int v_sign, .int v_power2, .long v_bits])), (q_w, .inl (cI, 418, .inl v_w)), (q_rs, .inl (cI, 4, .inl v_rs)), (q_cs, .inl (cI, 4, .inl v_cs))]) (wr := [(q_rs, .inl (cI, 4, .inl v_rs)), (q_cs, .inl (cI, 4, .inl v_cs))]) (k_runV (rest := []) hat hP hD hS hl.1 (c_X12_p q q_w q_imageSeed q_bookOf q_bookAt q_bookIs q_rs q_cs q_zs v_known v_kept v_seed v_written v_above v_below v_leftAbove v_leftBelow v_guessAbove v_guessBelow v_sign v_power2 v_bits v_w F r1 h2) [0, 1] (by decide) rfl kw916 kw918 kw20 kw79 kw919 kdVX12_p ⟨rfl, rfl⟩ (by rw [hR]; exact ⟨Nat.le_of_ble_eq_true rfl, Nat.le_of_ble_eq_true rfl⟩) ⟨Nat.zero_le _, Nat.zero_le _⟩ 0 11 rfl rfl rfl rfl (Nat.le_of_ble_eq_true rfl) dX12_waysNow_1) hat hP hD hS [0, 1] rfl [2, 3] rfl rfl rfl rfl rfl (by decide) (fun H locs hP hD hS => ?_)
  refine lv_istore_n (lv' := [(1, .int r1), (0, .ref q)]) hx hb dX12_waysNow_4 rfl hl (by decide) rfl (fun ls hl => ?_)
  refine lv_aload_n hx hb dX12_waysNow_5 rfl (lv_at hl 1 rfl) ?_
  refine lv_aload_n hx hb dX12_waysNow_6 rfl (lv_at hl 1 rfl) ?_
  obtain ⟨r3, h4, hf⟩ := kb1_e hf
  refine k_gi (nW := 4) (ws' := [(q, .inr (11, [.ref q_w, .int v_known, .int v_kept, .int v_seed, .ref q_imageSeed, .ref q_bookOf, .ref q_bookAt, .ref q_bookIs, .int v_written, .ref q_rs, .ref q_cs, .long v_above, .long v_below, .ref q_zs, .long v_leftAbove, .long v_leftBelow, .long v_guessAbove, .long v_guessBelow, .int v_sign, .int v_power2, .long v_bits])), (q_w, .inl (cI, 418, .inl v_w)), (q_rs, .inl (cI, 4, .inl v_rs)), (q_cs, .inl (cI, 4, .inl v_cs))]) (wr := [(q_rs, .inl (cI, 4, .inl v_rs)), (q_cs, .inl (cI, 4, .inl v_cs))]) (k_runV (rest := [.ref q]) hat hP hD hS hl.1 (c_X12_allColumns q q_w q_imageSeed q_bookOf q_bookAt q_bookIs q_rs q_cs q_zs v_known v_kept v_seed v_written v_above v_below v_leftAbove v_leftBelow v_guessAbove v_guessBelow v_sign v_power2 v_bits v_w r3 h4) [0, 1] (by decide) rfl kw927 kw929 kw22 kw79 kw930 kdVX12_allColumns ⟨rfl, rfl⟩ (by rw [hR]; exact ⟨Nat.le_of_ble_eq_true rfl, Nat.le_of_ble_eq_true rfl⟩) ⟨Nat.zero_le _, Nat.zero_le _⟩ 0 11 rfl rfl rfl rfl (Nat.le_of_ble_eq_true rfl) dX12_waysNow_7) hat hP hD hS [0, 1] rfl [2, 3] rfl rfl rfl rfl rfl (by decide) (fun H locs hP hD hS => ?_)
  refine lv_iload_n hx hb dX12_waysNow_10 rfl (lv_at hl 0 rfl) ?_
  obtain ⟨r5, w6, w7, h8, hf⟩ := kb3_e hf
  refine k_gi (nW := 4) (ws' := [(q, .inr (11, [.ref q_w, .int v_known, .int v_kept, .int v_seed, .ref q_imageSeed, .ref q_bookOf, .ref q_bookAt, .ref q_bookIs, .int v_written, .ref q_rs, .ref q_cs, .long v_above, .long v_below, .ref q_zs, .long v_leftAbove, .long v_leftBelow, .long v_guessAbove, .long v_guessBelow, .int v_sign, .int v_power2, .long v_bits])), (q_w, .inl (cI, 418, .inl v_w)), (q_rs, .inl (cI, 4, .inl w6)), (q_cs, .inl (cI, 4, .inl w7))]) (wr := []) (k_runV (rest := []) hat hP hD hS hl.1 (c_X12_rankOf q q_w q_imageSeed q_bookOf q_bookAt q_bookIs q_rs q_cs q_zs v_known v_kept v_seed v_written v_above v_below v_leftAbove v_leftBelow v_guessAbove v_guessBelow v_sign v_power2 v_bits v_w v_rs v_cs F r3 r1 r5 w6 w7 h8) [0, 1, 2, 3] (by decide) rfl kw969 kw971 kw30 kw79 kw972 kdVX12_rankOf ⟨rfl, rfl⟩ (by rw [hR]; exact ⟨Nat.le_of_ble_eq_true rfl, Nat.le_of_ble_eq_true rfl⟩) ⟨Nat.zero_le _, Nat.zero_le _⟩ 0 11 rfl rfl rfl rfl (Nat.le_of_ble_eq_true rfl) dX12_waysNow_11) hat hP hD hS [0, 1, 2, 3] rfl [] rfl rfl rfl rfl rfl (by decide) (fun H locs hP hD hS => ?_)
  refine lv_istore_n (lv' := [(2, .int r5), (1, .int r1), (0, .ref q)]) hx hb dX12_waysNow_14 rfl hl (by decide) rfl (fun ls hl => ?_)
  refine lv_aload_n hx hb dX12_waysNow_15 rfl (lv_at hl 2 rfl) ?_
  refine lv_iload_n hx hb dX12_waysNow_16 rfl (lv_at hl 1 rfl) ?_
  obtain ⟨r9, w10, w11, h12, hf⟩ := kb3_e hf
  refine k_gi (nW := 4) (ws' := [(q, .inr (11, [.ref q_w, .int v_known, .int v_kept, .int v_seed, .ref q_imageSeed, .ref q_bookOf, .ref q_bookAt, .ref q_bookIs, .int v_written, .ref q_rs, .ref q_cs, .long v_above, .long v_below, .ref q_zs, .long v_leftAbove, .long v_leftBelow, .long v_guessAbove, .long v_guessBelow, .int v_sign, .int v_power2, .long v_bits])), (q_w, .inl (cI, 418, .inl v_w)), (q_rs, .inl (cI, 4, .inl w10)), (q_cs, .inl (cI, 4, .inl w11))]) (wr := []) (k_runV (rest := []) hat hP hD hS hl.1 (c_X12_wideRank q q_w q_imageSeed q_bookOf q_bookAt q_bookIs q_rs q_cs q_zs v_known v_kept v_seed v_written v_above v_below v_leftAbove v_leftBelow v_guessAbove v_guessBelow v_sign v_power2 v_bits v_w w6 w7 F r1 r9 w10 w11 h12) [0, 1, 2, 3] (by decide) rfl kw973 kw975 kw31 kw79 kw976 kdVX12_wideRank ⟨rfl, rfl⟩ (by rw [hR]; exact ⟨Nat.le_of_ble_eq_true rfl, Nat.le_of_ble_eq_true rfl⟩) ⟨Nat.zero_le _, Nat.zero_le _⟩ 0 11 rfl rfl rfl rfl (Nat.le_of_ble_eq_true rfl) dX12_waysNow_17) hat hP hD hS [0, 1, 2, 3] rfl [] rfl rfl rfl rfl rfl (by decide) (fun H locs hP hD hS => ?_)
  refine lv_iload_n hx hb dX12_waysNow_20 rfl (lv_at hl 0 rfl) ?_
  refine lv_icmp_le (tgt := 28) hx hb dX12_waysNow_21 (by decide) (fun c13 => ?_) (fun c13 => ?_)
  · have hf := kp_e hf c13
    refine lv_iconst (v := 1) hx hb dX12_waysNow_28 (by decide) ?_
    refine lv_istore_n (lv' := [(3, .int (1 : Int32)), (2, .int r5), (1, .int r1), (0, .ref q)]) hx hb dX12_waysNow_29 rfl hl (by decide) rfl (fun ls hl => ?_)
    refine lv_iload_n hx hb dX12_waysNow_30 rfl (lv_at hl 1 rfl) ?_
    refine lv_istore (lv' := [(4, .int r5), (3, .int (1 : Int32)), (2, .int r5), (1, .int r1), (0, .ref q)]) hx hb dX12_waysNow_31 hl (by decide) rfl (fun ls hl => ?_)
    obtain ⟨y19, hu, hf⟩ := kb1_e hf
    refine hL33 r1 v_known v_kept v_seed v_written v_above v_below v_leftAbove v_leftBelow v_guessAbove v_guessBelow v_sign v_power2 v_bits v_w w10 w11 F (1 : Int32) r5 y19 hu (fun H locs ls hP hD hS hl => ?_) _ _ _ hP hD hS (lv_sub hl [4, 3, 1, 0] rfl)
    refine lv_iload_n hx hb dX12_waysNow_52 rfl (lv_at hl 0 rfl) ?_
    obtain ⟨rfl, rfl, rfl⟩ := ki3 hf
    rw [hQ]
    exact k_iret hat hP hS rfl dX12_waysNow_53
  · have hf := kn_e hf c13
    refine lv_iconst (v := 0) hx hb dX12_waysNow_24 (by decide) ?_
    refine lv_goto (tgt := 29) hx hb dX12_waysNow_25 (by decide) ?_
    refine lv_istore_n (lv' := [(3, .int (0 : Int32)), (2, .int r5), (1, .int r1), (0, .ref q)]) hx hb dX12_waysNow_29 rfl hl (by decide) rfl (fun ls hl => ?_)
    refine lv_iload_n hx hb dX12_waysNow_30 rfl (lv_at hl 1 rfl) ?_
    refine lv_istore (lv' := [(4, .int r5), (3, .int (0 : Int32)), (2, .int r5), (1, .int r1), (0, .ref q)]) hx hb dX12_waysNow_31 hl (by decide) rfl (fun ls hl => ?_)
    obtain ⟨y20, hu, hf⟩ := kb1_e hf
    refine hL33 r1 v_known v_kept v_seed v_written v_above v_below v_leftAbove v_leftBelow v_guessAbove v_guessBelow v_sign v_power2 v_bits v_w w10 w11 F (0 : Int32) r5 y20 hu (fun H locs ls hP hD hS hl => ?_) _ _ _ hP hD hS (lv_sub hl [4, 3, 1, 0] rfl)
    refine lv_iload_n hx hb dX12_waysNow_52 rfl (lv_at hl 0 rfl) ?_
    obtain ⟨rfl, rfl, rfl⟩ := ki3 hf
    rw [hQ]
    exact k_iret hat hP hS rfl dX12_waysNow_53
set_option maxHeartbeats 4000000 in
set_option maxRecDepth 100000 in
theorem c_X12_inverse {l : Launch} {D : va_G} {cI cJ cQ : ClassId} {tp : Nat} (F : Nat) (x0 : Int64) (x2 : Int64) (r0 : Int64) (hf : f_X12_inverse F x0 x2 = some r0) : kM (fun A => kQl D A [] r0) (some .long) l yX12_inverse cX12_inverse 8 { frames := 1, cells := 0, slots := 0, locals := 23 } D cI cJ cQ tp [.long x0, .long x2] [] := by
  refine kM_of (by decide +kernel) (Nat.le_of_ble_eq_true rfl) ?_
  intro p e s m args below meth c A ls R Q hR hQ hat hP hD hS hl
  obtain ⟨hx, hb, hr, hml, hown, hts, hT, hlk, hK, hA, hZ⟩ := id hat
  have hown : s.vm.findClass RX12 = some m.cls := hown
  have hl : lv_has ls 8 [(0, .long x0), (2, .long x2)] := hl
  have hL6 : ∀ (x0 : Int64) (x2 : Int64) (fu : Nat) (x4 : Int64) (x6 : Int64) (o0 : Int64), L_X12_inverse_6 x0 x2 fu x4 x6 = some o0 → (∀ (H : Heap) (locs : List Loc) (ls : Array Slot), va_P D vwCl [] H → va_D A [] → va_S A s.heap H locs → lv_has ls 8 [(4, .long o0)] → W p l e R s m args below meth c H locs 0 0 Q (F0 m 46 ls [])) → ∀ (H : Heap) (locs : List Loc) (ls : Array Slot), va_P D vwCl [] H → va_D A [] → va_S A s.heap H locs → lv_has ls 8 [(0, .long x0), (2, .long x2), (4, .long x4), (6, .long x6)] → W p l e R s m args below meth c H locs 0 0 Q (F0 m 6 ls []) := by
    intro x0 x2 fu
    induction fu with
    | zero =>
      intro x4 x6 o0 hf
      cases hf
    | succ fu ih =>
      intro x4 x6 o0 hf hk0 H locs ls hP hD hS hl
      rw [L_X12_inverse_6] at hf
      refine lv_lload hx hb dX12_inverse_6 (lv_at hl 3 rfl) ?_
      refine lv_lload_n hx hb dX12_inverse_8 rfl (lv_at hl 1 rfl) ?_
      refine k_lcmp_ge (tgt := 46) hx hb dX12_inverse_9 dX12_inverse_10 (by decide) (fun c1 => ?_) (fun c1 => ?_)
      · have hf := kp_e hf c1
        obtain rfl := ki1 hf
        exact hk0 _ _ _ hP hD hS (lv_sub hl [2] rfl)
      · have hf := kn_e hf c1
        refine lv_lload_n hx hb dX12_inverse_13 rfl (lv_at hl 0 rfl) ?_
        refine lv_lload_n hx hb dX12_inverse_14 rfl (lv_at hl 1 rfl) ?_
        obtain ⟨r2, h3, hf⟩ := kb1_e hf
        refine k_gl (nW := 0) (ws' := []) (wr := []) (k_runS (rest := []) hat hP hD hS hl.1 (c_X12_leftOver x0 x2 r2 h3) [] (by decide) rfl kw1055 kw1056 kw79 kw1057 kdX12_leftOver ⟨rfl, rfl⟩ (by rw [hR]; exact ⟨Nat.le_of_ble_eq_true rfl, Nat.le_of_ble_eq_true rfl⟩) ⟨Nat.zero_le _, Nat.zero_le _⟩ rfl rfl (Nat.le_of_ble_eq_true rfl) dX12_inverse_15) hat hP hD hS [] rfl [] rfl rfl rfl rfl rfl (by decide) (fun H locs hP hD hS => ?_)
        refine lv_lload hx hb dX12_inverse_18 (lv_at hl 3 rfl) ?_
        refine lv_lmul hx hb dX12_inverse_20 ?_
        refine lv_lload_n hx hb dX12_inverse_21 rfl (lv_at hl 1 rfl) ?_
        obtain ⟨c4, hf⟩ := kc_e hf
        refine lv_lrem hx hb dX12_inverse_22 c4 ?_
        refine lv_lconst (v := 1) hx hb dX12_inverse_23 (by decide) ?_
        refine k_lcmp_ne (tgt := 33) hx hb dX12_inverse_24 dX12_inverse_25 (by decide) (fun c5 => ?_) (fun c5 => ?_)
        · have hf := kn_e hf c5
          refine lv_lload hx hb dX12_inverse_33 (lv_at hl 2 rfl) ?_
          refine lv_lstore (lv' := [(4, .long x4), (0, .long x0), (2, .long x2), (6, .long x6)]) hx hb dX12_inverse_35 hl (by decide) rfl (fun ls hl => ?_)
          refine lv_lload hx hb dX12_inverse_37 (lv_at hl 3 rfl) ?_
          refine lv_lconst (v := 1) hx hb dX12_inverse_39 (by decide) ?_
          refine lv_ladd hx hb dX12_inverse_40 ?_
          refine lv_topl (fun t6 et6 => ?_)
          have hf := kl_e hf t6 et6
          refine lv_lstore (lv' := [(6, .long t6), (4, .long x4), (0, .long x0), (2, .long x2)]) hx hb dX12_inverse_41 hl (by decide) rfl (fun ls hl => ?_)
          refine lv_goto (tgt := 6) hx hb dX12_inverse_43 (by decide) ?_
          exact ih x4 t6 o0 hf hk0 _ _ _ hP hD hS (lv_sub hl [2, 3, 1, 0] rfl)
        · have hf := kp_e hf c5
          refine lv_lload hx hb dX12_inverse_28 (lv_at hl 3 rfl) ?_
          refine lv_goto (tgt := 35) hx hb dX12_inverse_30 (by decide) ?_
          refine lv_lstore (lv' := [(4, .long x6), (0, .long x0), (2, .long x2), (6, .long x6)]) hx hb dX12_inverse_35 hl (by decide) rfl (fun ls hl => ?_)
          refine lv_lload hx hb dX12_inverse_37 (lv_at hl 3 rfl) ?_
          refine lv_lconst (v := 1) hx hb dX12_inverse_39 (by decide) ?_
          refine lv_ladd hx hb dX12_inverse_40 ?_
          refine lv_topl (fun t7 et7 => ?_)
          have hf := kl_e hf t7 et7
          refine lv_lstore (lv' := [(6, .long t7), (4, .long x6), (0, .long x0), (2, .long x2)]) hx hb dX12_inverse_41 hl (by decide) rfl (fun ls hl => ?_)
          refine lv_goto (tgt := 6) hx hb dX12_inverse_43 (by decide) ?_
          exact ih x6 t7 o0 hf hk0 _ _ _ hP hD hS (lv_sub hl [2, 3, 1, 0] rfl)
  unfold f_X12_inverse at hf
  refine lv_lconst (v := 1) hx hb dX12_inverse_0 (by decide) ?_
  refine lv_lstore (lv' := [(4, .long (1 : Int64)), (0, .long x0), (2, .long x2)]) hx hb dX12_inverse_1 hl (by decide) rfl (fun ls hl => ?_)
  refine lv_lconst (v := 1) hx hb dX12_inverse_3 (by decide) ?_
  refine lv_lstore (lv' := [(6, .long (1 : Int64)), (4, .long (1 : Int64)), (0, .long x0), (2, .long x2)]) hx hb dX12_inverse_4 hl (by decide) rfl (fun ls hl => ?_)
  obtain ⟨y8, hu, hf⟩ := kb1_e hf
  refine hL6 x0 x2 F (1 : Int64) (1 : Int64) y8 hu (fun H locs ls hP hD hS hl => ?_) _ _ _ hP hD hS (lv_sub hl [2, 3, 1, 0] rfl)
  refine lv_lload hx hb dX12_inverse_46 (lv_at hl 0 rfl) ?_
  obtain rfl := ki1 hf
  rw [hQ]
  exact k_lret hat hP hS rfl dX12_inverse_48
set_option maxHeartbeats 4000000 in
set_option maxRecDepth 100000 in
theorem c_X12_backOf {l : Launch} {D : va_G} {cI cJ cQ : ClassId} {tp : Nat} (q : Nat) (q_w : Nat) (q_imageSeed : Nat) (q_bookOf : Nat) (q_bookAt : Nat) (q_bookIs : Nat) (q_rs : Nat) (q_cs : Nat) (q_zs : Nat) (v_known : Int32) (v_kept : Int32) (v_seed : Int32) (v_written : Int32) (v_above : Int64) (v_below : Int64) (v_leftAbove : Int64) (v_leftBelow : Int64) (v_guessAbove : Int64) (v_guessBelow : Int64) (v_sign : Int32) (v_power2 : Int32) (v_bits : Int64) (v_w : (Nat → Int32)) (v_rs : (Nat → Int32)) (v_cs : (Nat → Int32)) (F : Nat) (x1 : Int32) (x2 : Int32) (r0 : Int64) (o_v_rs : (Nat → Int32)) (o_v_cs : (Nat → Int32)) (hf : f_X12_backOf F v_w v_rs v_cs x1 x2 = some (r0, o_v_rs, o_v_cs)) : kM (fun A => kQl D A [(q, .inr (11, [.ref q_w, .int v_known, .int v_kept, .int v_seed, .ref q_imageSeed, .ref q_bookOf, .ref q_bookAt, .ref q_bookIs, .int v_written, .ref q_rs, .ref q_cs, .long v_above, .long v_below, .ref q_zs, .long v_leftAbove, .long v_leftBelow, .long v_guessAbove, .long v_guessBelow, .int v_sign, .int v_power2, .long v_bits])), (q_w, .inl (cI, 418, .inl v_w)), (q_rs, .inl (cI, 4, .inl o_v_rs)), (q_cs, .inl (cI, 4, .inl o_v_cs))] r0) (some .long) l yX12_backOf cX12_backOf 7 { frames := 7, cells := 0, slots := 0, locals := 157 } D cI cJ cQ tp [.ref q, .int x1, .int x2] [(q, .inr (11, [.ref q_w, .int v_known, .int v_kept, .int v_seed, .ref q_imageSeed, .ref q_bookOf, .ref q_bookAt, .ref q_bookIs, .int v_written, .ref q_rs, .ref q_cs, .long v_above, .long v_below, .ref q_zs, .long v_leftAbove, .long v_leftBelow, .long v_guessAbove, .long v_guessBelow, .int v_sign, .int v_power2, .long v_bits])), (q_w, .inl (cI, 418, .inl v_w)), (q_rs, .inl (cI, 4, .inl v_rs)), (q_cs, .inl (cI, 4, .inl v_cs))] := by
  refine kM_of (by decide +kernel) (Nat.le_of_ble_eq_true rfl) ?_
  intro p e s m args below meth c A ls R Q hR hQ hat hP hD hS hl
  obtain ⟨hx, hb, hr, hml, hown, hts, hT, hlk, hK, hA, hZ⟩ := id hat
  have hown : s.vm.findClass RX12 = some m.cls := hown
  have hl : lv_has ls 7 [(0, .ref q), (1, .int x1), (2, .int x2)] := hl
  unfold f_X12_backOf at hf
  refine lv_aload_n hx hb dX12_backOf_0 rfl (lv_at hl 0 rfl) ?_
  obtain ⟨r1, h2, hf⟩ := kb1_e hf
  refine k_gi (nW := 4) (ws' := [(q, .inr (11, [.ref q_w, .int v_known, .int v_kept, .int v_seed, .ref q_imageSeed, .ref q_bookOf, .ref q_bookAt, .ref q_bookIs, .int v_written, .ref q_rs, .ref q_cs, .long v_above, .long v_below, .ref q_zs, .long v_leftAbove, .long v_leftBelow, .long v_guessAbove, .long v_guessBelow, .int v_sign, .int v_power2, .long v_bits])), (q_w, .inl (cI, 418, .inl v_w)), (q_rs, .inl (cI, 4, .inl v_rs)), (q_cs, .inl (cI, 4, .inl v_cs))]) (wr := [(q_rs, .inl (cI, 4, .inl v_rs)), (q_cs, .inl (cI, 4, .inl v_cs))]) (k_runV (rest := []) hat hP hD hS hl.1 (c_X12_p q q_w q_imageSeed q_bookOf q_bookAt q_bookIs q_rs q_cs q_zs v_known v_kept v_seed v_written v_above v_below v_leftAbove v_leftBelow v_guessAbove v_guessBelow v_sign v_power2 v_bits v_w F r1 h2) [0, 1] (by decide) rfl kw916 kw918 kw20 kw79 kw919 kdVX12_p ⟨rfl, rfl⟩ (by rw [hR]; exact ⟨Nat.le_of_ble_eq_true rfl, Nat.le_of_ble_eq_true rfl⟩) ⟨Nat.zero_le _, Nat.zero_le _⟩ 0 11 rfl rfl rfl rfl (Nat.le_of_ble_eq_true rfl) dX12_backOf_1) hat hP hD hS [0, 1] rfl [2, 3] rfl rfl rfl rfl rfl (by decide) (fun H locs hP hD hS => ?_)
  refine lv_i2l hx hb dX12_backOf_4 rfl ?_
  refine lv_topl (fun t3 et3 => ?_)
  have hf := kl_e hf t3 et3
  refine lv_lstore_n (lv' := [(3, .long t3), (0, .ref q), (1, .int x1), (2, .int x2)]) hx hb dX12_backOf_5 rfl hl (by decide) rfl (fun ls hl => ?_)
  refine lv_aload_n hx hb dX12_backOf_6 rfl (lv_at hl 1 rfl) ?_
  refine lv_aload_n hx hb dX12_backOf_7 rfl (lv_at hl 1 rfl) ?_
  obtain ⟨r4, h5, hf⟩ := kb1_e hf
  refine k_gi (nW := 4) (ws' := [(q, .inr (11, [.ref q_w, .int v_known, .int v_kept, .int v_seed, .ref q_imageSeed, .ref q_bookOf, .ref q_bookAt, .ref q_bookIs, .int v_written, .ref q_rs, .ref q_cs, .long v_above, .long v_below, .ref q_zs, .long v_leftAbove, .long v_leftBelow, .long v_guessAbove, .long v_guessBelow, .int v_sign, .int v_power2, .long v_bits])), (q_w, .inl (cI, 418, .inl v_w)), (q_rs, .inl (cI, 4, .inl v_rs)), (q_cs, .inl (cI, 4, .inl v_cs))]) (wr := [(q_rs, .inl (cI, 4, .inl v_rs)), (q_cs, .inl (cI, 4, .inl v_cs))]) (k_runV (rest := [.ref q]) hat hP hD hS hl.1 (c_X12_allColumns q q_w q_imageSeed q_bookOf q_bookAt q_bookIs q_rs q_cs q_zs v_known v_kept v_seed v_written v_above v_below v_leftAbove v_leftBelow v_guessAbove v_guessBelow v_sign v_power2 v_bits v_w r4 h5) [0, 1] (by decide) rfl kw927 kw929 kw22 kw79 kw930 kdVX12_allColumns ⟨rfl, rfl⟩ (by rw [hR]; exact ⟨Nat.le_of_ble_eq_true rfl, Nat.le_of_ble_eq_true rfl⟩) ⟨Nat.zero_le _, Nat.zero_le _⟩ 0 11 rfl rfl rfl rfl (Nat.le_of_ble_eq_true rfl) dX12_backOf_8) hat hP hD hS [0, 1] rfl [2, 3] rfl rfl rfl rfl rfl (by decide) (fun H locs hP hD hS => ?_)
  refine lv_iconst (v := 1) hx hb dX12_backOf_11 (by decide) ?_
  refine lv_iload_n hx hb dX12_backOf_12 rfl (lv_at hl 3 rfl) ?_
  refine lv_ishl hx hb dX12_backOf_13 ?_
  refine lv_iconst (v := -1) hx hb dX12_backOf_14 (by decide) ?_
  refine lv_ixor hx hb dX12_backOf_15 ?_
  refine lv_iand hx hb dX12_backOf_16 ?_
  refine lv_aload_n hx hb dX12_backOf_17 rfl (lv_at hl 1 rfl) ?_
  obtain ⟨r6, h7, hf⟩ := kb1_e hf
  refine k_gi (nW := 4) (ws' := [(q, .inr (11, [.ref q_w, .int v_known, .int v_kept, .int v_seed, .ref q_imageSeed, .ref q_bookOf, .ref q_bookAt, .ref q_bookIs, .int v_written, .ref q_rs, .ref q_cs, .long v_above, .long v_below, .ref q_zs, .long v_leftAbove, .long v_leftBelow, .long v_guessAbove, .long v_guessBelow, .int v_sign, .int v_power2, .long v_bits])), (q_w, .inl (cI, 418, .inl v_w)), (q_rs, .inl (cI, 4, .inl v_rs)), (q_cs, .inl (cI, 4, .inl v_cs))]) (wr := [(q_rs, .inl (cI, 4, .inl v_rs)), (q_cs, .inl (cI, 4, .inl v_cs))]) (k_runV (rest := [.int (r4 &&& (((1 : Int32) <<< (x2 &&& 31)) ^^^ (-1 : Int32))), .ref q]) hat hP hD hS hl.1 (c_X12_allColumns q q_w q_imageSeed q_bookOf q_bookAt q_bookIs q_rs q_cs q_zs v_known v_kept v_seed v_written v_above v_below v_leftAbove v_leftBelow v_guessAbove v_guessBelow v_sign v_power2 v_bits v_w r6 h7) [0, 1] (by decide) rfl kw927 kw929 kw22 kw79 kw930 kdVX12_allColumns ⟨rfl, rfl⟩ (by rw [hR]; exact ⟨Nat.le_of_ble_eq_true rfl, Nat.le_of_ble_eq_true rfl⟩) ⟨Nat.zero_le _, Nat.zero_le _⟩ 0 11 rfl rfl rfl rfl (Nat.le_of_ble_eq_true rfl) dX12_backOf_18) hat hP hD hS [0, 1] rfl [2, 3] rfl rfl rfl rfl rfl (by decide) (fun H locs hP hD hS => ?_)
  refine lv_iconst (v := 1) hx hb dX12_backOf_21 (by decide) ?_
  refine lv_iload_n hx hb dX12_backOf_22 rfl (lv_at hl 2 rfl) ?_
  refine lv_ishl hx hb dX12_backOf_23 ?_
  refine lv_iconst (v := -1) hx hb dX12_backOf_24 (by decide) ?_
  refine lv_ixor hx hb dX12_backOf_25 ?_
  refine lv_iand hx hb dX12_backOf_26 ?_
  obtain ⟨r8, w9, w10, h11, hf⟩ := kb3_e hf
  refine k_gl (nW := 4) (ws' := [(q, .inr (11, [.ref q_w, .int v_known, .int v_kept, .int v_seed, .ref q_imageSeed, .ref q_bookOf, .ref q_bookAt, .ref q_bookIs, .int v_written, .ref q_rs, .ref q_cs, .long v_above, .long v_below, .ref q_zs, .long v_leftAbove, .long v_leftBelow, .long v_guessAbove, .long v_guessBelow, .int v_sign, .int v_power2, .long v_bits])), (q_w, .inl (cI, 418, .inl v_w)), (q_rs, .inl (cI, 4, .inl w9)), (q_cs, .inl (cI, 4, .inl w10))]) (wr := []) (k_runV (rest := []) hat hP hD hS hl.1 (c_X12_minor q q_w q_imageSeed q_bookOf q_bookAt q_bookIs q_rs q_cs q_zs v_known v_kept v_seed v_written v_above v_below v_leftAbove v_leftBelow v_guessAbove v_guessBelow v_sign v_power2 v_bits v_w v_rs v_cs F (r4 &&& (((1 : Int32) <<< (x2 &&& 31)) ^^^ (-1 : Int32))) (r6 &&& (((1 : Int32) <<< (x1 &&& 31)) ^^^ (-1 : Int32))) r8 w9 w10 h11) [0, 1, 2, 3] (by decide) rfl kw931 kw933 kw23 kw79 kw934 kdVX12_minor ⟨rfl, rfl⟩ (by rw [hR]; exact ⟨Nat.le_of_ble_eq_true rfl, Nat.le_of_ble_eq_true rfl⟩) ⟨Nat.zero_le _, Nat.zero_le _⟩ 0 11 rfl rfl rfl rfl (Nat.le_of_ble_eq_true rfl) dX12_backOf_27) hat hP hD hS [0, 1, 2, 3] rfl [] rfl rfl rfl rfl rfl (by decide) (fun H locs hP hD hS => ?_)
  refine lv_lstore (lv' := [(5, .long r8), (3, .long t3), (0, .ref q), (1, .int x1), (2, .int x2)]) hx hb dX12_backOf_30 hl (by decide) rfl (fun ls hl => ?_)
  refine lv_iload_n hx hb dX12_backOf_32 rfl (lv_at hl 3 rfl) ?_
  refine lv_iload_n hx hb dX12_backOf_33 rfl (lv_at hl 4 rfl) ?_
  refine lv_iadd hx hb dX12_backOf_34 ?_
  refine lv_iconst (v := 2) hx hb dX12_backOf_35 (by decide) ?_
  refine lv_irem hx hb dX12_backOf_36 (by decide) ?_
  obtain ⟨J13, hJ13_, hf⟩ := kj1_e hf
  have hJ13 : ∀ (t12 : Int64), J13 t12 = some (r0, o_v_rs, o_v_cs) → ∀ (H : Heap) (locs : List Loc) (ls : Array Slot), va_P D vwCl [(q, .inr (11, [.ref q_w, .int v_known, .int v_kept, .int v_seed, .ref q_imageSeed, .ref q_bookOf, .ref q_bookAt, .ref q_bookIs, .int v_written, .ref q_rs, .ref q_cs, .long v_above, .long v_below, .ref q_zs, .long v_leftAbove, .long v_leftBelow, .long v_guessAbove, .long v_guessBelow, .int v_sign, .int v_power2, .long v_bits])), (q_w, .inl (cI, 418, .inl v_w)), (q_rs, .inl (cI, 4, .inl w9)), (q_cs, .inl (cI, 4, .inl w10))] H → va_D A [(q, .inr (11, [.ref q_w, .int v_known, .int v_kept, .int v_seed, .ref q_imageSeed, .ref q_bookOf, .ref q_bookAt, .ref q_bookIs, .int v_written, .ref q_rs, .ref q_cs, .long v_above, .long v_below, .ref q_zs, .long v_leftAbove, .long v_leftBelow, .long v_guessAbove, .long v_guessBelow, .int v_sign, .int v_power2, .long v_bits])), (q_w, .inl (cI, 418, .inl v_w)), (q_rs, .inl (cI, 4, .inl w9)), (q_cs, .inl (cI, 4, .inl w10))] → va_S A s.heap H locs → lv_has ls 7 [(0, .ref q), (3, .long t3)] → W p l e R s m args below meth c H locs 0 0 Q (F0 m 48 ls [.long t12]) := by
    intro t12 hf H locs ls hP hD hS hl
    rw [hJ13_] at hf
    refine lv_lstore (lv' := [(5, .long t12), (0, .ref q), (3, .long t3)]) hx hb dX12_backOf_48 hl (by decide) rfl (fun ls hl => ?_)
    refine lv_lload hx hb dX12_backOf_50 (lv_at hl 0 rfl) ?_
    refine lv_lload_n hx hb dX12_backOf_52 rfl (lv_at hl 2 rfl) ?_
    obtain ⟨r14, h15, hf⟩ := kb1_e hf
    refine k_gl (nW := 4) (ws' := [(q, .inr (11, [.ref q_w, .int v_known, .int v_kept, .int v_seed, .ref q_imageSeed, .ref q_bookOf, .ref q_bookAt, .ref q_bookIs, .int v_written, .ref q_rs, .ref q_cs, .long v_above, .long v_below, .ref q_zs, .long v_leftAbove, .long v_leftBelow, .long v_guessAbove, .long v_guessBelow, .int v_sign, .int v_power2, .long v_bits])), (q_w, .inl (cI, 418, .inl v_w)), (q_rs, .inl (cI, 4, .inl w9)), (q_cs, .inl (cI, 4, .inl w10))]) (wr := [(q, .inr (11, [.ref q_w, .int v_known, .int v_kept, .int v_seed, .ref q_imageSeed, .ref q_bookOf, .ref q_bookAt, .ref q_bookIs, .int v_written, .ref q_rs, .ref q_cs, .long v_above, .long v_below, .ref q_zs, .long v_leftAbove, .long v_leftBelow, .long v_guessAbove, .long v_guessBelow, .int v_sign, .int v_power2, .long v_bits])), (q_w, .inl (cI, 418, .inl v_w)), (q_rs, .inl (cI, 4, .inl w9)), (q_cs, .inl (cI, 4, .inl w10))]) (k_runS (rest := []) hat hP hD hS hl.1 (c_X12_leftOver t12 t3 r14 h15) [] (by decide) rfl kw1055 kw1056 kw79 kw1057 kdX12_leftOver ⟨rfl, rfl⟩ (by rw [hR]; exact ⟨Nat.le_of_ble_eq_true rfl, Nat.le_of_ble_eq_true rfl⟩) ⟨Nat.zero_le _, Nat.zero_le _⟩ rfl rfl (Nat.le_of_ble_eq_true rfl) dX12_backOf_53) hat hP hD hS [] rfl [0, 1, 2, 3] rfl rfl rfl rfl rfl (by decide) (fun H locs hP hD hS => ?_)
    refine lv_aload_n hx hb dX12_backOf_56 rfl (lv_at hl 1 rfl) ?_
    obtain ⟨r16, w17, w18, h19, hf⟩ := kb3_e hf
    refine k_gl (nW := 4) (ws' := [(q, .inr (11, [.ref q_w, .int v_known, .int v_kept, .int v_seed, .ref q_imageSeed, .ref q_bookOf, .ref q_bookAt, .ref q_bookIs, .int v_written, .ref q_rs, .ref q_cs, .long v_above, .long v_below, .ref q_zs, .long v_leftAbove, .long v_leftBelow, .long v_guessAbove, .long v_guessBelow, .int v_sign, .int v_power2, .long v_bits])), (q_w, .inl (cI, 418, .inl v_w)), (q_rs, .inl (cI, 4, .inl w17)), (q_cs, .inl (cI, 4, .inl w18))]) (wr := []) (k_runV (rest := [.long r14]) hat hP hD hS hl.1 (c_X12_determinant q q_w q_imageSeed q_bookOf q_bookAt q_bookIs q_rs q_cs q_zs v_known v_kept v_seed v_written v_above v_below v_leftAbove v_leftBelow v_guessAbove v_guessBelow v_sign v_power2 v_bits v_w w9 w10 F r16 w17 w18 h19) [0, 1, 2, 3] (by decide) rfl kw923 kw925 kw21 kw79 kw926 kdVX12_determinant ⟨rfl, rfl⟩ (by rw [hR]; exact ⟨Nat.le_of_ble_eq_true rfl, Nat.le_of_ble_eq_true rfl⟩) ⟨Nat.zero_le _, Nat.zero_le _⟩ 0 11 rfl rfl rfl rfl (Nat.le_of_ble_eq_true rfl) dX12_backOf_57) hat hP hD hS [0, 1, 2, 3] rfl [] rfl rfl rfl rfl rfl (by decide) (fun H locs hP hD hS => ?_)
    refine lv_lload_n hx hb dX12_backOf_60 rfl (lv_at hl 2 rfl) ?_
    obtain ⟨r20, h21, hf⟩ := kb1_e hf
    refine k_gl (nW := 4) (ws' := [(q, .inr (11, [.ref q_w, .int v_known, .int v_kept, .int v_seed, .ref q_imageSeed, .ref q_bookOf, .ref q_bookAt, .ref q_bookIs, .int v_written, .ref q_rs, .ref q_cs, .long v_above, .long v_below, .ref q_zs, .long v_leftAbove, .long v_leftBelow, .long v_guessAbove, .long v_guessBelow, .int v_sign, .int v_power2, .long v_bits])), (q_w, .inl (cI, 418, .inl v_w)), (q_rs, .inl (cI, 4, .inl w17)), (q_cs, .inl (cI, 4, .inl w18))]) (wr := [(q, .inr (11, [.ref q_w, .int v_known, .int v_kept, .int v_seed, .ref q_imageSeed, .ref q_bookOf, .ref q_bookAt, .ref q_bookIs, .int v_written, .ref q_rs, .ref q_cs, .long v_above, .long v_below, .ref q_zs, .long v_leftAbove, .long v_leftBelow, .long v_guessAbove, .long v_guessBelow, .int v_sign, .int v_power2, .long v_bits])), (q_w, .inl (cI, 418, .inl v_w)), (q_rs, .inl (cI, 4, .inl w17)), (q_cs, .inl (cI, 4, .inl w18))]) (k_runS (rest := [.long r14]) hat hP hD hS hl.1 (c_X12_inverse F r16 t3 r20 h21) [] (by decide) rfl kw1052 kw1053 kw79 kw1054 kdX12_inverse ⟨rfl, rfl⟩ (by rw [hR]; exact ⟨Nat.le_of_ble_eq_true rfl, Nat.le_of_ble_eq_true rfl⟩) ⟨Nat.zero_le _, Nat.zero_le _⟩ rfl rfl (Nat.le_of_ble_eq_true rfl) dX12_backOf_61) hat hP hD hS [] rfl [0, 1, 2, 3] rfl rfl rfl rfl rfl (by decide) (fun H locs hP hD hS => ?_)
    refine lv_lmul hx hb dX12_backOf_64 ?_
    refine lv_lload_n hx hb dX12_backOf_65 rfl (lv_at hl 2 rfl) ?_
    obtain ⟨c22, hf⟩ := kc_e hf
    refine lv_lrem hx hb dX12_backOf_66 c22 ?_
    obtain ⟨rfl, rfl, rfl⟩ := ki3 hf
    rw [hQ]
    exact k_lret hat hP hS rfl dX12_backOf_67
  refine lv_if_ne (tgt := 45) hx hb dX12_backOf_37 (by decide) (fun c23 => ?_) (fun c23 => ?_)
  · have hf := kn_e hf c23
    refine lv_lload hx hb dX12_backOf_45 (lv_at hl 0 rfl) ?_
    refine lv_lneg hx hb dX12_backOf_47 ?_
    exact hJ13 (-r8) hf _ _ _ hP hD hS (lv_sub hl [2, 1] rfl)
  · have hf := kp_e hf c23
    refine lv_lload hx hb dX12_backOf_40 (lv_at hl 0 rfl) ?_
    refine lv_goto (tgt := 48) hx hb dX12_backOf_42 (by decide) ?_
    exact hJ13 r8 hf _ _ _ hP hD hS (lv_sub hl [2, 1] rfl)
