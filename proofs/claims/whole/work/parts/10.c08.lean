set_option maxHeartbeats 4000000 in
set_option maxRecDepth 100000 in
theorem c_X12_wrong {l : Launch} {D : va_G} {cI cJ cQ : ClassId} {tp : Nat} (q : Nat) (q_w : Nat) (q_imageSeed : Nat) (q_bookOf : Nat) (q_bookAt : Nat) (q_bookIs : Nat) (q_rs : Nat) (q_cs : Nat) (q_zs : Nat) (v_known : Int32) (v_kept : Int32) (v_seed : Int32) (v_written : Int32) (v_above : Int64) (v_below : Int64) (v_leftAbove : Int64) (v_leftBelow : Int64) (v_guessAbove : Int64) (v_guessBelow : Int64) (v_sign : Int32) (v_power2 : Int32) (v_bits : Int64) (v_w : (Nat → Int32)) (v_bookOf : (Nat → Int32)) (v_bookAt : (Nat → Int32)) (v_bookIs : (Nat → Int32)) (v_rs : (Nat → Int32)) (v_cs : (Nat → Int32)) (F : Nat) (r0 : Int32) (o_v_above : Int64) (o_v_below : Int64) (o_v_leftAbove : Int64) (o_v_leftBelow : Int64) (o_v_rs : (Nat → Int32)) (o_v_cs : (Nat → Int32)) (hf : f_X12_wrong F v_written v_above v_below v_leftAbove v_leftBelow v_w v_bookOf v_bookAt v_bookIs v_rs v_cs = some (r0, o_v_above, o_v_below, o_v_leftAbove, o_v_leftBelow, o_v_rs, o_v_cs)) : kM (fun A => kQi D A [(q, .inr (11, [.ref q_w, .int v_known, .int v_kept, .int v_seed, .ref q_imageSeed, .ref q_bookOf, .ref q_bookAt, .ref q_bookIs, .int v_written, .ref q_rs, .ref q_cs, .long o_v_above, .long o_v_below, .ref q_zs, .long o_v_leftAbove, .long o_v_leftBelow, .long v_guessAbove, .long v_guessBelow, .int v_sign, .int v_power2, .long v_bits])), (q_w, .inl (cI, 418, .inl v_w)), (q_bookOf, .inl (cI, 20, .inl v_bookOf)), (q_bookAt, .inl (cI, 20, .inl v_bookAt)), (q_bookIs, .inl (cI, 20, .inl v_bookIs)), (q_rs, .inl (cI, 4, .inl o_v_rs)), (q_cs, .inl (cI, 4, .inl o_v_cs))] r0) (some .int) l yX12_wrong cX12_wrong 3 { frames := 11, cells := 0, slots := 0, locals := 265 } D cI cJ cQ tp [.ref q] [(q, .inr (11, [.ref q_w, .int v_known, .int v_kept, .int v_seed, .ref q_imageSeed, .ref q_bookOf, .ref q_bookAt, .ref q_bookIs, .int v_written, .ref q_rs, .ref q_cs, .long v_above, .long v_below, .ref q_zs, .long v_leftAbove, .long v_leftBelow, .long v_guessAbove, .long v_guessBelow, .int v_sign, .int v_power2, .long v_bits])), (q_w, .inl (cI, 418, .inl v_w)), (q_bookOf, .inl (cI, 20, .inl v_bookOf)), (q_bookAt, .inl (cI, 20, .inl v_bookAt)), (q_bookIs, .inl (cI, 20, .inl v_bookIs)), (q_rs, .inl (cI, 4, .inl v_rs)), (q_cs, .inl (cI, 4, .inl v_cs))] := by
  refine kM_of (by decide +kernel) (Nat.le_of_ble_eq_true rfl) ?_
  intro p e s m args below meth c A ls R Q hR hQ hat hP hD hS hl
  obtain ⟨hx, hb, hr, hml, hown, hts, hT, hlk, hK, hA, hZ⟩ := id hat
  have hown : s.vm.findClass RX12 = some m.cls := hown
  have hl : lv_has ls 3 [(0, .ref q)] := hl
  have hL2 : ∀ (v_known : Int32) (v_kept : Int32) (v_seed : Int32) (v_written : Int32) (v_guessAbove : Int64) (v_guessBelow : Int64) (v_sign : Int32) (v_power2 : Int32) (v_bits : Int64) (v_w : (Nat → Int32)) (v_bookOf : (Nat → Int32)) (v_bookAt : (Nat → Int32)) (v_bookIs : (Nat → Int32)) (fu : Nat) (x1 : Int32) (v_above : Int64) (v_below : Int64) (v_leftAbove : Int64) (v_leftBelow : Int64) (v_rs : (Nat → Int32)) (v_cs : (Nat → Int32)) (u : (Int32 × Int64 × Int64 × Int64 × Int64 × (Nat → Int32) × (Nat → Int32)) ⊕ (Int64 × Int64 × Int64 × Int64 × (Nat → Int32) × (Nat → Int32))), L_X12_wrong_2 F v_written v_w v_bookOf v_bookAt v_bookIs fu x1 v_above v_below v_leftAbove v_leftBelow v_rs v_cs = some u → (∀ (o0 : Int32) (o1 : Int64) (o2 : Int64) (o3 : Int64) (o4 : Int64) (o5 : (Nat → Int32)) (o6 : (Nat → Int32)), u = .inl (o0, o1, o2, o3, o4, o5, o6) → ∀ (H : Heap) (locs : List Loc) (ls : Array Slot), va_P D vwCl [(q, .inr (11, [.ref q_w, .int v_known, .int v_kept, .int v_seed, .ref q_imageSeed, .ref q_bookOf, .ref q_bookAt, .ref q_bookIs, .int v_written, .ref q_rs, .ref q_cs, .long o1, .long o2, .ref q_zs, .long o3, .long o4, .long v_guessAbove, .long v_guessBelow, .int v_sign, .int v_power2, .long v_bits])), (q_w, .inl (cI, 418, .inl v_w)), (q_bookOf, .inl (cI, 20, .inl v_bookOf)), (q_bookAt, .inl (cI, 20, .inl v_bookAt)), (q_bookIs, .inl (cI, 20, .inl v_bookIs)), (q_rs, .inl (cI, 4, .inl o5)), (q_cs, .inl (cI, 4, .inl o6))] H → va_D A [(q, .inr (11, [.ref q_w, .int v_known, .int v_kept, .int v_seed, .ref q_imageSeed, .ref q_bookOf, .ref q_bookAt, .ref q_bookIs, .int v_written, .ref q_rs, .ref q_cs, .long o1, .long o2, .ref q_zs, .long o3, .long o4, .long v_guessAbove, .long v_guessBelow, .int v_sign, .int v_power2, .long v_bits])), (q_w, .inl (cI, 418, .inl v_w)), (q_bookOf, .inl (cI, 20, .inl v_bookOf)), (q_bookAt, .inl (cI, 20, .inl v_bookAt)), (q_bookIs, .inl (cI, 20, .inl v_bookIs)), (q_rs, .inl (cI, 4, .inl o5)), (q_cs, .inl (cI, 4, .inl o6))] → va_S A s.heap H locs → lv_has ls 3 [(1, .int o0)] → W p l e R s m args below meth c H locs 0 0 Q (F0 m 65 ls [])) → (∀ (o0 : Int64) (o1 : Int64) (o2 : Int64) (o3 : Int64) (o4 : (Nat → Int32)) (o5 : (Nat → Int32)), u = .inr (o0, o1, o2, o3, o4, o5) → ∀ (H : Heap) (locs : List Loc) (ls : Array Slot), va_P D vwCl [(q, .inr (11, [.ref q_w, .int v_known, .int v_kept, .int v_seed, .ref q_imageSeed, .ref q_bookOf, .ref q_bookAt, .ref q_bookIs, .int v_written, .ref q_rs, .ref q_cs, .long o0, .long o1, .ref q_zs, .long o2, .long o3, .long v_guessAbove, .long v_guessBelow, .int v_sign, .int v_power2, .long v_bits])), (q_w, .inl (cI, 418, .inl v_w)), (q_bookOf, .inl (cI, 20, .inl v_bookOf)), (q_bookAt, .inl (cI, 20, .inl v_bookAt)), (q_bookIs, .inl (cI, 20, .inl v_bookIs)), (q_rs, .inl (cI, 4, .inl o4)), (q_cs, .inl (cI, 4, .inl o5))] H → va_D A [(q, .inr (11, [.ref q_w, .int v_known, .int v_kept, .int v_seed, .ref q_imageSeed, .ref q_bookOf, .ref q_bookAt, .ref q_bookIs, .int v_written, .ref q_rs, .ref q_cs, .long o0, .long o1, .ref q_zs, .long o2, .long o3, .long v_guessAbove, .long v_guessBelow, .int v_sign, .int v_power2, .long v_bits])), (q_w, .inl (cI, 418, .inl v_w)), (q_bookOf, .inl (cI, 20, .inl v_bookOf)), (q_bookAt, .inl (cI, 20, .inl v_bookAt)), (q_bookIs, .inl (cI, 20, .inl v_bookIs)), (q_rs, .inl (cI, 4, .inl o4)), (q_cs, .inl (cI, 4, .inl o5))] → va_S A s.heap H locs → lv_has ls 3 [] → W p l e R s m args below meth c H locs 0 0 Q (F0 m 73 ls [])) → ∀ (H : Heap) (locs : List Loc) (ls : Array Slot), va_P D vwCl [(q, .inr (11, [.ref q_w, .int v_known, .int v_kept, .int v_seed, .ref q_imageSeed, .ref q_bookOf, .ref q_bookAt, .ref q_bookIs, .int v_written, .ref q_rs, .ref q_cs, .long v_above, .long v_below, .ref q_zs, .long v_leftAbove, .long v_leftBelow, .long v_guessAbove, .long v_guessBelow, .int v_sign, .int v_power2, .long v_bits])), (q_w, .inl (cI, 418, .inl v_w)), (q_bookOf, .inl (cI, 20, .inl v_bookOf)), (q_bookAt, .inl (cI, 20, .inl v_bookAt)), (q_bookIs, .inl (cI, 20, .inl v_bookIs)), (q_rs, .inl (cI, 4, .inl v_rs)), (q_cs, .inl (cI, 4, .inl v_cs))] H → va_D A [(q, .inr (11, [.ref q_w, .int v_known, .int v_kept, .int v_seed, .ref q_imageSeed, .ref q_bookOf, .ref q_bookAt, .ref q_bookIs, .int v_written, .ref q_rs, .ref q_cs, .long v_above, .long v_below, .ref q_zs, .long v_leftAbove, .long v_leftBelow, .long v_guessAbove, .long v_guessBelow, .int v_sign, .int v_power2, .long v_bits])), (q_w, .inl (cI, 418, .inl v_w)), (q_bookOf, .inl (cI, 20, .inl v_bookOf)), (q_bookAt, .inl (cI, 20, .inl v_bookAt)), (q_bookIs, .inl (cI, 20, .inl v_bookIs)), (q_rs, .inl (cI, 4, .inl v_rs)), (q_cs, .inl (cI, 4, .inl v_cs))] → va_S A s.heap H locs → lv_has ls 3 [(0, .ref q), (1, .int x1)] → W p l e R s m args below meth c H locs 0 0 Q (F0 m 2 ls []) := by
    intro v_known v_kept v_seed v_written v_guessAbove v_guessBelow v_sign v_power2 v_bits v_w v_bookOf v_bookAt v_bookIs fu
    induction fu with
    | zero =>
      intro x1 v_above v_below v_leftAbove v_leftBelow v_rs v_cs u hf
      cases hf
    | succ fu ih =>
      intro x1 v_above v_below v_leftAbove v_leftBelow v_rs v_cs u hf hk0 hk1 H locs ls hP hD hS hl
      rw [L_X12_wrong_2] at hf
      refine lv_iload_n hx hb dX12_wrong_2 rfl (lv_at hl 1 rfl) ?_
      refine lv_aload_n hx hb dX12_wrong_3 rfl (lv_at hl 0 rfl) ?_
      refine va_get (D := D) (ci := 11) (v := .int v_written) (C := RX12) (T := TX12) (N := 21) hx hb hts kinX12 hown hK hP 0 rfl rfl 8 (by decide) (hts _ kw852) (fun _ h9 => h9) rfl dX12_wrong_4 ?_
      refine lv_icmp_ge (tgt := 73) hx hb dX12_wrong_7 (by decide) (fun c1 => ?_) (fun c1 => ?_)
      · have hf := kp_e hf c1
        exact hk1 _ _ _ _ _ _ (Option.some.inj hf).symm _ _ _ hP hD hS (lv_sub hl [] rfl)
      · have hf := kn_e hf c1
        refine lv_aload_n hx hb dX12_wrong_10 rfl (lv_at hl 0 rfl) ?_
        refine lv_aload_n hx hb dX12_wrong_11 rfl (lv_at hl 0 rfl) ?_
        refine va_get (D := D) (ci := 11) (v := .ref q_bookOf) (C := RX12) (T := TX12) (N := 21) hx hb hts kinX12 hown hK hP 0 rfl rfl 5 (by decide) (hts _ kw849) (fun _ h9 => h9) rfl dX12_wrong_12 ?_
        refine lv_iload_n hx hb dX12_wrong_15 rfl (lv_at hl 1 rfl) ?_
        obtain ⟨c2, hf⟩ := kc_e hf
        refine va_iald hx hb hK hP 2 0 rfl rfl (kin_e c2) dX12_wrong_16 ?_
        obtain ⟨r3, h4, hf⟩ := kb1_e hf
        refine k_gi (nW := 7) (ws' := [(q, .inr (11, [.ref q_w, .int v_known, .int v_kept, .int v_seed, .ref q_imageSeed, .ref q_bookOf, .ref q_bookAt, .ref q_bookIs, .int v_written, .ref q_rs, .ref q_cs, .long v_above, .long v_below, .ref q_zs, .long v_leftAbove, .long v_leftBelow, .long v_guessAbove, .long v_guessBelow, .int v_sign, .int v_power2, .long v_bits])), (q_w, .inl (cI, 418, .inl v_w)), (q_bookOf, .inl (cI, 20, .inl v_bookOf)), (q_bookAt, .inl (cI, 20, .inl v_bookAt)), (q_bookIs, .inl (cI, 20, .inl v_bookIs)), (q_rs, .inl (cI, 4, .inl v_rs)), (q_cs, .inl (cI, 4, .inl v_cs))]) (wr := [(q_bookOf, .inl (cI, 20, .inl v_bookOf)), (q_bookAt, .inl (cI, 20, .inl v_bookAt)), (q_bookIs, .inl (cI, 20, .inl v_bookIs)), (q_rs, .inl (cI, 4, .inl v_rs)), (q_cs, .inl (cI, 4, .inl v_cs))]) (k_runV (rest := []) hat hP hD hS hl.1 (c_X12_isRow q q_w q_imageSeed q_bookOf q_bookAt q_bookIs q_rs q_cs q_zs v_known v_kept v_seed v_written v_above v_below v_leftAbove v_leftBelow v_guessAbove v_guessBelow v_sign v_power2 v_bits v_w (v_bookOf x1.toNatClampNeg) r3 h4) [0, 1] (by decide) rfl kw1069 kw1071 kw50 kw79 kw1072 kdVX12_isRow ⟨rfl, rfl⟩ (by rw [hR]; exact ⟨Nat.le_of_ble_eq_true rfl, Nat.le_of_ble_eq_true rfl⟩) ⟨Nat.zero_le _, Nat.zero_le _⟩ 0 11 rfl rfl rfl rfl (Nat.le_of_ble_eq_true rfl) dX12_wrong_17) hat hP hD hS [0, 1] rfl [2, 3, 4, 5, 6] rfl rfl rfl rfl rfl (by decide) (fun H locs hP hD hS => ?_)
        obtain ⟨J8, hJ8_, hf⟩ := kj3_e hf
        have hJ8 : ∀ (t5 : Int32) (w6 : (Nat → Int32)) (w7 : (Nat → Int32)), J8 t5 w6 w7 = some u → ∀ (H : Heap) (locs : List Loc) (ls : Array Slot), va_P D vwCl [(q, .inr (11, [.ref q_w, .int v_known, .int v_kept, .int v_seed, .ref q_imageSeed, .ref q_bookOf, .ref q_bookAt, .ref q_bookIs, .int v_written, .ref q_rs, .ref q_cs, .long v_above, .long v_below, .ref q_zs, .long v_leftAbove, .long v_leftBelow, .long v_guessAbove, .long v_guessBelow, .int v_sign, .int v_power2, .long v_bits])), (q_w, .inl (cI, 418, .inl v_w)), (q_bookOf, .inl (cI, 20, .inl v_bookOf)), (q_bookAt, .inl (cI, 20, .inl v_bookAt)), (q_bookIs, .inl (cI, 20, .inl v_bookIs)), (q_rs, .inl (cI, 4, .inl w6)), (q_cs, .inl (cI, 4, .inl w7))] H → va_D A [(q, .inr (11, [.ref q_w, .int v_known, .int v_kept, .int v_seed, .ref q_imageSeed, .ref q_bookOf, .ref q_bookAt, .ref q_bookIs, .int v_written, .ref q_rs, .ref q_cs, .long v_above, .long v_below, .ref q_zs, .long v_leftAbove, .long v_leftBelow, .long v_guessAbove, .long v_guessBelow, .int v_sign, .int v_power2, .long v_bits])), (q_w, .inl (cI, 418, .inl v_w)), (q_bookOf, .inl (cI, 20, .inl v_bookOf)), (q_bookAt, .inl (cI, 20, .inl v_bookAt)), (q_bookIs, .inl (cI, 20, .inl v_bookIs)), (q_rs, .inl (cI, 4, .inl w6)), (q_cs, .inl (cI, 4, .inl w7))] → va_S A s.heap H locs → lv_has ls 3 [(0, .ref q), (1, .int x1)] → W p l e R s m args below meth c H locs 0 0 Q (F0 m 35 ls [.int t5]) := by
          intro t5 w6 w7 hf H locs ls hP hD hS hl
          rw [hJ8_] at hf
          refine lv_istore_n (lv' := [(2, .int t5), (0, .ref q), (1, .int x1)]) hx hb dX12_wrong_35 rfl hl (by decide) rfl (fun ls hl => ?_)
          refine lv_iload_n hx hb dX12_wrong_36 rfl (lv_at hl 0 rfl) ?_
          refine lv_if_eq (tgt := 65) hx hb dX12_wrong_37 (by decide) (fun c9 => ?_) (fun c9 => ?_)
          · have hf := kp_e hf c9
            exact hk0 _ _ _ _ _ _ _ (Option.some.inj hf).symm _ _ _ hP hD hS (lv_sub hl [2] rfl)
          · have hf := kn_e hf c9
            refine lv_aload_n hx hb dX12_wrong_40 rfl (lv_at hl 1 rfl) ?_
            refine lv_aload_n hx hb dX12_wrong_41 rfl (lv_at hl 1 rfl) ?_
            refine va_get (D := D) (ci := 11) (v := .ref q_bookOf) (C := RX12) (T := TX12) (N := 21) hx hb hts kinX12 hown hK hP 0 rfl rfl 5 (by decide) (hts _ kw849) (fun _ h9 => h9) rfl dX12_wrong_42 ?_
            refine lv_iload_n hx hb dX12_wrong_45 rfl (lv_at hl 2 rfl) ?_
            obtain ⟨c10, hf⟩ := kc_e hf
            refine va_iald hx hb hK hP 2 0 rfl rfl (kin_e c10) dX12_wrong_46 ?_
            refine lv_aload_n hx hb dX12_wrong_47 rfl (lv_at hl 1 rfl) ?_
            refine va_get (D := D) (ci := 11) (v := .ref q_bookAt) (C := RX12) (T := TX12) (N := 21) hx hb hts kinX12 hown hK hP 0 rfl rfl 6 (by decide) (hts _ kw850) (fun _ h9 => h9) rfl dX12_wrong_48 ?_
            refine lv_iload_n hx hb dX12_wrong_51 rfl (lv_at hl 2 rfl) ?_
            obtain ⟨c11, hf⟩ := kc_e hf
            refine va_iald hx hb hK hP 3 0 rfl rfl (kin_e c11) dX12_wrong_52 ?_
            obtain ⟨r12, w13, w14, w15, w16, w17, w18, h19, hf⟩ := kb7_e hf
            refine k_gi (nW := 7) (ws' := [(q, .inr (11, [.ref q_w, .int v_known, .int v_kept, .int v_seed, .ref q_imageSeed, .ref q_bookOf, .ref q_bookAt, .ref q_bookIs, .int v_written, .ref q_rs, .ref q_cs, .long w13, .long w14, .ref q_zs, .long w15, .long w16, .long v_guessAbove, .long v_guessBelow, .int v_sign, .int v_power2, .long v_bits])), (q_w, .inl (cI, 418, .inl v_w)), (q_bookOf, .inl (cI, 20, .inl v_bookOf)), (q_bookAt, .inl (cI, 20, .inl v_bookAt)), (q_bookIs, .inl (cI, 20, .inl v_bookIs)), (q_rs, .inl (cI, 4, .inl w17)), (q_cs, .inl (cI, 4, .inl w18))]) (wr := [(q_bookOf, .inl (cI, 20, .inl v_bookOf)), (q_bookAt, .inl (cI, 20, .inl v_bookAt)), (q_bookIs, .inl (cI, 20, .inl v_bookIs))]) (k_runV (rest := []) hat hP hD hS hl.1 (c_X12_digitOf q q_w q_imageSeed q_bookOf q_bookAt q_bookIs q_rs q_cs q_zs v_known v_kept v_seed v_written v_above v_below v_leftAbove v_leftBelow v_guessAbove v_guessBelow v_sign v_power2 v_bits v_w w6 w7 F (v_bookOf x1.toNatClampNeg) (v_bookAt x1.toNatClampNeg) r12 w13 w14 w15 w16 w17 w18 h19) [0, 1, 5, 6] (by decide) rfl kw1073 kw1075 kw51 kw79 kw1076 kdVX12_digitOf ⟨rfl, rfl⟩ (by rw [hR]; exact ⟨Nat.le_of_ble_eq_true rfl, Nat.le_of_ble_eq_true rfl⟩) ⟨Nat.zero_le _, Nat.zero_le _⟩ 0 11 rfl rfl rfl rfl (Nat.le_of_ble_eq_true rfl) dX12_wrong_53) hat hP hD hS [0, 1, 5, 6] rfl [2, 3, 4] rfl rfl rfl rfl rfl (by decide) (fun H locs hP hD hS => ?_)
            refine lv_aload_n hx hb dX12_wrong_56 rfl (lv_at hl 1 rfl) ?_
            refine va_get (D := D) (ci := 11) (v := .ref q_bookIs) (C := RX12) (T := TX12) (N := 21) hx hb hts kinX12 hown hK hP 0 rfl rfl 7 (by decide) (hts _ kw851) (fun _ h9 => h9) rfl dX12_wrong_57 ?_
            refine lv_iload_n hx hb dX12_wrong_60 rfl (lv_at hl 2 rfl) ?_
            obtain ⟨c20, hf⟩ := kc_e hf
            refine va_iald hx hb hK hP 4 0 rfl rfl (kin_e c20) dX12_wrong_61 ?_
            refine lv_icmp_eq (tgt := 67) hx hb dX12_wrong_62 (by decide) (fun c21 => ?_) (fun c21 => ?_)
            · have hf := kp_e hf c21
              obtain ⟨t22, et22⟩ : ∃ z : Int32, z = (x1 + (1 : Int32)) := ⟨_, rfl⟩
              have hf := kl_e hf t22 et22
              refine lv_iinc (v := t22) (lv' := [(1, .int t22), (2, .int t5), (0, .ref q)]) hx hb dX12_wrong_67 hl (k := 2) rfl (by rw [et22]; rfl) (by decide) rfl (fun ls hl => ?_)
              refine lv_goto (tgt := 2) hx hb dX12_wrong_70 (by decide) ?_
              exact ih t22 w13 w14 w15 w16 w17 w18 u hf hk0 hk1 _ _ _ hP hD hS (lv_sub hl [2, 0] rfl)
            · have hf := kn_e hf c21
              exact hk0 _ _ _ _ _ _ _ (Option.some.inj hf).symm _ _ _ hP hD hS (lv_sub hl [2] rfl)
        obtain ⟨J25, hJ25_, hf⟩ := kj2_e hf
        have hJ25 : ∀ (w23 : (Nat → Int32)) (w24 : (Nat → Int32)), J25 w23 w24 = some u → ∀ (H : Heap) (locs : List Loc) (ls : Array Slot), va_P D vwCl [(q, .inr (11, [.ref q_w, .int v_known, .int v_kept, .int v_seed, .ref q_imageSeed, .ref q_bookOf, .ref q_bookAt, .ref q_bookIs, .int v_written, .ref q_rs, .ref q_cs, .long v_above, .long v_below, .ref q_zs, .long v_leftAbove, .long v_leftBelow, .long v_guessAbove, .long v_guessBelow, .int v_sign, .int v_power2, .long v_bits])), (q_w, .inl (cI, 418, .inl v_w)), (q_bookOf, .inl (cI, 20, .inl v_bookOf)), (q_bookAt, .inl (cI, 20, .inl v_bookAt)), (q_bookIs, .inl (cI, 20, .inl v_bookIs)), (q_rs, .inl (cI, 4, .inl w23)), (q_cs, .inl (cI, 4, .inl w24))] H → va_D A [(q, .inr (11, [.ref q_w, .int v_known, .int v_kept, .int v_seed, .ref q_imageSeed, .ref q_bookOf, .ref q_bookAt, .ref q_bookIs, .int v_written, .ref q_rs, .ref q_cs, .long v_above, .long v_below, .ref q_zs, .long v_leftAbove, .long v_leftBelow, .long v_guessAbove, .long v_guessBelow, .int v_sign, .int v_power2, .long v_bits])), (q_w, .inl (cI, 418, .inl v_w)), (q_bookOf, .inl (cI, 20, .inl v_bookOf)), (q_bookAt, .inl (cI, 20, .inl v_bookAt)), (q_bookIs, .inl (cI, 20, .inl v_bookIs)), (q_rs, .inl (cI, 4, .inl w23)), (q_cs, .inl (cI, 4, .inl w24))] → va_S A s.heap H locs → lv_has ls 3 [(0, .ref q), (1, .int x1)] → W p l e R s m args below meth c H locs 0 0 Q (F0 m 34 ls []) := by
          intro w23 w24 hf H locs ls hP hD hS hl
          rw [hJ25_] at hf
          refine lv_iconst (v := 0) hx hb dX12_wrong_34 (by decide) ?_
          exact hJ8 (0 : Int32) w23 w24 hf _ _ _ hP hD hS hl
        refine lv_if_eq (tgt := 34) hx hb dX12_wrong_20 (by decide) (fun c26 => ?_) (fun c26 => ?_)
        · have hf := kp_e hf c26
          exact hJ25 v_rs v_cs hf _ _ _ hP hD hS hl
        · have hf := kn_e hf c26
          refine lv_aload_n hx hb dX12_wrong_23 rfl (lv_at hl 0 rfl) ?_
          obtain ⟨r27, w28, w29, h30, hf⟩ := kb3_e hf
          refine k_gi (nW := 7) (ws' := [(q, .inr (11, [.ref q_w, .int v_known, .int v_kept, .int v_seed, .ref q_imageSeed, .ref q_bookOf, .ref q_bookAt, .ref q_bookIs, .int v_written, .ref q_rs, .ref q_cs, .long v_above, .long v_below, .ref q_zs, .long v_leftAbove, .long v_leftBelow, .long v_guessAbove, .long v_guessBelow, .int v_sign, .int v_power2, .long v_bits])), (q_w, .inl (cI, 418, .inl v_w)), (q_bookOf, .inl (cI, 20, .inl v_bookOf)), (q_bookAt, .inl (cI, 20, .inl v_bookAt)), (q_bookIs, .inl (cI, 20, .inl v_bookIs)), (q_rs, .inl (cI, 4, .inl w28)), (q_cs, .inl (cI, 4, .inl w29))]) (wr := [(q_bookOf, .inl (cI, 20, .inl v_bookOf)), (q_bookAt, .inl (cI, 20, .inl v_bookAt)), (q_bookIs, .inl (cI, 20, .inl v_bookIs))]) (k_runV (rest := []) hat hP hD hS hl.1 (c_X12_isBad q q_w q_imageSeed q_bookOf q_bookAt q_bookIs q_rs q_cs q_zs v_known v_kept v_seed v_written v_above v_below v_leftAbove v_leftBelow v_guessAbove v_guessBelow v_sign v_power2 v_bits v_w v_rs v_cs F r27 w28 w29 h30) [0, 1, 5, 6] (by decide) rfl kw1008 kw1010 kw39 kw79 kw1011 kdVX12_isBad ⟨rfl, rfl⟩ (by rw [hR]; exact ⟨Nat.le_of_ble_eq_true rfl, Nat.le_of_ble_eq_true rfl⟩) ⟨Nat.zero_le _, Nat.zero_le _⟩ 0 11 rfl rfl rfl rfl (Nat.le_of_ble_eq_true rfl) dX12_wrong_24) hat hP hD hS [0, 1, 5, 6] rfl [2, 3, 4] rfl rfl rfl rfl rfl (by decide) (fun H locs hP hD hS => ?_)
          refine lv_if_ne (tgt := 34) hx hb dX12_wrong_27 (by decide) (fun c31 => ?_) (fun c31 => ?_)
          · have hf := kn_e hf c31
            exact hJ25 w28 w29 hf _ _ _ hP hD hS hl
          · have hf := kp_e hf c31
            refine lv_iconst (v := 1) hx hb dX12_wrong_30 (by decide) ?_
            refine lv_goto (tgt := 35) hx hb dX12_wrong_31 (by decide) ?_
            exact hJ8 (1 : Int32) w28 w29 hf _ _ _ hP hD hS hl
  unfold f_X12_wrong at hf
  refine lv_iconst (v := 0) hx hb dX12_wrong_0 (by decide) ?_
  refine lv_istore_n (lv' := [(1, .int (0 : Int32)), (0, .ref q)]) hx hb dX12_wrong_1 rfl hl (by decide) rfl (fun ls hl => ?_)
  obtain ⟨u45, hu, hf0, hf1⟩ := ks_e hf
  refine hL2 v_known v_kept v_seed v_written v_guessAbove v_guessBelow v_sign v_power2 v_bits v_w v_bookOf v_bookAt v_bookIs F (0 : Int32) v_above v_below v_leftAbove v_leftBelow v_rs v_cs u45 hu (fun y32 w33 w34 w35 w36 w37 w38 hu2 H locs ls hP hD hS hl => ?_) (fun w39 w40 w41 w42 w43 w44 hu2 H locs ls hP hD hS hl => ?_) _ _ _ hP hD hS (lv_sub hl [1, 0] rfl)
  · have hf := kf7_e (hf0 _ hu2)
    refine lv_iload_n hx hb dX12_wrong_65 rfl (lv_at hl 0 rfl) ?_
    obtain ⟨rfl, rfl, rfl, rfl, rfl, rfl, rfl⟩ := ki7 hf
    rw [hQ]
    exact k_iret hat hP hS rfl dX12_wrong_66
  · have hf := kf6_e (hf1 _ hu2)
    refine lv_iconst (v := -1) hx hb dX12_wrong_73 (by decide) ?_
    obtain ⟨rfl, rfl, rfl, rfl, rfl, rfl, rfl⟩ := ki7 hf
    rw [hQ]
    exact k_iret hat hP hS rfl dX12_wrong_74
set_option maxHeartbeats 4000000 in
set_option maxRecDepth 100000 in
theorem c_X12_toldOfPrime {l : Launch} {D : va_G} {cI cJ cQ : ClassId} {tp : Nat} (q : Nat) (q_w : Nat) (q_imageSeed : Nat) (q_bookOf : Nat) (q_bookAt : Nat) (q_bookIs : Nat) (q_rs : Nat) (q_cs : Nat) (q_zs : Nat) (v_known : Int32) (v_kept : Int32) (v_seed : Int32) (v_written : Int32) (v_above : Int64) (v_below : Int64) (v_leftAbove : Int64) (v_leftBelow : Int64) (v_guessAbove : Int64) (v_guessBelow : Int64) (v_sign : Int32) (v_power2 : Int32) (v_bits : Int64) (v_w : (Nat → Int32)) (v_bookOf : (Nat → Int32)) (v_bookAt : (Nat → Int32)) (v_bookIs : (Nat → Int32)) (v_rs : (Nat → Int32)) (v_cs : (Nat → Int32)) (F : Nat) (x1 : Int32) (r0 : Int32) (o_v_above : Int64) (o_v_below : Int64) (o_v_leftAbove : Int64) (o_v_leftBelow : Int64) (o_v_guessAbove : Int64) (o_v_guessBelow : Int64) (o_v_rs : (Nat → Int32)) (o_v_cs : (Nat → Int32)) (hf : f_X12_toldOfPrime F v_known v_written v_above v_below v_leftAbove v_leftBelow v_guessAbove v_guessBelow v_w v_bookOf v_bookAt v_bookIs v_rs v_cs x1 = some (r0, o_v_above, o_v_below, o_v_leftAbove, o_v_leftBelow, o_v_guessAbove, o_v_guessBelow, o_v_rs, o_v_cs)) : kM (fun A => kQi D A [(q, .inr (11, [.ref q_w, .int v_known, .int v_kept, .int v_seed, .ref q_imageSeed, .ref q_bookOf, .ref q_bookAt, .ref q_bookIs, .int v_written, .ref q_rs, .ref q_cs, .long o_v_above, .long o_v_below, .ref q_zs, .long o_v_leftAbove, .long o_v_leftBelow, .long o_v_guessAbove, .long o_v_guessBelow, .int v_sign, .int v_power2, .long v_bits])), (q_w, .inl (cI, 418, .inl v_w)), (q_bookOf, .inl (cI, 20, .inl v_bookOf)), (q_bookAt, .inl (cI, 20, .inl v_bookAt)), (q_bookIs, .inl (cI, 20, .inl v_bookIs)), (q_rs, .inl (cI, 4, .inl o_v_rs)), (q_cs, .inl (cI, 4, .inl o_v_cs))] r0) (some .int) l yX12_toldOfPrime cX12_toldOfPrime 2 { frames := 15, cells := 0, slots := 0, locals := 390 } D cI cJ cQ tp [.ref q, .int x1] [(q, .inr (11, [.ref q_w, .int v_known, .int v_kept, .int v_seed, .ref q_imageSeed, .ref q_bookOf, .ref q_bookAt, .ref q_bookIs, .int v_written, .ref q_rs, .ref q_cs, .long v_above, .long v_below, .ref q_zs, .long v_leftAbove, .long v_leftBelow, .long v_guessAbove, .long v_guessBelow, .int v_sign, .int v_power2, .long v_bits])), (q_w, .inl (cI, 418, .inl v_w)), (q_bookOf, .inl (cI, 20, .inl v_bookOf)), (q_bookAt, .inl (cI, 20, .inl v_bookAt)), (q_bookIs, .inl (cI, 20, .inl v_bookIs)), (q_rs, .inl (cI, 4, .inl v_rs)), (q_cs, .inl (cI, 4, .inl v_cs))] := by
  refine kM_of (by decide +kernel) (Nat.le_of_ble_eq_true rfl) ?_
  intro p e s m args below meth c A ls R Q hR hQ hat hP hD hS hl
  obtain ⟨hx, hb, hr, hml, hown, hts, hT, hlk, hK, hA, hZ⟩ := id hat
  have hown : s.vm.findClass RX12 = some m.cls := hown
  have hl : lv_has ls 2 [(0, .ref q), (1, .int x1)] := hl
  unfold f_X12_toldOfPrime at hf
  refine lv_iload_n hx hb dX12_toldOfPrime_0 rfl (lv_at hl 1 rfl) ?_
  by_cases c1 : x1 = 8
  · have hf := kp_e hf c1
    refine lv_tableIn (tgt := 56) hx hb dX12_toldOfPrime_1 (by rw [c1]; decide) (by rw [c1]; decide) (off := 55) (by rw [c1]; rfl) (by decide) ?_
    refine lv_aload_n hx hb dX12_toldOfPrime_56 rfl (lv_at hl 0 rfl) ?_
    obtain ⟨r2, w3, w4, h5, hf⟩ := kb3_e hf
    refine k_gi (nW := 7) (ws' := [(q, .inr (11, [.ref q_w, .int v_known, .int v_kept, .int v_seed, .ref q_imageSeed, .ref q_bookOf, .ref q_bookAt, .ref q_bookIs, .int v_written, .ref q_rs, .ref q_cs, .long v_above, .long v_below, .ref q_zs, .long v_leftAbove, .long v_leftBelow, .long v_guessAbove, .long v_guessBelow, .int v_sign, .int v_power2, .long v_bits])), (q_w, .inl (cI, 418, .inl v_w)), (q_bookOf, .inl (cI, 20, .inl v_bookOf)), (q_bookAt, .inl (cI, 20, .inl v_bookAt)), (q_bookIs, .inl (cI, 20, .inl v_bookIs)), (q_rs, .inl (cI, 4, .inl w3)), (q_cs, .inl (cI, 4, .inl w4))]) (wr := [(q_bookOf, .inl (cI, 20, .inl v_bookOf)), (q_bookAt, .inl (cI, 20, .inl v_bookAt)), (q_bookIs, .inl (cI, 20, .inl v_bookIs))]) (k_runV (rest := []) hat hP hD hS hl.1 (c_X12_isBad q q_w q_imageSeed q_bookOf q_bookAt q_bookIs q_rs q_cs q_zs v_known v_kept v_seed v_written v_above v_below v_leftAbove v_leftBelow v_guessAbove v_guessBelow v_sign v_power2 v_bits v_w v_rs v_cs F r2 w3 w4 h5) [0, 1, 5, 6] (by decide) rfl kw1008 kw1010 kw39 kw79 kw1011 kdVX12_isBad ⟨rfl, rfl⟩ (by rw [hR]; exact ⟨Nat.le_of_ble_eq_true rfl, Nat.le_of_ble_eq_true rfl⟩) ⟨Nat.zero_le _, Nat.zero_le _⟩ 0 11 rfl rfl rfl rfl (Nat.le_of_ble_eq_true rfl) dX12_toldOfPrime_57) hat hP hD hS [0, 1, 5, 6] rfl [2, 3, 4] rfl rfl rfl rfl rfl (by decide) (fun H locs hP hD hS => ?_)
    refine lv_if_eq (tgt := 67) hx hb dX12_toldOfPrime_60 (by decide) (fun c6 => ?_) (fun c6 => ?_)
    · have hf := kp_e hf c6
      refine lv_iconst (v := 0) hx hb dX12_toldOfPrime_67 (by decide) ?_
      obtain ⟨rfl, rfl, rfl, rfl, rfl, rfl, rfl, rfl, rfl⟩ := ki9 hf
      rw [hQ]
      exact k_iret hat hP hS rfl dX12_toldOfPrime_68
    · have hf := kn_e hf c6
      refine lv_iconst (v := 1) hx hb dX12_toldOfPrime_63 (by decide) ?_
      refine lv_goto (tgt := 68) hx hb dX12_toldOfPrime_64 (by decide) ?_
      obtain ⟨rfl, rfl, rfl, rfl, rfl, rfl, rfl, rfl, rfl⟩ := ki9 hf
      rw [hQ]
      exact k_iret hat hP hS rfl dX12_toldOfPrime_68
  · have hf := kn_e hf c1
    by_cases c7 : x1 = 9
    · have hf := kp_e hf c7
      refine lv_tableIn (tgt := 69) hx hb dX12_toldOfPrime_1 (by rw [c7]; decide) (by rw [c7]; decide) (off := 68) (by rw [c7]; rfl) (by decide) ?_
      refine lv_aload_n hx hb dX12_toldOfPrime_69 rfl (lv_at hl 0 rfl) ?_
      obtain ⟨r8, w9, w10, h11, hf⟩ := kb3_e hf
      refine k_gi (nW := 7) (ws' := [(q, .inr (11, [.ref q_w, .int v_known, .int v_kept, .int v_seed, .ref q_imageSeed, .ref q_bookOf, .ref q_bookAt, .ref q_bookIs, .int v_written, .ref q_rs, .ref q_cs, .long v_above, .long v_below, .ref q_zs, .long v_leftAbove, .long v_leftBelow, .long v_guessAbove, .long v_guessBelow, .int v_sign, .int v_power2, .long v_bits])), (q_w, .inl (cI, 418, .inl v_w)), (q_bookOf, .inl (cI, 20, .inl v_bookOf)), (q_bookAt, .inl (cI, 20, .inl v_bookAt)), (q_bookIs, .inl (cI, 20, .inl v_bookIs)), (q_rs, .inl (cI, 4, .inl w9)), (q_cs, .inl (cI, 4, .inl w10))]) (wr := [(q_bookOf, .inl (cI, 20, .inl v_bookOf)), (q_bookAt, .inl (cI, 20, .inl v_bookAt)), (q_bookIs, .inl (cI, 20, .inl v_bookIs))]) (k_runV (rest := []) hat hP hD hS hl.1 (c_X12_badMany q q_w q_imageSeed q_bookOf q_bookAt q_bookIs q_rs q_cs q_zs v_known v_kept v_seed v_written v_above v_below v_leftAbove v_leftBelow v_guessAbove v_guessBelow v_sign v_power2 v_bits v_w v_rs v_cs F r8 w9 w10 h11) [0, 1, 5, 6] (by decide) rfl kw1012 kw1014 kw40 kw79 kw1015 kdVX12_badMany ⟨rfl, rfl⟩ (by rw [hR]; exact ⟨Nat.le_of_ble_eq_true rfl, Nat.le_of_ble_eq_true rfl⟩) ⟨Nat.zero_le _, Nat.zero_le _⟩ 0 11 rfl rfl rfl rfl (Nat.le_of_ble_eq_true rfl) dX12_toldOfPrime_70) hat hP hD hS [0, 1, 5, 6] rfl [2, 3, 4] rfl rfl rfl rfl rfl (by decide) (fun H locs hP hD hS => ?_)
      obtain ⟨rfl, rfl, rfl, rfl, rfl, rfl, rfl, rfl, rfl⟩ := ki9 hf
      rw [hQ]
      exact k_iret hat hP hS rfl dX12_toldOfPrime_73
    · have hf := kn_e hf c7
      by_cases c12 : x1 = 10
      · have hf := kp_e hf c12
        refine lv_tableIn (tgt := 74) hx hb dX12_toldOfPrime_1 (by rw [c12]; decide) (by rw [c12]; decide) (off := 73) (by rw [c12]; rfl) (by decide) ?_
        refine lv_aload_n hx hb dX12_toldOfPrime_74 rfl (lv_at hl 0 rfl) ?_
        refine lv_aload_n hx hb dX12_toldOfPrime_75 rfl (lv_at hl 0 rfl) ?_
        obtain ⟨r13, h14, hf⟩ := kb1_e hf
        refine k_gi (nW := 7) (ws' := [(q, .inr (11, [.ref q_w, .int v_known, .int v_kept, .int v_seed, .ref q_imageSeed, .ref q_bookOf, .ref q_bookAt, .ref q_bookIs, .int v_written, .ref q_rs, .ref q_cs, .long v_above, .long v_below, .ref q_zs, .long v_leftAbove, .long v_leftBelow, .long v_guessAbove, .long v_guessBelow, .int v_sign, .int v_power2, .long v_bits])), (q_w, .inl (cI, 418, .inl v_w)), (q_bookOf, .inl (cI, 20, .inl v_bookOf)), (q_bookAt, .inl (cI, 20, .inl v_bookAt)), (q_bookIs, .inl (cI, 20, .inl v_bookIs)), (q_rs, .inl (cI, 4, .inl v_rs)), (q_cs, .inl (cI, 4, .inl v_cs))]) (wr := [(q_bookOf, .inl (cI, 20, .inl v_bookOf)), (q_bookAt, .inl (cI, 20, .inl v_bookAt)), (q_bookIs, .inl (cI, 20, .inl v_bookIs)), (q_rs, .inl (cI, 4, .inl v_rs)), (q_cs, .inl (cI, 4, .inl v_cs))]) (k_runV (rest := [.ref q]) hat hP hD hS hl.1 (c_X12_allColumns q q_w q_imageSeed q_bookOf q_bookAt q_bookIs q_rs q_cs q_zs v_known v_kept v_seed v_written v_above v_below v_leftAbove v_leftBelow v_guessAbove v_guessBelow v_sign v_power2 v_bits v_w r13 h14) [0, 1] (by decide) rfl kw927 kw929 kw22 kw79 kw930 kdVX12_allColumns ⟨rfl, rfl⟩ (by rw [hR]; exact ⟨Nat.le_of_ble_eq_true rfl, Nat.le_of_ble_eq_true rfl⟩) ⟨Nat.zero_le _, Nat.zero_le _⟩ 0 11 rfl rfl rfl rfl (Nat.le_of_ble_eq_true rfl) dX12_toldOfPrime_76) hat hP hD hS [0, 1] rfl [2, 3, 4, 5, 6] rfl rfl rfl rfl rfl (by decide) (fun H locs hP hD hS => ?_)
        refine lv_aload_n hx hb dX12_toldOfPrime_79 rfl (lv_at hl 0 rfl) ?_
        obtain ⟨r15, h16, hf⟩ := kb1_e hf
        refine k_gi (nW := 7) (ws' := [(q, .inr (11, [.ref q_w, .int v_known, .int v_kept, .int v_seed, .ref q_imageSeed, .ref q_bookOf, .ref q_bookAt, .ref q_bookIs, .int v_written, .ref q_rs, .ref q_cs, .long v_above, .long v_below, .ref q_zs, .long v_leftAbove, .long v_leftBelow, .long v_guessAbove, .long v_guessBelow, .int v_sign, .int v_power2, .long v_bits])), (q_w, .inl (cI, 418, .inl v_w)), (q_bookOf, .inl (cI, 20, .inl v_bookOf)), (q_bookAt, .inl (cI, 20, .inl v_bookAt)), (q_bookIs, .inl (cI, 20, .inl v_bookIs)), (q_rs, .inl (cI, 4, .inl v_rs)), (q_cs, .inl (cI, 4, .inl v_cs))]) (wr := [(q_bookOf, .inl (cI, 20, .inl v_bookOf)), (q_bookAt, .inl (cI, 20, .inl v_bookAt)), (q_bookIs, .inl (cI, 20, .inl v_bookIs)), (q_rs, .inl (cI, 4, .inl v_rs)), (q_cs, .inl (cI, 4, .inl v_cs))]) (k_runV (rest := [.int r13, .ref q]) hat hP hD hS hl.1 (c_X12_p q q_w q_imageSeed q_bookOf q_bookAt q_bookIs q_rs q_cs q_zs v_known v_kept v_seed v_written v_above v_below v_leftAbove v_leftBelow v_guessAbove v_guessBelow v_sign v_power2 v_bits v_w F r15 h16) [0, 1] (by decide) rfl kw916 kw918 kw20 kw79 kw919 kdVX12_p ⟨rfl, rfl⟩ (by rw [hR]; exact ⟨Nat.le_of_ble_eq_true rfl, Nat.le_of_ble_eq_true rfl⟩) ⟨Nat.zero_le _, Nat.zero_le _⟩ 0 11 rfl rfl rfl rfl (Nat.le_of_ble_eq_true rfl) dX12_toldOfPrime_80) hat hP hD hS [0, 1] rfl [2, 3, 4, 5, 6] rfl rfl rfl rfl rfl (by decide) (fun H locs hP hD hS => ?_)
        obtain ⟨r17, w18, w19, h20, hf⟩ := kb3_e hf
        refine k_gi (nW := 7) (ws' := [(q, .inr (11, [.ref q_w, .int v_known, .int v_kept, .int v_seed, .ref q_imageSeed, .ref q_bookOf, .ref q_bookAt, .ref q_bookIs, .int v_written, .ref q_rs, .ref q_cs, .long v_above, .long v_below, .ref q_zs, .long v_leftAbove, .long v_leftBelow, .long v_guessAbove, .long v_guessBelow, .int v_sign, .int v_power2, .long v_bits])), (q_w, .inl (cI, 418, .inl v_w)), (q_bookOf, .inl (cI, 20, .inl v_bookOf)), (q_bookAt, .inl (cI, 20, .inl v_bookAt)), (q_bookIs, .inl (cI, 20, .inl v_bookIs)), (q_rs, .inl (cI, 4, .inl w18)), (q_cs, .inl (cI, 4, .inl w19))]) (wr := [(q_bookOf, .inl (cI, 20, .inl v_bookOf)), (q_bookAt, .inl (cI, 20, .inl v_bookAt)), (q_bookIs, .inl (cI, 20, .inl v_bookIs))]) (k_runV (rest := []) hat hP hD hS hl.1 (c_X12_rankOf q q_w q_imageSeed q_bookOf q_bookAt q_bookIs q_rs q_cs q_zs v_known v_kept v_seed v_written v_above v_below v_leftAbove v_leftBelow v_guessAbove v_guessBelow v_sign v_power2 v_bits v_w v_rs v_cs F r13 r15 r17 w18 w19 h20) [0, 1, 5, 6] (by decide) rfl kw969 kw971 kw30 kw79 kw972 kdVX12_rankOf ⟨rfl, rfl⟩ (by rw [hR]; exact ⟨Nat.le_of_ble_eq_true rfl, Nat.le_of_ble_eq_true rfl⟩) ⟨Nat.zero_le _, Nat.zero_le _⟩ 0 11 rfl rfl rfl rfl (Nat.le_of_ble_eq_true rfl) dX12_toldOfPrime_83) hat hP hD hS [0, 1, 5, 6] rfl [2, 3, 4] rfl rfl rfl rfl rfl (by decide) (fun H locs hP hD hS => ?_)
        obtain ⟨rfl, rfl, rfl, rfl, rfl, rfl, rfl, rfl, rfl⟩ := ki9 hf
        rw [hQ]
        exact k_iret hat hP hS rfl dX12_toldOfPrime_86
      · have hf := kn_e hf c12
        by_cases c21 : x1 = 11
        · have hf := kp_e hf c21
          refine lv_tableIn (tgt := 87) hx hb dX12_toldOfPrime_1 (by rw [c21]; decide) (by rw [c21]; decide) (off := 86) (by rw [c21]; rfl) (by decide) ?_
          refine lv_aload_n hx hb dX12_toldOfPrime_87 rfl (lv_at hl 0 rfl) ?_
          obtain ⟨r22, w23, w24, h25, hf⟩ := kb3_e hf
          refine k_gi (nW := 7) (ws' := [(q, .inr (11, [.ref q_w, .int v_known, .int v_kept, .int v_seed, .ref q_imageSeed, .ref q_bookOf, .ref q_bookAt, .ref q_bookIs, .int v_written, .ref q_rs, .ref q_cs, .long v_above, .long v_below, .ref q_zs, .long v_leftAbove, .long v_leftBelow, .long v_guessAbove, .long v_guessBelow, .int v_sign, .int v_power2, .long v_bits])), (q_w, .inl (cI, 418, .inl v_w)), (q_bookOf, .inl (cI, 20, .inl v_bookOf)), (q_bookAt, .inl (cI, 20, .inl v_bookAt)), (q_bookIs, .inl (cI, 20, .inl v_bookIs)), (q_rs, .inl (cI, 4, .inl w23)), (q_cs, .inl (cI, 4, .inl w24))]) (wr := [(q_bookOf, .inl (cI, 20, .inl v_bookOf)), (q_bookAt, .inl (cI, 20, .inl v_bookAt)), (q_bookIs, .inl (cI, 20, .inl v_bookIs))]) (k_runV (rest := []) hat hP hD hS hl.1 (c_X12_waysNow q q_w q_imageSeed q_bookOf q_bookAt q_bookIs q_rs q_cs q_zs v_known v_kept v_seed v_written v_above v_below v_leftAbove v_leftBelow v_guessAbove v_guessBelow v_sign v_power2 v_bits v_w v_rs v_cs F r22 w23 w24 h25) [0, 1, 5, 6] (by decide) rfl kw1016 kw1018 kw41 kw79 kw1019 kdVX12_waysNow ⟨rfl, rfl⟩ (by rw [hR]; exact ⟨Nat.le_of_ble_eq_true rfl, Nat.le_of_ble_eq_true rfl⟩) ⟨Nat.zero_le _, Nat.zero_le _⟩ 0 11 rfl rfl rfl rfl (Nat.le_of_ble_eq_true rfl) dX12_toldOfPrime_88) hat hP hD hS [0, 1, 5, 6] rfl [2, 3, 4] rfl rfl rfl rfl rfl (by decide) (fun H locs hP hD hS => ?_)
          obtain ⟨rfl, rfl, rfl, rfl, rfl, rfl, rfl, rfl, rfl⟩ := ki9 hf
          rw [hQ]
          exact k_iret hat hP hS rfl dX12_toldOfPrime_91
        · have hf := kn_e hf c21
          by_cases c26 : x1 = 12
          · have hf := kp_e hf c26
            refine lv_tableIn (tgt := 92) hx hb dX12_toldOfPrime_1 (by rw [c26]; decide) (by rw [c26]; decide) (off := 91) (by rw [c26]; rfl) (by decide) ?_
            refine lv_aload_n hx hb dX12_toldOfPrime_92 rfl (lv_at hl 0 rfl) ?_
            obtain ⟨r27, w28, w29, h30, hf⟩ := kb3_e hf
            refine k_gi (nW := 7) (ws' := [(q, .inr (11, [.ref q_w, .int v_known, .int v_kept, .int v_seed, .ref q_imageSeed, .ref q_bookOf, .ref q_bookAt, .ref q_bookIs, .int v_written, .ref q_rs, .ref q_cs, .long v_above, .long v_below, .ref q_zs, .long v_leftAbove, .long v_leftBelow, .long v_guessAbove, .long v_guessBelow, .int v_sign, .int v_power2, .long v_bits])), (q_w, .inl (cI, 418, .inl v_w)), (q_bookOf, .inl (cI, 20, .inl v_bookOf)), (q_bookAt, .inl (cI, 20, .inl v_bookAt)), (q_bookIs, .inl (cI, 20, .inl v_bookIs)), (q_rs, .inl (cI, 4, .inl w28)), (q_cs, .inl (cI, 4, .inl w29))]) (wr := [(q_bookOf, .inl (cI, 20, .inl v_bookOf)), (q_bookAt, .inl (cI, 20, .inl v_bookAt)), (q_bookIs, .inl (cI, 20, .inl v_bookIs))]) (k_runV (rest := []) hat hP hD hS hl.1 (c_X12_isBad q q_w q_imageSeed q_bookOf q_bookAt q_bookIs q_rs q_cs q_zs v_known v_kept v_seed v_written v_above v_below v_leftAbove v_leftBelow v_guessAbove v_guessBelow v_sign v_power2 v_bits v_w v_rs v_cs F r27 w28 w29 h30) [0, 1, 5, 6] (by decide) rfl kw1008 kw1010 kw39 kw79 kw1011 kdVX12_isBad ⟨rfl, rfl⟩ (by rw [hR]; exact ⟨Nat.le_of_ble_eq_true rfl, Nat.le_of_ble_eq_true rfl⟩) ⟨Nat.zero_le _, Nat.zero_le _⟩ 0 11 rfl rfl rfl rfl (Nat.le_of_ble_eq_true rfl) dX12_toldOfPrime_93) hat hP hD hS [0, 1, 5, 6] rfl [2, 3, 4] rfl rfl rfl rfl rfl (by decide) (fun H locs hP hD hS => ?_)
            refine lv_if_eq (tgt := 103) hx hb dX12_toldOfPrime_96 (by decide) (fun c31 => ?_) (fun c31 => ?_)
            · have hf := kp_e hf c31
              refine lv_aload_n hx hb dX12_toldOfPrime_103 rfl (lv_at hl 0 rfl) ?_
              obtain ⟨r32, h33, hf⟩ := kb1_e hf
              refine k_gi (nW := 7) (ws' := [(q, .inr (11, [.ref q_w, .int v_known, .int v_kept, .int v_seed, .ref q_imageSeed, .ref q_bookOf, .ref q_bookAt, .ref q_bookIs, .int v_written, .ref q_rs, .ref q_cs, .long v_above, .long v_below, .ref q_zs, .long v_leftAbove, .long v_leftBelow, .long v_guessAbove, .long v_guessBelow, .int v_sign, .int v_power2, .long v_bits])), (q_w, .inl (cI, 418, .inl v_w)), (q_bookOf, .inl (cI, 20, .inl v_bookOf)), (q_bookAt, .inl (cI, 20, .inl v_bookAt)), (q_bookIs, .inl (cI, 20, .inl v_bookIs)), (q_rs, .inl (cI, 4, .inl w28)), (q_cs, .inl (cI, 4, .inl w29))]) (wr := [(q_bookOf, .inl (cI, 20, .inl v_bookOf)), (q_bookAt, .inl (cI, 20, .inl v_bookAt)), (q_bookIs, .inl (cI, 20, .inl v_bookIs)), (q_rs, .inl (cI, 4, .inl w28)), (q_cs, .inl (cI, 4, .inl w29))]) (k_runV (rest := []) hat hP hD hS hl.1 (c_X12_sure q q_w q_imageSeed q_bookOf q_bookAt q_bookIs q_rs q_cs q_zs v_known v_kept v_seed v_written v_above v_below v_leftAbove v_leftBelow v_guessAbove v_guessBelow v_sign v_power2 v_bits v_w F r32 h33) [0, 1] (by decide) rfl kw1020 kw1022 kw42 kw79 kw1023 kdVX12_sure ⟨rfl, rfl⟩ (by rw [hR]; exact ⟨Nat.le_of_ble_eq_true rfl, Nat.le_of_ble_eq_true rfl⟩) ⟨Nat.zero_le _, Nat.zero_le _⟩ 0 11 rfl rfl rfl rfl (Nat.le_of_ble_eq_true rfl) dX12_toldOfPrime_104) hat hP hD hS [0, 1] rfl [2, 3, 4, 5, 6] rfl rfl rfl rfl rfl (by decide) (fun H locs hP hD hS => ?_)
              obtain ⟨rfl, rfl, rfl, rfl, rfl, rfl, rfl, rfl, rfl⟩ := ki9 hf
              rw [hQ]
              exact k_iret hat hP hS rfl dX12_toldOfPrime_107
            · have hf := kn_e hf c31
              refine lv_iconst (v := -1) hx hb dX12_toldOfPrime_99 (by decide) ?_
              refine lv_goto (tgt := 107) hx hb dX12_toldOfPrime_100 (by decide) ?_
              obtain ⟨rfl, rfl, rfl, rfl, rfl, rfl, rfl, rfl, rfl⟩ := ki9 hf
              rw [hQ]
              exact k_iret hat hP hS rfl dX12_toldOfPrime_107
          · have hf := kn_e hf c26
            by_cases c34 : x1 = 13
            · have hf := kp_e hf c34
              refine lv_tableIn (tgt := 108) hx hb dX12_toldOfPrime_1 (by rw [c34]; decide) (by rw [c34]; decide) (off := 107) (by rw [c34]; rfl) (by decide) ?_
              refine lv_aload_n hx hb dX12_toldOfPrime_108 rfl (lv_at hl 0 rfl) ?_
              obtain ⟨r35, w36, w37, h38, hf⟩ := kb3_e hf
              refine k_gi (nW := 7) (ws' := [(q, .inr (11, [.ref q_w, .int v_known, .int v_kept, .int v_seed, .ref q_imageSeed, .ref q_bookOf, .ref q_bookAt, .ref q_bookIs, .int v_written, .ref q_rs, .ref q_cs, .long v_above, .long v_below, .ref q_zs, .long v_leftAbove, .long v_leftBelow, .long v_guessAbove, .long v_guessBelow, .int v_sign, .int v_power2, .long v_bits])), (q_w, .inl (cI, 418, .inl v_w)), (q_bookOf, .inl (cI, 20, .inl v_bookOf)), (q_bookAt, .inl (cI, 20, .inl v_bookAt)), (q_bookIs, .inl (cI, 20, .inl v_bookIs)), (q_rs, .inl (cI, 4, .inl w36)), (q_cs, .inl (cI, 4, .inl w37))]) (wr := [(q_bookOf, .inl (cI, 20, .inl v_bookOf)), (q_bookAt, .inl (cI, 20, .inl v_bookAt)), (q_bookIs, .inl (cI, 20, .inl v_bookIs))]) (k_runV (rest := []) hat hP hD hS hl.1 (c_X12_isBad q q_w q_imageSeed q_bookOf q_bookAt q_bookIs q_rs q_cs q_zs v_known v_kept v_seed v_written v_above v_below v_leftAbove v_leftBelow v_guessAbove v_guessBelow v_sign v_power2 v_bits v_w v_rs v_cs F r35 w36 w37 h38) [0, 1, 5, 6] (by decide) rfl kw1008 kw1010 kw39 kw79 kw1011 kdVX12_isBad ⟨rfl, rfl⟩ (by rw [hR]; exact ⟨Nat.le_of_ble_eq_true rfl, Nat.le_of_ble_eq_true rfl⟩) ⟨Nat.zero_le _, Nat.zero_le _⟩ 0 11 rfl rfl rfl rfl (Nat.le_of_ble_eq_true rfl) dX12_toldOfPrime_109) hat hP hD hS [0, 1, 5, 6] rfl [2, 3, 4] rfl rfl rfl rfl rfl (by decide) (fun H locs hP hD hS => ?_)
              refine lv_if_eq (tgt := 119) hx hb dX12_toldOfPrime_112 (by decide) (fun c39 => ?_) (fun c39 => ?_)
              · have hf := kp_e hf c39
                refine lv_aload_n hx hb dX12_toldOfPrime_119 rfl (lv_at hl 0 rfl) ?_
                obtain ⟨r40, w41, w42, w43, w44, w45, w46, h47, hf⟩ := kb7_e hf
                refine k_gi (nW := 7) (ws' := [(q, .inr (11, [.ref q_w, .int v_known, .int v_kept, .int v_seed, .ref q_imageSeed, .ref q_bookOf, .ref q_bookAt, .ref q_bookIs, .int v_written, .ref q_rs, .ref q_cs, .long w41, .long w42, .ref q_zs, .long v_leftAbove, .long v_leftBelow, .long w43, .long w44, .int v_sign, .int v_power2, .long v_bits])), (q_w, .inl (cI, 418, .inl v_w)), (q_bookOf, .inl (cI, 20, .inl v_bookOf)), (q_bookAt, .inl (cI, 20, .inl v_bookAt)), (q_bookIs, .inl (cI, 20, .inl v_bookIs)), (q_rs, .inl (cI, 4, .inl w45)), (q_cs, .inl (cI, 4, .inl w46))]) (wr := [(q_bookOf, .inl (cI, 20, .inl v_bookOf)), (q_bookAt, .inl (cI, 20, .inl v_bookAt)), (q_bookIs, .inl (cI, 20, .inl v_bookIs))]) (k_runV (rest := []) hat hP hD hS hl.1 (c_X12_early q q_w q_imageSeed q_bookOf q_bookAt q_bookIs q_rs q_cs q_zs v_known v_kept v_seed v_written v_above v_below v_leftAbove v_leftBelow v_guessAbove v_guessBelow v_sign v_power2 v_bits v_w w36 w37 F r40 w41 w42 w43 w44 w45 w46 h47) [0, 1, 5, 6] (by decide) rfl kw1029 kw1031 kw43 kw79 kw1032 kdVX12_early ⟨rfl, rfl⟩ (by rw [hR]; exact ⟨Nat.le_of_ble_eq_true rfl, Nat.le_of_ble_eq_true rfl⟩) ⟨Nat.zero_le _, Nat.zero_le _⟩ 0 11 rfl rfl rfl rfl (Nat.le_of_ble_eq_true rfl) dX12_toldOfPrime_120) hat hP hD hS [0, 1, 5, 6] rfl [2, 3, 4] rfl rfl rfl rfl rfl (by decide) (fun H locs hP hD hS => ?_)
                obtain ⟨rfl, rfl, rfl, rfl, rfl, rfl, rfl, rfl, rfl⟩ := ki9 hf
                rw [hQ]
                exact k_iret hat hP hS rfl dX12_toldOfPrime_123
              · have hf := kn_e hf c39
                refine lv_iconst (v := -1) hx hb dX12_toldOfPrime_115 (by decide) ?_
                refine lv_goto (tgt := 123) hx hb dX12_toldOfPrime_116 (by decide) ?_
                obtain ⟨rfl, rfl, rfl, rfl, rfl, rfl, rfl, rfl, rfl⟩ := ki9 hf
                rw [hQ]
                exact k_iret hat hP hS rfl dX12_toldOfPrime_123
            · have hf := kn_e hf c34
              by_cases c48 : x1 = 14
              · have hf := kp_e hf c48
                refine lv_tableIn (tgt := 124) hx hb dX12_toldOfPrime_1 (by rw [c48]; decide) (by rw [c48]; decide) (off := 123) (by rw [c48]; rfl) (by decide) ?_
                refine lv_aload_n hx hb dX12_toldOfPrime_124 rfl (lv_at hl 0 rfl) ?_
                obtain ⟨r49, w50, w51, h52, hf⟩ := kb3_e hf
                refine k_gi (nW := 7) (ws' := [(q, .inr (11, [.ref q_w, .int v_known, .int v_kept, .int v_seed, .ref q_imageSeed, .ref q_bookOf, .ref q_bookAt, .ref q_bookIs, .int v_written, .ref q_rs, .ref q_cs, .long v_above, .long v_below, .ref q_zs, .long v_leftAbove, .long v_leftBelow, .long v_guessAbove, .long v_guessBelow, .int v_sign, .int v_power2, .long v_bits])), (q_w, .inl (cI, 418, .inl v_w)), (q_bookOf, .inl (cI, 20, .inl v_bookOf)), (q_bookAt, .inl (cI, 20, .inl v_bookAt)), (q_bookIs, .inl (cI, 20, .inl v_bookIs)), (q_rs, .inl (cI, 4, .inl w50)), (q_cs, .inl (cI, 4, .inl w51))]) (wr := [(q_bookOf, .inl (cI, 20, .inl v_bookOf)), (q_bookAt, .inl (cI, 20, .inl v_bookAt)), (q_bookIs, .inl (cI, 20, .inl v_bookIs))]) (k_runV (rest := []) hat hP hD hS hl.1 (c_X12_isBad q q_w q_imageSeed q_bookOf q_bookAt q_bookIs q_rs q_cs q_zs v_known v_kept v_seed v_written v_above v_below v_leftAbove v_leftBelow v_guessAbove v_guessBelow v_sign v_power2 v_bits v_w v_rs v_cs F r49 w50 w51 h52) [0, 1, 5, 6] (by decide) rfl kw1008 kw1010 kw39 kw79 kw1011 kdVX12_isBad ⟨rfl, rfl⟩ (by rw [hR]; exact ⟨Nat.le_of_ble_eq_true rfl, Nat.le_of_ble_eq_true rfl⟩) ⟨Nat.zero_le _, Nat.zero_le _⟩ 0 11 rfl rfl rfl rfl (Nat.le_of_ble_eq_true rfl) dX12_toldOfPrime_125) hat hP hD hS [0, 1, 5, 6] rfl [2, 3, 4] rfl rfl rfl rfl rfl (by decide) (fun H locs hP hD hS => ?_)
                refine lv_if_eq (tgt := 135) hx hb dX12_toldOfPrime_128 (by decide) (fun c53 => ?_) (fun c53 => ?_)
                · have hf := kp_e hf c53
                  refine lv_aload_n hx hb dX12_toldOfPrime_135 rfl (lv_at hl 0 rfl) ?_
                  obtain ⟨r54, w55, w56, w57, w58, w59, w60, h61, hf⟩ := kb7_e hf
                  refine k_gi (nW := 7) (ws' := [(q, .inr (11, [.ref q_w, .int v_known, .int v_kept, .int v_seed, .ref q_imageSeed, .ref q_bookOf, .ref q_bookAt, .ref q_bookIs, .int v_written, .ref q_rs, .ref q_cs, .long w55, .long w56, .ref q_zs, .long v_leftAbove, .long v_leftBelow, .long w57, .long w58, .int v_sign, .int v_power2, .long v_bits])), (q_w, .inl (cI, 418, .inl v_w)), (q_bookOf, .inl (cI, 20, .inl v_bookOf)), (q_bookAt, .inl (cI, 20, .inl v_bookAt)), (q_bookIs, .inl (cI, 20, .inl v_bookIs)), (q_rs, .inl (cI, 4, .inl w59)), (q_cs, .inl (cI, 4, .inl w60))]) (wr := [(q_bookOf, .inl (cI, 20, .inl v_bookOf)), (q_bookAt, .inl (cI, 20, .inl v_bookAt)), (q_bookIs, .inl (cI, 20, .inl v_bookIs))]) (k_runV (rest := []) hat hP hD hS hl.1 (c_X12_tooSoon q q_w q_imageSeed q_bookOf q_bookAt q_bookIs q_rs q_cs q_zs v_known v_kept v_seed v_written v_above v_below v_leftAbove v_leftBelow v_guessAbove v_guessBelow v_sign v_power2 v_bits v_w w50 w51 F r54 w55 w56 w57 w58 w59 w60 h61) [0, 1, 5, 6] (by decide) rfl kw1061 kw1063 kw48 kw79 kw1064 kdVX12_tooSoon ⟨rfl, rfl⟩ (by rw [hR]; exact ⟨Nat.le_of_ble_eq_true rfl, Nat.le_of_ble_eq_true rfl⟩) ⟨Nat.zero_le _, Nat.zero_le _⟩ 0 11 rfl rfl rfl rfl (Nat.le_of_ble_eq_true rfl) dX12_toldOfPrime_136) hat hP hD hS [0, 1, 5, 6] rfl [2, 3, 4] rfl rfl rfl rfl rfl (by decide) (fun H locs hP hD hS => ?_)
                  obtain ⟨rfl, rfl, rfl, rfl, rfl, rfl, rfl, rfl, rfl⟩ := ki9 hf
                  rw [hQ]
                  exact k_iret hat hP hS rfl dX12_toldOfPrime_139
                · have hf := kn_e hf c53
                  refine lv_iconst (v := -1) hx hb dX12_toldOfPrime_131 (by decide) ?_
                  refine lv_goto (tgt := 139) hx hb dX12_toldOfPrime_132 (by decide) ?_
                  obtain ⟨rfl, rfl, rfl, rfl, rfl, rfl, rfl, rfl, rfl⟩ := ki9 hf
                  rw [hQ]
                  exact k_iret hat hP hS rfl dX12_toldOfPrime_139
              · have hf := kn_e hf c48
                by_cases c62 : x1 = 15
                · have hf := kp_e hf c62
                  refine lv_tableIn (tgt := 140) hx hb dX12_toldOfPrime_1 (by rw [c62]; decide) (by rw [c62]; decide) (off := 139) (by rw [c62]; rfl) (by decide) ?_
                  refine lv_aload_n hx hb dX12_toldOfPrime_140 rfl (lv_at hl 0 rfl) ?_
                  refine va_get (D := D) (ci := 11) (v := .int v_written) (C := RX12) (T := TX12) (N := 21) hx hb hts kinX12 hown hK hP 0 rfl rfl 8 (by decide) (hts _ kw852) (fun _ h9 => h9) rfl dX12_toldOfPrime_141 ?_
                  obtain ⟨rfl, rfl, rfl, rfl, rfl, rfl, rfl, rfl, rfl⟩ := ki9 hf
                  rw [hQ]
                  exact k_iret hat hP hS rfl dX12_toldOfPrime_144
                · have hf := kn_e hf c62
                  by_cases c63 : x1 = 16
                  · have hf := kp_e hf c63
                    refine lv_tableIn (tgt := 145) hx hb dX12_toldOfPrime_1 (by rw [c63]; decide) (by rw [c63]; decide) (off := 144) (by rw [c63]; rfl) (by decide) ?_
                    refine lv_aload_n hx hb dX12_toldOfPrime_145 rfl (lv_at hl 0 rfl) ?_
                    obtain ⟨r64, w65, w66, w67, w68, w69, w70, h71, hf⟩ := kb7_e hf
                    refine k_gi (nW := 7) (ws' := [(q, .inr (11, [.ref q_w, .int v_known, .int v_kept, .int v_seed, .ref q_imageSeed, .ref q_bookOf, .ref q_bookAt, .ref q_bookIs, .int v_written, .ref q_rs, .ref q_cs, .long w65, .long w66, .ref q_zs, .long w67, .long w68, .long v_guessAbove, .long v_guessBelow, .int v_sign, .int v_power2, .long v_bits])), (q_w, .inl (cI, 418, .inl v_w)), (q_bookOf, .inl (cI, 20, .inl v_bookOf)), (q_bookAt, .inl (cI, 20, .inl v_bookAt)), (q_bookIs, .inl (cI, 20, .inl v_bookIs)), (q_rs, .inl (cI, 4, .inl w69)), (q_cs, .inl (cI, 4, .inl w70))]) (wr := []) (k_runV (rest := []) hat hP hD hS hl.1 (c_X12_wrong q q_w q_imageSeed q_bookOf q_bookAt q_bookIs q_rs q_cs q_zs v_known v_kept v_seed v_written v_above v_below v_leftAbove v_leftBelow v_guessAbove v_guessBelow v_sign v_power2 v_bits v_w v_bookOf v_bookAt v_bookIs v_rs v_cs F r64 w65 w66 w67 w68 w69 w70 h71) [0, 1, 2, 3, 4, 5, 6] (by decide) rfl kw1065 kw1067 kw49 kw79 kw1068 kdVX12_wrong ⟨rfl, rfl⟩ (by rw [hR]; exact ⟨Nat.le_of_ble_eq_true rfl, Nat.le_of_ble_eq_true rfl⟩) ⟨Nat.zero_le _, Nat.zero_le _⟩ 0 11 rfl rfl rfl rfl (Nat.le_of_ble_eq_true rfl) dX12_toldOfPrime_146) hat hP hD hS [0, 1, 2, 3, 4, 5, 6] rfl [] rfl rfl rfl rfl rfl (by decide) (fun H locs hP hD hS => ?_)
                    obtain ⟨rfl, rfl, rfl, rfl, rfl, rfl, rfl, rfl, rfl⟩ := ki9 hf
                    rw [hQ]
                    exact k_iret hat hP hS rfl dX12_toldOfPrime_149
                  · have hf := kn_e hf c63
                    by_cases c72 : x1 = 17
                    · have hf := kp_e hf c72
                      refine lv_tableIn (tgt := 150) hx hb dX12_toldOfPrime_1 (by rw [c72]; decide) (by rw [c72]; decide) (off := 149) (by rw [c72]; rfl) (by decide) ?_
                      refine lv_aload_n hx hb dX12_toldOfPrime_150 rfl (lv_at hl 0 rfl) ?_
                      refine va_get (D := D) (ci := 11) (v := .int v_known) (C := RX12) (T := TX12) (N := 21) hx hb hts kinX12 hown hK hP 0 rfl rfl 1 (by decide) (hts _ kw845) (fun _ h9 => h9) rfl dX12_toldOfPrime_151 ?_
                      obtain ⟨rfl, rfl, rfl, rfl, rfl, rfl, rfl, rfl, rfl⟩ := ki9 hf
                      rw [hQ]
                      exact k_iret hat hP hS rfl dX12_toldOfPrime_154
                    · have hf := kn_e hf c72
                      have c1_ : x1.toInt ≠ 8 := fun h9 => c1 (Int32.toInt_inj.mp (h9.trans (by decide)))
                      have c7_ : x1.toInt ≠ 9 := fun h9 => c7 (Int32.toInt_inj.mp (h9.trans (by decide)))
                      have c12_ : x1.toInt ≠ 10 := fun h9 => c12 (Int32.toInt_inj.mp (h9.trans (by decide)))
                      have c21_ : x1.toInt ≠ 11 := fun h9 => c21 (Int32.toInt_inj.mp (h9.trans (by decide)))
                      have c26_ : x1.toInt ≠ 12 := fun h9 => c26 (Int32.toInt_inj.mp (h9.trans (by decide)))
                      have c34_ : x1.toInt ≠ 13 := fun h9 => c34 (Int32.toInt_inj.mp (h9.trans (by decide)))
                      have c48_ : x1.toInt ≠ 14 := fun h9 => c48 (Int32.toInt_inj.mp (h9.trans (by decide)))
                      have c62_ : x1.toInt ≠ 15 := fun h9 => c62 (Int32.toInt_inj.mp (h9.trans (by decide)))
                      have c63_ : x1.toInt ≠ 16 := fun h9 => c63 (Int32.toInt_inj.mp (h9.trans (by decide)))
                      have c72_ : x1.toInt ≠ 17 := fun h9 => c72 (Int32.toInt_inj.mp (h9.trans (by decide)))
                      refine lv_tableOut (tgt := 155) hx hb dX12_toldOfPrime_1 (by omega) (by decide) ?_
                      refine lv_ldc hx hb hown (hts _ kw1077) dX12_toldOfPrime_155 ?_
                      obtain ⟨rfl, rfl, rfl, rfl, rfl, rfl, rfl, rfl, rfl⟩ := ki9 hf
                      rw [hQ]
                      exact k_iret hat hP hS rfl dX12_toldOfPrime_157
set_option maxHeartbeats 4000000 in
set_option maxRecDepth 100000 in
theorem c_X12_told {l : Launch} {D : va_G} {cI cJ cQ : ClassId} {tp : Nat} (q : Nat) (q_w : Nat) (q_imageSeed : Nat) (q_bookOf : Nat) (q_bookAt : Nat) (q_bookIs : Nat) (q_rs : Nat) (q_cs : Nat) (q_zs : Nat) (v_known : Int32) (v_kept : Int32) (v_seed : Int32) (v_written : Int32) (v_above : Int64) (v_below : Int64) (v_leftAbove : Int64) (v_leftBelow : Int64) (v_guessAbove : Int64) (v_guessBelow : Int64) (v_sign : Int32) (v_power2 : Int32) (v_bits : Int64) (v_w : (Nat → Int32)) (v_bookOf : (Nat → Int32)) (v_bookAt : (Nat → Int32)) (v_bookIs : (Nat → Int32)) (v_rs : (Nat → Int32)) (v_cs : (Nat → Int32)) (F : Nat) (x1 : Int32) (r0 : Int32) (o_v_above : Int64) (o_v_below : Int64) (o_v_leftAbove : Int64) (o_v_leftBelow : Int64) (o_v_guessAbove : Int64) (o_v_guessBelow : Int64) (o_v_rs : (Nat → Int32)) (o_v_cs : (Nat → Int32)) (hf : f_X12_told F v_known v_written v_above v_below v_leftAbove v_leftBelow v_guessAbove v_guessBelow v_w v_bookOf v_bookAt v_bookIs v_rs v_cs x1 = some (r0, o_v_above, o_v_below, o_v_leftAbove, o_v_leftBelow, o_v_guessAbove, o_v_guessBelow, o_v_rs, o_v_cs)) : kM (fun A => kQi D A [(q, .inr (11, [.ref q_w, .int v_known, .int v_kept, .int v_seed, .ref q_imageSeed, .ref q_bookOf, .ref q_bookAt, .ref q_bookIs, .int v_written, .ref q_rs, .ref q_cs, .long o_v_above, .long o_v_below, .ref q_zs, .long o_v_leftAbove, .long o_v_leftBelow, .long o_v_guessAbove, .long o_v_guessBelow, .int v_sign, .int v_power2, .long v_bits])), (q_w, .inl (cI, 418, .inl v_w)), (q_bookOf, .inl (cI, 20, .inl v_bookOf)), (q_bookAt, .inl (cI, 20, .inl v_bookAt)), (q_bookIs, .inl (cI, 20, .inl v_bookIs)), (q_rs, .inl (cI, 4, .inl o_v_rs)), (q_cs, .inl (cI, 4, .inl o_v_cs))] r0) (some .int) l yX12_told cX12_told 2 { frames := 16, cells := 0, slots := 0, locals := 411 } D cI cJ cQ tp [.ref q, .int x1] [(q, .inr (11, [.ref q_w, .int v_known, .int v_kept, .int v_seed, .ref q_imageSeed, .ref q_bookOf, .ref q_bookAt, .ref q_bookIs, .int v_written, .ref q_rs, .ref q_cs, .long v_above, .long v_below, .ref q_zs, .long v_leftAbove, .long v_leftBelow, .long v_guessAbove, .long v_guessBelow, .int v_sign, .int v_power2, .long v_bits])), (q_w, .inl (cI, 418, .inl v_w)), (q_bookOf, .inl (cI, 20, .inl v_bookOf)), (q_bookAt, .inl (cI, 20, .inl v_bookAt)), (q_bookIs, .inl (cI, 20, .inl v_bookIs)), (q_rs, .inl (cI, 4, .inl v_rs)), (q_cs, .inl (cI, 4, .inl v_cs))] := by
  refine kM_of (by decide +kernel) (Nat.le_of_ble_eq_true rfl) ?_
  intro p e s m args below meth c A ls R Q hR hQ hat hP hD hS hl
  obtain ⟨hx, hb, hr, hml, hown, hts, hT, hlk, hK, hA, hZ⟩ := id hat
  have hown : s.vm.findClass RX12 = some m.cls := hown
  have hl : lv_has ls 2 [(0, .ref q), (1, .int x1)] := hl
  unfold f_X12_told at hf
  refine lv_iload_n hx hb dX12_told_0 rfl (lv_at hl 1 rfl) ?_
  by_cases c1 : x1 = 0
  · have hf := kp_e hf c1
    refine lv_tableIn (tgt := 48) hx hb dX12_told_1 (by rw [c1]; decide) (by rw [c1]; decide) (off := 47) (by rw [c1]; rfl) (by decide) ?_
    refine lv_aload_n hx hb dX12_told_48 rfl (lv_at hl 0 rfl) ?_
    obtain ⟨r2, h3, hf⟩ := kb1_e hf
    refine k_gi (nW := 7) (ws' := [(q, .inr (11, [.ref q_w, .int v_known, .int v_kept, .int v_seed, .ref q_imageSeed, .ref q_bookOf, .ref q_bookAt, .ref q_bookIs, .int v_written, .ref q_rs, .ref q_cs, .long v_above, .long v_below, .ref q_zs, .long v_leftAbove, .long v_leftBelow, .long v_guessAbove, .long v_guessBelow, .int v_sign, .int v_power2, .long v_bits])), (q_w, .inl (cI, 418, .inl v_w)), (q_bookOf, .inl (cI, 20, .inl v_bookOf)), (q_bookAt, .inl (cI, 20, .inl v_bookAt)), (q_bookIs, .inl (cI, 20, .inl v_bookIs)), (q_rs, .inl (cI, 4, .inl v_rs)), (q_cs, .inl (cI, 4, .inl v_cs))]) (wr := [(q_bookOf, .inl (cI, 20, .inl v_bookOf)), (q_bookAt, .inl (cI, 20, .inl v_bookAt)), (q_bookIs, .inl (cI, 20, .inl v_bookIs)), (q_rs, .inl (cI, 4, .inl v_rs)), (q_cs, .inl (cI, 4, .inl v_cs))]) (k_runV (rest := []) hat hP hD hS hl.1 (c_X12_n q q_w q_imageSeed q_bookOf q_bookAt q_bookIs q_rs q_cs q_zs v_known v_kept v_seed v_written v_above v_below v_leftAbove v_leftBelow v_guessAbove v_guessBelow v_sign v_power2 v_bits v_w r2 h3) [0, 1] (by decide) rfl kw912 kw914 kw19 kw79 kw915 kdVX12_n ⟨rfl, rfl⟩ (by rw [hR]; exact ⟨Nat.le_of_ble_eq_true rfl, Nat.le_of_ble_eq_true rfl⟩) ⟨Nat.zero_le _, Nat.zero_le _⟩ 0 11 rfl rfl rfl rfl (Nat.le_of_ble_eq_true rfl) dX12_told_49) hat hP hD hS [0, 1] rfl [2, 3, 4, 5, 6] rfl rfl rfl rfl rfl (by decide) (fun H locs hP hD hS => ?_)
    obtain ⟨rfl, rfl, rfl, rfl, rfl, rfl, rfl, rfl, rfl⟩ := ki9 hf
    rw [hQ]
    exact k_iret hat hP hS rfl dX12_told_52
  · have hf := kn_e hf c1
    by_cases c4 : x1 = 1
    · have hf := kp_e hf c4
      refine lv_tableIn (tgt := 53) hx hb dX12_told_1 (by rw [c4]; decide) (by rw [c4]; decide) (off := 52) (by rw [c4]; rfl) (by decide) ?_
      refine lv_aload_n hx hb dX12_told_53 rfl (lv_at hl 0 rfl) ?_
      obtain ⟨r5, h6, hf⟩ := kb1_e hf
      refine k_gi (nW := 7) (ws' := [(q, .inr (11, [.ref q_w, .int v_known, .int v_kept, .int v_seed, .ref q_imageSeed, .ref q_bookOf, .ref q_bookAt, .ref q_bookIs, .int v_written, .ref q_rs, .ref q_cs, .long v_above, .long v_below, .ref q_zs, .long v_leftAbove, .long v_leftBelow, .long v_guessAbove, .long v_guessBelow, .int v_sign, .int v_power2, .long v_bits])), (q_w, .inl (cI, 418, .inl v_w)), (q_bookOf, .inl (cI, 20, .inl v_bookOf)), (q_bookAt, .inl (cI, 20, .inl v_bookAt)), (q_bookIs, .inl (cI, 20, .inl v_bookIs)), (q_rs, .inl (cI, 4, .inl v_rs)), (q_cs, .inl (cI, 4, .inl v_cs))]) (wr := [(q_bookOf, .inl (cI, 20, .inl v_bookOf)), (q_bookAt, .inl (cI, 20, .inl v_bookAt)), (q_bookIs, .inl (cI, 20, .inl v_bookIs)), (q_rs, .inl (cI, 4, .inl v_rs)), (q_cs, .inl (cI, 4, .inl v_cs))]) (k_runV (rest := []) hat hP hD hS hl.1 (c_X12_p q q_w q_imageSeed q_bookOf q_bookAt q_bookIs q_rs q_cs q_zs v_known v_kept v_seed v_written v_above v_below v_leftAbove v_leftBelow v_guessAbove v_guessBelow v_sign v_power2 v_bits v_w F r5 h6) [0, 1] (by decide) rfl kw916 kw918 kw20 kw79 kw919 kdVX12_p ⟨rfl, rfl⟩ (by rw [hR]; exact ⟨Nat.le_of_ble_eq_true rfl, Nat.le_of_ble_eq_true rfl⟩) ⟨Nat.zero_le _, Nat.zero_le _⟩ 0 11 rfl rfl rfl rfl (Nat.le_of_ble_eq_true rfl) dX12_told_54) hat hP hD hS [0, 1] rfl [2, 3, 4, 5, 6] rfl rfl rfl rfl rfl (by decide) (fun H locs hP hD hS => ?_)
      obtain ⟨rfl, rfl, rfl, rfl, rfl, rfl, rfl, rfl, rfl⟩ := ki9 hf
      rw [hQ]
      exact k_iret hat hP hS rfl dX12_told_57
    · have hf := kn_e hf c4
      by_cases c7 : x1 = 2
      · have hf := kp_e hf c7
        refine lv_tableIn (tgt := 58) hx hb dX12_told_1 (by rw [c7]; decide) (by rw [c7]; decide) (off := 57) (by rw [c7]; rfl) (by decide) ?_
        refine lv_aload_n hx hb dX12_told_58 rfl (lv_at hl 0 rfl) ?_
        obtain ⟨r8, w9, w10, h11, hf⟩ := kb3_e hf
        refine k_gl (nW := 7) (ws' := [(q, .inr (11, [.ref q_w, .int v_known, .int v_kept, .int v_seed, .ref q_imageSeed, .ref q_bookOf, .ref q_bookAt, .ref q_bookIs, .int v_written, .ref q_rs, .ref q_cs, .long v_above, .long v_below, .ref q_zs, .long v_leftAbove, .long v_leftBelow, .long v_guessAbove, .long v_guessBelow, .int v_sign, .int v_power2, .long v_bits])), (q_w, .inl (cI, 418, .inl v_w)), (q_bookOf, .inl (cI, 20, .inl v_bookOf)), (q_bookAt, .inl (cI, 20, .inl v_bookAt)), (q_bookIs, .inl (cI, 20, .inl v_bookIs)), (q_rs, .inl (cI, 4, .inl w9)), (q_cs, .inl (cI, 4, .inl w10))]) (wr := [(q_bookOf, .inl (cI, 20, .inl v_bookOf)), (q_bookAt, .inl (cI, 20, .inl v_bookAt)), (q_bookIs, .inl (cI, 20, .inl v_bookIs))]) (k_runV (rest := []) hat hP hD hS hl.1 (c_X12_determinant q q_w q_imageSeed q_bookOf q_bookAt q_bookIs q_rs q_cs q_zs v_known v_kept v_seed v_written v_above v_below v_leftAbove v_leftBelow v_guessAbove v_guessBelow v_sign v_power2 v_bits v_w v_rs v_cs F r8 w9 w10 h11) [0, 1, 5, 6] (by decide) rfl kw923 kw925 kw21 kw79 kw926 kdVX12_determinant ⟨rfl, rfl⟩ (by rw [hR]; exact ⟨Nat.le_of_ble_eq_true rfl, Nat.le_of_ble_eq_true rfl⟩) ⟨Nat.zero_le _, Nat.zero_le _⟩ 0 11 rfl rfl rfl rfl (Nat.le_of_ble_eq_true rfl) dX12_told_59) hat hP hD hS [0, 1, 5, 6] rfl [2, 3, 4] rfl rfl rfl rfl rfl (by decide) (fun H locs hP hD hS => ?_)
        refine lv_l2i hx hb dX12_told_62 rfl ?_
        refine lv_ldc hx hb hown (hts _ kw964) dX12_told_63 ?_
        refine lv_iadd hx hb dX12_told_65 ?_
        obtain ⟨rfl, rfl, rfl, rfl, rfl, rfl, rfl, rfl, rfl⟩ := ki9 hf
        rw [hQ]
        exact k_iret hat hP hS rfl dX12_told_66
      · have hf := kn_e hf c7
        by_cases c12 : x1 = 3
        · have hf := kp_e hf c12
          refine lv_tableIn (tgt := 67) hx hb dX12_told_1 (by rw [c12]; decide) (by rw [c12]; decide) (off := 66) (by rw [c12]; rfl) (by decide) ?_
          refine lv_aload_n hx hb dX12_told_67 rfl (lv_at hl 0 rfl) ?_
          obtain ⟨r13, w14, w15, h16, hf⟩ := kb3_e hf
          refine k_gi (nW := 7) (ws' := [(q, .inr (11, [.ref q_w, .int v_known, .int v_kept, .int v_seed, .ref q_imageSeed, .ref q_bookOf, .ref q_bookAt, .ref q_bookIs, .int v_written, .ref q_rs, .ref q_cs, .long v_above, .long v_below, .ref q_zs, .long v_leftAbove, .long v_leftBelow, .long v_guessAbove, .long v_guessBelow, .int v_sign, .int v_power2, .long v_bits])), (q_w, .inl (cI, 418, .inl v_w)), (q_bookOf, .inl (cI, 20, .inl v_bookOf)), (q_bookAt, .inl (cI, 20, .inl v_bookAt)), (q_bookIs, .inl (cI, 20, .inl v_bookIs)), (q_rs, .inl (cI, 4, .inl w14)), (q_cs, .inl (cI, 4, .inl w15))]) (wr := [(q_bookOf, .inl (cI, 20, .inl v_bookOf)), (q_bookAt, .inl (cI, 20, .inl v_bookAt)), (q_bookIs, .inl (cI, 20, .inl v_bookIs))]) (k_runV (rest := []) hat hP hD hS hl.1 (c_X12_rank q q_w q_imageSeed q_bookOf q_bookAt q_bookIs q_rs q_cs q_zs v_known v_kept v_seed v_written v_above v_below v_leftAbove v_leftBelow v_guessAbove v_guessBelow v_sign v_power2 v_bits v_w v_rs v_cs F r13 w14 w15 h16) [0, 1, 5, 6] (by decide) rfl kw965 kw967 kw29 kw79 kw968 kdVX12_rank ⟨rfl, rfl⟩ (by rw [hR]; exact ⟨Nat.le_of_ble_eq_true rfl, Nat.le_of_ble_eq_true rfl⟩) ⟨Nat.zero_le _, Nat.zero_le _⟩ 0 11 rfl rfl rfl rfl (Nat.le_of_ble_eq_true rfl) dX12_told_68) hat hP hD hS [0, 1, 5, 6] rfl [2, 3, 4] rfl rfl rfl rfl rfl (by decide) (fun H locs hP hD hS => ?_)
          obtain ⟨rfl, rfl, rfl, rfl, rfl, rfl, rfl, rfl, rfl⟩ := ki9 hf
          rw [hQ]
          exact k_iret hat hP hS rfl dX12_told_71
        · have hf := kn_e hf c12
          by_cases c17 : x1 = 4
          · have hf := kp_e hf c17
            refine lv_tableIn (tgt := 72) hx hb dX12_told_1 (by rw [c17]; decide) (by rw [c17]; decide) (off := 71) (by rw [c17]; rfl) (by decide) ?_
            refine lv_aload_n hx hb dX12_told_72 rfl (lv_at hl 0 rfl) ?_
            refine lv_iconst (v := 0) hx hb dX12_told_73 (by decide) ?_
            obtain ⟨r18, w19, w20, h21, hf⟩ := kb3_e hf
            refine k_gi (nW := 7) (ws' := [(q, .inr (11, [.ref q_w, .int v_known, .int v_kept, .int v_seed, .ref q_imageSeed, .ref q_bookOf, .ref q_bookAt, .ref q_bookIs, .int v_written, .ref q_rs, .ref q_cs, .long v_above, .long v_below, .ref q_zs, .long v_leftAbove, .long v_leftBelow, .long v_guessAbove, .long v_guessBelow, .int v_sign, .int v_power2, .long v_bits])), (q_w, .inl (cI, 418, .inl v_w)), (q_bookOf, .inl (cI, 20, .inl v_bookOf)), (q_bookAt, .inl (cI, 20, .inl v_bookAt)), (q_bookIs, .inl (cI, 20, .inl v_bookIs)), (q_rs, .inl (cI, 4, .inl w19)), (q_cs, .inl (cI, 4, .inl w20))]) (wr := [(q_bookOf, .inl (cI, 20, .inl v_bookOf)), (q_bookAt, .inl (cI, 20, .inl v_bookAt)), (q_bookIs, .inl (cI, 20, .inl v_bookIs))]) (k_runV (rest := []) hat hP hD hS hl.1 (c_X12_wideRank q q_w q_imageSeed q_bookOf q_bookAt q_bookIs q_rs q_cs q_zs v_known v_kept v_seed v_written v_above v_below v_leftAbove v_leftBelow v_guessAbove v_guessBelow v_sign v_power2 v_bits v_w v_rs v_cs F (0 : Int32) r18 w19 w20 h21) [0, 1, 5, 6] (by decide) rfl kw973 kw975 kw31 kw79 kw976 kdVX12_wideRank ⟨rfl, rfl⟩ (by rw [hR]; exact ⟨Nat.le_of_ble_eq_true rfl, Nat.le_of_ble_eq_true rfl⟩) ⟨Nat.zero_le _, Nat.zero_le _⟩ 0 11 rfl rfl rfl rfl (Nat.le_of_ble_eq_true rfl) dX12_told_74) hat hP hD hS [0, 1, 5, 6] rfl [2, 3, 4] rfl rfl rfl rfl rfl (by decide) (fun H locs hP hD hS => ?_)
            obtain ⟨rfl, rfl, rfl, rfl, rfl, rfl, rfl, rfl, rfl⟩ := ki9 hf
            rw [hQ]
            exact k_iret hat hP hS rfl dX12_told_77
          · have hf := kn_e hf c17
            by_cases c22 : x1 = 5
            · have hf := kp_e hf c22
              refine lv_tableIn (tgt := 78) hx hb dX12_told_1 (by rw [c22]; decide) (by rw [c22]; decide) (off := 77) (by rw [c22]; rfl) (by decide) ?_
              refine lv_aload_n hx hb dX12_told_78 rfl (lv_at hl 0 rfl) ?_
              obtain ⟨r23, w24, w25, h26, hf⟩ := kb3_e hf
              refine k_gi (nW := 7) (ws' := [(q, .inr (11, [.ref q_w, .int v_known, .int v_kept, .int v_seed, .ref q_imageSeed, .ref q_bookOf, .ref q_bookAt, .ref q_bookIs, .int v_written, .ref q_rs, .ref q_cs, .long v_above, .long v_below, .ref q_zs, .long v_leftAbove, .long v_leftBelow, .long v_guessAbove, .long v_guessBelow, .int v_sign, .int v_power2, .long v_bits])), (q_w, .inl (cI, 418, .inl v_w)), (q_bookOf, .inl (cI, 20, .inl v_bookOf)), (q_bookAt, .inl (cI, 20, .inl v_bookAt)), (q_bookIs, .inl (cI, 20, .inl v_bookIs)), (q_rs, .inl (cI, 4, .inl w24)), (q_cs, .inl (cI, 4, .inl w25))]) (wr := [(q_bookOf, .inl (cI, 20, .inl v_bookOf)), (q_bookAt, .inl (cI, 20, .inl v_bookAt)), (q_bookIs, .inl (cI, 20, .inl v_bookIs))]) (k_runV (rest := []) hat hP hD hS hl.1 (c_X12_kind q q_w q_imageSeed q_bookOf q_bookAt q_bookIs q_rs q_cs q_zs v_known v_kept v_seed v_written v_above v_below v_leftAbove v_leftBelow v_guessAbove v_guessBelow v_sign v_power2 v_bits v_w v_rs v_cs F r23 w24 w25 h26) [0, 1, 5, 6] (by decide) rfl kw977 kw979 kw32 kw79 kw980 kdVX12_kind ⟨rfl, rfl⟩ (by rw [hR]; exact ⟨Nat.le_of_ble_eq_true rfl, Nat.le_of_ble_eq_true rfl⟩) ⟨Nat.zero_le _, Nat.zero_le _⟩ 0 11 rfl rfl rfl rfl (Nat.le_of_ble_eq_true rfl) dX12_told_79) hat hP hD hS [0, 1, 5, 6] rfl [2, 3, 4] rfl rfl rfl rfl rfl (by decide) (fun H locs hP hD hS => ?_)
              obtain ⟨rfl, rfl, rfl, rfl, rfl, rfl, rfl, rfl, rfl⟩ := ki9 hf
              rw [hQ]
              exact k_iret hat hP hS rfl dX12_told_82
            · have hf := kn_e hf c22
              by_cases c27 : x1 = 6
              · have hf := kp_e hf c27
                refine lv_tableIn (tgt := 83) hx hb dX12_told_1 (by rw [c27]; decide) (by rw [c27]; decide) (off := 82) (by rw [c27]; rfl) (by decide) ?_
                refine lv_aload_n hx hb dX12_told_83 rfl (lv_at hl 0 rfl) ?_
                obtain ⟨r28, w29, w30, h31, hf⟩ := kb3_e hf
                refine k_gi (nW := 7) (ws' := [(q, .inr (11, [.ref q_w, .int v_known, .int v_kept, .int v_seed, .ref q_imageSeed, .ref q_bookOf, .ref q_bookAt, .ref q_bookIs, .int v_written, .ref q_rs, .ref q_cs, .long v_above, .long v_below, .ref q_zs, .long v_leftAbove, .long v_leftBelow, .long v_guessAbove, .long v_guessBelow, .int v_sign, .int v_power2, .long v_bits])), (q_w, .inl (cI, 418, .inl v_w)), (q_bookOf, .inl (cI, 20, .inl v_bookOf)), (q_bookAt, .inl (cI, 20, .inl v_bookAt)), (q_bookIs, .inl (cI, 20, .inl v_bookIs)), (q_rs, .inl (cI, 4, .inl w29)), (q_cs, .inl (cI, 4, .inl w30))]) (wr := [(q_bookOf, .inl (cI, 20, .inl v_bookOf)), (q_bookAt, .inl (cI, 20, .inl v_bookAt)), (q_bookIs, .inl (cI, 20, .inl v_bookIs))]) (k_runV (rest := []) hat hP hD hS hl.1 (c_X12_leading q q_w q_imageSeed q_bookOf q_bookAt q_bookIs q_rs q_cs q_zs v_known v_kept v_seed v_written v_above v_below v_leftAbove v_leftBelow v_guessAbove v_guessBelow v_sign v_power2 v_bits v_w v_rs v_cs F r28 w29 w30 h31) [0, 1, 5, 6] (by decide) rfl kw981 kw983 kw33 kw79 kw984 kdVX12_leading ⟨rfl, rfl⟩ (by rw [hR]; exact ⟨Nat.le_of_ble_eq_true rfl, Nat.le_of_ble_eq_true rfl⟩) ⟨Nat.zero_le _, Nat.zero_le _⟩ 0 11 rfl rfl rfl rfl (Nat.le_of_ble_eq_true rfl) dX12_told_84) hat hP hD hS [0, 1, 5, 6] rfl [2, 3, 4] rfl rfl rfl rfl rfl (by decide) (fun H locs hP hD hS => ?_)
                obtain ⟨rfl, rfl, rfl, rfl, rfl, rfl, rfl, rfl, rfl⟩ := ki9 hf
                rw [hQ]
                exact k_iret hat hP hS rfl dX12_told_87
              · have hf := kn_e hf c27
                by_cases c32 : x1 = 7
                · have hf := kp_e hf c32
                  refine lv_tableIn (tgt := 88) hx hb dX12_told_1 (by rw [c32]; decide) (by rw [c32]; decide) (off := 87) (by rw [c32]; rfl) (by decide) ?_
                  refine lv_aload_n hx hb dX12_told_88 rfl (lv_at hl 0 rfl) ?_
                  obtain ⟨r33, w34, w35, w36, w37, h38, hf⟩ := kb5_e hf
                  refine k_gi (nW := 7) (ws' := [(q, .inr (11, [.ref q_w, .int v_known, .int v_kept, .int v_seed, .ref q_imageSeed, .ref q_bookOf, .ref q_bookAt, .ref q_bookIs, .int v_written, .ref q_rs, .ref q_cs, .long w34, .long w35, .ref q_zs, .long v_leftAbove, .long v_leftBelow, .long v_guessAbove, .long v_guessBelow, .int v_sign, .int v_power2, .long v_bits])), (q_w, .inl (cI, 418, .inl v_w)), (q_bookOf, .inl (cI, 20, .inl v_bookOf)), (q_bookAt, .inl (cI, 20, .inl v_bookAt)), (q_bookIs, .inl (cI, 20, .inl v_bookIs)), (q_rs, .inl (cI, 4, .inl w36)), (q_cs, .inl (cI, 4, .inl w37))]) (wr := [(q_bookOf, .inl (cI, 20, .inl v_bookOf)), (q_bookAt, .inl (cI, 20, .inl v_bookAt)), (q_bookIs, .inl (cI, 20, .inl v_bookIs))]) (k_runV (rest := []) hat hP hD hS hl.1 (c_X12_broken q q_w q_imageSeed q_bookOf q_bookAt q_bookIs q_rs q_cs q_zs v_known v_kept v_seed v_written v_above v_below v_leftAbove v_leftBelow v_guessAbove v_guessBelow v_sign v_power2 v_bits v_w v_rs v_cs F r33 w34 w35 w36 w37 h38) [0, 1, 5, 6] (by decide) rfl kw985 kw987 kw34 kw79 kw988 kdVX12_broken ⟨rfl, rfl⟩ (by rw [hR]; exact ⟨Nat.le_of_ble_eq_true rfl, Nat.le_of_ble_eq_true rfl⟩) ⟨Nat.zero_le _, Nat.zero_le _⟩ 0 11 rfl rfl rfl rfl (Nat.le_of_ble_eq_true rfl) dX12_told_89) hat hP hD hS [0, 1, 5, 6] rfl [2, 3, 4] rfl rfl rfl rfl rfl (by decide) (fun H locs hP hD hS => ?_)
                  obtain ⟨rfl, rfl, rfl, rfl, rfl, rfl, rfl, rfl, rfl⟩ := ki9 hf
                  rw [hQ]
                  exact k_iret hat hP hS rfl dX12_told_92
                · have hf := kn_e hf c32
                  have c1_ : x1.toInt ≠ 0 := fun h9 => c1 (Int32.toInt_inj.mp (h9.trans (by decide)))
                  have c4_ : x1.toInt ≠ 1 := fun h9 => c4 (Int32.toInt_inj.mp (h9.trans (by decide)))
                  have c7_ : x1.toInt ≠ 2 := fun h9 => c7 (Int32.toInt_inj.mp (h9.trans (by decide)))
                  have c12_ : x1.toInt ≠ 3 := fun h9 => c12 (Int32.toInt_inj.mp (h9.trans (by decide)))
                  have c17_ : x1.toInt ≠ 4 := fun h9 => c17 (Int32.toInt_inj.mp (h9.trans (by decide)))
                  have c22_ : x1.toInt ≠ 5 := fun h9 => c22 (Int32.toInt_inj.mp (h9.trans (by decide)))
                  have c27_ : x1.toInt ≠ 6 := fun h9 => c27 (Int32.toInt_inj.mp (h9.trans (by decide)))
                  have c32_ : x1.toInt ≠ 7 := fun h9 => c32 (Int32.toInt_inj.mp (h9.trans (by decide)))
                  refine lv_tableOut (tgt := 93) hx hb dX12_told_1 (by omega) (by decide) ?_
                  refine lv_aload_n hx hb dX12_told_93 rfl (lv_at hl 0 rfl) ?_
                  refine lv_iload_n hx hb dX12_told_94 rfl (lv_at hl 1 rfl) ?_
                  obtain ⟨r39, w40, w41, w42, w43, w44, w45, w46, w47, h48, hf⟩ := kb9_e hf
                  refine k_gi (nW := 7) (ws' := [(q, .inr (11, [.ref q_w, .int v_known, .int v_kept, .int v_seed, .ref q_imageSeed, .ref q_bookOf, .ref q_bookAt, .ref q_bookIs, .int v_written, .ref q_rs, .ref q_cs, .long w40, .long w41, .ref q_zs, .long w42, .long w43, .long w44, .long w45, .int v_sign, .int v_power2, .long v_bits])), (q_w, .inl (cI, 418, .inl v_w)), (q_bookOf, .inl (cI, 20, .inl v_bookOf)), (q_bookAt, .inl (cI, 20, .inl v_bookAt)), (q_bookIs, .inl (cI, 20, .inl v_bookIs)), (q_rs, .inl (cI, 4, .inl w46)), (q_cs, .inl (cI, 4, .inl w47))]) (wr := []) (k_runV (rest := []) hat hP hD hS hl.1 (c_X12_toldOfPrime q q_w q_imageSeed q_bookOf q_bookAt q_bookIs q_rs q_cs q_zs v_known v_kept v_seed v_written v_above v_below v_leftAbove v_leftBelow v_guessAbove v_guessBelow v_sign v_power2 v_bits v_w v_bookOf v_bookAt v_bookIs v_rs v_cs F x1 r39 w40 w41 w42 w43 w44 w45 w46 w47 h48) [0, 1, 2, 3, 4, 5, 6] (by decide) rfl kw1004 kw1006 kw38 kw79 kw1007 kdVX12_toldOfPrime ⟨rfl, rfl⟩ (by rw [hR]; exact ⟨Nat.le_of_ble_eq_true rfl, Nat.le_of_ble_eq_true rfl⟩) ⟨Nat.zero_le _, Nat.zero_le _⟩ 0 11 rfl rfl rfl rfl (Nat.le_of_ble_eq_true rfl) dX12_told_95) hat hP hD hS [0, 1, 2, 3, 4, 5, 6] rfl [] rfl rfl rfl rfl rfl (by decide) (fun H locs hP hD hS => ?_)
                  obtain ⟨rfl, rfl, rfl, rfl, rfl, rfl, rfl, rfl, rfl⟩ := ki9 hf
                  rw [hQ]
                  exact k_iret hat hP hS rfl dX12_told_98
set_option maxHeartbeats 4000000 in
set_option maxRecDepth 100000 in
theorem c_X12_at {l : Launch} {D : va_G} {cI cJ cQ : ClassId} {tp : Nat} (q : Nat) (q_w : Nat) (q_imageSeed : Nat) (q_bookOf : Nat) (q_bookAt : Nat) (q_bookIs : Nat) (q_rs : Nat) (q_cs : Nat) (q_zs : Nat) (v_known : Int32) (v_kept : Int32) (v_seed : Int32) (v_written : Int32) (v_above : Int64) (v_below : Int64) (v_leftAbove : Int64) (v_leftBelow : Int64) (v_guessAbove : Int64) (v_guessBelow : Int64) (v_sign : Int32) (v_power2 : Int32) (v_bits : Int64) (v_w : (Nat → Int32)) (x1 : Int32) (x2 : Int32) (r0 : Int32) (hf : f_X12_at v_w x1 x2 = some r0) : kM (fun A => kQi D A [(q, .inr (11, [.ref q_w, .int v_known, .int v_kept, .int v_seed, .ref q_imageSeed, .ref q_bookOf, .ref q_bookAt, .ref q_bookIs, .int v_written, .ref q_rs, .ref q_cs, .long v_above, .long v_below, .ref q_zs, .long v_leftAbove, .long v_leftBelow, .long v_guessAbove, .long v_guessBelow, .int v_sign, .int v_power2, .long v_bits])), (q_w, .inl (cI, 418, .inl v_w))] r0) (some .int) l yX12_at cX12_at 3 { frames := 2, cells := 0, slots := 0, locals := 46 } D cI cJ cQ tp [.ref q, .int x1, .int x2] [(q, .inr (11, [.ref q_w, .int v_known, .int v_kept, .int v_seed, .ref q_imageSeed, .ref q_bookOf, .ref q_bookAt, .ref q_bookIs, .int v_written, .ref q_rs, .ref q_cs, .long v_above, .long v_below, .ref q_zs, .long v_leftAbove, .long v_leftBelow, .long v_guessAbove, .long v_guessBelow, .int v_sign, .int v_power2, .long v_bits])), (q_w, .inl (cI, 418, .inl v_w))] := by
  refine kM_of (by decide +kernel) (Nat.le_of_ble_eq_true rfl) ?_
  intro p e s m args below meth c A ls R Q hR hQ hat hP hD hS hl
  obtain ⟨hx, hb, hr, hml, hown, hts, hT, hlk, hK, hA, hZ⟩ := id hat
  have hown : s.vm.findClass RX12 = some m.cls := hown
  have hl : lv_has ls 3 [(0, .ref q), (1, .int x1), (2, .int x2)] := hl
  unfold f_X12_at at hf
  refine lv_aload_n hx hb dX12_at_0 rfl (lv_at hl 0 rfl) ?_
  refine lv_iload_n hx hb dX12_at_1 rfl (lv_at hl 1 rfl) ?_
  obtain ⟨r1, h2, hf⟩ := kb1_e hf
  refine k_gi (nW := 2) (ws' := [(q, .inr (11, [.ref q_w, .int v_known, .int v_kept, .int v_seed, .ref q_imageSeed, .ref q_bookOf, .ref q_bookAt, .ref q_bookIs, .int v_written, .ref q_rs, .ref q_cs, .long v_above, .long v_below, .ref q_zs, .long v_leftAbove, .long v_leftBelow, .long v_guessAbove, .long v_guessBelow, .int v_sign, .int v_power2, .long v_bits])), (q_w, .inl (cI, 418, .inl v_w))]) (wr := []) (k_runV (rest := []) hat hP hD hS hl.1 (c_X12_isRow q q_w q_imageSeed q_bookOf q_bookAt q_bookIs q_rs q_cs q_zs v_known v_kept v_seed v_written v_above v_below v_leftAbove v_leftBelow v_guessAbove v_guessBelow v_sign v_power2 v_bits v_w x1 r1 h2) [0, 1] (by decide) rfl kw1069 kw1071 kw50 kw79 kw1072 kdVX12_isRow ⟨rfl, rfl⟩ (by rw [hR]; exact ⟨Nat.le_of_ble_eq_true rfl, Nat.le_of_ble_eq_true rfl⟩) ⟨Nat.zero_le _, Nat.zero_le _⟩ 0 11 rfl rfl rfl rfl (Nat.le_of_ble_eq_true rfl) dX12_at_2) hat hP hD hS [0, 1] rfl [] rfl rfl rfl rfl rfl (by decide) (fun H locs hP hD hS => ?_)
  refine lv_if_eq (tgt := 22) hx hb dX12_at_5 (by decide) (fun c3 => ?_) (fun c3 => ?_)
  · have hf := kp_e hf c3
    refine lv_ldcw hx hb hown (hts _ kw1082) dX12_at_22 ?_
    obtain rfl := ki1 hf
    rw [hQ]
    exact k_iret hat hP hS rfl dX12_at_25
  · have hf := kn_e hf c3
    refine lv_iload_n hx hb dX12_at_8 rfl (lv_at hl 2 rfl) ?_
    refine lv_i2l hx hb dX12_at_9 rfl ?_
    refine lv_lconst (v := 0) hx hb dX12_at_10 (by decide) ?_
    refine lv_aload_n hx hb dX12_at_11 rfl (lv_at hl 0 rfl) ?_
    obtain ⟨r4, h5, hf⟩ := kb1_e hf
    refine k_gi (nW := 2) (ws' := [(q, .inr (11, [.ref q_w, .int v_known, .int v_kept, .int v_seed, .ref q_imageSeed, .ref q_bookOf, .ref q_bookAt, .ref q_bookIs, .int v_written, .ref q_rs, .ref q_cs, .long v_above, .long v_below, .ref q_zs, .long v_leftAbove, .long v_leftBelow, .long v_guessAbove, .long v_guessBelow, .int v_sign, .int v_power2, .long v_bits])), (q_w, .inl (cI, 418, .inl v_w))]) (wr := []) (k_runV (rest := [.long (0 : Int64), .long (x2.toInt64)]) hat hP hD hS hl.1 (c_X12_n q q_w q_imageSeed q_bookOf q_bookAt q_bookIs q_rs q_cs q_zs v_known v_kept v_seed v_written v_above v_below v_leftAbove v_leftBelow v_guessAbove v_guessBelow v_sign v_power2 v_bits v_w r4 h5) [0, 1] (by decide) rfl kw912 kw914 kw19 kw79 kw915 kdVX12_n ⟨rfl, rfl⟩ (by rw [hR]; exact ⟨Nat.le_of_ble_eq_true rfl, Nat.le_of_ble_eq_true rfl⟩) ⟨Nat.zero_le _, Nat.zero_le _⟩ 0 11 rfl rfl rfl rfl (Nat.le_of_ble_eq_true rfl) dX12_at_12) hat hP hD hS [0, 1] rfl [] rfl rfl rfl rfl rfl (by decide) (fun H locs hP hD hS => ?_)
    refine lv_i2l hx hb dX12_at_15 rfl ?_
    obtain ⟨r6, h7, hf⟩ := kb1_e hf
    refine k_gi (nW := 2) (ws' := [(q, .inr (11, [.ref q_w, .int v_known, .int v_kept, .int v_seed, .ref q_imageSeed, .ref q_bookOf, .ref q_bookAt, .ref q_bookIs, .int v_written, .ref q_rs, .ref q_cs, .long v_above, .long v_below, .ref q_zs, .long v_leftAbove, .long v_leftBelow, .long v_guessAbove, .long v_guessBelow, .int v_sign, .int v_power2, .long v_bits])), (q_w, .inl (cI, 418, .inl v_w))]) (wr := [(q, .inr (11, [.ref q_w, .int v_known, .int v_kept, .int v_seed, .ref q_imageSeed, .ref q_bookOf, .ref q_bookAt, .ref q_bookIs, .int v_written, .ref q_rs, .ref q_cs, .long v_above, .long v_below, .ref q_zs, .long v_leftAbove, .long v_leftBelow, .long v_guessAbove, .long v_guessBelow, .int v_sign, .int v_power2, .long v_bits])), (q_w, .inl (cI, 418, .inl v_w))]) (k_runS (rest := []) hat hP hD hS hl.1 (c_X12_in (x2.toInt64) (0 : Int64) (r4.toInt64) r6 h7) [] (by decide) rfl kw1058 kw1059 kw79 kw1060 kdX12_in ⟨rfl, rfl⟩ (by rw [hR]; exact ⟨Nat.le_of_ble_eq_true rfl, Nat.le_of_ble_eq_true rfl⟩) ⟨Nat.zero_le _, Nat.zero_le _⟩ rfl rfl (Nat.le_of_ble_eq_true rfl) dX12_at_16) hat hP hD hS [] rfl [0, 1] rfl rfl rfl rfl rfl (by decide) (fun H locs hP hD hS => ?_)
    refine lv_if_ne (tgt := 26) hx hb dX12_at_19 (by decide) (fun c8 => ?_) (fun c8 => ?_)
    · have hf := kn_e hf c8
      refine lv_aload_n hx hb dX12_at_26 rfl (lv_at hl 0 rfl) ?_
      refine lv_iload_n hx hb dX12_at_27 rfl (lv_at hl 1 rfl) ?_
      refine lv_iload_n hx hb dX12_at_28 rfl (lv_at hl 2 rfl) ?_
      refine lv_aload_n hx hb dX12_at_29 rfl (lv_at hl 0 rfl) ?_
      obtain ⟨r9, h10, hf⟩ := kb1_e hf
      refine k_gi (nW := 2) (ws' := [(q, .inr (11, [.ref q_w, .int v_known, .int v_kept, .int v_seed, .ref q_imageSeed, .ref q_bookOf, .ref q_bookAt, .ref q_bookIs, .int v_written, .ref q_rs, .ref q_cs, .long v_above, .long v_below, .ref q_zs, .long v_leftAbove, .long v_leftBelow, .long v_guessAbove, .long v_guessBelow, .int v_sign, .int v_power2, .long v_bits])), (q_w, .inl (cI, 418, .inl v_w))]) (wr := []) (k_runV (rest := [.int x2, .int x1, .ref q]) hat hP hD hS hl.1 (c_X12_n q q_w q_imageSeed q_bookOf q_bookAt q_bookIs q_rs q_cs q_zs v_known v_kept v_seed v_written v_above v_below v_leftAbove v_leftBelow v_guessAbove v_guessBelow v_sign v_power2 v_bits v_w r9 h10) [0, 1] (by decide) rfl kw912 kw914 kw19 kw79 kw915 kdVX12_n ⟨rfl, rfl⟩ (by rw [hR]; exact ⟨Nat.le_of_ble_eq_true rfl, Nat.le_of_ble_eq_true rfl⟩) ⟨Nat.zero_le _, Nat.zero_le _⟩ 0 11 rfl rfl rfl rfl (Nat.le_of_ble_eq_true rfl) dX12_at_30) hat hP hD hS [0, 1] rfl [] rfl rfl rfl rfl rfl (by decide) (fun H locs hP hD hS => ?_)
      refine lv_icmp_ne (tgt := 40) hx hb dX12_at_33 (by decide) (fun c11 => ?_) (fun c11 => ?_)
      · have hf := kn_e hf c11
        refine lv_iload_n hx hb dX12_at_40 rfl (lv_at hl 2 rfl) ?_
        obtain ⟨r12, h13, hf⟩ := kb1_e hf
        refine k_gl (nW := 2) (ws' := [(q, .inr (11, [.ref q_w, .int v_known, .int v_kept, .int v_seed, .ref q_imageSeed, .ref q_bookOf, .ref q_bookAt, .ref q_bookIs, .int v_written, .ref q_rs, .ref q_cs, .long v_above, .long v_below, .ref q_zs, .long v_leftAbove, .long v_leftBelow, .long v_guessAbove, .long v_guessBelow, .int v_sign, .int v_power2, .long v_bits])), (q_w, .inl (cI, 418, .inl v_w))]) (wr := []) (k_runV (rest := []) hat hP hD hS hl.1 (c_X12_cell q q_w q_imageSeed q_bookOf q_bookAt q_bookIs q_rs q_cs q_zs v_known v_kept v_seed v_written v_above v_below v_leftAbove v_leftBelow v_guessAbove v_guessBelow v_sign v_power2 v_bits v_w x1 x2 r12 h13) [0, 1] (by decide) rfl kw952 kw954 kw26 kw79 kw955 kdVX12_cell ⟨rfl, rfl⟩ (by rw [hR]; exact ⟨Nat.le_of_ble_eq_true rfl, Nat.le_of_ble_eq_true rfl⟩) ⟨Nat.zero_le _, Nat.zero_le _⟩ 0 11 rfl rfl rfl rfl (Nat.le_of_ble_eq_true rfl) dX12_at_41) hat hP hD hS [0, 1] rfl [] rfl rfl rfl rfl rfl (by decide) (fun H locs hP hD hS => ?_)
        refine lv_l2i hx hb dX12_at_44 rfl ?_
        refine lv_bipush (v := 100) hx hb dX12_at_45 (by decide) ?_
        refine lv_iadd hx hb dX12_at_47 ?_
        obtain rfl := ki1 hf
        rw [hQ]
        exact k_iret hat hP hS rfl dX12_at_48
      · have hf := kp_e hf c11
        refine lv_iconst (v := 4) hx hb dX12_at_36 (by decide) ?_
        refine lv_goto (tgt := 41) hx hb dX12_at_37 (by decide) ?_
        obtain ⟨r14, h15, hf⟩ := kb1_e hf
        refine k_gl (nW := 2) (ws' := [(q, .inr (11, [.ref q_w, .int v_known, .int v_kept, .int v_seed, .ref q_imageSeed, .ref q_bookOf, .ref q_bookAt, .ref q_bookIs, .int v_written, .ref q_rs, .ref q_cs, .long v_above, .long v_below, .ref q_zs, .long v_leftAbove, .long v_leftBelow, .long v_guessAbove, .long v_guessBelow, .int v_sign, .int v_power2, .long v_bits])), (q_w, .inl (cI, 418, .inl v_w))]) (wr := []) (k_runV (rest := []) hat hP hD hS hl.1 (c_X12_cell q q_w q_imageSeed q_bookOf q_bookAt q_bookIs q_rs q_cs q_zs v_known v_kept v_seed v_written v_above v_below v_leftAbove v_leftBelow v_guessAbove v_guessBelow v_sign v_power2 v_bits v_w x1 (4 : Int32) r14 h15) [0, 1] (by decide) rfl kw952 kw954 kw26 kw79 kw955 kdVX12_cell ⟨rfl, rfl⟩ (by rw [hR]; exact ⟨Nat.le_of_ble_eq_true rfl, Nat.le_of_ble_eq_true rfl⟩) ⟨Nat.zero_le _, Nat.zero_le _⟩ 0 11 rfl rfl rfl rfl (Nat.le_of_ble_eq_true rfl) dX12_at_41) hat hP hD hS [0, 1] rfl [] rfl rfl rfl rfl rfl (by decide) (fun H locs hP hD hS => ?_)
        refine lv_l2i hx hb dX12_at_44 rfl ?_
        refine lv_bipush (v := 100) hx hb dX12_at_45 (by decide) ?_
        refine lv_iadd hx hb dX12_at_47 ?_
        obtain rfl := ki1 hf
        rw [hQ]
        exact k_iret hat hP hS rfl dX12_at_48
    · have hf := kp_e hf c8
      refine lv_ldcw hx hb hown (hts _ kw1082) dX12_at_22 ?_
      obtain rfl := ki1 hf
      rw [hQ]
      exact k_iret hat hP hS rfl dX12_at_25
set_option maxHeartbeats 4000000 in
set_option maxRecDepth 100000 in
theorem c_X12_cleared {l : Launch} {D : va_G} {cI cJ cQ : ClassId} {tp : Nat} (q : Nat) (q_w : Nat) (q_imageSeed : Nat) (q_bookOf : Nat) (q_bookAt : Nat) (q_bookIs : Nat) (q_rs : Nat) (q_cs : Nat) (q_zs : Nat) (v_known : Int32) (v_kept : Int32) (v_seed : Int32) (v_written : Int32) (v_above : Int64) (v_below : Int64) (v_leftAbove : Int64) (v_leftBelow : Int64) (v_guessAbove : Int64) (v_guessBelow : Int64) (v_sign : Int32) (v_power2 : Int32) (v_bits : Int64) (v_w : (Nat → Int32)) (v_rs : (Nat → Int32)) (v_cs : (Nat → Int32)) (F : Nat) (x1 : Int32) (x2 : Int32) (x3 : Int32) (r0 : Int32) (o_v_above : Int64) (o_v_below : Int64) (o_v_rs : (Nat → Int32)) (o_v_cs : (Nat → Int32)) (hf : f_X12_cleared F v_above v_below v_w v_rs v_cs x1 x2 x3 = some (r0, o_v_above, o_v_below, o_v_rs, o_v_cs)) : kM (fun A => kQi D A [(q, .inr (11, [.ref q_w, .int v_known, .int v_kept, .int v_seed, .ref q_imageSeed, .ref q_bookOf, .ref q_bookAt, .ref q_bookIs, .int v_written, .ref q_rs, .ref q_cs, .long o_v_above, .long o_v_below, .ref q_zs, .long v_leftAbove, .long v_leftBelow, .long v_guessAbove, .long v_guessBelow, .int v_sign, .int v_power2, .long v_bits])), (q_w, .inl (cI, 418, .inl v_w)), (q_rs, .inl (cI, 4, .inl o_v_rs)), (q_cs, .inl (cI, 4, .inl o_v_cs))] r0) (some .int) l yX12_cleared cX12_cleared 4 { frames := 9, cells := 0, slots := 0, locals := 214 } D cI cJ cQ tp [.ref q, .int x1, .int x2, .int x3] [(q, .inr (11, [.ref q_w, .int v_known, .int v_kept, .int v_seed, .ref q_imageSeed, .ref q_bookOf, .ref q_bookAt, .ref q_bookIs, .int v_written, .ref q_rs, .ref q_cs, .long v_above, .long v_below, .ref q_zs, .long v_leftAbove, .long v_leftBelow, .long v_guessAbove, .long v_guessBelow, .int v_sign, .int v_power2, .long v_bits])), (q_w, .inl (cI, 418, .inl v_w)), (q_rs, .inl (cI, 4, .inl v_rs)), (q_cs, .inl (cI, 4, .inl v_cs))] := by
  refine kM_of (by decide +kernel) (Nat.le_of_ble_eq_true rfl) ?_
  intro p e s m args below meth c A ls R Q hR hQ hat hP hD hS hl
  obtain ⟨hx, hb, hr, hml, hown, hts, hT, hlk, hK, hA, hZ⟩ := id hat
  have hown : s.vm.findClass RX12 = some m.cls := hown
  have hl : lv_has ls 4 [(0, .ref q), (1, .int x1), (2, .int x2), (3, .int x3)] := hl
  unfold f_X12_cleared at hf
  refine lv_iload_n hx hb dX12_cleared_0 rfl (lv_at hl 1 rfl) ?_
  refine lv_i2l hx hb dX12_cleared_1 rfl ?_
  refine lv_lconst (v := 0) hx hb dX12_cleared_2 (by decide) ?_
  refine lv_aload_n hx hb dX12_cleared_3 rfl (lv_at hl 0 rfl) ?_
  obtain ⟨r1, w2, w3, h4, hf⟩ := kb3_e hf
  refine k_gi (nW := 4) (ws' := [(q, .inr (11, [.ref q_w, .int v_known, .int v_kept, .int v_seed, .ref q_imageSeed, .ref q_bookOf, .ref q_bookAt, .ref q_bookIs, .int v_written, .ref q_rs, .ref q_cs, .long v_above, .long v_below, .ref q_zs, .long v_leftAbove, .long v_leftBelow, .long v_guessAbove, .long v_guessBelow, .int v_sign, .int v_power2, .long v_bits])), (q_w, .inl (cI, 418, .inl v_w)), (q_rs, .inl (cI, 4, .inl w2)), (q_cs, .inl (cI, 4, .inl w3))]) (wr := []) (k_runV (rest := [.long (0 : Int64), .long (x1.toInt64)]) hat hP hD hS hl.1 (c_X12_rank q q_w q_imageSeed q_bookOf q_bookAt q_bookIs q_rs q_cs q_zs v_known v_kept v_seed v_written v_above v_below v_leftAbove v_leftBelow v_guessAbove v_guessBelow v_sign v_power2 v_bits v_w v_rs v_cs F r1 w2 w3 h4) [0, 1, 2, 3] (by decide) rfl kw965 kw967 kw29 kw79 kw968 kdVX12_rank ⟨rfl, rfl⟩ (by rw [hR]; exact ⟨Nat.le_of_ble_eq_true rfl, Nat.le_of_ble_eq_true rfl⟩) ⟨Nat.zero_le _, Nat.zero_le _⟩ 0 11 rfl rfl rfl rfl (Nat.le_of_ble_eq_true rfl) dX12_cleared_4) hat hP hD hS [0, 1, 2, 3] rfl [] rfl rfl rfl rfl rfl (by decide) (fun H locs hP hD hS => ?_)
  refine lv_iconst (v := 1) hx hb dX12_cleared_7 (by decide) ?_
  refine lv_isub hx hb dX12_cleared_8 ?_
  refine lv_i2l hx hb dX12_cleared_9 rfl ?_
  obtain ⟨r5, h6, hf⟩ := kb1_e hf
  refine k_gi (nW := 4) (ws' := [(q, .inr (11, [.ref q_w, .int v_known, .int v_kept, .int v_seed, .ref q_imageSeed, .ref q_bookOf, .ref q_bookAt, .ref q_bookIs, .int v_written, .ref q_rs, .ref q_cs, .long v_above, .long v_below, .ref q_zs, .long v_leftAbove, .long v_leftBelow, .long v_guessAbove, .long v_guessBelow, .int v_sign, .int v_power2, .long v_bits])), (q_w, .inl (cI, 418, .inl v_w)), (q_rs, .inl (cI, 4, .inl w2)), (q_cs, .inl (cI, 4, .inl w3))]) (wr := [(q, .inr (11, [.ref q_w, .int v_known, .int v_kept, .int v_seed, .ref q_imageSeed, .ref q_bookOf, .ref q_bookAt, .ref q_bookIs, .int v_written, .ref q_rs, .ref q_cs, .long v_above, .long v_below, .ref q_zs, .long v_leftAbove, .long v_leftBelow, .long v_guessAbove, .long v_guessBelow, .int v_sign, .int v_power2, .long v_bits])), (q_w, .inl (cI, 418, .inl v_w)), (q_rs, .inl (cI, 4, .inl w2)), (q_cs, .inl (cI, 4, .inl w3))]) (k_runS (rest := []) hat hP hD hS hl.1 (c_X12_in (x1.toInt64) (0 : Int64) ((r1 - (1 : Int32)).toInt64) r5 h6) [] (by decide) rfl kw1058 kw1059 kw79 kw1060 kdX12_in ⟨rfl, rfl⟩ (by rw [hR]; exact ⟨Nat.le_of_ble_eq_true rfl, Nat.le_of_ble_eq_true rfl⟩) ⟨Nat.zero_le _, Nat.zero_le _⟩ rfl rfl (Nat.le_of_ble_eq_true rfl) dX12_cleared_10) hat hP hD hS [] rfl [0, 1, 2, 3] rfl rfl rfl rfl rfl (by decide) (fun H locs hP hD hS => ?_)
  refine lv_if_eq (tgt := 24) hx hb dX12_cleared_13 (by decide) (fun c7 => ?_) (fun c7 => ?_)
  · have hf := kp_e hf c7
    refine lv_ldcw hx hb hown (hts _ kw1082) dX12_cleared_24 ?_
    obtain ⟨rfl, rfl, rfl, rfl, rfl⟩ := ki5 hf
    rw [hQ]
    exact k_iret hat hP hS rfl dX12_cleared_27
  · have hf := kn_e hf c7
    refine lv_aload_n hx hb dX12_cleared_16 rfl (lv_at hl 0 rfl) ?_
    refine lv_iload_n hx hb dX12_cleared_17 rfl (lv_at hl 2 rfl) ?_
    obtain ⟨r8, h9, hf⟩ := kb1_e hf
    refine k_gi (nW := 4) (ws' := [(q, .inr (11, [.ref q_w, .int v_known, .int v_kept, .int v_seed, .ref q_imageSeed, .ref q_bookOf, .ref q_bookAt, .ref q_bookIs, .int v_written, .ref q_rs, .ref q_cs, .long v_above, .long v_below, .ref q_zs, .long v_leftAbove, .long v_leftBelow, .long v_guessAbove, .long v_guessBelow, .int v_sign, .int v_power2, .long v_bits])), (q_w, .inl (cI, 418, .inl v_w)), (q_rs, .inl (cI, 4, .inl w2)), (q_cs, .inl (cI, 4, .inl w3))]) (wr := [(q_rs, .inl (cI, 4, .inl w2)), (q_cs, .inl (cI, 4, .inl w3))]) (k_runV (rest := []) hat hP hD hS hl.1 (c_X12_isRow q q_w q_imageSeed q_bookOf q_bookAt q_bookIs q_rs q_cs q_zs v_known v_kept v_seed v_written v_above v_below v_leftAbove v_leftBelow v_guessAbove v_guessBelow v_sign v_power2 v_bits v_w x2 r8 h9) [0, 1] (by decide) rfl kw1069 kw1071 kw50 kw79 kw1072 kdVX12_isRow ⟨rfl, rfl⟩ (by rw [hR]; exact ⟨Nat.le_of_ble_eq_true rfl, Nat.le_of_ble_eq_true rfl⟩) ⟨Nat.zero_le _, Nat.zero_le _⟩ 0 11 rfl rfl rfl rfl (Nat.le_of_ble_eq_true rfl) dX12_cleared_18) hat hP hD hS [0, 1] rfl [2, 3] rfl rfl rfl rfl rfl (by decide) (fun H locs hP hD hS => ?_)
    refine lv_if_ne (tgt := 28) hx hb dX12_cleared_21 (by decide) (fun c10 => ?_) (fun c10 => ?_)
    · have hf := kn_e hf c10
      refine lv_iload_n hx hb dX12_cleared_28 rfl (lv_at hl 3 rfl) ?_
      refine lv_i2l hx hb dX12_cleared_29 rfl ?_
      refine lv_lconst (v := 0) hx hb dX12_cleared_30 (by decide) ?_
      refine lv_lconst (v := 1) hx hb dX12_cleared_31 (by decide) ?_
      obtain ⟨r11, h12, hf⟩ := kb1_e hf
      refine k_gi (nW := 4) (ws' := [(q, .inr (11, [.ref q_w, .int v_known, .int v_kept, .int v_seed, .ref q_imageSeed, .ref q_bookOf, .ref q_bookAt, .ref q_bookIs, .int v_written, .ref q_rs, .ref q_cs, .long v_above, .long v_below, .ref q_zs, .long v_leftAbove, .long v_leftBelow, .long v_guessAbove, .long v_guessBelow, .int v_sign, .int v_power2, .long v_bits])), (q_w, .inl (cI, 418, .inl v_w)), (q_rs, .inl (cI, 4, .inl w2)), (q_cs, .inl (cI, 4, .inl w3))]) (wr := [(q, .inr (11, [.ref q_w, .int v_known, .int v_kept, .int v_seed, .ref q_imageSeed, .ref q_bookOf, .ref q_bookAt, .ref q_bookIs, .int v_written, .ref q_rs, .ref q_cs, .long v_above, .long v_below, .ref q_zs, .long v_leftAbove, .long v_leftBelow, .long v_guessAbove, .long v_guessBelow, .int v_sign, .int v_power2, .long v_bits])), (q_w, .inl (cI, 418, .inl v_w)), (q_rs, .inl (cI, 4, .inl w2)), (q_cs, .inl (cI, 4, .inl w3))]) (k_runS (rest := []) hat hP hD hS hl.1 (c_X12_in (x3.toInt64) (0 : Int64) (1 : Int64) r11 h12) [] (by decide) rfl kw1058 kw1059 kw79 kw1060 kdX12_in ⟨rfl, rfl⟩ (by rw [hR]; exact ⟨Nat.le_of_ble_eq_true rfl, Nat.le_of_ble_eq_true rfl⟩) ⟨Nat.zero_le _, Nat.zero_le _⟩ rfl rfl (Nat.le_of_ble_eq_true rfl) dX12_cleared_32) hat hP hD hS [] rfl [0, 1, 2, 3] rfl rfl rfl rfl rfl (by decide) (fun H locs hP hD hS => ?_)
      refine lv_if_ne (tgt := 41) hx hb dX12_cleared_35 (by decide) (fun c13 => ?_) (fun c13 => ?_)
      · have hf := kn_e hf c13
        refine lv_aload_n hx hb dX12_cleared_41 rfl (lv_at hl 0 rfl) ?_
        refine lv_iload_n hx hb dX12_cleared_42 rfl (lv_at hl 1 rfl) ?_
        refine lv_iload_n hx hb dX12_cleared_43 rfl (lv_at hl 2 rfl) ?_
        obtain ⟨w14, w15, w16, w17, h18, hf⟩ := kb4_e hf
        refine k_gv (nW := 4) (ws' := [(q, .inr (11, [.ref q_w, .int v_known, .int v_kept, .int v_seed, .ref q_imageSeed, .ref q_bookOf, .ref q_bookAt, .ref q_bookIs, .int v_written, .ref q_rs, .ref q_cs, .long w14, .long w15, .ref q_zs, .long v_leftAbove, .long v_leftBelow, .long v_guessAbove, .long v_guessBelow, .int v_sign, .int v_power2, .long v_bits])), (q_w, .inl (cI, 418, .inl v_w)), (q_rs, .inl (cI, 4, .inl w16)), (q_cs, .inl (cI, 4, .inl w17))]) (wr := []) (k_runV (rest := []) hat hP hD hS hl.1 (c_X12_layShare q q_w q_imageSeed q_bookOf q_bookAt q_bookIs q_rs q_cs q_zs v_known v_kept v_seed v_written v_above v_below v_leftAbove v_leftBelow v_guessAbove v_guessBelow v_sign v_power2 v_bits v_w w2 w3 F x1 x2 w14 w15 w16 w17 h18) [0, 1, 2, 3] (by decide) rfl kw989 kw991 kw35 kw79 kw992 kdVX12_layShare ⟨rfl, rfl⟩ (by rw [hR]; exact ⟨Nat.le_of_ble_eq_true rfl, Nat.le_of_ble_eq_true rfl⟩) ⟨Nat.zero_le _, Nat.zero_le _⟩ 0 11 rfl rfl rfl rfl (Nat.le_of_ble_eq_true rfl) dX12_cleared_44) hat hP hD hS [0, 1, 2, 3] rfl [] rfl rfl rfl rfl rfl (by decide) (fun H locs hP hD hS => ?_)
        refine lv_iload_n hx hb dX12_cleared_47 rfl (lv_at hl 3 rfl) ?_
        refine lv_if_ne (tgt := 62) hx hb dX12_cleared_48 (by decide) (fun c19 => ?_) (fun c19 => ?_)
        · have hf := kn_e hf c19
          refine lv_aload_n hx hb dX12_cleared_62 rfl (lv_at hl 0 rfl) ?_
          refine va_get (D := D) (ci := 11) (v := .long w15) (C := RX12) (T := TX12) (N := 21) hx hb hts kinX12 hown hK hP 0 rfl rfl 12 (by decide) (hts _ kw856) (fun _ h9 => h9) rfl dX12_cleared_63 ?_
          refine lv_l2i hx hb dX12_cleared_66 rfl ?_
          obtain ⟨rfl, rfl, rfl, rfl, rfl⟩ := ki5 hf
          rw [hQ]
          exact k_iret hat hP hS rfl dX12_cleared_67
        · have hf := kp_e hf c19
          refine lv_aload_n hx hb dX12_cleared_51 rfl (lv_at hl 0 rfl) ?_
          refine va_get (D := D) (ci := 11) (v := .long w14) (C := RX12) (T := TX12) (N := 21) hx hb hts kinX12 hown hK hP 0 rfl rfl 11 (by decide) (hts _ kw855) (fun _ h9 => h9) rfl dX12_cleared_52 ?_
          refine lv_l2i hx hb dX12_cleared_55 rfl ?_
          refine lv_ldc hx hb hown (hts _ kw964) dX12_cleared_56 ?_
          refine lv_iadd hx hb dX12_cleared_58 ?_
          refine lv_goto (tgt := 67) hx hb dX12_cleared_59 (by decide) ?_
          obtain ⟨rfl, rfl, rfl, rfl, rfl⟩ := ki5 hf
          rw [hQ]
          exact k_iret hat hP hS rfl dX12_cleared_67
      · have hf := kp_e hf c13
        refine lv_ldc hx hb hown (hts _ kw1077) dX12_cleared_38 ?_
        obtain ⟨rfl, rfl, rfl, rfl, rfl⟩ := ki5 hf
        rw [hQ]
        exact k_iret hat hP hS rfl dX12_cleared_40
    · have hf := kp_e hf c10
      refine lv_ldcw hx hb hown (hts _ kw1082) dX12_cleared_24 ?_
      obtain ⟨rfl, rfl, rfl, rfl, rfl⟩ := ki5 hf
      rw [hQ]
      exact k_iret hat hP hS rfl dX12_cleared_27
set_option maxHeartbeats 4000000 in
set_option maxRecDepth 100000 in
theorem c_X12_solution {l : Launch} {D : va_G} {cI cJ cQ : ClassId} {tp : Nat} (q : Nat) (q_w : Nat) (q_imageSeed : Nat) (q_bookOf : Nat) (q_bookAt : Nat) (q_bookIs : Nat) (q_rs : Nat) (q_cs : Nat) (q_zs : Nat) (v_known : Int32) (v_kept : Int32) (v_seed : Int32) (v_written : Int32) (v_above : Int64) (v_below : Int64) (v_leftAbove : Int64) (v_leftBelow : Int64) (v_guessAbove : Int64) (v_guessBelow : Int64) (v_sign : Int32) (v_power2 : Int32) (v_bits : Int64) (v_w : (Nat → Int32)) (v_rs : (Nat → Int32)) (v_cs : (Nat → Int32)) (F : Nat) (x1 : Int32) (x2 : Int32) (r0 : Int32) (o_v_above : Int64) (o_v_below : Int64) (o_v_rs : (Nat → Int32)) (o_v_cs : (Nat → Int32)) (hf : f_X12_solution F v_above v_below v_w v_rs v_cs x1 x2 = some (r0, o_v_above, o_v_below, o_v_rs, o_v_cs)) : kM (fun A => kQi D A [(q, .inr (11, [.ref q_w, .int v_known, .int v_kept, .int v_seed, .ref q_imageSeed, .ref q_bookOf, .ref q_bookAt, .ref q_bookIs, .int v_written, .ref q_rs, .ref q_cs, .long o_v_above, .long o_v_below, .ref q_zs, .long v_leftAbove, .long v_leftBelow, .long v_guessAbove, .long v_guessBelow, .int v_sign, .int v_power2, .long v_bits])), (q_w, .inl (cI, 418, .inl v_w)), (q_rs, .inl (cI, 4, .inl o_v_rs)), (q_cs, .inl (cI, 4, .inl o_v_cs))] r0) (some .int) l yX12_solution cX12_solution 3 { frames := 10, cells := 0, slots := 0, locals := 236 } D cI cJ cQ tp [.ref q, .int x1, .int x2] [(q, .inr (11, [.ref q_w, .int v_known, .int v_kept, .int v_seed, .ref q_imageSeed, .ref q_bookOf, .ref q_bookAt, .ref q_bookIs, .int v_written, .ref q_rs, .ref q_cs, .long v_above, .long v_below, .ref q_zs, .long v_leftAbove, .long v_leftBelow, .long v_guessAbove, .long v_guessBelow, .int v_sign, .int v_power2, .long v_bits])), (q_w, .inl (cI, 418, .inl v_w)), (q_rs, .inl (cI, 4, .inl v_rs)), (q_cs, .inl (cI, 4, .inl v_cs))] := by
  refine kM_of (by decide +kernel) (Nat.le_of_ble_eq_true rfl) ?_
  intro p e s m args below meth c A ls R Q hR hQ hat hP hD hS hl
  obtain ⟨hx, hb, hr, hml, hown, hts, hT, hlk, hK, hA, hZ⟩ := id hat
  have hown : s.vm.findClass RX12 = some m.cls := hown
  have hl : lv_has ls 3 [(0, .ref q), (1, .int x1), (2, .int x2)] := hl
  unfold f_X12_solution at hf
  refine lv_aload_n hx hb dX12_solution_0 rfl (lv_at hl 0 rfl) ?_
  refine lv_iload_n hx hb dX12_solution_1 rfl (lv_at hl 1 rfl) ?_
  obtain ⟨r1, h2, hf⟩ := kb1_e hf
  refine k_gi (nW := 4) (ws' := [(q, .inr (11, [.ref q_w, .int v_known, .int v_kept, .int v_seed, .ref q_imageSeed, .ref q_bookOf, .ref q_bookAt, .ref q_bookIs, .int v_written, .ref q_rs, .ref q_cs, .long v_above, .long v_below, .ref q_zs, .long v_leftAbove, .long v_leftBelow, .long v_guessAbove, .long v_guessBelow, .int v_sign, .int v_power2, .long v_bits])), (q_w, .inl (cI, 418, .inl v_w)), (q_rs, .inl (cI, 4, .inl v_rs)), (q_cs, .inl (cI, 4, .inl v_cs))]) (wr := [(q_rs, .inl (cI, 4, .inl v_rs)), (q_cs, .inl (cI, 4, .inl v_cs))]) (k_runV (rest := []) hat hP hD hS hl.1 (c_X12_isRow q q_w q_imageSeed q_bookOf q_bookAt q_bookIs q_rs q_cs q_zs v_known v_kept v_seed v_written v_above v_below v_leftAbove v_leftBelow v_guessAbove v_guessBelow v_sign v_power2 v_bits v_w x1 r1 h2) [0, 1] (by decide) rfl kw1069 kw1071 kw50 kw79 kw1072 kdVX12_isRow ⟨rfl, rfl⟩ (by rw [hR]; exact ⟨Nat.le_of_ble_eq_true rfl, Nat.le_of_ble_eq_true rfl⟩) ⟨Nat.zero_le _, Nat.zero_le _⟩ 0 11 rfl rfl rfl rfl (Nat.le_of_ble_eq_true rfl) dX12_solution_2) hat hP hD hS [0, 1] rfl [2, 3] rfl rfl rfl rfl rfl (by decide) (fun H locs hP hD hS => ?_)
  refine lv_if_ne (tgt := 12) hx hb dX12_solution_5 (by decide) (fun c3 => ?_) (fun c3 => ?_)
  · have hf := kn_e hf c3
    refine lv_iload_n hx hb dX12_solution_12 rfl (lv_at hl 2 rfl) ?_
    refine lv_i2l hx hb dX12_solution_13 rfl ?_
    refine lv_lconst (v := 0) hx hb dX12_solution_14 (by decide) ?_
    refine lv_lconst (v := 1) hx hb dX12_solution_15 (by decide) ?_
    obtain ⟨r4, h5, hf⟩ := kb1_e hf
    refine k_gi (nW := 4) (ws' := [(q, .inr (11, [.ref q_w, .int v_known, .int v_kept, .int v_seed, .ref q_imageSeed, .ref q_bookOf, .ref q_bookAt, .ref q_bookIs, .int v_written, .ref q_rs, .ref q_cs, .long v_above, .long v_below, .ref q_zs, .long v_leftAbove, .long v_leftBelow, .long v_guessAbove, .long v_guessBelow, .int v_sign, .int v_power2, .long v_bits])), (q_w, .inl (cI, 418, .inl v_w)), (q_rs, .inl (cI, 4, .inl v_rs)), (q_cs, .inl (cI, 4, .inl v_cs))]) (wr := [(q, .inr (11, [.ref q_w, .int v_known, .int v_kept, .int v_seed, .ref q_imageSeed, .ref q_bookOf, .ref q_bookAt, .ref q_bookIs, .int v_written, .ref q_rs, .ref q_cs, .long v_above, .long v_below, .ref q_zs, .long v_leftAbove, .long v_leftBelow, .long v_guessAbove, .long v_guessBelow, .int v_sign, .int v_power2, .long v_bits])), (q_w, .inl (cI, 418, .inl v_w)), (q_rs, .inl (cI, 4, .inl v_rs)), (q_cs, .inl (cI, 4, .inl v_cs))]) (k_runS (rest := []) hat hP hD hS hl.1 (c_X12_in (x2.toInt64) (0 : Int64) (1 : Int64) r4 h5) [] (by decide) rfl kw1058 kw1059 kw79 kw1060 kdX12_in ⟨rfl, rfl⟩ (by rw [hR]; exact ⟨Nat.le_of_ble_eq_true rfl, Nat.le_of_ble_eq_true rfl⟩) ⟨Nat.zero_le _, Nat.zero_le _⟩ rfl rfl (Nat.le_of_ble_eq_true rfl) dX12_solution_16) hat hP hD hS [] rfl [0, 1, 2, 3] rfl rfl rfl rfl rfl (by decide) (fun H locs hP hD hS => ?_)
    refine lv_if_ne (tgt := 25) hx hb dX12_solution_19 (by decide) (fun c6 => ?_) (fun c6 => ?_)
    · have hf := kn_e hf c6
      refine lv_aload_n hx hb dX12_solution_25 rfl (lv_at hl 0 rfl) ?_
      obtain ⟨r7, w8, w9, h10, hf⟩ := kb3_e hf
      refine k_gi (nW := 4) (ws' := [(q, .inr (11, [.ref q_w, .int v_known, .int v_kept, .int v_seed, .ref q_imageSeed, .ref q_bookOf, .ref q_bookAt, .ref q_bookIs, .int v_written, .ref q_rs, .ref q_cs, .long v_above, .long v_below, .ref q_zs, .long v_leftAbove, .long v_leftBelow, .long v_guessAbove, .long v_guessBelow, .int v_sign, .int v_power2, .long v_bits])), (q_w, .inl (cI, 418, .inl v_w)), (q_rs, .inl (cI, 4, .inl w8)), (q_cs, .inl (cI, 4, .inl w9))]) (wr := []) (k_runV (rest := []) hat hP hD hS hl.1 (c_X12_kind q q_w q_imageSeed q_bookOf q_bookAt q_bookIs q_rs q_cs q_zs v_known v_kept v_seed v_written v_above v_below v_leftAbove v_leftBelow v_guessAbove v_guessBelow v_sign v_power2 v_bits v_w v_rs v_cs F r7 w8 w9 h10) [0, 1, 2, 3] (by decide) rfl kw977 kw979 kw32 kw79 kw980 kdVX12_kind ⟨rfl, rfl⟩ (by rw [hR]; exact ⟨Nat.le_of_ble_eq_true rfl, Nat.le_of_ble_eq_true rfl⟩) ⟨Nat.zero_le _, Nat.zero_le _⟩ 0 11 rfl rfl rfl rfl (Nat.le_of_ble_eq_true rfl) dX12_solution_26) hat hP hD hS [0, 1, 2, 3] rfl [] rfl rfl rfl rfl rfl (by decide) (fun H locs hP hD hS => ?_)
      refine lv_if_ne (tgt := 34) hx hb dX12_solution_29 (by decide) (fun c11 => ?_) (fun c11 => ?_)
      · have hf := kn_e hf c11
        refine lv_aload_n hx hb dX12_solution_34 rfl (lv_at hl 0 rfl) ?_
        refine lv_iload_n hx hb dX12_solution_35 rfl (lv_at hl 1 rfl) ?_
        obtain ⟨w12, w13, w14, w15, h16, hf⟩ := kb4_e hf
        refine k_gv (nW := 4) (ws' := [(q, .inr (11, [.ref q_w, .int v_known, .int v_kept, .int v_seed, .ref q_imageSeed, .ref q_bookOf, .ref q_bookAt, .ref q_bookIs, .int v_written, .ref q_rs, .ref q_cs, .long w12, .long w13, .ref q_zs, .long v_leftAbove, .long v_leftBelow, .long v_guessAbove, .long v_guessBelow, .int v_sign, .int v_power2, .long v_bits])), (q_w, .inl (cI, 418, .inl v_w)), (q_rs, .inl (cI, 4, .inl w14)), (q_cs, .inl (cI, 4, .inl w15))]) (wr := []) (k_runV (rest := []) hat hP hD hS hl.1 (c_X12_laySolution q q_w q_imageSeed q_bookOf q_bookAt q_bookIs q_rs q_cs q_zs v_known v_kept v_seed v_written v_above v_below v_leftAbove v_leftBelow v_guessAbove v_guessBelow v_sign v_power2 v_bits v_w w8 w9 F x1 w12 w13 w14 w15 h16) [0, 1, 2, 3] (by decide) rfl kw1048 kw1050 kw47 kw79 kw1051 kdVX12_laySolution ⟨rfl, rfl⟩ (by rw [hR]; exact ⟨Nat.le_of_ble_eq_true rfl, Nat.le_of_ble_eq_true rfl⟩) ⟨Nat.zero_le _, Nat.zero_le _⟩ 0 11 rfl rfl rfl rfl (Nat.le_of_ble_eq_true rfl) dX12_solution_36) hat hP hD hS [0, 1, 2, 3] rfl [] rfl rfl rfl rfl rfl (by decide) (fun H locs hP hD hS => ?_)
        refine lv_iload_n hx hb dX12_solution_39 rfl (lv_at hl 2 rfl) ?_
        refine lv_if_ne (tgt := 54) hx hb dX12_solution_40 (by decide) (fun c17 => ?_) (fun c17 => ?_)
        · have hf := kn_e hf c17
          refine lv_aload_n hx hb dX12_solution_54 rfl (lv_at hl 0 rfl) ?_
          refine va_get (D := D) (ci := 11) (v := .long w13) (C := RX12) (T := TX12) (N := 21) hx hb hts kinX12 hown hK hP 0 rfl rfl 12 (by decide) (hts _ kw856) (fun _ h9 => h9) rfl dX12_solution_55 ?_
          refine lv_l2i hx hb dX12_solution_58 rfl ?_
          obtain ⟨rfl, rfl, rfl, rfl, rfl⟩ := ki5 hf
          rw [hQ]
          exact k_iret hat hP hS rfl dX12_solution_59
        · have hf := kp_e hf c17
          refine lv_aload_n hx hb dX12_solution_43 rfl (lv_at hl 0 rfl) ?_
          refine va_get (D := D) (ci := 11) (v := .long w12) (C := RX12) (T := TX12) (N := 21) hx hb hts kinX12 hown hK hP 0 rfl rfl 11 (by decide) (hts _ kw855) (fun _ h9 => h9) rfl dX12_solution_44 ?_
          refine lv_l2i hx hb dX12_solution_47 rfl ?_
          refine lv_ldc hx hb hown (hts _ kw964) dX12_solution_48 ?_
          refine lv_iadd hx hb dX12_solution_50 ?_
          refine lv_goto (tgt := 59) hx hb dX12_solution_51 (by decide) ?_
          obtain ⟨rfl, rfl, rfl, rfl, rfl⟩ := ki5 hf
          rw [hQ]
          exact k_iret hat hP hS rfl dX12_solution_59
      · have hf := kp_e hf c11
        refine lv_iconst (v := -1) hx hb dX12_solution_32 (by decide) ?_
        obtain ⟨rfl, rfl, rfl, rfl, rfl⟩ := ki5 hf
        rw [hQ]
        exact k_iret hat hP hS rfl dX12_solution_33
    · have hf := kp_e hf c6
      refine lv_ldc hx hb hown (hts _ kw1077) dX12_solution_22 ?_
      obtain ⟨rfl, rfl, rfl, rfl, rfl⟩ := ki5 hf
      rw [hQ]
      exact k_iret hat hP hS rfl dX12_solution_24
  · have hf := kp_e hf c3
    refine lv_ldcw hx hb hown (hts _ kw1082) dX12_solution_8 ?_
    obtain ⟨rfl, rfl, rfl, rfl, rfl⟩ := ki5 hf
    rw [hQ]
    exact k_iret hat hP hS rfl dX12_solution_11
