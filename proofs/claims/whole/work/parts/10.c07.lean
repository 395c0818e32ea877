set_option maxHeartbeats 4000000 in
set_option maxRecDepth 100000 in
theorem c_X12_layNear {l : Launch} {D : va_G} {cI cJ cQ : ClassId} {tp : Nat} (q : Nat) (q_w : Nat) (q_imageSeed : Nat) (q_bookOf : Nat) (q_bookAt : Nat) (q_bookIs : Nat) (q_rs : Nat) (q_cs : Nat) (q_zs : Nat) (v_known : Int32) (v_kept : Int32) (v_seed : Int32) (v_written : Int32) (v_above : Int64) (v_below : Int64) (v_leftAbove : Int64) (v_leftBelow : Int64) (v_guessAbove : Int64) (v_guessBelow : Int64) (v_sign : Int32) (v_power2 : Int32) (v_bits : Int64) (F : Nat) (o_v_sign : Int32) (o_v_power2 : Int32) (o_v_bits : Int64) (hf : f_X12_layNear F v_above v_below v_sign v_power2 v_bits = some (o_v_sign, o_v_power2, o_v_bits)) : kM (fun A => kQv D A [(q, .inr (11, [.ref q_w, .int v_known, .int v_kept, .int v_seed, .ref q_imageSeed, .ref q_bookOf, .ref q_bookAt, .ref q_bookIs, .int v_written, .ref q_rs, .ref q_cs, .long v_above, .long v_below, .ref q_zs, .long v_leftAbove, .long v_leftBelow, .long v_guessAbove, .long v_guessBelow, .int o_v_sign, .int o_v_power2, .long o_v_bits]))]) none l yX12_layNear cX12_layNear 7 { frames := 1, cells := 0, slots := 0, locals := 21 } D cI cJ cQ tp [.ref q] [(q, .inr (11, [.ref q_w, .int v_known, .int v_kept, .int v_seed, .ref q_imageSeed, .ref q_bookOf, .ref q_bookAt, .ref q_bookIs, .int v_written, .ref q_rs, .ref q_cs, .long v_above, .long v_below, .ref q_zs, .long v_leftAbove, .long v_leftBelow, .long v_guessAbove, .long v_guessBelow, .int v_sign, .int v_power2, .long v_bits]))] := by
  refine kM_of (by decide +kernel) (Nat.le_of_ble_eq_true rfl) ?_
  intro p e s m args below meth c A ls R Q hR hQ hat hP hD hS hl
  obtain ⟨hx, hb, hr, hml, hown, hts, hT, hlk, hK, hA, hZ⟩ := id hat
  have hown : s.vm.findClass RX12 = some m.cls := hown
  have hl : lv_has ls 7 [(0, .ref q)] := hl
  have hL62 : ∀ (x1 : Int64) (v_known : Int32) (v_kept : Int32) (v_seed : Int32) (v_written : Int32) (v_above : Int64) (v_below : Int64) (v_leftAbove : Int64) (v_leftBelow : Int64) (v_guessAbove : Int64) (v_guessBelow : Int64) (v_sign : Int32) (v_bits : Int64) (fu : Nat) (x3 : Int64) (v_power2 : Int32) (o0 : Int64) (o1 : Int32), L_X12_layNear_62 x1 fu x3 v_power2 = some (o0, o1) → (∀ (H : Heap) (locs : List Loc) (ls : Array Slot), va_P D vwCl [(q, .inr (11, [.ref q_w, .int v_known, .int v_kept, .int v_seed, .ref q_imageSeed, .ref q_bookOf, .ref q_bookAt, .ref q_bookIs, .int v_written, .ref q_rs, .ref q_cs, .long v_above, .long v_below, .ref q_zs, .long v_leftAbove, .long v_leftBelow, .long v_guessAbove, .long v_guessBelow, .int v_sign, .int o1, .long v_bits]))] H → va_D A [(q, .inr (11, [.ref q_w, .int v_known, .int v_kept, .int v_seed, .ref q_imageSeed, .ref q_bookOf, .ref q_bookAt, .ref q_bookIs, .int v_written, .ref q_rs, .ref q_cs, .long v_above, .long v_below, .ref q_zs, .long v_leftAbove, .long v_leftBelow, .long v_guessAbove, .long v_guessBelow, .int v_sign, .int o1, .long v_bits]))] → va_S A s.heap H locs → lv_has ls 7 [(0, .ref q), (1, .long x1), (3, .long o0)] → W p l e R s m args below meth c H locs 0 0 Q (F0 m 91 ls [])) → ∀ (H : Heap) (locs : List Loc) (ls : Array Slot), va_P D vwCl [(q, .inr (11, [.ref q_w, .int v_known, .int v_kept, .int v_seed, .ref q_imageSeed, .ref q_bookOf, .ref q_bookAt, .ref q_bookIs, .int v_written, .ref q_rs, .ref q_cs, .long v_above, .long v_below, .ref q_zs, .long v_leftAbove, .long v_leftBelow, .long v_guessAbove, .long v_guessBelow, .int v_sign, .int v_power2, .long v_bits]))] H → va_D A [(q, .inr (11, [.ref q_w, .int v_known, .int v_kept, .int v_seed, .ref q_imageSeed, .ref q_bookOf, .ref q_bookAt, .ref q_bookIs, .int v_written, .ref q_rs, .ref q_cs, .long v_above, .long v_below, .ref q_zs, .long v_leftAbove, .long v_leftBelow, .long v_guessAbove, .long v_guessBelow, .int v_sign, .int v_power2, .long v_bits]))] → va_S A s.heap H locs → lv_has ls 7 [(0, .ref q), (1, .long x1), (3, .long x3)] → W p l e R s m args below meth c H locs 0 0 Q (F0 m 62 ls []) := by
    intro x1 v_known v_kept v_seed v_written v_above v_below v_leftAbove v_leftBelow v_guessAbove v_guessBelow v_sign v_bits fu
    induction fu with
    | zero =>
      intro x3 v_power2 o0 o1 hf
      cases hf
    | succ fu ih =>
      intro x3 v_power2 o0 o1 hf hk0 H locs ls hP hD hS hl
      rw [L_X12_layNear_62] at hf
      refine lv_lload_n hx hb dX12_layNear_62 rfl (lv_at hl 1 rfl) ?_
      refine lv_ldc2 hx hb hown (hts _ kw1024) dX12_layNear_63 ?_
      refine lv_lload_n hx hb dX12_layNear_66 rfl (lv_at hl 2 rfl) ?_
      refine lv_lmul hx hb dX12_layNear_67 ?_
      refine k_lcmp_lt (tgt := 91) hx hb dX12_layNear_68 dX12_layNear_69 (by decide) (fun c6 => ?_) (fun c6 => ?_)
      · have hf := kp_e hf c6
        obtain ⟨rfl, rfl⟩ := ki2 hf
        exact hk0 _ _ _ hP hD hS hl
      · have hf := kn_e hf c6
        refine lv_lload_n hx hb dX12_layNear_72 rfl (lv_at hl 2 rfl) ?_
        refine lv_ldc2 hx hb hown (hts _ kw1024) dX12_layNear_73 ?_
        refine lv_lmul hx hb dX12_layNear_76 ?_
        refine lv_topl (fun t7 et7 => ?_)
        have hf := kl_e hf t7 et7
        refine lv_lstore_n (lv' := [(3, .long t7), (0, .ref q), (1, .long x1)]) hx hb dX12_layNear_77 rfl hl (by decide) rfl (fun ls hl => ?_)
        refine lv_aload_n hx hb dX12_layNear_78 rfl (lv_at hl 1 rfl) ?_
        refine lv_dup hx hb dX12_layNear_79 rfl ?_
        refine va_get (D := D) (ci := 11) (v := .int v_power2) (C := RX12) (T := TX12) (N := 21) hx hb hts kinX12 hown hK hP 0 rfl rfl 19 (by decide) (hts _ kw863) (fun _ h9 => h9) rfl dX12_layNear_80 ?_
        refine lv_iconst (v := 1) hx hb dX12_layNear_83 (by decide) ?_
        refine lv_iadd hx hb dX12_layNear_84 ?_
        refine lv_topi (fun t8 et8 => ?_)
        have hf := kl_e hf t8 et8
        refine va_put (D := D) (ci := 11) (v := .int t8) (ty := .int) (C := RX12) (T := TX12) (N := 21) hx hb hts kinX12 tyX12 tyX12_ok nmX12 hown hK hP hD hS 0 rfl rfl 19 (by decide) (hts _ kw863) (fun _ h9 => h9) rfl (by decide +kernel) rfl rfl (Nat.le_of_ble_eq_true rfl) dX12_layNear_85 (fun H locs hP hD hS => ?_)
        have hP : va_P D vwCl [(q, .inr (11, [.ref q_w, .int v_known, .int v_kept, .int v_seed, .ref q_imageSeed, .ref q_bookOf, .ref q_bookAt, .ref q_bookIs, .int v_written, .ref q_rs, .ref q_cs, .long v_above, .long v_below, .ref q_zs, .long v_leftAbove, .long v_leftBelow, .long v_guessAbove, .long v_guessBelow, .int v_sign, .int t8, .long v_bits]))] H := hP
        have hD : va_D A [(q, .inr (11, [.ref q_w, .int v_known, .int v_kept, .int v_seed, .ref q_imageSeed, .ref q_bookOf, .ref q_bookAt, .ref q_bookIs, .int v_written, .ref q_rs, .ref q_cs, .long v_above, .long v_below, .ref q_zs, .long v_leftAbove, .long v_leftBelow, .long v_guessAbove, .long v_guessBelow, .int v_sign, .int t8, .long v_bits]))] := hD
        refine lv_goto (tgt := 62) hx hb dX12_layNear_88 (by decide) ?_
        exact ih t7 t8 o0 o1 hf hk0 _ _ _ hP hD hS (lv_sub hl [1, 2, 0] rfl)
  have hL91 : ∀ (x3 : Int64) (v_known : Int32) (v_kept : Int32) (v_seed : Int32) (v_written : Int32) (v_above : Int64) (v_below : Int64) (v_leftAbove : Int64) (v_leftBelow : Int64) (v_guessAbove : Int64) (v_guessBelow : Int64) (v_sign : Int32) (v_bits : Int64) (fu : Nat) (x1 : Int64) (v_power2 : Int32) (o0 : Int64) (o1 : Int32), L_X12_layNear_91 x3 fu x1 v_power2 = some (o0, o1) → (∀ (H : Heap) (locs : List Loc) (ls : Array Slot), va_P D vwCl [(q, .inr (11, [.ref q_w, .int v_known, .int v_kept, .int v_seed, .ref q_imageSeed, .ref q_bookOf, .ref q_bookAt, .ref q_bookIs, .int v_written, .ref q_rs, .ref q_cs, .long v_above, .long v_below, .ref q_zs, .long v_leftAbove, .long v_leftBelow, .long v_guessAbove, .long v_guessBelow, .int v_sign, .int o1, .long v_bits]))] H → va_D A [(q, .inr (11, [.ref q_w, .int v_known, .int v_kept, .int v_seed, .ref q_imageSeed, .ref q_bookOf, .ref q_bookAt, .ref q_bookIs, .int v_written, .ref q_rs, .ref q_cs, .long v_above, .long v_below, .ref q_zs, .long v_leftAbove, .long v_leftBelow, .long v_guessAbove, .long v_guessBelow, .int v_sign, .int o1, .long v_bits]))] → va_S A s.heap H locs → lv_has ls 7 [(0, .ref q), (1, .long o0), (3, .long x3)] → W p l e R s m args below meth c H locs 0 0 Q (F0 m 116 ls [])) → ∀ (H : Heap) (locs : List Loc) (ls : Array Slot), va_P D vwCl [(q, .inr (11, [.ref q_w, .int v_known, .int v_kept, .int v_seed, .ref q_imageSeed, .ref q_bookOf, .ref q_bookAt, .ref q_bookIs, .int v_written, .ref q_rs, .ref q_cs, .long v_above, .long v_below, .ref q_zs, .long v_leftAbove, .long v_leftBelow, .long v_guessAbove, .long v_guessBelow, .int v_sign, .int v_power2, .long v_bits]))] H → va_D A [(q, .inr (11, [.ref q_w, .int v_known, .int v_kept, .int v_seed, .ref q_imageSeed, .ref q_bookOf, .ref q_bookAt, .ref q_bookIs, .int v_written, .ref q_rs, .ref q_cs, .long v_above, .long v_below, .ref q_zs, .long v_leftAbove, .long v_leftBelow, .long v_guessAbove, .long v_guessBelow, .int v_sign, .int v_power2, .long v_bits]))] → va_S A s.heap H locs → lv_has ls 7 [(0, .ref q), (1, .long x1), (3, .long x3)] → W p l e R s m args below meth c H locs 0 0 Q (F0 m 91 ls []) := by
    intro x3 v_known v_kept v_seed v_written v_above v_below v_leftAbove v_leftBelow v_guessAbove v_guessBelow v_sign v_bits fu
    induction fu with
    | zero =>
      intro x1 v_power2 o0 o1 hf
      cases hf
    | succ fu ih =>
      intro x1 v_power2 o0 o1 hf hk0 H locs ls hP hD hS hl
      rw [L_X12_layNear_91] at hf
      refine lv_lload_n hx hb dX12_layNear_91 rfl (lv_at hl 1 rfl) ?_
      refine lv_lload_n hx hb dX12_layNear_92 rfl (lv_at hl 2 rfl) ?_
      refine k_lcmp_ge (tgt := 116) hx hb dX12_layNear_93 dX12_layNear_94 (by decide) (fun c11 => ?_) (fun c11 => ?_)
      · have hf := kp_e hf c11
        obtain ⟨rfl, rfl⟩ := ki2 hf
        exact hk0 _ _ _ hP hD hS hl
      · have hf := kn_e hf c11
        refine lv_lload_n hx hb dX12_layNear_97 rfl (lv_at hl 1 rfl) ?_
        refine lv_ldc2 hx hb hown (hts _ kw1024) dX12_layNear_98 ?_
        refine lv_lmul hx hb dX12_layNear_101 ?_
        refine lv_topl (fun t12 et12 => ?_)
        have hf := kl_e hf t12 et12
        refine lv_lstore_n (lv' := [(1, .long t12), (0, .ref q), (3, .long x3)]) hx hb dX12_layNear_102 rfl hl (by decide) rfl (fun ls hl => ?_)
        refine lv_aload_n hx hb dX12_layNear_103 rfl (lv_at hl 1 rfl) ?_
        refine lv_dup hx hb dX12_layNear_104 rfl ?_
        refine va_get (D := D) (ci := 11) (v := .int v_power2) (C := RX12) (T := TX12) (N := 21) hx hb hts kinX12 hown hK hP 0 rfl rfl 19 (by decide) (hts _ kw863) (fun _ h9 => h9) rfl dX12_layNear_105 ?_
        refine lv_iconst (v := 1) hx hb dX12_layNear_108 (by decide) ?_
        refine lv_isub hx hb dX12_layNear_109 ?_
        refine lv_topi (fun t13 et13 => ?_)
        have hf := kl_e hf t13 et13
        refine va_put (D := D) (ci := 11) (v := .int t13) (ty := .int) (C := RX12) (T := TX12) (N := 21) hx hb hts kinX12 tyX12 tyX12_ok nmX12 hown hK hP hD hS 0 rfl rfl 19 (by decide) (hts _ kw863) (fun _ h9 => h9) rfl (by decide +kernel) rfl rfl (Nat.le_of_ble_eq_true rfl) dX12_layNear_110 (fun H locs hP hD hS => ?_)
        have hP : va_P D vwCl [(q, .inr (11, [.ref q_w, .int v_known, .int v_kept, .int v_seed, .ref q_imageSeed, .ref q_bookOf, .ref q_bookAt, .ref q_bookIs, .int v_written, .ref q_rs, .ref q_cs, .long v_above, .long v_below, .ref q_zs, .long v_leftAbove, .long v_leftBelow, .long v_guessAbove, .long v_guessBelow, .int v_sign, .int t13, .long v_bits]))] H := hP
        have hD : va_D A [(q, .inr (11, [.ref q_w, .int v_known, .int v_kept, .int v_seed, .ref q_imageSeed, .ref q_bookOf, .ref q_bookAt, .ref q_bookIs, .int v_written, .ref q_rs, .ref q_cs, .long v_above, .long v_below, .ref q_zs, .long v_leftAbove, .long v_leftBelow, .long v_guessAbove, .long v_guessBelow, .int v_sign, .int t13, .long v_bits]))] := hD
        refine lv_goto (tgt := 91) hx hb dX12_layNear_113 (by decide) ?_
        exact ih t12 t13 o0 o1 hf hk0 _ _ _ hP hD hS (lv_sub hl [1, 0, 2] rfl)
  have hL119 : ∀ (x3 : Int64) (v_known : Int32) (v_kept : Int32) (v_seed : Int32) (v_written : Int32) (v_above : Int64) (v_below : Int64) (v_leftAbove : Int64) (v_leftBelow : Int64) (v_guessAbove : Int64) (v_guessBelow : Int64) (v_sign : Int32) (v_power2 : Int32) (fu : Nat) (x1 : Int64) (x5 : Int32) (v_bits : Int64) (o0 : Int64) (o1 : Int64), L_X12_layNear_119 x3 fu x1 x5 v_bits = some (o0, o1) → (∀ (H : Heap) (locs : List Loc) (ls : Array Slot), va_P D vwCl [(q, .inr (11, [.ref q_w, .int v_known, .int v_kept, .int v_seed, .ref q_imageSeed, .ref q_bookOf, .ref q_bookAt, .ref q_bookIs, .int v_written, .ref q_rs, .ref q_cs, .long v_above, .long v_below, .ref q_zs, .long v_leftAbove, .long v_leftBelow, .long v_guessAbove, .long v_guessBelow, .int v_sign, .int v_power2, .long o1]))] H → va_D A [(q, .inr (11, [.ref q_w, .int v_known, .int v_kept, .int v_seed, .ref q_imageSeed, .ref q_bookOf, .ref q_bookAt, .ref q_bookIs, .int v_written, .ref q_rs, .ref q_cs, .long v_above, .long v_below, .ref q_zs, .long v_leftAbove, .long v_leftBelow, .long v_guessAbove, .long v_guessBelow, .int v_sign, .int v_power2, .long o1]))] → va_S A s.heap H locs → lv_has ls 7 [(0, .ref q), (1, .long o0), (3, .long x3)] → W p l e R s m args below meth c H locs 0 0 Q (F0 m 185 ls [])) → ∀ (H : Heap) (locs : List Loc) (ls : Array Slot), va_P D vwCl [(q, .inr (11, [.ref q_w, .int v_known, .int v_kept, .int v_seed, .ref q_imageSeed, .ref q_bookOf, .ref q_bookAt, .ref q_bookIs, .int v_written, .ref q_rs, .ref q_cs, .long v_above, .long v_below, .ref q_zs, .long v_leftAbove, .long v_leftBelow, .long v_guessAbove, .long v_guessBelow, .int v_sign, .int v_power2, .long v_bits]))] H → va_D A [(q, .inr (11, [.ref q_w, .int v_known, .int v_kept, .int v_seed, .ref q_imageSeed, .ref q_bookOf, .ref q_bookAt, .ref q_bookIs, .int v_written, .ref q_rs, .ref q_cs, .long v_above, .long v_below, .ref q_zs, .long v_leftAbove, .long v_leftBelow, .long v_guessAbove, .long v_guessBelow, .int v_sign, .int v_power2, .long v_bits]))] → va_S A s.heap H locs → lv_has ls 7 [(0, .ref q), (1, .long x1), (3, .long x3), (5, .int x5)] → W p l e R s m args below meth c H locs 0 0 Q (F0 m 119 ls []) := by
    intro x3 v_known v_kept v_seed v_written v_above v_below v_leftAbove v_leftBelow v_guessAbove v_guessBelow v_sign v_power2 fu
    induction fu with
    | zero =>
      intro x1 x5 v_bits o0 o1 hf
      cases hf
    | succ fu ih =>
      intro x1 x5 v_bits o0 o1 hf hk0 H locs ls hP hD hS hl
      rw [L_X12_layNear_119] at hf
      refine lv_iload hx hb dX12_layNear_119 (lv_at hl 3 rfl) ?_
      refine lv_bipush (v := 53) hx hb dX12_layNear_121 (by decide) ?_
      refine lv_icmp_ge (tgt := 185) hx hb dX12_layNear_123 (by decide) (fun c16 => ?_) (fun c16 => ?_)
      · have hf := kp_e hf c16
        obtain ⟨rfl, rfl⟩ := ki2 hf
        exact hk0 _ _ _ hP hD hS (lv_sub hl [0, 1, 2] rfl)
      · have hf := kn_e hf c16
        refine lv_lload_n hx hb dX12_layNear_126 rfl (lv_at hl 1 rfl) ?_
        refine lv_lload_n hx hb dX12_layNear_127 rfl (lv_at hl 2 rfl) ?_
        obtain ⟨J18, hJ18_, hf⟩ := kj1_e hf
        have hJ18 : ∀ (t17 : Int32), J18 t17 = some (o0, o1) → ∀ (H : Heap) (locs : List Loc) (ls : Array Slot), va_P D vwCl [(q, .inr (11, [.ref q_w, .int v_known, .int v_kept, .int v_seed, .ref q_imageSeed, .ref q_bookOf, .ref q_bookAt, .ref q_bookIs, .int v_written, .ref q_rs, .ref q_cs, .long v_above, .long v_below, .ref q_zs, .long v_leftAbove, .long v_leftBelow, .long v_guessAbove, .long v_guessBelow, .int v_sign, .int v_power2, .long v_bits]))] H → va_D A [(q, .inr (11, [.ref q_w, .int v_known, .int v_kept, .int v_seed, .ref q_imageSeed, .ref q_bookOf, .ref q_bookAt, .ref q_bookIs, .int v_written, .ref q_rs, .ref q_cs, .long v_above, .long v_below, .ref q_zs, .long v_leftAbove, .long v_leftBelow, .long v_guessAbove, .long v_guessBelow, .int v_sign, .int v_power2, .long v_bits]))] → va_S A s.heap H locs → lv_has ls 7 [(0, .ref q), (1, .long x1), (3, .long x3), (5, .int x5)] → W p l e R s m args below meth c H locs 0 0 Q (F0 m 137 ls [.int t17]) := by
          intro t17 hf H locs ls hP hD hS hl
          rw [hJ18_] at hf
          refine lv_istore (lv' := [(6, .int t17), (0, .ref q), (1, .long x1), (3, .long x3), (5, .int x5)]) hx hb dX12_layNear_137 hl (by decide) rfl (fun ls hl => ?_)
          refine lv_aload_n hx hb dX12_layNear_139 rfl (lv_at hl 1 rfl) ?_
          refine lv_ldc2 hx hb hown (hts _ kw1024) dX12_layNear_140 ?_
          refine lv_aload_n hx hb dX12_layNear_143 rfl (lv_at hl 1 rfl) ?_
          refine va_get (D := D) (ci := 11) (v := .long v_bits) (C := RX12) (T := TX12) (N := 21) hx hb hts kinX12 hown hK hP 0 rfl rfl 20 (by decide) (hts _ kw864) (fun _ h9 => h9) rfl dX12_layNear_144 ?_
          refine lv_lmul hx hb dX12_layNear_147 ?_
          refine lv_iload hx hb dX12_layNear_148 (lv_at hl 0 rfl) ?_
          obtain ⟨J20, hJ20_, hf⟩ := kj1_e hf
          have hJ20 : ∀ (t19 : Int64), J20 t19 = some (o0, o1) → ∀ (H : Heap) (locs : List Loc) (ls : Array Slot), va_P D vwCl [(q, .inr (11, [.ref q_w, .int v_known, .int v_kept, .int v_seed, .ref q_imageSeed, .ref q_bookOf, .ref q_bookAt, .ref q_bookIs, .int v_written, .ref q_rs, .ref q_cs, .long v_above, .long v_below, .ref q_zs, .long v_leftAbove, .long v_leftBelow, .long v_guessAbove, .long v_guessBelow, .int v_sign, .int v_power2, .long v_bits]))] H → va_D A [(q, .inr (11, [.ref q_w, .int v_known, .int v_kept, .int v_seed, .ref q_imageSeed, .ref q_bookOf, .ref q_bookAt, .ref q_bookIs, .int v_written, .ref q_rs, .ref q_cs, .long v_above, .long v_below, .ref q_zs, .long v_leftAbove, .long v_leftBelow, .long v_guessAbove, .long v_guessBelow, .int v_sign, .int v_power2, .long v_bits]))] → va_S A s.heap H locs → lv_has ls 7 [(0, .ref q), (1, .long x1), (3, .long x3), (5, .int x5), (6, .int t17)] → W p l e R s m args below meth c H locs 0 0 Q (F0 m 158 ls [.long t19, .long ((2 : Int64) * v_bits), .ref q]) := by
            intro t19 hf H locs ls hP hD hS hl
            rw [hJ20_] at hf
            refine lv_ladd hx hb dX12_layNear_158 ?_
            refine lv_topl (fun t21 et21 => ?_)
            have hf := kl_e hf t21 et21
            refine va_put (D := D) (ci := 11) (v := .long t21) (ty := .long) (C := RX12) (T := TX12) (N := 21) hx hb hts kinX12 tyX12 tyX12_ok nmX12 hown hK hP hD hS 0 rfl rfl 20 (by decide) (hts _ kw864) (fun _ h9 => h9) rfl (by decide +kernel) rfl rfl (Nat.le_of_ble_eq_true rfl) dX12_layNear_159 (fun H locs hP hD hS => ?_)
            have hP : va_P D vwCl [(q, .inr (11, [.ref q_w, .int v_known, .int v_kept, .int v_seed, .ref q_imageSeed, .ref q_bookOf, .ref q_bookAt, .ref q_bookIs, .int v_written, .ref q_rs, .ref q_cs, .long v_above, .long v_below, .ref q_zs, .long v_leftAbove, .long v_leftBelow, .long v_guessAbove, .long v_guessBelow, .int v_sign, .int v_power2, .long t21]))] H := hP
            have hD : va_D A [(q, .inr (11, [.ref q_w, .int v_known, .int v_kept, .int v_seed, .ref q_imageSeed, .ref q_bookOf, .ref q_bookAt, .ref q_bookIs, .int v_written, .ref q_rs, .ref q_cs, .long v_above, .long v_below, .ref q_zs, .long v_leftAbove, .long v_leftBelow, .long v_guessAbove, .long v_guessBelow, .int v_sign, .int v_power2, .long t21]))] := hD
            refine lv_ldc2 hx hb hown (hts _ kw1024) dX12_layNear_162 ?_
            refine lv_iload hx hb dX12_layNear_165 (lv_at hl 4 rfl) ?_
            refine lv_if_eq (tgt := 176) hx hb dX12_layNear_167 (by decide) (fun c22 => ?_) (fun c22 => ?_)
            · have hf := kp_e hf c22
              refine lv_lload_n hx hb dX12_layNear_176 rfl (lv_at hl 1 rfl) ?_
              refine lv_lmul hx hb dX12_layNear_177 ?_
              refine lv_topl (fun t23 et23 => ?_)
              have hf := kl_e hf t23 et23
              refine lv_lstore_n (lv' := [(1, .long t23), (0, .ref q), (3, .long x3), (5, .int x5), (6, .int t17)]) hx hb dX12_layNear_178 rfl hl (by decide) rfl (fun ls hl => ?_)
              obtain ⟨t24, et24⟩ : ∃ z : Int32, z = (x5 + (1 : Int32)) := ⟨_, rfl⟩
              have hf := kl_e hf t24 et24
              refine lv_iinc (v := t24) (lv' := [(5, .int t24), (1, .long t23), (0, .ref q), (3, .long x3), (6, .int t17)]) hx hb dX12_layNear_179 hl (k := 3) rfl (by rw [et24]; rfl) (by decide) rfl (fun ls hl => ?_)
              refine lv_goto (tgt := 119) hx hb dX12_layNear_182 (by decide) ?_
              exact ih t23 t24 t21 o0 o1 hf hk0 _ _ _ hP hD hS (lv_sub hl [2, 1, 3, 0] rfl)
            · have hf := kn_e hf c22
              refine lv_lload_n hx hb dX12_layNear_170 rfl (lv_at hl 1 rfl) ?_
              refine lv_lload_n hx hb dX12_layNear_171 rfl (lv_at hl 2 rfl) ?_
              refine lv_lsub hx hb dX12_layNear_172 ?_
              refine lv_goto (tgt := 177) hx hb dX12_layNear_173 (by decide) ?_
              refine lv_lmul hx hb dX12_layNear_177 ?_
              refine lv_topl (fun t25 et25 => ?_)
              have hf := kl_e hf t25 et25
              refine lv_lstore_n (lv' := [(1, .long t25), (0, .ref q), (3, .long x3), (5, .int x5), (6, .int t17)]) hx hb dX12_layNear_178 rfl hl (by decide) rfl (fun ls hl => ?_)
              obtain ⟨t26, et26⟩ : ∃ z : Int32, z = (x5 + (1 : Int32)) := ⟨_, rfl⟩
              have hf := kl_e hf t26 et26
              refine lv_iinc (v := t26) (lv' := [(5, .int t26), (1, .long t25), (0, .ref q), (3, .long x3), (6, .int t17)]) hx hb dX12_layNear_179 hl (k := 3) rfl (by rw [et26]; rfl) (by decide) rfl (fun ls hl => ?_)
              refine lv_goto (tgt := 119) hx hb dX12_layNear_182 (by decide) ?_
              exact ih t25 t26 t21 o0 o1 hf hk0 _ _ _ hP hD hS (lv_sub hl [2, 1, 3, 0] rfl)
          refine lv_if_eq (tgt := 157) hx hb dX12_layNear_150 (by decide) (fun c27 => ?_) (fun c27 => ?_)
          · have hf := kp_e hf c27
            refine lv_lconst (v := 0) hx hb dX12_layNear_157 (by decide) ?_
            exact hJ20 (0 : Int64) hf _ _ _ hP hD hS (lv_sub hl [1, 2, 3, 4, 0] rfl)
          · have hf := kn_e hf c27
            refine lv_lconst (v := 1) hx hb dX12_layNear_153 (by decide) ?_
            refine lv_goto (tgt := 158) hx hb dX12_layNear_154 (by decide) ?_
            exact hJ20 (1 : Int64) hf _ _ _ hP hD hS (lv_sub hl [1, 2, 3, 4, 0] rfl)
        refine k_lcmp_lt (tgt := 136) hx hb dX12_layNear_128 dX12_layNear_129 (by decide) (fun c28 => ?_) (fun c28 => ?_)
        · have hf := kp_e hf c28
          refine lv_iconst (v := 0) hx hb dX12_layNear_136 (by decide) ?_
          exact hJ18 (0 : Int32) hf _ _ _ hP hD hS hl
        · have hf := kn_e hf c28
          refine lv_iconst (v := 1) hx hb dX12_layNear_132 (by decide) ?_
          refine lv_goto (tgt := 137) hx hb dX12_layNear_133 (by decide) ?_
          exact hJ18 (1 : Int32) hf _ _ _ hP hD hS hl
  unfold f_X12_layNear at hf
  refine lv_aload_n hx hb dX12_layNear_0 rfl (lv_at hl 0 rfl) ?_
  refine lv_aload_n hx hb dX12_layNear_1 rfl (lv_at hl 0 rfl) ?_
  refine va_get (D := D) (ci := 11) (v := .long v_above) (C := RX12) (T := TX12) (N := 21) hx hb hts kinX12 hown hK hP 0 rfl rfl 11 (by decide) (hts _ kw855) (fun _ h9 => h9) rfl dX12_layNear_2 ?_
  refine lv_lconst (v := 0) hx hb dX12_layNear_5 (by decide) ?_
  obtain ⟨J2, hJ2_, hf⟩ := kj1_e hf
  have hJ2 : ∀ (t1 : Int32), J2 t1 = some (o_v_sign, o_v_power2, o_v_bits) → ∀ (H : Heap) (locs : List Loc) (ls : Array Slot), va_P D vwCl [(q, .inr (11, [.ref q_w, .int v_known, .int v_kept, .int v_seed, .ref q_imageSeed, .ref q_bookOf, .ref q_bookAt, .ref q_bookIs, .int v_written, .ref q_rs, .ref q_cs, .long v_above, .long v_below, .ref q_zs, .long v_leftAbove, .long v_leftBelow, .long v_guessAbove, .long v_guessBelow, .int v_sign, .int v_power2, .long v_bits]))] H → va_D A [(q, .inr (11, [.ref q_w, .int v_known, .int v_kept, .int v_seed, .ref q_imageSeed, .ref q_bookOf, .ref q_bookAt, .ref q_bookIs, .int v_written, .ref q_rs, .ref q_cs, .long v_above, .long v_below, .ref q_zs, .long v_leftAbove, .long v_leftBelow, .long v_guessAbove, .long v_guessBelow, .int v_sign, .int v_power2, .long v_bits]))] → va_S A s.heap H locs → lv_has ls 7 [(0, .ref q)] → W p l e R s m args below meth c H locs 0 0 Q (F0 m 15 ls [.int t1, .ref q]) := by
    intro t1 hf H locs ls hP hD hS hl
    rw [hJ2_] at hf
    refine va_put (D := D) (ci := 11) (v := .int t1) (ty := .int) (C := RX12) (T := TX12) (N := 21) hx hb hts kinX12 tyX12 tyX12_ok nmX12 hown hK hP hD hS 0 rfl rfl 18 (by decide) (hts _ kw862) (fun _ h9 => h9) rfl (by decide +kernel) rfl rfl (Nat.le_of_ble_eq_true rfl) dX12_layNear_15 (fun H locs hP hD hS => ?_)
    have hP : va_P D vwCl [(q, .inr (11, [.ref q_w, .int v_known, .int v_kept, .int v_seed, .ref q_imageSeed, .ref q_bookOf, .ref q_bookAt, .ref q_bookIs, .int v_written, .ref q_rs, .ref q_cs, .long v_above, .long v_below, .ref q_zs, .long v_leftAbove, .long v_leftBelow, .long v_guessAbove, .long v_guessBelow, .int t1, .int v_power2, .long v_bits]))] H := hP
    have hD : va_D A [(q, .inr (11, [.ref q_w, .int v_known, .int v_kept, .int v_seed, .ref q_imageSeed, .ref q_bookOf, .ref q_bookAt, .ref q_bookIs, .int v_written, .ref q_rs, .ref q_cs, .long v_above, .long v_below, .ref q_zs, .long v_leftAbove, .long v_leftBelow, .long v_guessAbove, .long v_guessBelow, .int t1, .int v_power2, .long v_bits]))] := hD
    refine lv_aload_n hx hb dX12_layNear_18 rfl (lv_at hl 0 rfl) ?_
    refine lv_iconst (v := 0) hx hb dX12_layNear_19 (by decide) ?_
    refine va_put (D := D) (ci := 11) (v := .int (0 : Int32)) (ty := .int) (C := RX12) (T := TX12) (N := 21) hx hb hts kinX12 tyX12 tyX12_ok nmX12 hown hK hP hD hS 0 rfl rfl 19 (by decide) (hts _ kw863) (fun _ h9 => h9) rfl (by decide +kernel) rfl rfl (Nat.le_of_ble_eq_true rfl) dX12_layNear_20 (fun H locs hP hD hS => ?_)
    have hP : va_P D vwCl [(q, .inr (11, [.ref q_w, .int v_known, .int v_kept, .int v_seed, .ref q_imageSeed, .ref q_bookOf, .ref q_bookAt, .ref q_bookIs, .int v_written, .ref q_rs, .ref q_cs, .long v_above, .long v_below, .ref q_zs, .long v_leftAbove, .long v_leftBelow, .long v_guessAbove, .long v_guessBelow, .int t1, .int (0 : Int32), .long v_bits]))] H := hP
    have hD : va_D A [(q, .inr (11, [.ref q_w, .int v_known, .int v_kept, .int v_seed, .ref q_imageSeed, .ref q_bookOf, .ref q_bookAt, .ref q_bookIs, .int v_written, .ref q_rs, .ref q_cs, .long v_above, .long v_below, .ref q_zs, .long v_leftAbove, .long v_leftBelow, .long v_guessAbove, .long v_guessBelow, .int t1, .int (0 : Int32), .long v_bits]))] := hD
    refine lv_aload_n hx hb dX12_layNear_23 rfl (lv_at hl 0 rfl) ?_
    refine lv_lconst (v := 0) hx hb dX12_layNear_24 (by decide) ?_
    refine va_put (D := D) (ci := 11) (v := .long (0 : Int64)) (ty := .long) (C := RX12) (T := TX12) (N := 21) hx hb hts kinX12 tyX12 tyX12_ok nmX12 hown hK hP hD hS 0 rfl rfl 20 (by decide) (hts _ kw864) (fun _ h9 => h9) rfl (by decide +kernel) rfl rfl (Nat.le_of_ble_eq_true rfl) dX12_layNear_25 (fun H locs hP hD hS => ?_)
    have hP : va_P D vwCl [(q, .inr (11, [.ref q_w, .int v_known, .int v_kept, .int v_seed, .ref q_imageSeed, .ref q_bookOf, .ref q_bookAt, .ref q_bookIs, .int v_written, .ref q_rs, .ref q_cs, .long v_above, .long v_below, .ref q_zs, .long v_leftAbove, .long v_leftBelow, .long v_guessAbove, .long v_guessBelow, .int t1, .int (0 : Int32), .long (0 : Int64)]))] H := hP
    have hD : va_D A [(q, .inr (11, [.ref q_w, .int v_known, .int v_kept, .int v_seed, .ref q_imageSeed, .ref q_bookOf, .ref q_bookAt, .ref q_bookIs, .int v_written, .ref q_rs, .ref q_cs, .long v_above, .long v_below, .ref q_zs, .long v_leftAbove, .long v_leftBelow, .long v_guessAbove, .long v_guessBelow, .int t1, .int (0 : Int32), .long (0 : Int64)]))] := hD
    refine lv_aload_n hx hb dX12_layNear_28 rfl (lv_at hl 0 rfl) ?_
    refine va_get (D := D) (ci := 11) (v := .long v_above) (C := RX12) (T := TX12) (N := 21) hx hb hts kinX12 hown hK hP 0 rfl rfl 11 (by decide) (hts _ kw855) (fun _ h9 => h9) rfl dX12_layNear_29 ?_
    refine lv_lconst (v := 0) hx hb dX12_layNear_32 (by decide) ?_
    obtain ⟨J4, hJ4_, hf⟩ := kj1_e hf
    have hJ4 : ∀ (t3 : Int64), J4 t3 = some (o_v_sign, o_v_power2, o_v_bits) → ∀ (H : Heap) (locs : List Loc) (ls : Array Slot), va_P D vwCl [(q, .inr (11, [.ref q_w, .int v_known, .int v_kept, .int v_seed, .ref q_imageSeed, .ref q_bookOf, .ref q_bookAt, .ref q_bookIs, .int v_written, .ref q_rs, .ref q_cs, .long v_above, .long v_below, .ref q_zs, .long v_leftAbove, .long v_leftBelow, .long v_guessAbove, .long v_guessBelow, .int t1, .int (0 : Int32), .long (0 : Int64)]))] H → va_D A [(q, .inr (11, [.ref q_w, .int v_known, .int v_kept, .int v_seed, .ref q_imageSeed, .ref q_bookOf, .ref q_bookAt, .ref q_bookIs, .int v_written, .ref q_rs, .ref q_cs, .long v_above, .long v_below, .ref q_zs, .long v_leftAbove, .long v_leftBelow, .long v_guessAbove, .long v_guessBelow, .int t1, .int (0 : Int32), .long (0 : Int64)]))] → va_S A s.heap H locs → lv_has ls 7 [(0, .ref q)] → W p l e R s m args below meth c H locs 0 0 Q (F0 m 49 ls [.long t3]) := by
      intro t3 hf H locs ls hP hD hS hl
      rw [hJ4_] at hf
      refine lv_lstore_n (lv' := [(1, .long t3), (0, .ref q)]) hx hb dX12_layNear_49 rfl hl (by decide) rfl (fun ls hl => ?_)
      refine lv_aload_n hx hb dX12_layNear_50 rfl (lv_at hl 1 rfl) ?_
      refine va_get (D := D) (ci := 11) (v := .long v_below) (C := RX12) (T := TX12) (N := 21) hx hb hts kinX12 hown hK hP 0 rfl rfl 12 (by decide) (hts _ kw856) (fun _ h9 => h9) rfl dX12_layNear_51 ?_
      refine lv_lstore_n (lv' := [(3, .long v_below), (1, .long t3), (0, .ref q)]) hx hb dX12_layNear_54 rfl hl (by decide) rfl (fun ls hl => ?_)
      refine lv_lload_n hx hb dX12_layNear_55 rfl (lv_at hl 1 rfl) ?_
      refine lv_lconst (v := 0) hx hb dX12_layNear_56 (by decide) ?_
      refine k_lcmp_ne (tgt := 62) hx hb dX12_layNear_57 dX12_layNear_58 (by decide) (fun c5 => ?_) (fun c5 => ?_)
      · have hf := kn_e hf c5
        obtain ⟨y9, w10, hu, hf⟩ := kb2_e hf
        refine hL62 t3 v_known v_kept v_seed v_written v_above v_below v_leftAbove v_leftBelow v_guessAbove v_guessBelow t1 (0 : Int64) F v_below (0 : Int32) y9 w10 hu (fun H locs ls hP hD hS hl => ?_) _ _ _ hP hD hS (lv_sub hl [2, 1, 0] rfl)
        obtain ⟨y14, w15, hu, hf⟩ := kb2_e hf
        refine hL91 y9 v_known v_kept v_seed v_written v_above v_below v_leftAbove v_leftBelow v_guessAbove v_guessBelow t1 (0 : Int64) F t3 w10 y14 w15 hu (fun H locs ls hP hD hS hl => ?_) _ _ _ hP hD hS hl
        refine lv_iconst (v := 0) hx hb dX12_layNear_116 (by decide) ?_
        refine lv_istore (lv' := [(5, .int (0 : Int32)), (0, .ref q), (1, .long y14), (3, .long y9)]) hx hb dX12_layNear_117 hl (by decide) rfl (fun ls hl => ?_)
        obtain ⟨y29, w30, hu, hf⟩ := kb2_e hf
        refine hL119 y9 v_known v_kept v_seed v_written v_above v_below v_leftAbove v_leftBelow v_guessAbove v_guessBelow t1 w15 F y14 (0 : Int32) (0 : Int64) y29 w30 hu (fun H locs ls hP hD hS hl => ?_) _ _ _ hP hD hS (lv_sub hl [1, 2, 3, 0] rfl)
        refine lv_aload_n hx hb dX12_layNear_185 rfl (lv_at hl 0 rfl) ?_
        refine lv_dup hx hb dX12_layNear_186 rfl ?_
        refine va_get (D := D) (ci := 11) (v := .long w30) (C := RX12) (T := TX12) (N := 21) hx hb hts kinX12 hown hK hP 0 rfl rfl 20 (by decide) (hts _ kw864) (fun _ h9 => h9) rfl dX12_layNear_187 ?_
        refine lv_lload_n hx hb dX12_layNear_190 rfl (lv_at hl 1 rfl) ?_
        refine lv_lload_n hx hb dX12_layNear_191 rfl (lv_at hl 2 rfl) ?_
        refine k_lcmp_gt (tgt := 215) hx hb dX12_layNear_192 dX12_layNear_193 (by decide) (fun c31 => ?_) (fun c31 => ?_)
        · have hf := kp_e hf c31
          refine lv_lconst (v := 1) hx hb dX12_layNear_215 (by decide) ?_
          refine lv_goto (tgt := 220) hx hb dX12_layNear_216 (by decide) ?_
          refine lv_ladd hx hb dX12_layNear_220 ?_
          refine lv_topl (fun t32 et32 => ?_)
          have hf := kl_e hf t32 et32
          refine va_put (D := D) (ci := 11) (v := .long t32) (ty := .long) (C := RX12) (T := TX12) (N := 21) hx hb hts kinX12 tyX12 tyX12_ok nmX12 hown hK hP hD hS 0 rfl rfl 20 (by decide) (hts _ kw864) (fun _ h9 => h9) rfl (by decide +kernel) rfl rfl (Nat.le_of_ble_eq_true rfl) dX12_layNear_221 (fun H locs hP hD hS => ?_)
          have hP : va_P D vwCl [(q, .inr (11, [.ref q_w, .int v_known, .int v_kept, .int v_seed, .ref q_imageSeed, .ref q_bookOf, .ref q_bookAt, .ref q_bookIs, .int v_written, .ref q_rs, .ref q_cs, .long v_above, .long v_below, .ref q_zs, .long v_leftAbove, .long v_leftBelow, .long v_guessAbove, .long v_guessBelow, .int t1, .int w15, .long t32]))] H := hP
          have hD : va_D A [(q, .inr (11, [.ref q_w, .int v_known, .int v_kept, .int v_seed, .ref q_imageSeed, .ref q_bookOf, .ref q_bookAt, .ref q_bookIs, .int v_written, .ref q_rs, .ref q_cs, .long v_above, .long v_below, .ref q_zs, .long v_leftAbove, .long v_leftBelow, .long v_guessAbove, .long v_guessBelow, .int t1, .int w15, .long t32]))] := hD
          refine lv_aload_n hx hb dX12_layNear_224 rfl (lv_at hl 0 rfl) ?_
          refine lv_bipush (v := 53) hx hb dX12_layNear_225 (by decide) ?_
          obtain ⟨w33, w34, h35, hf⟩ := kb2_e hf
          refine k_gv (nW := 1) (ws' := [(q, .inr (11, [.ref q_w, .int v_known, .int v_kept, .int v_seed, .ref q_imageSeed, .ref q_bookOf, .ref q_bookAt, .ref q_bookIs, .int v_written, .ref q_rs, .ref q_cs, .long v_above, .long v_below, .ref q_zs, .long v_leftAbove, .long v_leftBelow, .long v_guessAbove, .long v_guessBelow, .int t1, .int w33, .long w34]))]) (wr := []) (k_runV (rest := []) hat hP hD hS hl.1 (c_X12_shorten q q_w q_imageSeed q_bookOf q_bookAt q_bookIs q_rs q_cs q_zs v_known v_kept v_seed v_written v_above v_below v_leftAbove v_leftBelow v_guessAbove v_guessBelow t1 w15 t32 (53 : Int32) w33 w34 h35) [0] (by decide) rfl kw1144 kw1146 kw57 kw79 kw1147 kdVX12_shorten ⟨rfl, rfl⟩ (by rw [hR]; exact ⟨Nat.le_of_ble_eq_true rfl, Nat.le_of_ble_eq_true rfl⟩) ⟨Nat.zero_le _, Nat.zero_le _⟩ 0 11 rfl rfl rfl rfl (Nat.le_of_ble_eq_true rfl) dX12_layNear_227) hat hP hD hS [0] rfl [] rfl rfl rfl rfl rfl (by decide) (fun H locs hP hD hS => ?_)
          obtain ⟨rfl, rfl, rfl⟩ := ki3 hf
          rw [hQ]
          exact k_vret hat hP hS dX12_layNear_230
        · have hf := kn_e hf c31
          refine lv_lload_n hx hb dX12_layNear_196 rfl (lv_at hl 1 rfl) ?_
          refine lv_lload_n hx hb dX12_layNear_197 rfl (lv_at hl 2 rfl) ?_
          refine k_lcmp_ne (tgt := 219) hx hb dX12_layNear_198 dX12_layNear_199 (by decide) (fun c36 => ?_) (fun c36 => ?_)
          · have hf := kn_e hf c36
            refine lv_lconst (v := 0) hx hb dX12_layNear_219 (by decide) ?_
            refine lv_ladd hx hb dX12_layNear_220 ?_
            refine lv_topl (fun t37 et37 => ?_)
            have hf := kl_e hf t37 et37
            refine va_put (D := D) (ci := 11) (v := .long t37) (ty := .long) (C := RX12) (T := TX12) (N := 21) hx hb hts kinX12 tyX12 tyX12_ok nmX12 hown hK hP hD hS 0 rfl rfl 20 (by decide) (hts _ kw864) (fun _ h9 => h9) rfl (by decide +kernel) rfl rfl (Nat.le_of_ble_eq_true rfl) dX12_layNear_221 (fun H locs hP hD hS => ?_)
            have hP : va_P D vwCl [(q, .inr (11, [.ref q_w, .int v_known, .int v_kept, .int v_seed, .ref q_imageSeed, .ref q_bookOf, .ref q_bookAt, .ref q_bookIs, .int v_written, .ref q_rs, .ref q_cs, .long v_above, .long v_below, .ref q_zs, .long v_leftAbove, .long v_leftBelow, .long v_guessAbove, .long v_guessBelow, .int t1, .int w15, .long t37]))] H := hP
            have hD : va_D A [(q, .inr (11, [.ref q_w, .int v_known, .int v_kept, .int v_seed, .ref q_imageSeed, .ref q_bookOf, .ref q_bookAt, .ref q_bookIs, .int v_written, .ref q_rs, .ref q_cs, .long v_above, .long v_below, .ref q_zs, .long v_leftAbove, .long v_leftBelow, .long v_guessAbove, .long v_guessBelow, .int t1, .int w15, .long t37]))] := hD
            refine lv_aload_n hx hb dX12_layNear_224 rfl (lv_at hl 0 rfl) ?_
            refine lv_bipush (v := 53) hx hb dX12_layNear_225 (by decide) ?_
            obtain ⟨w38, w39, h40, hf⟩ := kb2_e hf
            refine k_gv (nW := 1) (ws' := [(q, .inr (11, [.ref q_w, .int v_known, .int v_kept, .int v_seed, .ref q_imageSeed, .ref q_bookOf, .ref q_bookAt, .ref q_bookIs, .int v_written, .ref q_rs, .ref q_cs, .long v_above, .long v_below, .ref q_zs, .long v_leftAbove, .long v_leftBelow, .long v_guessAbove, .long v_guessBelow, .int t1, .int w38, .long w39]))]) (wr := []) (k_runV (rest := []) hat hP hD hS hl.1 (c_X12_shorten q q_w q_imageSeed q_bookOf q_bookAt q_bookIs q_rs q_cs q_zs v_known v_kept v_seed v_written v_above v_below v_leftAbove v_leftBelow v_guessAbove v_guessBelow t1 w15 t37 (53 : Int32) w38 w39 h40) [0] (by decide) rfl kw1144 kw1146 kw57 kw79 kw1147 kdVX12_shorten ⟨rfl, rfl⟩ (by rw [hR]; exact ⟨Nat.le_of_ble_eq_true rfl, Nat.le_of_ble_eq_true rfl⟩) ⟨Nat.zero_le _, Nat.zero_le _⟩ 0 11 rfl rfl rfl rfl (Nat.le_of_ble_eq_true rfl) dX12_layNear_227) hat hP hD hS [0] rfl [] rfl rfl rfl rfl rfl (by decide) (fun H locs hP hD hS => ?_)
            obtain ⟨rfl, rfl, rfl⟩ := ki3 hf
            rw [hQ]
            exact k_vret hat hP hS dX12_layNear_230
          · have hf := kp_e hf c36
            refine lv_aload_n hx hb dX12_layNear_202 rfl (lv_at hl 0 rfl) ?_
            refine va_get (D := D) (ci := 11) (v := .long w30) (C := RX12) (T := TX12) (N := 21) hx hb hts kinX12 hown hK hP 0 rfl rfl 20 (by decide) (hts _ kw864) (fun _ h9 => h9) rfl dX12_layNear_203 ?_
            refine lv_ldc2 hx hb hown (hts _ kw1024) dX12_layNear_206 ?_
            refine lv_lrem hx hb dX12_layNear_209 (by decide) ?_
            refine lv_lconst (v := 1) hx hb dX12_layNear_210 (by decide) ?_
            refine k_lcmp_ne (tgt := 219) hx hb dX12_layNear_211 dX12_layNear_212 (by decide) (fun c41 => ?_) (fun c41 => ?_)
            · have hf := kn_e hf c41
              refine lv_lconst (v := 0) hx hb dX12_layNear_219 (by decide) ?_
              refine lv_ladd hx hb dX12_layNear_220 ?_
              refine lv_topl (fun t42 et42 => ?_)
              have hf := kl_e hf t42 et42
              refine va_put (D := D) (ci := 11) (v := .long t42) (ty := .long) (C := RX12) (T := TX12) (N := 21) hx hb hts kinX12 tyX12 tyX12_ok nmX12 hown hK hP hD hS 0 rfl rfl 20 (by decide) (hts _ kw864) (fun _ h9 => h9) rfl (by decide +kernel) rfl rfl (Nat.le_of_ble_eq_true rfl) dX12_layNear_221 (fun H locs hP hD hS => ?_)
              have hP : va_P D vwCl [(q, .inr (11, [.ref q_w, .int v_known, .int v_kept, .int v_seed, .ref q_imageSeed, .ref q_bookOf, .ref q_bookAt, .ref q_bookIs, .int v_written, .ref q_rs, .ref q_cs, .long v_above, .long v_below, .ref q_zs, .long v_leftAbove, .long v_leftBelow, .long v_guessAbove, .long v_guessBelow, .int t1, .int w15, .long t42]))] H := hP
              have hD : va_D A [(q, .inr (11, [.ref q_w, .int v_known, .int v_kept, .int v_seed, .ref q_imageSeed, .ref q_bookOf, .ref q_bookAt, .ref q_bookIs, .int v_written, .ref q_rs, .ref q_cs, .long v_above, .long v_below, .ref q_zs, .long v_leftAbove, .long v_leftBelow, .long v_guessAbove, .long v_guessBelow, .int t1, .int w15, .long t42]))] := hD
              refine lv_aload_n hx hb dX12_layNear_224 rfl (lv_at hl 0 rfl) ?_
              refine lv_bipush (v := 53) hx hb dX12_layNear_225 (by decide) ?_
              obtain ⟨w43, w44, h45, hf⟩ := kb2_e hf
              refine k_gv (nW := 1) (ws' := [(q, .inr (11, [.ref q_w, .int v_known, .int v_kept, .int v_seed, .ref q_imageSeed, .ref q_bookOf, .ref q_bookAt, .ref q_bookIs, .int v_written, .ref q_rs, .ref q_cs, .long v_above, .long v_below, .ref q_zs, .long v_leftAbove, .long v_leftBelow, .long v_guessAbove, .long v_guessBelow, .int t1, .int w43, .long w44]))]) (wr := []) (k_runV (rest := []) hat hP hD hS hl.1 (c_X12_shorten q q_w q_imageSeed q_bookOf q_bookAt q_bookIs q_rs q_cs q_zs v_known v_kept v_seed v_written v_above v_below v_leftAbove v_leftBelow v_guessAbove v_guessBelow t1 w15 t42 (53 : Int32) w43 w44 h45) [0] (by decide) rfl kw1144 kw1146 kw57 kw79 kw1147 kdVX12_shorten ⟨rfl, rfl⟩ (by rw [hR]; exact ⟨Nat.le_of_ble_eq_true rfl, Nat.le_of_ble_eq_true rfl⟩) ⟨Nat.zero_le _, Nat.zero_le _⟩ 0 11 rfl rfl rfl rfl (Nat.le_of_ble_eq_true rfl) dX12_layNear_227) hat hP hD hS [0] rfl [] rfl rfl rfl rfl rfl (by decide) (fun H locs hP hD hS => ?_)
              obtain ⟨rfl, rfl, rfl⟩ := ki3 hf
              rw [hQ]
              exact k_vret hat hP hS dX12_layNear_230
            · have hf := kp_e hf c41
              refine lv_lconst (v := 1) hx hb dX12_layNear_215 (by decide) ?_
              refine lv_goto (tgt := 220) hx hb dX12_layNear_216 (by decide) ?_
              refine lv_ladd hx hb dX12_layNear_220 ?_
              refine lv_topl (fun t46 et46 => ?_)
              have hf := kl_e hf t46 et46
              refine va_put (D := D) (ci := 11) (v := .long t46) (ty := .long) (C := RX12) (T := TX12) (N := 21) hx hb hts kinX12 tyX12 tyX12_ok nmX12 hown hK hP hD hS 0 rfl rfl 20 (by decide) (hts _ kw864) (fun _ h9 => h9) rfl (by decide +kernel) rfl rfl (Nat.le_of_ble_eq_true rfl) dX12_layNear_221 (fun H locs hP hD hS => ?_)
              have hP : va_P D vwCl [(q, .inr (11, [.ref q_w, .int v_known, .int v_kept, .int v_seed, .ref q_imageSeed, .ref q_bookOf, .ref q_bookAt, .ref q_bookIs, .int v_written, .ref q_rs, .ref q_cs, .long v_above, .long v_below, .ref q_zs, .long v_leftAbove, .long v_leftBelow, .long v_guessAbove, .long v_guessBelow, .int t1, .int w15, .long t46]))] H := hP
              have hD : va_D A [(q, .inr (11, [.ref q_w, .int v_known, .int v_kept, .int v_seed, .ref q_imageSeed, .ref q_bookOf, .ref q_bookAt, .ref q_bookIs, .int v_written, .ref q_rs, .ref q_cs, .long v_above, .long v_below, .ref q_zs, .long v_leftAbove, .long v_leftBelow, .long v_guessAbove, .long v_guessBelow, .int t1, .int w15, .long t46]))] := hD
              refine lv_aload_n hx hb dX12_layNear_224 rfl (lv_at hl 0 rfl) ?_
              refine lv_bipush (v := 53) hx hb dX12_layNear_225 (by decide) ?_
              obtain ⟨w47, w48, h49, hf⟩ := kb2_e hf
              refine k_gv (nW := 1) (ws' := [(q, .inr (11, [.ref q_w, .int v_known, .int v_kept, .int v_seed, .ref q_imageSeed, .ref q_bookOf, .ref q_bookAt, .ref q_bookIs, .int v_written, .ref q_rs, .ref q_cs, .long v_above, .long v_below, .ref q_zs, .long v_leftAbove, .long v_leftBelow, .long v_guessAbove, .long v_guessBelow, .int t1, .int w47, .long w48]))]) (wr := []) (k_runV (rest := []) hat hP hD hS hl.1 (c_X12_shorten q q_w q_imageSeed q_bookOf q_bookAt q_bookIs q_rs q_cs q_zs v_known v_kept v_seed v_written v_above v_below v_leftAbove v_leftBelow v_guessAbove v_guessBelow t1 w15 t46 (53 : Int32) w47 w48 h49) [0] (by decide) rfl kw1144 kw1146 kw57 kw79 kw1147 kdVX12_shorten ⟨rfl, rfl⟩ (by rw [hR]; exact ⟨Nat.le_of_ble_eq_true rfl, Nat.le_of_ble_eq_true rfl⟩) ⟨Nat.zero_le _, Nat.zero_le _⟩ 0 11 rfl rfl rfl rfl (Nat.le_of_ble_eq_true rfl) dX12_layNear_227) hat hP hD hS [0] rfl [] rfl rfl rfl rfl rfl (by decide) (fun H locs hP hD hS => ?_)
              obtain ⟨rfl, rfl, rfl⟩ := ki3 hf
              rw [hQ]
              exact k_vret hat hP hS dX12_layNear_230
      · have hf := kp_e hf c5
        obtain ⟨rfl, rfl, rfl⟩ := ki3 hf
        rw [hQ]
        exact k_vret hat hP hS dX12_layNear_61
    refine k_lcmp_ge (tgt := 45) hx hb dX12_layNear_33 dX12_layNear_34 (by decide) (fun c50 => ?_) (fun c50 => ?_)
    · have hf := kp_e hf c50
      refine lv_aload_n hx hb dX12_layNear_45 rfl (lv_at hl 0 rfl) ?_
      refine va_get (D := D) (ci := 11) (v := .long v_above) (C := RX12) (T := TX12) (N := 21) hx hb hts kinX12 hown hK hP 0 rfl rfl 11 (by decide) (hts _ kw855) (fun _ h9 => h9) rfl dX12_layNear_46 ?_
      exact hJ4 v_above hf _ _ _ hP hD hS hl
    · have hf := kn_e hf c50
      refine lv_aload_n hx hb dX12_layNear_37 rfl (lv_at hl 0 rfl) ?_
      refine va_get (D := D) (ci := 11) (v := .long v_above) (C := RX12) (T := TX12) (N := 21) hx hb hts kinX12 hown hK hP 0 rfl rfl 11 (by decide) (hts _ kw855) (fun _ h9 => h9) rfl dX12_layNear_38 ?_
      refine lv_lneg hx hb dX12_layNear_41 ?_
      refine lv_goto (tgt := 49) hx hb dX12_layNear_42 (by decide) ?_
      exact hJ4 (-v_above) hf _ _ _ hP hD hS hl
  refine k_lcmp_ge (tgt := 14) hx hb dX12_layNear_6 dX12_layNear_7 (by decide) (fun c51 => ?_) (fun c51 => ?_)
  · have hf := kp_e hf c51
    refine lv_iconst (v := 0) hx hb dX12_layNear_14 (by decide) ?_
    exact hJ2 (0 : Int32) hf _ _ _ hP hD hS hl
  · have hf := kn_e hf c51
    refine lv_iconst (v := 1) hx hb dX12_layNear_10 (by decide) ?_
    refine lv_goto (tgt := 15) hx hb dX12_layNear_11 (by decide) ?_
    exact hJ2 (1 : Int32) hf _ _ _ hP hD hS hl
set_option maxHeartbeats 4000000 in
set_option maxRecDepth 100000 in
theorem c_X12_round {l : Launch} {D : va_G} {cI cJ cQ : ClassId} {tp : Nat} (q : Nat) (q_w : Nat) (q_imageSeed : Nat) (q_bookOf : Nat) (q_bookAt : Nat) (q_bookIs : Nat) (q_rs : Nat) (q_cs : Nat) (q_zs : Nat) (v_known : Int32) (v_kept : Int32) (v_seed : Int32) (v_written : Int32) (v_above : Int64) (v_below : Int64) (v_leftAbove : Int64) (v_leftBelow : Int64) (v_guessAbove : Int64) (v_guessBelow : Int64) (v_sign : Int32) (v_power2 : Int32) (v_bits : Int64) (x1 : Int32) (x2 : Int32) (o_v_power2 : Int32) (o_v_bits : Int64) (hf : f_X12_round v_power2 v_bits x1 x2 = some (o_v_power2, o_v_bits)) : kM (fun A => kQv D A [(q, .inr (11, [.ref q_w, .int v_known, .int v_kept, .int v_seed, .ref q_imageSeed, .ref q_bookOf, .ref q_bookAt, .ref q_bookIs, .int v_written, .ref q_rs, .ref q_cs, .long v_above, .long v_below, .ref q_zs, .long v_leftAbove, .long v_leftBelow, .long v_guessAbove, .long v_guessBelow, .int v_sign, .int o_v_power2, .long o_v_bits]))]) none l yX12_round cX12_round 7 { frames := 1, cells := 0, slots := 0, locals := 21 } D cI cJ cQ tp [.ref q, .int x1, .int x2] [(q, .inr (11, [.ref q_w, .int v_known, .int v_kept, .int v_seed, .ref q_imageSeed, .ref q_bookOf, .ref q_bookAt, .ref q_bookIs, .int v_written, .ref q_rs, .ref q_cs, .long v_above, .long v_below, .ref q_zs, .long v_leftAbove, .long v_leftBelow, .long v_guessAbove, .long v_guessBelow, .int v_sign, .int v_power2, .long v_bits]))] := by
  refine kM_of (by decide +kernel) (Nat.le_of_ble_eq_true rfl) ?_
  intro p e s m args below meth c A ls R Q hR hQ hat hP hD hS hl
  obtain ⟨hx, hb, hr, hml, hown, hts, hT, hlk, hK, hA, hZ⟩ := id hat
  have hown : s.vm.findClass RX12 = some m.cls := hown
  have hl : lv_has ls 7 [(0, .ref q), (1, .int x1), (2, .int x2)] := hl
  unfold f_X12_round at hf
  refine lv_lconst (v := 1) hx hb dX12_round_0 (by decide) ?_
  refine lv_iload_n hx hb dX12_round_1 rfl (lv_at hl 1 rfl) ?_
  refine lv_lshl hx hb dX12_round_2 rfl ?_
  refine lv_topl (fun t1 et1 => ?_)
  have hf := kl_e hf t1 et1
  refine lv_lstore_n (lv' := [(3, .long t1), (0, .ref q), (1, .int x1), (2, .int x2)]) hx hb dX12_round_3 rfl hl (by decide) rfl (fun ls hl => ?_)
  refine lv_aload_n hx hb dX12_round_4 rfl (lv_at hl 1 rfl) ?_
  refine va_get (D := D) (ci := 11) (v := .long v_bits) (C := RX12) (T := TX12) (N := 21) hx hb hts kinX12 hown hK hP 0 rfl rfl 20 (by decide) (hts _ kw864) (fun _ h9 => h9) rfl dX12_round_5 ?_
  refine lv_lload_n hx hb dX12_round_8 rfl (lv_at hl 0 rfl) ?_
  obtain ⟨c2, hf⟩ := kc_e hf
  refine lv_lrem hx hb dX12_round_9 c2 ?_
  refine lv_topl (fun t3 et3 => ?_)
  have hf := kl_e hf t3 et3
  refine lv_lstore (lv' := [(5, .long t3), (3, .long t1), (0, .ref q), (1, .int x1), (2, .int x2)]) hx hb dX12_round_10 hl (by decide) rfl (fun ls hl => ?_)
  refine lv_aload_n hx hb dX12_round_12 rfl (lv_at hl 2 rfl) ?_
  refine lv_dup hx hb dX12_round_13 rfl ?_
  refine va_get (D := D) (ci := 11) (v := .long v_bits) (C := RX12) (T := TX12) (N := 21) hx hb hts kinX12 hown hK hP 0 rfl rfl 20 (by decide) (hts _ kw864) (fun _ h9 => h9) rfl dX12_round_14 ?_
  refine lv_lload_n hx hb dX12_round_17 rfl (lv_at hl 1 rfl) ?_
  obtain ⟨c4, hf⟩ := kc_e hf
  refine lv_ldiv hx hb dX12_round_18 c4 ?_
  refine lv_topl (fun t5 et5 => ?_)
  have hf := kl_e hf t5 et5
  refine va_put (D := D) (ci := 11) (v := .long t5) (ty := .long) (C := RX12) (T := TX12) (N := 21) hx hb hts kinX12 tyX12 tyX12_ok nmX12 hown hK hP hD hS 0 rfl rfl 20 (by decide) (hts _ kw864) (fun _ h9 => h9) rfl (by decide +kernel) rfl rfl (Nat.le_of_ble_eq_true rfl) dX12_round_19 (fun H locs hP hD hS => ?_)
  have hP : va_P D vwCl [(q, .inr (11, [.ref q_w, .int v_known, .int v_kept, .int v_seed, .ref q_imageSeed, .ref q_bookOf, .ref q_bookAt, .ref q_bookIs, .int v_written, .ref q_rs, .ref q_cs, .long v_above, .long v_below, .ref q_zs, .long v_leftAbove, .long v_leftBelow, .long v_guessAbove, .long v_guessBelow, .int v_sign, .int v_power2, .long t5]))] H := hP
  have hD : va_D A [(q, .inr (11, [.ref q_w, .int v_known, .int v_kept, .int v_seed, .ref q_imageSeed, .ref q_bookOf, .ref q_bookAt, .ref q_bookIs, .int v_written, .ref q_rs, .ref q_cs, .long v_above, .long v_below, .ref q_zs, .long v_leftAbove, .long v_leftBelow, .long v_guessAbove, .long v_guessBelow, .int v_sign, .int v_power2, .long t5]))] := hD
  refine lv_aload_n hx hb dX12_round_22 rfl (lv_at hl 2 rfl) ?_
  refine lv_dup hx hb dX12_round_23 rfl ?_
  refine va_get (D := D) (ci := 11) (v := .long t5) (C := RX12) (T := TX12) (N := 21) hx hb hts kinX12 hown hK hP 0 rfl rfl 20 (by decide) (hts _ kw864) (fun _ h9 => h9) rfl dX12_round_24 ?_
  refine lv_ldc2 hx hb hown (hts _ kw1024) dX12_round_27 ?_
  refine lv_lload hx hb dX12_round_30 (lv_at hl 0 rfl) ?_
  refine lv_lmul hx hb dX12_round_32 ?_
  refine lv_lload_n hx hb dX12_round_33 rfl (lv_at hl 1 rfl) ?_
  refine k_lcmp_gt (tgt := 62) hx hb dX12_round_34 dX12_round_35 (by decide) (fun c6 => ?_) (fun c6 => ?_)
  · have hf := kp_e hf c6
    refine lv_lconst (v := 1) hx hb dX12_round_62 (by decide) ?_
    refine lv_goto (tgt := 67) hx hb dX12_round_63 (by decide) ?_
    refine lv_ladd hx hb dX12_round_67 ?_
    refine lv_topl (fun t7 et7 => ?_)
    have hf := kl_e hf t7 et7
    refine va_put (D := D) (ci := 11) (v := .long t7) (ty := .long) (C := RX12) (T := TX12) (N := 21) hx hb hts kinX12 tyX12 tyX12_ok nmX12 hown hK hP hD hS 0 rfl rfl 20 (by decide) (hts _ kw864) (fun _ h9 => h9) rfl (by decide +kernel) rfl rfl (Nat.le_of_ble_eq_true rfl) dX12_round_68 (fun H locs hP hD hS => ?_)
    have hP : va_P D vwCl [(q, .inr (11, [.ref q_w, .int v_known, .int v_kept, .int v_seed, .ref q_imageSeed, .ref q_bookOf, .ref q_bookAt, .ref q_bookIs, .int v_written, .ref q_rs, .ref q_cs, .long v_above, .long v_below, .ref q_zs, .long v_leftAbove, .long v_leftBelow, .long v_guessAbove, .long v_guessBelow, .int v_sign, .int v_power2, .long t7]))] H := hP
    have hD : va_D A [(q, .inr (11, [.ref q_w, .int v_known, .int v_kept, .int v_seed, .ref q_imageSeed, .ref q_bookOf, .ref q_bookAt, .ref q_bookIs, .int v_written, .ref q_rs, .ref q_cs, .long v_above, .long v_below, .ref q_zs, .long v_leftAbove, .long v_leftBelow, .long v_guessAbove, .long v_guessBelow, .int v_sign, .int v_power2, .long t7]))] := hD
    refine lv_aload_n hx hb dX12_round_71 rfl (lv_at hl 2 rfl) ?_
    refine lv_iload_n hx hb dX12_round_72 rfl (lv_at hl 4 rfl) ?_
    obtain ⟨w8, w9, h10, hf⟩ := kb2_e hf
    refine k_gv (nW := 1) (ws' := [(q, .inr (11, [.ref q_w, .int v_known, .int v_kept, .int v_seed, .ref q_imageSeed, .ref q_bookOf, .ref q_bookAt, .ref q_bookIs, .int v_written, .ref q_rs, .ref q_cs, .long v_above, .long v_below, .ref q_zs, .long v_leftAbove, .long v_leftBelow, .long v_guessAbove, .long v_guessBelow, .int v_sign, .int w8, .long w9]))]) (wr := []) (k_runV (rest := []) hat hP hD hS hl.1 (c_X12_shorten q q_w q_imageSeed q_bookOf q_bookAt q_bookIs q_rs q_cs q_zs v_known v_kept v_seed v_written v_above v_below v_leftAbove v_leftBelow v_guessAbove v_guessBelow v_sign v_power2 t7 x2 w8 w9 h10) [0] (by decide) rfl kw1144 kw1146 kw57 kw79 kw1147 kdVX12_shorten ⟨rfl, rfl⟩ (by rw [hR]; exact ⟨Nat.le_of_ble_eq_true rfl, Nat.le_of_ble_eq_true rfl⟩) ⟨Nat.zero_le _, Nat.zero_le _⟩ 0 11 rfl rfl rfl rfl (Nat.le_of_ble_eq_true rfl) dX12_round_73) hat hP hD hS [0] rfl [] rfl rfl rfl rfl rfl (by decide) (fun H locs hP hD hS => ?_)
    obtain ⟨rfl, rfl⟩ := ki2 hf
    rw [hQ]
    exact k_vret hat hP hS dX12_round_76
  · have hf := kn_e hf c6
    refine lv_ldc2 hx hb hown (hts _ kw1024) dX12_round_38 ?_
    refine lv_lload hx hb dX12_round_41 (lv_at hl 0 rfl) ?_
    refine lv_lmul hx hb dX12_round_43 ?_
    refine lv_lload_n hx hb dX12_round_44 rfl (lv_at hl 1 rfl) ?_
    refine k_lcmp_ne (tgt := 66) hx hb dX12_round_45 dX12_round_46 (by decide) (fun c11 => ?_) (fun c11 => ?_)
    · have hf := kn_e hf c11
      refine lv_lconst (v := 0) hx hb dX12_round_66 (by decide) ?_
      refine lv_ladd hx hb dX12_round_67 ?_
      refine lv_topl (fun t12 et12 => ?_)
      have hf := kl_e hf t12 et12
      refine va_put (D := D) (ci := 11) (v := .long t12) (ty := .long) (C := RX12) (T := TX12) (N := 21) hx hb hts kinX12 tyX12 tyX12_ok nmX12 hown hK hP hD hS 0 rfl rfl 20 (by decide) (hts _ kw864) (fun _ h9 => h9) rfl (by decide +kernel) rfl rfl (Nat.le_of_ble_eq_true rfl) dX12_round_68 (fun H locs hP hD hS => ?_)
      have hP : va_P D vwCl [(q, .inr (11, [.ref q_w, .int v_known, .int v_kept, .int v_seed, .ref q_imageSeed, .ref q_bookOf, .ref q_bookAt, .ref q_bookIs, .int v_written, .ref q_rs, .ref q_cs, .long v_above, .long v_below, .ref q_zs, .long v_leftAbove, .long v_leftBelow, .long v_guessAbove, .long v_guessBelow, .int v_sign, .int v_power2, .long t12]))] H := hP
      have hD : va_D A [(q, .inr (11, [.ref q_w, .int v_known, .int v_kept, .int v_seed, .ref q_imageSeed, .ref q_bookOf, .ref q_bookAt, .ref q_bookIs, .int v_written, .ref q_rs, .ref q_cs, .long v_above, .long v_below, .ref q_zs, .long v_leftAbove, .long v_leftBelow, .long v_guessAbove, .long v_guessBelow, .int v_sign, .int v_power2, .long t12]))] := hD
      refine lv_aload_n hx hb dX12_round_71 rfl (lv_at hl 2 rfl) ?_
      refine lv_iload_n hx hb dX12_round_72 rfl (lv_at hl 4 rfl) ?_
      obtain ⟨w13, w14, h15, hf⟩ := kb2_e hf
      refine k_gv (nW := 1) (ws' := [(q, .inr (11, [.ref q_w, .int v_known, .int v_kept, .int v_seed, .ref q_imageSeed, .ref q_bookOf, .ref q_bookAt, .ref q_bookIs, .int v_written, .ref q_rs, .ref q_cs, .long v_above, .long v_below, .ref q_zs, .long v_leftAbove, .long v_leftBelow, .long v_guessAbove, .long v_guessBelow, .int v_sign, .int w13, .long w14]))]) (wr := []) (k_runV (rest := []) hat hP hD hS hl.1 (c_X12_shorten q q_w q_imageSeed q_bookOf q_bookAt q_bookIs q_rs q_cs q_zs v_known v_kept v_seed v_written v_above v_below v_leftAbove v_leftBelow v_guessAbove v_guessBelow v_sign v_power2 t12 x2 w13 w14 h15) [0] (by decide) rfl kw1144 kw1146 kw57 kw79 kw1147 kdVX12_shorten ⟨rfl, rfl⟩ (by rw [hR]; exact ⟨Nat.le_of_ble_eq_true rfl, Nat.le_of_ble_eq_true rfl⟩) ⟨Nat.zero_le _, Nat.zero_le _⟩ 0 11 rfl rfl rfl rfl (Nat.le_of_ble_eq_true rfl) dX12_round_73) hat hP hD hS [0] rfl [] rfl rfl rfl rfl rfl (by decide) (fun H locs hP hD hS => ?_)
      obtain ⟨rfl, rfl⟩ := ki2 hf
      rw [hQ]
      exact k_vret hat hP hS dX12_round_76
    · have hf := kp_e hf c11
      refine lv_aload_n hx hb dX12_round_49 rfl (lv_at hl 2 rfl) ?_
      refine va_get (D := D) (ci := 11) (v := .long t5) (C := RX12) (T := TX12) (N := 21) hx hb hts kinX12 hown hK hP 0 rfl rfl 20 (by decide) (hts _ kw864) (fun _ h9 => h9) rfl dX12_round_50 ?_
      refine lv_ldc2 hx hb hown (hts _ kw1024) dX12_round_53 ?_
      refine lv_lrem hx hb dX12_round_56 (by decide) ?_
      refine lv_lconst (v := 1) hx hb dX12_round_57 (by decide) ?_
      refine k_lcmp_ne (tgt := 66) hx hb dX12_round_58 dX12_round_59 (by decide) (fun c16 => ?_) (fun c16 => ?_)
      · have hf := kn_e hf c16
        refine lv_lconst (v := 0) hx hb dX12_round_66 (by decide) ?_
        refine lv_ladd hx hb dX12_round_67 ?_
        refine lv_topl (fun t17 et17 => ?_)
        have hf := kl_e hf t17 et17
        refine va_put (D := D) (ci := 11) (v := .long t17) (ty := .long) (C := RX12) (T := TX12) (N := 21) hx hb hts kinX12 tyX12 tyX12_ok nmX12 hown hK hP hD hS 0 rfl rfl 20 (by decide) (hts _ kw864) (fun _ h9 => h9) rfl (by decide +kernel) rfl rfl (Nat.le_of_ble_eq_true rfl) dX12_round_68 (fun H locs hP hD hS => ?_)
        have hP : va_P D vwCl [(q, .inr (11, [.ref q_w, .int v_known, .int v_kept, .int v_seed, .ref q_imageSeed, .ref q_bookOf, .ref q_bookAt, .ref q_bookIs, .int v_written, .ref q_rs, .ref q_cs, .long v_above, .long v_below, .ref q_zs, .long v_leftAbove, .long v_leftBelow, .long v_guessAbove, .long v_guessBelow, .int v_sign, .int v_power2, .long t17]))] H := hP
        have hD : va_D A [(q, .inr (11, [.ref q_w, .int v_known, .int v_kept, .int v_seed, .ref q_imageSeed, .ref q_bookOf, .ref q_bookAt, .ref q_bookIs, .int v_written, .ref q_rs, .ref q_cs, .long v_above, .long v_below, .ref q_zs, .long v_leftAbove, .long v_leftBelow, .long v_guessAbove, .long v_guessBelow, .int v_sign, .int v_power2, .long t17]))] := hD
        refine lv_aload_n hx hb dX12_round_71 rfl (lv_at hl 2 rfl) ?_
        refine lv_iload_n hx hb dX12_round_72 rfl (lv_at hl 4 rfl) ?_
        obtain ⟨w18, w19, h20, hf⟩ := kb2_e hf
        refine k_gv (nW := 1) (ws' := [(q, .inr (11, [.ref q_w, .int v_known, .int v_kept, .int v_seed, .ref q_imageSeed, .ref q_bookOf, .ref q_bookAt, .ref q_bookIs, .int v_written, .ref q_rs, .ref q_cs, .long v_above, .long v_below, .ref q_zs, .long v_leftAbove, .long v_leftBelow, .long v_guessAbove, .long v_guessBelow, .int v_sign, .int w18, .long w19]))]) (wr := []) (k_runV (rest := []) hat hP hD hS hl.1 (c_X12_shorten q q_w q_imageSeed q_bookOf q_bookAt q_bookIs q_rs q_cs q_zs v_known v_kept v_seed v_written v_above v_below v_leftAbove v_leftBelow v_guessAbove v_guessBelow v_sign v_power2 t17 x2 w18 w19 h20) [0] (by decide) rfl kw1144 kw1146 kw57 kw79 kw1147 kdVX12_shorten ⟨rfl, rfl⟩ (by rw [hR]; exact ⟨Nat.le_of_ble_eq_true rfl, Nat.le_of_ble_eq_true rfl⟩) ⟨Nat.zero_le _, Nat.zero_le _⟩ 0 11 rfl rfl rfl rfl (Nat.le_of_ble_eq_true rfl) dX12_round_73) hat hP hD hS [0] rfl [] rfl rfl rfl rfl rfl (by decide) (fun H locs hP hD hS => ?_)
        obtain ⟨rfl, rfl⟩ := ki2 hf
        rw [hQ]
        exact k_vret hat hP hS dX12_round_76
      · have hf := kp_e hf c16
        refine lv_lconst (v := 1) hx hb dX12_round_62 (by decide) ?_
        refine lv_goto (tgt := 67) hx hb dX12_round_63 (by decide) ?_
        refine lv_ladd hx hb dX12_round_67 ?_
        refine lv_topl (fun t21 et21 => ?_)
        have hf := kl_e hf t21 et21
        refine va_put (D := D) (ci := 11) (v := .long t21) (ty := .long) (C := RX12) (T := TX12) (N := 21) hx hb hts kinX12 tyX12 tyX12_ok nmX12 hown hK hP hD hS 0 rfl rfl 20 (by decide) (hts _ kw864) (fun _ h9 => h9) rfl (by decide +kernel) rfl rfl (Nat.le_of_ble_eq_true rfl) dX12_round_68 (fun H locs hP hD hS => ?_)
        have hP : va_P D vwCl [(q, .inr (11, [.ref q_w, .int v_known, .int v_kept, .int v_seed, .ref q_imageSeed, .ref q_bookOf, .ref q_bookAt, .ref q_bookIs, .int v_written, .ref q_rs, .ref q_cs, .long v_above, .long v_below, .ref q_zs, .long v_leftAbove, .long v_leftBelow, .long v_guessAbove, .long v_guessBelow, .int v_sign, .int v_power2, .long t21]))] H := hP
        have hD : va_D A [(q, .inr (11, [.ref q_w, .int v_known, .int v_kept, .int v_seed, .ref q_imageSeed, .ref q_bookOf, .ref q_bookAt, .ref q_bookIs, .int v_written, .ref q_rs, .ref q_cs, .long v_above, .long v_below, .ref q_zs, .long v_leftAbove, .long v_leftBelow, .long v_guessAbove, .long v_guessBelow, .int v_sign, .int v_power2, .long t21]))] := hD
        refine lv_aload_n hx hb dX12_round_71 rfl (lv_at hl 2 rfl) ?_
        refine lv_iload_n hx hb dX12_round_72 rfl (lv_at hl 4 rfl) ?_
        obtain ⟨w22, w23, h24, hf⟩ := kb2_e hf
        refine k_gv (nW := 1) (ws' := [(q, .inr (11, [.ref q_w, .int v_known, .int v_kept, .int v_seed, .ref q_imageSeed, .ref q_bookOf, .ref q_bookAt, .ref q_bookIs, .int v_written, .ref q_rs, .ref q_cs, .long v_above, .long v_below, .ref q_zs, .long v_leftAbove, .long v_leftBelow, .long v_guessAbove, .long v_guessBelow, .int v_sign, .int w22, .long w23]))]) (wr := []) (k_runV (rest := []) hat hP hD hS hl.1 (c_X12_shorten q q_w q_imageSeed q_bookOf q_bookAt q_bookIs q_rs q_cs q_zs v_known v_kept v_seed v_written v_above v_below v_leftAbove v_leftBelow v_guessAbove v_guessBelow v_sign v_power2 t21 x2 w22 w23 h24) [0] (by decide) rfl kw1144 kw1146 kw57 kw79 kw1147 kdVX12_shorten ⟨rfl, rfl⟩ (by rw [hR]; exact ⟨Nat.le_of_ble_eq_true rfl, Nat.le_of_ble_eq_true rfl⟩) ⟨Nat.zero_le _, Nat.zero_le _⟩ 0 11 rfl rfl rfl rfl (Nat.le_of_ble_eq_true rfl) dX12_round_73) hat hP hD hS [0] rfl [] rfl rfl rfl rfl rfl (by decide) (fun H locs hP hD hS => ?_)
        obtain ⟨rfl, rfl⟩ := ki2 hf
        rw [hQ]
        exact k_vret hat hP hS dX12_round_76
set_option maxHeartbeats 4000000 in
set_option maxRecDepth 100000 in
theorem c_X12_nearNow {l : Launch} {D : va_G} {cI cJ cQ : ClassId} {tp : Nat} (q : Nat) (q_w : Nat) (q_imageSeed : Nat) (q_bookOf : Nat) (q_bookAt : Nat) (q_bookIs : Nat) (q_rs : Nat) (q_cs : Nat) (q_zs : Nat) (v_known : Int32) (v_kept : Int32) (v_seed : Int32) (v_written : Int32) (v_above : Int64) (v_below : Int64) (v_leftAbove : Int64) (v_leftBelow : Int64) (v_guessAbove : Int64) (v_guessBelow : Int64) (v_sign : Int32) (v_power2 : Int32) (v_bits : Int64) (F : Nat) (r0 : Int64) (o_v_sign : Int32) (o_v_power2 : Int32) (o_v_bits : Int64) (hf : f_X12_nearNow F v_above v_below v_sign v_power2 v_bits = some (r0, o_v_sign, o_v_power2, o_v_bits)) : kM (fun A => kQl D A [(q, .inr (11, [.ref q_w, .int v_known, .int v_kept, .int v_seed, .ref q_imageSeed, .ref q_bookOf, .ref q_bookAt, .ref q_bookIs, .int v_written, .ref q_rs, .ref q_cs, .long v_above, .long v_below, .ref q_zs, .long v_leftAbove, .long v_leftBelow, .long v_guessAbove, .long v_guessBelow, .int o_v_sign, .int o_v_power2, .long o_v_bits]))] r0) (some .long) l yX12_nearNow cX12_nearNow 3 { frames := 2, cells := 0, slots := 0, locals := 47 } D cI cJ cQ tp [.ref q] [(q, .inr (11, [.ref q_w, .int v_known, .int v_kept, .int v_seed, .ref q_imageSeed, .ref q_bookOf, .ref q_bookAt, .ref q_bookIs, .int v_written, .ref q_rs, .ref q_cs, .long v_above, .long v_below, .ref q_zs, .long v_leftAbove, .long v_leftBelow, .long v_guessAbove, .long v_guessBelow, .int v_sign, .int v_power2, .long v_bits]))] := by
  refine kM_of (by decide +kernel) (Nat.le_of_ble_eq_true rfl) ?_
  intro p e s m args below meth c A ls R Q hR hQ hat hP hD hS hl
  obtain ⟨hx, hb, hr, hml, hown, hts, hT, hlk, hK, hA, hZ⟩ := id hat
  have hown : s.vm.findClass RX12 = some m.cls := hown
  have hl : lv_has ls 3 [(0, .ref q)] := hl
  unfold f_X12_nearNow at hf
  refine lv_aload_n hx hb dX12_nearNow_0 rfl (lv_at hl 0 rfl) ?_
  obtain ⟨w1, w2, w3, h4, hf⟩ := kb3_e hf
  refine k_gv (nW := 1) (ws' := [(q, .inr (11, [.ref q_w, .int v_known, .int v_kept, .int v_seed, .ref q_imageSeed, .ref q_bookOf, .ref q_bookAt, .ref q_bookIs, .int v_written, .ref q_rs, .ref q_cs, .long v_above, .long v_below, .ref q_zs, .long v_leftAbove, .long v_leftBelow, .long v_guessAbove, .long v_guessBelow, .int w1, .int w2, .long w3]))]) (wr := []) (k_runV (rest := []) hat hP hD hS hl.1 (c_X12_layNear q q_w q_imageSeed q_bookOf q_bookAt q_bookIs q_rs q_cs q_zs v_known v_kept v_seed v_written v_above v_below v_leftAbove v_leftBelow v_guessAbove v_guessBelow v_sign v_power2 v_bits F w1 w2 w3 h4) [0] (by decide) rfl kw1140 kw1142 kw56 kw79 kw1143 kdVX12_layNear ⟨rfl, rfl⟩ (by rw [hR]; exact ⟨Nat.le_of_ble_eq_true rfl, Nat.le_of_ble_eq_true rfl⟩) ⟨Nat.zero_le _, Nat.zero_le _⟩ 0 11 rfl rfl rfl rfl (Nat.le_of_ble_eq_true rfl) dX12_nearNow_1) hat hP hD hS [0] rfl [] rfl rfl rfl rfl rfl (by decide) (fun H locs hP hD hS => ?_)
  refine lv_aload_n hx hb dX12_nearNow_4 rfl (lv_at hl 0 rfl) ?_
  refine va_get (D := D) (ci := 11) (v := .long w3) (C := RX12) (T := TX12) (N := 21) hx hb hts kinX12 hown hK hP 0 rfl rfl 20 (by decide) (hts _ kw864) (fun _ h9 => h9) rfl dX12_nearNow_5 ?_
  refine lv_lconst (v := 0) hx hb dX12_nearNow_8 (by decide) ?_
  refine k_lcmp_ne (tgt := 15) hx hb dX12_nearNow_9 dX12_nearNow_10 (by decide) (fun c5 => ?_) (fun c5 => ?_)
  · have hf := kn_e hf c5
    refine lv_aload_n hx hb dX12_nearNow_15 rfl (lv_at hl 0 rfl) ?_
    refine va_get (D := D) (ci := 11) (v := .int w2) (C := RX12) (T := TX12) (N := 21) hx hb hts kinX12 hown hK hP 0 rfl rfl 19 (by decide) (hts _ kw863) (fun _ h9 => h9) rfl dX12_nearNow_16 ?_
    refine lv_i2l hx hb dX12_nearNow_19 rfl ?_
    refine lv_ldc2 hx hb hown (hts _ kw1148) dX12_nearNow_20 ?_
    refine lv_ladd hx hb dX12_nearNow_23 ?_
    refine lv_bipush (v := 52) hx hb dX12_nearNow_24 (by decide) ?_
    refine lv_lshl hx hb dX12_nearNow_26 rfl ?_
    refine lv_aload_n hx hb dX12_nearNow_27 rfl (lv_at hl 0 rfl) ?_
    refine va_get (D := D) (ci := 11) (v := .long w3) (C := RX12) (T := TX12) (N := 21) hx hb hts kinX12 hown hK hP 0 rfl rfl 20 (by decide) (hts _ kw864) (fun _ h9 => h9) rfl dX12_nearNow_28 ?_
    refine lv_ladd hx hb dX12_nearNow_31 ?_
    refine lv_ldc2 hx hb hown (hts _ kw1149) dX12_nearNow_32 ?_
    refine lv_lsub hx hb dX12_nearNow_35 ?_
    refine lv_topl (fun t6 et6 => ?_)
    have hf := kl_e hf t6 et6
    refine lv_lstore_n (lv' := [(1, .long t6), (0, .ref q)]) hx hb dX12_nearNow_36 rfl hl (by decide) rfl (fun ls hl => ?_)
    refine lv_aload_n hx hb dX12_nearNow_37 rfl (lv_at hl 1 rfl) ?_
    refine va_get (D := D) (ci := 11) (v := .int w1) (C := RX12) (T := TX12) (N := 21) hx hb hts kinX12 hown hK hP 0 rfl rfl 18 (by decide) (hts _ kw862) (fun _ h9 => h9) rfl dX12_nearNow_38 ?_
    refine lv_iconst (v := 1) hx hb dX12_nearNow_41 (by decide) ?_
    refine lv_icmp_ne (tgt := 53) hx hb dX12_nearNow_42 (by decide) (fun c7 => ?_) (fun c7 => ?_)
    · have hf := kn_e hf c7
      refine lv_lload_n hx hb dX12_nearNow_53 rfl (lv_at hl 0 rfl) ?_
      obtain ⟨rfl, rfl, rfl, rfl⟩ := ki4 hf
      rw [hQ]
      exact k_lret hat hP hS rfl dX12_nearNow_54
    · have hf := kp_e hf c7
      refine lv_lload_n hx hb dX12_nearNow_45 rfl (lv_at hl 0 rfl) ?_
      refine lv_ldc2 hx hb hown (hts _ kw1150) dX12_nearNow_46 ?_
      refine lv_ladd hx hb dX12_nearNow_49 ?_
      refine lv_goto (tgt := 54) hx hb dX12_nearNow_50 (by decide) ?_
      obtain ⟨rfl, rfl, rfl, rfl⟩ := ki4 hf
      rw [hQ]
      exact k_lret hat hP hS rfl dX12_nearNow_54
  · have hf := kp_e hf c5
    refine lv_lconst (v := 0) hx hb dX12_nearNow_13 (by decide) ?_
    obtain ⟨rfl, rfl, rfl, rfl⟩ := ki4 hf
    rw [hQ]
    exact k_lret hat hP hS rfl dX12_nearNow_14
set_option maxHeartbeats 4000000 in
set_option maxRecDepth 100000 in
theorem c_X12_layShort {l : Launch} {D : va_G} {cI cJ cQ : ClassId} {tp : Nat} (q : Nat) (q_w : Nat) (q_imageSeed : Nat) (q_bookOf : Nat) (q_bookAt : Nat) (q_bookIs : Nat) (q_rs : Nat) (q_cs : Nat) (q_zs : Nat) (v_known : Int32) (v_kept : Int32) (v_seed : Int32) (v_written : Int32) (v_above : Int64) (v_below : Int64) (v_leftAbove : Int64) (v_leftBelow : Int64) (v_guessAbove : Int64) (v_guessBelow : Int64) (v_sign : Int32) (v_power2 : Int32) (v_bits : Int64) (F : Nat) (o_v_sign : Int32) (o_v_power2 : Int32) (o_v_bits : Int64) (hf : f_X12_layShort F v_above v_below v_sign v_power2 v_bits = some (o_v_sign, o_v_power2, o_v_bits)) : kM (fun A => kQv D A [(q, .inr (11, [.ref q_w, .int v_known, .int v_kept, .int v_seed, .ref q_imageSeed, .ref q_bookOf, .ref q_bookAt, .ref q_bookIs, .int v_written, .ref q_rs, .ref q_cs, .long v_above, .long v_below, .ref q_zs, .long v_leftAbove, .long v_leftBelow, .long v_guessAbove, .long v_guessBelow, .int o_v_sign, .int o_v_power2, .long o_v_bits]))]) none l yX12_layShort cX12_layShort 1 { frames := 2, cells := 0, slots := 0, locals := 47 } D cI cJ cQ tp [.ref q] [(q, .inr (11, [.ref q_w, .int v_known, .int v_kept, .int v_seed, .ref q_imageSeed, .ref q_bookOf, .ref q_bookAt, .ref q_bookIs, .int v_written, .ref q_rs, .ref q_cs, .long v_above, .long v_below, .ref q_zs, .long v_leftAbove, .long v_leftBelow, .long v_guessAbove, .long v_guessBelow, .int v_sign, .int v_power2, .long v_bits]))] := by
  refine kM_of (by decide +kernel) (Nat.le_of_ble_eq_true rfl) ?_
  intro p e s m args below meth c A ls R Q hR hQ hat hP hD hS hl
  obtain ⟨hx, hb, hr, hml, hown, hts, hT, hlk, hK, hA, hZ⟩ := id hat
  have hown : s.vm.findClass RX12 = some m.cls := hown
  have hl : lv_has ls 1 [(0, .ref q)] := hl
  unfold f_X12_layShort at hf
  refine lv_aload_n hx hb dX12_layShort_0 rfl (lv_at hl 0 rfl) ?_
  obtain ⟨w1, w2, w3, h4, hf⟩ := kb3_e hf
  refine k_gv (nW := 1) (ws' := [(q, .inr (11, [.ref q_w, .int v_known, .int v_kept, .int v_seed, .ref q_imageSeed, .ref q_bookOf, .ref q_bookAt, .ref q_bookIs, .int v_written, .ref q_rs, .ref q_cs, .long v_above, .long v_below, .ref q_zs, .long v_leftAbove, .long v_leftBelow, .long v_guessAbove, .long v_guessBelow, .int w1, .int w2, .long w3]))]) (wr := []) (k_runV (rest := []) hat hP hD hS hl.1 (c_X12_layNear q q_w q_imageSeed q_bookOf q_bookAt q_bookIs q_rs q_cs q_zs v_known v_kept v_seed v_written v_above v_below v_leftAbove v_leftBelow v_guessAbove v_guessBelow v_sign v_power2 v_bits F w1 w2 w3 h4) [0] (by decide) rfl kw1140 kw1142 kw56 kw79 kw1143 kdVX12_layNear ⟨rfl, rfl⟩ (by rw [hR]; exact ⟨Nat.le_of_ble_eq_true rfl, Nat.le_of_ble_eq_true rfl⟩) ⟨Nat.zero_le _, Nat.zero_le _⟩ 0 11 rfl rfl rfl rfl (Nat.le_of_ble_eq_true rfl) dX12_layShort_1) hat hP hD hS [0] rfl [] rfl rfl rfl rfl rfl (by decide) (fun H locs hP hD hS => ?_)
  refine lv_aload_n hx hb dX12_layShort_4 rfl (lv_at hl 0 rfl) ?_
  refine va_get (D := D) (ci := 11) (v := .long w3) (C := RX12) (T := TX12) (N := 21) hx hb hts kinX12 hown hK hP 0 rfl rfl 20 (by decide) (hts _ kw864) (fun _ h9 => h9) rfl dX12_layShort_5 ?_
  refine lv_lconst (v := 0) hx hb dX12_layShort_8 (by decide) ?_
  refine k_lcmp_le (tgt := 21) hx hb dX12_layShort_9 dX12_layShort_10 (by decide) (fun c5 => ?_) (fun c5 => ?_)
  · have hf := kp_e hf c5
    obtain ⟨rfl, rfl, rfl⟩ := ki3 hf
    rw [hQ]
    exact k_vret hat hP hS dX12_layShort_21
  · have hf := kn_e hf c5
    refine lv_aload_n hx hb dX12_layShort_13 rfl (lv_at hl 0 rfl) ?_
    refine lv_bipush (v := 29) hx hb dX12_layShort_14 (by decide) ?_
    refine lv_bipush (v := 24) hx hb dX12_layShort_16 (by decide) ?_
    obtain ⟨w6, w7, h8, hf⟩ := kb2_e hf
    refine k_gv (nW := 1) (ws' := [(q, .inr (11, [.ref q_w, .int v_known, .int v_kept, .int v_seed, .ref q_imageSeed, .ref q_bookOf, .ref q_bookAt, .ref q_bookIs, .int v_written, .ref q_rs, .ref q_cs, .long v_above, .long v_below, .ref q_zs, .long v_leftAbove, .long v_leftBelow, .long v_guessAbove, .long v_guessBelow, .int w1, .int w6, .long w7]))]) (wr := []) (k_runV (rest := []) hat hP hD hS hl.1 (c_X12_round q q_w q_imageSeed q_bookOf q_bookAt q_bookIs q_rs q_cs q_zs v_known v_kept v_seed v_written v_above v_below v_leftAbove v_leftBelow v_guessAbove v_guessBelow w1 w2 w3 (29 : Int32) (24 : Int32) w6 w7 h8) [0] (by decide) rfl kw1163 kw1165 kw60 kw79 kw1166 kdVX12_round ⟨rfl, rfl⟩ (by rw [hR]; exact ⟨Nat.le_of_ble_eq_true rfl, Nat.le_of_ble_eq_true rfl⟩) ⟨Nat.zero_le _, Nat.zero_le _⟩ 0 11 rfl rfl rfl rfl (Nat.le_of_ble_eq_true rfl) dX12_layShort_18) hat hP hD hS [0] rfl [] rfl rfl rfl rfl rfl (by decide) (fun H locs hP hD hS => ?_)
    obtain ⟨rfl, rfl, rfl⟩ := ki3 hf
    rw [hQ]
    exact k_vret hat hP hS dX12_layShort_21
set_option maxHeartbeats 4000000 in
set_option maxRecDepth 100000 in
theorem c_X12_shortNow {l : Launch} {D : va_G} {cI cJ cQ : ClassId} {tp : Nat} (q : Nat) (q_w : Nat) (q_imageSeed : Nat) (q_bookOf : Nat) (q_bookAt : Nat) (q_bookIs : Nat) (q_rs : Nat) (q_cs : Nat) (q_zs : Nat) (v_known : Int32) (v_kept : Int32) (v_seed : Int32) (v_written : Int32) (v_above : Int64) (v_below : Int64) (v_leftAbove : Int64) (v_leftBelow : Int64) (v_guessAbove : Int64) (v_guessBelow : Int64) (v_sign : Int32) (v_power2 : Int32) (v_bits : Int64) (F : Nat) (r0 : Int64) (o_v_sign : Int32) (o_v_power2 : Int32) (o_v_bits : Int64) (hf : f_X12_shortNow F v_above v_below v_sign v_power2 v_bits = some (r0, o_v_sign, o_v_power2, o_v_bits)) : kM (fun A => kQl D A [(q, .inr (11, [.ref q_w, .int v_known, .int v_kept, .int v_seed, .ref q_imageSeed, .ref q_bookOf, .ref q_bookAt, .ref q_bookIs, .int v_written, .ref q_rs, .ref q_cs, .long v_above, .long v_below, .ref q_zs, .long v_leftAbove, .long v_leftBelow, .long v_guessAbove, .long v_guessBelow, .int o_v_sign, .int o_v_power2, .long o_v_bits]))] r0) (some .long) l yX12_shortNow cX12_shortNow 1 { frames := 3, cells := 0, slots := 0, locals := 67 } D cI cJ cQ tp [.ref q] [(q, .inr (11, [.ref q_w, .int v_known, .int v_kept, .int v_seed, .ref q_imageSeed, .ref q_bookOf, .ref q_bookAt, .ref q_bookIs, .int v_written, .ref q_rs, .ref q_cs, .long v_above, .long v_below, .ref q_zs, .long v_leftAbove, .long v_leftBelow, .long v_guessAbove, .long v_guessBelow, .int v_sign, .int v_power2, .long v_bits]))] := by
  refine kM_of (by decide +kernel) (Nat.le_of_ble_eq_true rfl) ?_
  intro p e s m args below meth c A ls R Q hR hQ hat hP hD hS hl
  obtain ⟨hx, hb, hr, hml, hown, hts, hT, hlk, hK, hA, hZ⟩ := id hat
  have hown : s.vm.findClass RX12 = some m.cls := hown
  have hl : lv_has ls 1 [(0, .ref q)] := hl
  unfold f_X12_shortNow at hf
  refine lv_aload_n hx hb dX12_shortNow_0 rfl (lv_at hl 0 rfl) ?_
  obtain ⟨w1, w2, w3, h4, hf⟩ := kb3_e hf
  refine k_gv (nW := 1) (ws' := [(q, .inr (11, [.ref q_w, .int v_known, .int v_kept, .int v_seed, .ref q_imageSeed, .ref q_bookOf, .ref q_bookAt, .ref q_bookIs, .int v_written, .ref q_rs, .ref q_cs, .long v_above, .long v_below, .ref q_zs, .long v_leftAbove, .long v_leftBelow, .long v_guessAbove, .long v_guessBelow, .int w1, .int w2, .long w3]))]) (wr := []) (k_runV (rest := []) hat hP hD hS hl.1 (c_X12_layShort q q_w q_imageSeed q_bookOf q_bookAt q_bookIs q_rs q_cs q_zs v_known v_kept v_seed v_written v_above v_below v_leftAbove v_leftBelow v_guessAbove v_guessBelow v_sign v_power2 v_bits F w1 w2 w3 h4) [0] (by decide) rfl kw1159 kw1161 kw59 kw79 kw1162 kdVX12_layShort ⟨rfl, rfl⟩ (by rw [hR]; exact ⟨Nat.le_of_ble_eq_true rfl, Nat.le_of_ble_eq_true rfl⟩) ⟨Nat.zero_le _, Nat.zero_le _⟩ 0 11 rfl rfl rfl rfl (Nat.le_of_ble_eq_true rfl) dX12_shortNow_1) hat hP hD hS [0] rfl [] rfl rfl rfl rfl rfl (by decide) (fun H locs hP hD hS => ?_)
  refine lv_aload_n hx hb dX12_shortNow_4 rfl (lv_at hl 0 rfl) ?_
  refine va_get (D := D) (ci := 11) (v := .long w3) (C := RX12) (T := TX12) (N := 21) hx hb hts kinX12 hown hK hP 0 rfl rfl 20 (by decide) (hts _ kw864) (fun _ h9 => h9) rfl dX12_shortNow_5 ?_
  refine lv_lconst (v := 0) hx hb dX12_shortNow_8 (by decide) ?_
  refine k_lcmp_ne (tgt := 15) hx hb dX12_shortNow_9 dX12_shortNow_10 (by decide) (fun c5 => ?_) (fun c5 => ?_)
  · have hf := kn_e hf c5
    refine lv_aload_n hx hb dX12_shortNow_15 rfl (lv_at hl 0 rfl) ?_
    refine va_get (D := D) (ci := 11) (v := .int w1) (C := RX12) (T := TX12) (N := 21) hx hb hts kinX12 hown hK hP 0 rfl rfl 18 (by decide) (hts _ kw862) (fun _ h9 => h9) rfl dX12_shortNow_16 ?_
    refine lv_i2l hx hb dX12_shortNow_19 rfl ?_
    refine lv_bipush (v := 31) hx hb dX12_shortNow_20 (by decide) ?_
    refine lv_lshl hx hb dX12_shortNow_22 rfl ?_
    refine lv_aload_n hx hb dX12_shortNow_23 rfl (lv_at hl 0 rfl) ?_
    refine va_get (D := D) (ci := 11) (v := .int w2) (C := RX12) (T := TX12) (N := 21) hx hb hts kinX12 hown hK hP 0 rfl rfl 19 (by decide) (hts _ kw863) (fun _ h9 => h9) rfl dX12_shortNow_24 ?_
    refine lv_i2l hx hb dX12_shortNow_27 rfl ?_
    refine lv_ldc2 hx hb hown (hts _ kw1167) dX12_shortNow_28 ?_
    refine lv_ladd hx hb dX12_shortNow_31 ?_
    refine lv_bipush (v := 23) hx hb dX12_shortNow_32 (by decide) ?_
    refine lv_lshl hx hb dX12_shortNow_34 rfl ?_
    refine lv_ladd hx hb dX12_shortNow_35 ?_
    refine lv_aload_n hx hb dX12_shortNow_36 rfl (lv_at hl 0 rfl) ?_
    refine va_get (D := D) (ci := 11) (v := .long w3) (C := RX12) (T := TX12) (N := 21) hx hb hts kinX12 hown hK hP 0 rfl rfl 20 (by decide) (hts _ kw864) (fun _ h9 => h9) rfl dX12_shortNow_37 ?_
    refine lv_ladd hx hb dX12_shortNow_40 ?_
    refine lv_ldc2 hx hb hown (hts _ kw1168) dX12_shortNow_41 ?_
    refine lv_lsub hx hb dX12_shortNow_44 ?_
    obtain ⟨rfl, rfl, rfl, rfl⟩ := ki4 hf
    rw [hQ]
    exact k_lret hat hP hS rfl dX12_shortNow_45
  · have hf := kp_e hf c5
    refine lv_lconst (v := 0) hx hb dX12_shortNow_13 (by decide) ?_
    obtain ⟨rfl, rfl, rfl, rfl⟩ := ki4 hf
    rw [hQ]
    exact k_lret hat hP hS rfl dX12_shortNow_14
set_option maxHeartbeats 4000000 in
set_option maxRecDepth 100000 in
theorem c_X12_cutNow {l : Launch} {D : va_G} {cI cJ cQ : ClassId} {tp : Nat} (q : Nat) (q_w : Nat) (q_imageSeed : Nat) (q_bookOf : Nat) (q_bookAt : Nat) (q_bookIs : Nat) (q_rs : Nat) (q_cs : Nat) (q_zs : Nat) (v_known : Int32) (v_kept : Int32) (v_seed : Int32) (v_written : Int32) (v_above : Int64) (v_below : Int64) (v_leftAbove : Int64) (v_leftBelow : Int64) (v_guessAbove : Int64) (v_guessBelow : Int64) (v_sign : Int32) (v_power2 : Int32) (v_bits : Int64) (F : Nat) (r0 : Int64) (o_v_sign : Int32) (o_v_power2 : Int32) (o_v_bits : Int64) (hf : f_X12_cutNow F v_above v_below v_sign v_power2 v_bits = some (r0, o_v_sign, o_v_power2, o_v_bits)) : kM (fun A => kQl D A [(q, .inr (11, [.ref q_w, .int v_known, .int v_kept, .int v_seed, .ref q_imageSeed, .ref q_bookOf, .ref q_bookAt, .ref q_bookIs, .int v_written, .ref q_rs, .ref q_cs, .long v_above, .long v_below, .ref q_zs, .long v_leftAbove, .long v_leftBelow, .long v_guessAbove, .long v_guessBelow, .int o_v_sign, .int o_v_power2, .long o_v_bits]))] r0) (some .long) l yX12_cutNow cX12_cutNow 6 { frames := 3, cells := 0, slots := 0, locals := 67 } D cI cJ cQ tp [.ref q] [(q, .inr (11, [.ref q_w, .int v_known, .int v_kept, .int v_seed, .ref q_imageSeed, .ref q_bookOf, .ref q_bookAt, .ref q_bookIs, .int v_written, .ref q_rs, .ref q_cs, .long v_above, .long v_below, .ref q_zs, .long v_leftAbove, .long v_leftBelow, .long v_guessAbove, .long v_guessBelow, .int v_sign, .int v_power2, .long v_bits]))] := by
  refine kM_of (by decide +kernel) (Nat.le_of_ble_eq_true rfl) ?_
  intro p e s m args below meth c A ls R Q hR hQ hat hP hD hS hl
  obtain ⟨hx, hb, hr, hml, hown, hts, hT, hlk, hK, hA, hZ⟩ := id hat
  have hown : s.vm.findClass RX12 = some m.cls := hown
  have hl : lv_has ls 6 [(0, .ref q)] := hl
  have hL29 : ∀ (v_known : Int32) (v_kept : Int32) (v_seed : Int32) (v_written : Int32) (v_above : Int64) (v_below : Int64) (v_leftAbove : Int64) (v_leftBelow : Int64) (v_guessAbove : Int64) (v_guessBelow : Int64) (v_sign : Int32) (v_power2 : Int32) (v_bits : Int64) (fu : Nat) (x1 : Int32) (o0 : Int32), L_X12_cutNow_29 v_bits fu x1 = some o0 → (∀ (H : Heap) (locs : List Loc) (ls : Array Slot), va_P D vwCl [(q, .inr (11, [.ref q_w, .int v_known, .int v_kept, .int v_seed, .ref q_imageSeed, .ref q_bookOf, .ref q_bookAt, .ref q_bookIs, .int v_written, .ref q_rs, .ref q_cs, .long v_above, .long v_below, .ref q_zs, .long v_leftAbove, .long v_leftBelow, .long v_guessAbove, .long v_guessBelow, .int v_sign, .int v_power2, .long v_bits]))] H → va_D A [(q, .inr (11, [.ref q_w, .int v_known, .int v_kept, .int v_seed, .ref q_imageSeed, .ref q_bookOf, .ref q_bookAt, .ref q_bookIs, .int v_written, .ref q_rs, .ref q_cs, .long v_above, .long v_below, .ref q_zs, .long v_leftAbove, .long v_leftBelow, .long v_guessAbove, .long v_guessBelow, .int v_sign, .int v_power2, .long v_bits]))] → va_S A s.heap H locs → lv_has ls 6 [(0, .ref q), (1, .int o0)] → W p l e R s m args below meth c H locs 0 0 Q (F0 m 48 ls [])) → ∀ (H : Heap) (locs : List Loc) (ls : Array Slot), va_P D vwCl [(q, .inr (11, [.ref q_w, .int v_known, .int v_kept, .int v_seed, .ref q_imageSeed, .ref q_bookOf, .ref q_bookAt, .ref q_bookIs, .int v_written, .ref q_rs, .ref q_cs, .long v_above, .long v_below, .ref q_zs, .long v_leftAbove, .long v_leftBelow, .long v_guessAbove, .long v_guessBelow, .int v_sign, .int v_power2, .long v_bits]))] H → va_D A [(q, .inr (11, [.ref q_w, .int v_known, .int v_kept, .int v_seed, .ref q_imageSeed, .ref q_bookOf, .ref q_bookAt, .ref q_bookIs, .int v_written, .ref q_rs, .ref q_cs, .long v_above, .long v_below, .ref q_zs, .long v_leftAbove, .long v_leftBelow, .long v_guessAbove, .long v_guessBelow, .int v_sign, .int v_power2, .long v_bits]))] → va_S A s.heap H locs → lv_has ls 6 [(0, .ref q), (1, .int x1)] → W p l e R s m args below meth c H locs 0 0 Q (F0 m 29 ls []) := by
    intro v_known v_kept v_seed v_written v_above v_below v_leftAbove v_leftBelow v_guessAbove v_guessBelow v_sign v_power2 v_bits fu
    induction fu with
    | zero =>
      intro x1 o0 hf
      cases hf
    | succ fu ih =>
      intro x1 o0 hf hk0 H locs ls hP hD hS hl
      rw [L_X12_cutNow_29] at hf
      refine lv_aload_n hx hb dX12_cutNow_29 rfl (lv_at hl 0 rfl) ?_
      refine va_get (D := D) (ci := 11) (v := .long v_bits) (C := RX12) (T := TX12) (N := 21) hx hb hts kinX12 hown hK hP 0 rfl rfl 20 (by decide) (hts _ kw864) (fun _ h9 => h9) rfl dX12_cutNow_30 ?_
      refine lv_iload_n hx hb dX12_cutNow_33 rfl (lv_at hl 1 rfl) ?_
      refine lv_lshr hx hb dX12_cutNow_34 rfl ?_
      refine lv_ldc2 hx hb hown (hts _ kw1178) dX12_cutNow_35 ?_
      refine k_lcmp_lt (tgt := 48) hx hb dX12_cutNow_38 dX12_cutNow_39 (by decide) (fun c7 => ?_) (fun c7 => ?_)
      · have hf := kp_e hf c7
        obtain rfl := ki1 hf
        exact hk0 _ _ _ hP hD hS hl
      · have hf := kn_e hf c7
        obtain ⟨t8, et8⟩ : ∃ z : Int32, z = (x1 + (1 : Int32)) := ⟨_, rfl⟩
        have hf := kl_e hf t8 et8
        refine lv_iinc (v := t8) (lv' := [(1, .int t8), (0, .ref q)]) hx hb dX12_cutNow_42 hl (k := 1) rfl (by rw [et8]; rfl) (by decide) rfl (fun ls hl => ?_)
        refine lv_goto (tgt := 29) hx hb dX12_cutNow_45 (by decide) ?_
        exact ih t8 o0 hf hk0 _ _ _ hP hD hS (lv_sub hl [1, 0] rfl)
  have hL81 : ∀ (x2 : Int32) (v_known : Int32) (v_kept : Int32) (v_seed : Int32) (v_written : Int32) (v_above : Int64) (v_below : Int64) (v_leftAbove : Int64) (v_leftBelow : Int64) (v_guessAbove : Int64) (v_guessBelow : Int64) (v_sign : Int32) (v_power2 : Int32) (v_bits : Int64) (fu : Nat) (x3 : Int64) (x5 : Int32) (o0 : Int64), L_X12_cutNow_81 x2 fu x3 x5 = some o0 → (∀ (H : Heap) (locs : List Loc) (ls : Array Slot), va_P D vwCl [(q, .inr (11, [.ref q_w, .int v_known, .int v_kept, .int v_seed, .ref q_imageSeed, .ref q_bookOf, .ref q_bookAt, .ref q_bookIs, .int v_written, .ref q_rs, .ref q_cs, .long v_above, .long v_below, .ref q_zs, .long v_leftAbove, .long v_leftBelow, .long v_guessAbove, .long v_guessBelow, .int v_sign, .int v_power2, .long v_bits]))] H → va_D A [(q, .inr (11, [.ref q_w, .int v_known, .int v_kept, .int v_seed, .ref q_imageSeed, .ref q_bookOf, .ref q_bookAt, .ref q_bookIs, .int v_written, .ref q_rs, .ref q_cs, .long v_above, .long v_below, .ref q_zs, .long v_leftAbove, .long v_leftBelow, .long v_guessAbove, .long v_guessBelow, .int v_sign, .int v_power2, .long v_bits]))] → va_S A s.heap H locs → lv_has ls 6 [(0, .ref q), (2, .int x2), (3, .long o0)] → W p l e R s m args below meth c H locs 0 0 Q (F0 m 107 ls [])) → ∀ (H : Heap) (locs : List Loc) (ls : Array Slot), va_P D vwCl [(q, .inr (11, [.ref q_w, .int v_known, .int v_kept, .int v_seed, .ref q_imageSeed, .ref q_bookOf, .ref q_bookAt, .ref q_bookIs, .int v_written, .ref q_rs, .ref q_cs, .long v_above, .long v_below, .ref q_zs, .long v_leftAbove, .long v_leftBelow, .long v_guessAbove, .long v_guessBelow, .int v_sign, .int v_power2, .long v_bits]))] H → va_D A [(q, .inr (11, [.ref q_w, .int v_known, .int v_kept, .int v_seed, .ref q_imageSeed, .ref q_bookOf, .ref q_bookAt, .ref q_bookIs, .int v_written, .ref q_rs, .ref q_cs, .long v_above, .long v_below, .ref q_zs, .long v_leftAbove, .long v_leftBelow, .long v_guessAbove, .long v_guessBelow, .int v_sign, .int v_power2, .long v_bits]))] → va_S A s.heap H locs → lv_has ls 6 [(0, .ref q), (2, .int x2), (3, .long x3), (5, .int x5)] → W p l e R s m args below meth c H locs 0 0 Q (F0 m 81 ls []) := by
    intro x2 v_known v_kept v_seed v_written v_above v_below v_leftAbove v_leftBelow v_guessAbove v_guessBelow v_sign v_power2 v_bits fu
    induction fu with
    | zero =>
      intro x3 x5 o0 hf
      cases hf
    | succ fu ih =>
      intro x3 x5 o0 hf hk0 H locs ls hP hD hS hl
      rw [L_X12_cutNow_81] at hf
      refine lv_iload hx hb dX12_cutNow_81 (lv_at hl 3 rfl) ?_
      refine lv_iload_n hx hb dX12_cutNow_83 rfl (lv_at hl 1 rfl) ?_
      refine lv_icmp_ge (tgt := 107) hx hb dX12_cutNow_84 (by decide) (fun c15 => ?_) (fun c15 => ?_)
      · have hf := kp_e hf c15
        obtain rfl := ki1 hf
        exact hk0 _ _ _ hP hD hS (lv_sub hl [0, 1, 2] rfl)
      · have hf := kn_e hf c15
        refine lv_lload_n hx hb dX12_cutNow_87 rfl (lv_at hl 2 rfl) ?_
        refine lv_ldc2 hx hb hown (hts _ kw1179) dX12_cutNow_88 ?_
        refine k_lcmp_ge (tgt := 107) hx hb dX12_cutNow_91 dX12_cutNow_92 (by decide) (fun c16 => ?_) (fun c16 => ?_)
        · have hf := kp_e hf c16
          obtain rfl := ki1 hf
          exact hk0 _ _ _ hP hD hS (lv_sub hl [0, 1, 2] rfl)
        · have hf := kn_e hf c16
          refine lv_lload_n hx hb dX12_cutNow_95 rfl (lv_at hl 2 rfl) ?_
          refine lv_ldc2 hx hb hown (hts _ kw1024) dX12_cutNow_96 ?_
          refine lv_lmul hx hb dX12_cutNow_99 ?_
          refine lv_topl (fun t17 et17 => ?_)
          have hf := kl_e hf t17 et17
          refine lv_lstore_n (lv' := [(3, .long t17), (0, .ref q), (2, .int x2), (5, .int x5)]) hx hb dX12_cutNow_100 rfl hl (by decide) rfl (fun ls hl => ?_)
          obtain ⟨t18, et18⟩ : ∃ z : Int32, z = (x5 + (1 : Int32)) := ⟨_, rfl⟩
          have hf := kl_e hf t18 et18
          refine lv_iinc (v := t18) (lv' := [(5, .int t18), (3, .long t17), (0, .ref q), (2, .int x2)]) hx hb dX12_cutNow_101 hl (k := 3) rfl (by rw [et18]; rfl) (by decide) rfl (fun ls hl => ?_)
          refine lv_goto (tgt := 81) hx hb dX12_cutNow_104 (by decide) ?_
          exact ih t17 t18 o0 hf hk0 _ _ _ hP hD hS (lv_sub hl [2, 3, 1, 0] rfl)
  have hL110 : ∀ (v_known : Int32) (v_kept : Int32) (v_seed : Int32) (v_written : Int32) (v_above : Int64) (v_below : Int64) (v_leftAbove : Int64) (v_leftBelow : Int64) (v_guessAbove : Int64) (v_guessBelow : Int64) (v_sign : Int32) (v_power2 : Int32) (v_bits : Int64) (fu : Nat) (x3 : Int64) (x5 : Int32) (o0 : Int64), L_X12_cutNow_110 fu x3 x5 = some o0 → (∀ (H : Heap) (locs : List Loc) (ls : Array Slot), va_P D vwCl [(q, .inr (11, [.ref q_w, .int v_known, .int v_kept, .int v_seed, .ref q_imageSeed, .ref q_bookOf, .ref q_bookAt, .ref q_bookIs, .int v_written, .ref q_rs, .ref q_cs, .long v_above, .long v_below, .ref q_zs, .long v_leftAbove, .long v_leftBelow, .long v_guessAbove, .long v_guessBelow, .int v_sign, .int v_power2, .long v_bits]))] H → va_D A [(q, .inr (11, [.ref q_w, .int v_known, .int v_kept, .int v_seed, .ref q_imageSeed, .ref q_bookOf, .ref q_bookAt, .ref q_bookIs, .int v_written, .ref q_rs, .ref q_cs, .long v_above, .long v_below, .ref q_zs, .long v_leftAbove, .long v_leftBelow, .long v_guessAbove, .long v_guessBelow, .int v_sign, .int v_power2, .long v_bits]))] → va_S A s.heap H locs → lv_has ls 6 [(0, .ref q), (3, .long o0)] → W p l e R s m args below meth c H locs 0 0 Q (F0 m 127 ls [])) → ∀ (H : Heap) (locs : List Loc) (ls : Array Slot), va_P D vwCl [(q, .inr (11, [.ref q_w, .int v_known, .int v_kept, .int v_seed, .ref q_imageSeed, .ref q_bookOf, .ref q_bookAt, .ref q_bookIs, .int v_written, .ref q_rs, .ref q_cs, .long v_above, .long v_below, .ref q_zs, .long v_leftAbove, .long v_leftBelow, .long v_guessAbove, .long v_guessBelow, .int v_sign, .int v_power2, .long v_bits]))] H → va_D A [(q, .inr (11, [.ref q_w, .int v_known, .int v_kept, .int v_seed, .ref q_imageSeed, .ref q_bookOf, .ref q_bookAt, .ref q_bookIs, .int v_written, .ref q_rs, .ref q_cs, .long v_above, .long v_below, .ref q_zs, .long v_leftAbove, .long v_leftBelow, .long v_guessAbove, .long v_guessBelow, .int v_sign, .int v_power2, .long v_bits]))] → va_S A s.heap H locs → lv_has ls 6 [(0, .ref q), (3, .long x3), (5, .int x5)] → W p l e R s m args below meth c H locs 0 0 Q (F0 m 110 ls []) := by
    intro v_known v_kept v_seed v_written v_above v_below v_leftAbove v_leftBelow v_guessAbove v_guessBelow v_sign v_power2 v_bits fu
    induction fu with
    | zero =>
      intro x3 x5 o0 hf
      cases hf
    | succ fu ih =>
      intro x3 x5 o0 hf hk0 H locs ls hP hD hS hl
      rw [L_X12_cutNow_110] at hf
      refine lv_iload hx hb dX12_cutNow_110 (lv_at hl 2 rfl) ?_
      refine lv_if_ge (tgt := 127) hx hb dX12_cutNow_112 (by decide) (fun c20 => ?_) (fun c20 => ?_)
      · have hf := kp_e hf c20
        obtain rfl := ki1 hf
        exact hk0 _ _ _ hP hD hS (lv_sub hl [0, 1] rfl)
      · have hf := kn_e hf c20
        refine lv_lload_n hx hb dX12_cutNow_115 rfl (lv_at hl 1 rfl) ?_
        refine lv_ldc2 hx hb hown (hts _ kw1024) dX12_cutNow_116 ?_
        refine lv_ldiv hx hb dX12_cutNow_119 (by decide) ?_
        refine lv_topl (fun t21 et21 => ?_)
        have hf := kl_e hf t21 et21
        refine lv_lstore_n (lv' := [(3, .long t21), (0, .ref q), (5, .int x5)]) hx hb dX12_cutNow_120 rfl hl (by decide) rfl (fun ls hl => ?_)
        obtain ⟨t22, et22⟩ : ∃ z : Int32, z = (x5 + (1 : Int32)) := ⟨_, rfl⟩
        have hf := kl_e hf t22 et22
        refine lv_iinc (v := t22) (lv' := [(5, .int t22), (3, .long t21), (0, .ref q)]) hx hb dX12_cutNow_121 hl (k := 2) rfl (by rw [et22]; rfl) (by decide) rfl (fun ls hl => ?_)
        refine lv_goto (tgt := 110) hx hb dX12_cutNow_124 (by decide) ?_
        exact ih t21 t22 o0 hf hk0 _ _ _ hP hD hS (lv_sub hl [2, 1, 0] rfl)
  unfold f_X12_cutNow at hf
  refine lv_aload_n hx hb dX12_cutNow_0 rfl (lv_at hl 0 rfl) ?_
  obtain ⟨w1, w2, w3, h4, hf⟩ := kb3_e hf
  refine k_gv (nW := 1) (ws' := [(q, .inr (11, [.ref q_w, .int v_known, .int v_kept, .int v_seed, .ref q_imageSeed, .ref q_bookOf, .ref q_bookAt, .ref q_bookIs, .int v_written, .ref q_rs, .ref q_cs, .long v_above, .long v_below, .ref q_zs, .long v_leftAbove, .long v_leftBelow, .long v_guessAbove, .long v_guessBelow, .int w1, .int w2, .long w3]))]) (wr := []) (k_runV (rest := []) hat hP hD hS hl.1 (c_X12_layShort q q_w q_imageSeed q_bookOf q_bookAt q_bookIs q_rs q_cs q_zs v_known v_kept v_seed v_written v_above v_below v_leftAbove v_leftBelow v_guessAbove v_guessBelow v_sign v_power2 v_bits F w1 w2 w3 h4) [0] (by decide) rfl kw1159 kw1161 kw59 kw79 kw1162 kdVX12_layShort ⟨rfl, rfl⟩ (by rw [hR]; exact ⟨Nat.le_of_ble_eq_true rfl, Nat.le_of_ble_eq_true rfl⟩) ⟨Nat.zero_le _, Nat.zero_le _⟩ 0 11 rfl rfl rfl rfl (Nat.le_of_ble_eq_true rfl) dX12_cutNow_1) hat hP hD hS [0] rfl [] rfl rfl rfl rfl rfl (by decide) (fun H locs hP hD hS => ?_)
  refine lv_aload_n hx hb dX12_cutNow_4 rfl (lv_at hl 0 rfl) ?_
  refine va_get (D := D) (ci := 11) (v := .long w3) (C := RX12) (T := TX12) (N := 21) hx hb hts kinX12 hown hK hP 0 rfl rfl 20 (by decide) (hts _ kw864) (fun _ h9 => h9) rfl dX12_cutNow_5 ?_
  refine lv_lconst (v := 0) hx hb dX12_cutNow_8 (by decide) ?_
  refine k_lcmp_ne (tgt := 15) hx hb dX12_cutNow_9 dX12_cutNow_10 (by decide) (fun c5 => ?_) (fun c5 => ?_)
  · have hf := kn_e hf c5
    refine lv_aload_n hx hb dX12_cutNow_15 rfl (lv_at hl 0 rfl) ?_
    refine lv_dup hx hb dX12_cutNow_16 rfl ?_
    refine va_get (D := D) (ci := 11) (v := .long w3) (C := RX12) (T := TX12) (N := 21) hx hb hts kinX12 hown hK hP 0 rfl rfl 20 (by decide) (hts _ kw864) (fun _ h9 => h9) rfl dX12_cutNow_17 ?_
    refine lv_ldc2 hx hb hown (hts _ kw1177) dX12_cutNow_20 ?_
    refine lv_lmul hx hb dX12_cutNow_23 ?_
    refine lv_topl (fun t6 et6 => ?_)
    have hf := kl_e hf t6 et6
    refine va_put (D := D) (ci := 11) (v := .long t6) (ty := .long) (C := RX12) (T := TX12) (N := 21) hx hb hts kinX12 tyX12 tyX12_ok nmX12 hown hK hP hD hS 0 rfl rfl 20 (by decide) (hts _ kw864) (fun _ h9 => h9) rfl (by decide +kernel) rfl rfl (Nat.le_of_ble_eq_true rfl) dX12_cutNow_24 (fun H locs hP hD hS => ?_)
    have hP : va_P D vwCl [(q, .inr (11, [.ref q_w, .int v_known, .int v_kept, .int v_seed, .ref q_imageSeed, .ref q_bookOf, .ref q_bookAt, .ref q_bookIs, .int v_written, .ref q_rs, .ref q_cs, .long v_above, .long v_below, .ref q_zs, .long v_leftAbove, .long v_leftBelow, .long v_guessAbove, .long v_guessBelow, .int w1, .int w2, .long t6]))] H := hP
    have hD : va_D A [(q, .inr (11, [.ref q_w, .int v_known, .int v_kept, .int v_seed, .ref q_imageSeed, .ref q_bookOf, .ref q_bookAt, .ref q_bookIs, .int v_written, .ref q_rs, .ref q_cs, .long v_above, .long v_below, .ref q_zs, .long v_leftAbove, .long v_leftBelow, .long v_guessAbove, .long v_guessBelow, .int w1, .int w2, .long t6]))] := hD
    refine lv_iconst (v := 0) hx hb dX12_cutNow_27 (by decide) ?_
    refine lv_istore_n (lv' := [(1, .int (0 : Int32)), (0, .ref q)]) hx hb dX12_cutNow_28 rfl hl (by decide) rfl (fun ls hl => ?_)
    obtain ⟨y9, hu, hf⟩ := kb1_e hf
    refine hL29 v_known v_kept v_seed v_written v_above v_below v_leftAbove v_leftBelow v_guessAbove v_guessBelow w1 w2 t6 F (0 : Int32) y9 hu (fun H locs ls hP hD hS hl => ?_) _ _ _ hP hD hS (lv_sub hl [1, 0] rfl)
    refine lv_aload_n hx hb dX12_cutNow_48 rfl (lv_at hl 0 rfl) ?_
    refine lv_dup hx hb dX12_cutNow_49 rfl ?_
    refine va_get (D := D) (ci := 11) (v := .int w2) (C := RX12) (T := TX12) (N := 21) hx hb hts kinX12 hown hK hP 0 rfl rfl 19 (by decide) (hts _ kw863) (fun _ h9 => h9) rfl dX12_cutNow_50 ?_
    refine lv_iload_n hx hb dX12_cutNow_53 rfl (lv_at hl 1 rfl) ?_
    refine lv_iadd hx hb dX12_cutNow_54 ?_
    refine lv_topi (fun t10 et10 => ?_)
    have hf := kl_e hf t10 et10
    refine va_put (D := D) (ci := 11) (v := .int t10) (ty := .int) (C := RX12) (T := TX12) (N := 21) hx hb hts kinX12 tyX12 tyX12_ok nmX12 hown hK hP hD hS 0 rfl rfl 19 (by decide) (hts _ kw863) (fun _ h9 => h9) rfl (by decide +kernel) rfl rfl (Nat.le_of_ble_eq_true rfl) dX12_cutNow_55 (fun H locs hP hD hS => ?_)
    have hP : va_P D vwCl [(q, .inr (11, [.ref q_w, .int v_known, .int v_kept, .int v_seed, .ref q_imageSeed, .ref q_bookOf, .ref q_bookAt, .ref q_bookIs, .int v_written, .ref q_rs, .ref q_cs, .long v_above, .long v_below, .ref q_zs, .long v_leftAbove, .long v_leftBelow, .long v_guessAbove, .long v_guessBelow, .int w1, .int t10, .long t6]))] H := hP
    have hD : va_D A [(q, .inr (11, [.ref q_w, .int v_known, .int v_kept, .int v_seed, .ref q_imageSeed, .ref q_bookOf, .ref q_bookAt, .ref q_bookIs, .int v_written, .ref q_rs, .ref q_cs, .long v_above, .long v_below, .ref q_zs, .long v_leftAbove, .long v_leftBelow, .long v_guessAbove, .long v_guessBelow, .int w1, .int t10, .long t6]))] := hD
    refine lv_aload_n hx hb dX12_cutNow_58 rfl (lv_at hl 0 rfl) ?_
    refine lv_iload_n hx hb dX12_cutNow_59 rfl (lv_at hl 1 rfl) ?_
    refine lv_bipush (v := 24) hx hb dX12_cutNow_60 (by decide) ?_
    obtain ⟨w11, w12, h13, hf⟩ := kb2_e hf
    refine k_gv (nW := 1) (ws' := [(q, .inr (11, [.ref q_w, .int v_known, .int v_kept, .int v_seed, .ref q_imageSeed, .ref q_bookOf, .ref q_bookAt, .ref q_bookIs, .int v_written, .ref q_rs, .ref q_cs, .long v_above, .long v_below, .ref q_zs, .long v_leftAbove, .long v_leftBelow, .long v_guessAbove, .long v_guessBelow, .int w1, .int w11, .long w12]))]) (wr := []) (k_runV (rest := []) hat hP hD hS hl.1 (c_X12_round q q_w q_imageSeed q_bookOf q_bookAt q_bookIs q_rs q_cs q_zs v_known v_kept v_seed v_written v_above v_below v_leftAbove v_leftBelow v_guessAbove v_guessBelow w1 t10 t6 y9 (24 : Int32) w11 w12 h13) [0] (by decide) rfl kw1163 kw1165 kw60 kw79 kw1166 kdVX12_round ⟨rfl, rfl⟩ (by rw [hR]; exact ⟨Nat.le_of_ble_eq_true rfl, Nat.le_of_ble_eq_true rfl⟩) ⟨Nat.zero_le _, Nat.zero_le _⟩ 0 11 rfl rfl rfl rfl (Nat.le_of_ble_eq_true rfl) dX12_cutNow_62) hat hP hD hS [0] rfl [] rfl rfl rfl rfl rfl (by decide) (fun H locs hP hD hS => ?_)
    refine lv_aload_n hx hb dX12_cutNow_65 rfl (lv_at hl 0 rfl) ?_
    refine va_get (D := D) (ci := 11) (v := .int w11) (C := RX12) (T := TX12) (N := 21) hx hb hts kinX12 hown hK hP 0 rfl rfl 19 (by decide) (hts _ kw863) (fun _ h9 => h9) rfl dX12_cutNow_66 ?_
    refine lv_bipush (v := 23) hx hb dX12_cutNow_69 (by decide) ?_
    refine lv_isub hx hb dX12_cutNow_71 ?_
    refine lv_topi (fun t14 et14 => ?_)
    have hf := kl_e hf t14 et14
    refine lv_istore_n (lv' := [(2, .int t14), (0, .ref q), (1, .int y9)]) hx hb dX12_cutNow_72 rfl hl (by decide) rfl (fun ls hl => ?_)
    refine lv_aload_n hx hb dX12_cutNow_73 rfl (lv_at hl 1 rfl) ?_
    refine va_get (D := D) (ci := 11) (v := .long w12) (C := RX12) (T := TX12) (N := 21) hx hb hts kinX12 hown hK hP 0 rfl rfl 20 (by decide) (hts _ kw864) (fun _ h9 => h9) rfl dX12_cutNow_74 ?_
    refine lv_lstore_n (lv' := [(3, .long w12), (2, .int t14), (0, .ref q), (1, .int y9)]) hx hb dX12_cutNow_77 rfl hl (by decide) rfl (fun ls hl => ?_)
    refine lv_iconst (v := 0) hx hb dX12_cutNow_78 (by decide) ?_
    refine lv_istore (lv' := [(5, .int (0 : Int32)), (3, .long w12), (2, .int t14), (0, .ref q), (1, .int y9)]) hx hb dX12_cutNow_79 hl (by decide) rfl (fun ls hl => ?_)
    obtain ⟨y19, hu, hf⟩ := kb1_e hf
    refine hL81 t14 v_known v_kept v_seed v_written v_above v_below v_leftAbove v_leftBelow v_guessAbove v_guessBelow w1 w11 w12 F w12 (0 : Int32) y19 hu (fun H locs ls hP hD hS hl => ?_) _ _ _ hP hD hS (lv_sub hl [3, 2, 1, 0] rfl)
    refine lv_iload_n hx hb dX12_cutNow_107 rfl (lv_at hl 1 rfl) ?_
    refine lv_istore (lv' := [(5, .int t14), (0, .ref q), (2, .int t14), (3, .long y19)]) hx hb dX12_cutNow_108 hl (by decide) rfl (fun ls hl => ?_)
    obtain ⟨y23, hu, hf⟩ := kb1_e hf
    refine hL110 v_known v_kept v_seed v_written v_above v_below v_leftAbove v_leftBelow v_guessAbove v_guessBelow w1 w11 w12 F y19 t14 y23 hu (fun H locs ls hP hD hS hl => ?_) _ _ _ hP hD hS (lv_sub hl [1, 3, 0] rfl)
    refine lv_aload_n hx hb dX12_cutNow_127 rfl (lv_at hl 0 rfl) ?_
    refine va_get (D := D) (ci := 11) (v := .int w1) (C := RX12) (T := TX12) (N := 21) hx hb hts kinX12 hown hK hP 0 rfl rfl 18 (by decide) (hts _ kw862) (fun _ h9 => h9) rfl dX12_cutNow_128 ?_
    refine lv_iconst (v := 1) hx hb dX12_cutNow_131 (by decide) ?_
    refine lv_icmp_ne (tgt := 154) hx hb dX12_cutNow_132 (by decide) (fun c24 => ?_) (fun c24 => ?_)
    · have hf := kn_e hf c24
      refine lv_lload_n hx hb dX12_cutNow_154 rfl (lv_at hl 1 rfl) ?_
      refine lv_ldc2 hx hb hown (hts _ kw1182) dX12_cutNow_155 ?_
      refine k_lcmp_le (tgt := 168) hx hb dX12_cutNow_158 dX12_cutNow_159 (by decide) (fun c25 => ?_) (fun c25 => ?_)
      · have hf := kp_e hf c25
        refine lv_lload_n hx hb dX12_cutNow_168 rfl (lv_at hl 1 rfl) ?_
        obtain ⟨rfl, rfl, rfl, rfl⟩ := ki4 hf
        rw [hQ]
        exact k_lret hat hP hS rfl dX12_cutNow_169
      · have hf := kn_e hf c25
        refine lv_ldc2 hx hb hown (hts _ kw1182) dX12_cutNow_162 ?_
        refine lv_goto (tgt := 169) hx hb dX12_cutNow_165 (by decide) ?_
        obtain ⟨rfl, rfl, rfl, rfl⟩ := ki4 hf
        rw [hQ]
        exact k_lret hat hP hS rfl dX12_cutNow_169
    · have hf := kp_e hf c24
      refine lv_lload_n hx hb dX12_cutNow_135 rfl (lv_at hl 1 rfl) ?_
      refine lv_ldc2 hx hb hown (hts _ kw1180) dX12_cutNow_136 ?_
      refine k_lcmp_le (tgt := 149) hx hb dX12_cutNow_139 dX12_cutNow_140 (by decide) (fun c26 => ?_) (fun c26 => ?_)
      · have hf := kp_e hf c26
        refine lv_lload_n hx hb dX12_cutNow_149 rfl (lv_at hl 1 rfl) ?_
        refine lv_lneg hx hb dX12_cutNow_150 ?_
        refine lv_goto (tgt := 169) hx hb dX12_cutNow_151 (by decide) ?_
        obtain ⟨rfl, rfl, rfl, rfl⟩ := ki4 hf
        rw [hQ]
        exact k_lret hat hP hS rfl dX12_cutNow_169
      · have hf := kn_e hf c26
        refine lv_ldc2 hx hb hown (hts _ kw1181) dX12_cutNow_143 ?_
        refine lv_goto (tgt := 169) hx hb dX12_cutNow_146 (by decide) ?_
        obtain ⟨rfl, rfl, rfl, rfl⟩ := ki4 hf
        rw [hQ]
        exact k_lret hat hP hS rfl dX12_cutNow_169
  · have hf := kp_e hf c5
    refine lv_lconst (v := 0) hx hb dX12_cutNow_13 (by decide) ?_
    obtain ⟨rfl, rfl, rfl, rfl⟩ := ki4 hf
    rw [hQ]
    exact k_lret hat hP hS rfl dX12_cutNow_14
set_option maxHeartbeats 4000000 in
set_option maxRecDepth 100000 in
theorem c_X12_isRow {l : Launch} {D : va_G} {cI cJ cQ : ClassId} {tp : Nat} (q : Nat) (q_w : Nat) (q_imageSeed : Nat) (q_bookOf : Nat) (q_bookAt : Nat) (q_bookIs : Nat) (q_rs : Nat) (q_cs : Nat) (q_zs : Nat) (v_known : Int32) (v_kept : Int32) (v_seed : Int32) (v_written : Int32) (v_above : Int64) (v_below : Int64) (v_leftAbove : Int64) (v_leftBelow : Int64) (v_guessAbove : Int64) (v_guessBelow : Int64) (v_sign : Int32) (v_power2 : Int32) (v_bits : Int64) (v_w : (Nat → Int32)) (x1 : Int32) (r0 : Int32) (hf : f_X12_isRow v_w x1 = some r0) : kM (fun A => kQi D A [(q, .inr (11, [.ref q_w, .int v_known, .int v_kept, .int v_seed, .ref q_imageSeed, .ref q_bookOf, .ref q_bookAt, .ref q_bookIs, .int v_written, .ref q_rs, .ref q_cs, .long v_above, .long v_below, .ref q_zs, .long v_leftAbove, .long v_leftBelow, .long v_guessAbove, .long v_guessBelow, .int v_sign, .int v_power2, .long v_bits])), (q_w, .inl (cI, 418, .inl v_w))] r0) (some .boolean) l yX12_isRow cX12_isRow 2 { frames := 1, cells := 0, slots := 0, locals := 25 } D cI cJ cQ tp [.ref q, .int x1] [(q, .inr (11, [.ref q_w, .int v_known, .int v_kept, .int v_seed, .ref q_imageSeed, .ref q_bookOf, .ref q_bookAt, .ref q_bookIs, .int v_written, .ref q_rs, .ref q_cs, .long v_above, .long v_below, .ref q_zs, .long v_leftAbove, .long v_leftBelow, .long v_guessAbove, .long v_guessBelow, .int v_sign, .int v_power2, .long v_bits])), (q_w, .inl (cI, 418, .inl v_w))] := by
  refine kM_of (by decide +kernel) (Nat.le_of_ble_eq_true rfl) ?_
  intro p e s m args below meth c A ls R Q hR hQ hat hP hD hS hl
  obtain ⟨hx, hb, hr, hml, hown, hts, hT, hlk, hK, hA, hZ⟩ := id hat
  have hown : s.vm.findClass RX12 = some m.cls := hown
  have hl : lv_has ls 2 [(0, .ref q), (1, .int x1)] := hl
  unfold f_X12_isRow at hf
  refine lv_iload_n hx hb dX12_isRow_0 rfl (lv_at hl 1 rfl) ?_
  refine lv_i2l hx hb dX12_isRow_1 rfl ?_
  refine lv_lconst (v := 0) hx hb dX12_isRow_2 (by decide) ?_
  refine lv_aload_n hx hb dX12_isRow_3 rfl (lv_at hl 0 rfl) ?_
  obtain ⟨r1, h2, hf⟩ := kb1_e hf
  refine k_gi (nW := 2) (ws' := [(q, .inr (11, [.ref q_w, .int v_known, .int v_kept, .int v_seed, .ref q_imageSeed, .ref q_bookOf, .ref q_bookAt, .ref q_bookIs, .int v_written, .ref q_rs, .ref q_cs, .long v_above, .long v_below, .ref q_zs, .long v_leftAbove, .long v_leftBelow, .long v_guessAbove, .long v_guessBelow, .int v_sign, .int v_power2, .long v_bits])), (q_w, .inl (cI, 418, .inl v_w))]) (wr := []) (k_runV (rest := [.long (0 : Int64), .long (x1.toInt64)]) hat hP hD hS hl.1 (c_X12_n q q_w q_imageSeed q_bookOf q_bookAt q_bookIs q_rs q_cs q_zs v_known v_kept v_seed v_written v_above v_below v_leftAbove v_leftBelow v_guessAbove v_guessBelow v_sign v_power2 v_bits v_w r1 h2) [0, 1] (by decide) rfl kw912 kw914 kw19 kw79 kw915 kdVX12_n ⟨rfl, rfl⟩ (by rw [hR]; exact ⟨Nat.le_of_ble_eq_true rfl, Nat.le_of_ble_eq_true rfl⟩) ⟨Nat.zero_le _, Nat.zero_le _⟩ 0 11 rfl rfl rfl rfl (Nat.le_of_ble_eq_true rfl) dX12_isRow_4) hat hP hD hS [0, 1] rfl [] rfl rfl rfl rfl rfl (by decide) (fun H locs hP hD hS => ?_)
  refine lv_iconst (v := 1) hx hb dX12_isRow_7 (by decide) ?_
  refine lv_isub hx hb dX12_isRow_8 ?_
  refine lv_i2l hx hb dX12_isRow_9 rfl ?_
  obtain ⟨r3, h4, hf⟩ := kb1_e hf
  refine k_gi (nW := 2) (ws' := [(q, .inr (11, [.ref q_w, .int v_known, .int v_kept, .int v_seed, .ref q_imageSeed, .ref q_bookOf, .ref q_bookAt, .ref q_bookIs, .int v_written, .ref q_rs, .ref q_cs, .long v_above, .long v_below, .ref q_zs, .long v_leftAbove, .long v_leftBelow, .long v_guessAbove, .long v_guessBelow, .int v_sign, .int v_power2, .long v_bits])), (q_w, .inl (cI, 418, .inl v_w))]) (wr := [(q, .inr (11, [.ref q_w, .int v_known, .int v_kept, .int v_seed, .ref q_imageSeed, .ref q_bookOf, .ref q_bookAt, .ref q_bookIs, .int v_written, .ref q_rs, .ref q_cs, .long v_above, .long v_below, .ref q_zs, .long v_leftAbove, .long v_leftBelow, .long v_guessAbove, .long v_guessBelow, .int v_sign, .int v_power2, .long v_bits])), (q_w, .inl (cI, 418, .inl v_w))]) (k_runS (rest := []) hat hP hD hS hl.1 (c_X12_in (x1.toInt64) (0 : Int64) ((r1 - (1 : Int32)).toInt64) r3 h4) [] (by decide) rfl kw1058 kw1059 kw79 kw1060 kdX12_in ⟨rfl, rfl⟩ (by rw [hR]; exact ⟨Nat.le_of_ble_eq_true rfl, Nat.le_of_ble_eq_true rfl⟩) ⟨Nat.zero_le _, Nat.zero_le _⟩ rfl rfl (Nat.le_of_ble_eq_true rfl) dX12_isRow_10) hat hP hD hS [] rfl [0, 1] rfl rfl rfl rfl rfl (by decide) (fun H locs hP hD hS => ?_)
  obtain ⟨c5, hf⟩ := kc_e hf
  obtain rfl := ki1 hf
  rw [hQ]
  exact k_zret hat hP hS rfl c5 dX12_isRow_13
