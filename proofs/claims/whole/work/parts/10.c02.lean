set_option maxHeartbeats 4000000 in
set_option maxRecDepth 100000 in
theorem c_X12_pick {l : Launch} {D : va_G} {cI cJ cQ : ClassId} {tp : Nat} (F : Nat) (x0 : Int32) (x1 : Int32) (r0 : Int32) (hf : f_X12_pick F x0 x1 = some r0) : kM (fun A => kQi D A [] r0) (some .int) l yX12_pick cX12_pick 4 { frames := 1, cells := 0, slots := 0, locals := 21 } D cI cJ cQ tp [.int x0, .int x1] [] := by
  refine kM_of (by decide +kernel) (Nat.le_of_ble_eq_true rfl) ?_
  intro p e s m args below meth c A ls R Q hR hQ hat hP hD hS hl
  obtain ⟨hx, hb, hr, hml, hown, hts, hT, hlk, hK, hA, hZ⟩ := id hat
  have hown : s.vm.findClass RX12 = some m.cls := hown
  have hl : lv_has ls 4 [(0, .int x0), (1, .int x1)] := hl
  have hL4 : ∀ (x0 : Int32) (fu : Nat) (x2 : Int32) (x3 : Int32) (u : Int32 ⊕ Unit), L_X12_pick_4 x0 fu x2 x3 = some u → (∀ (o0 : Int32), u = .inl o0 → ∀ (H : Heap) (locs : List Loc) (ls : Array Slot), va_P D vwCl [] H → va_D A [] → va_S A s.heap H locs → lv_has ls 4 [(3, .int o0)] → W p l e R s m args below meth c H locs 0 0 Q (F0 m 21 ls [])) → (u = .inr () → ∀ (H : Heap) (locs : List Loc) (ls : Array Slot), va_P D vwCl [] H → va_D A [] → va_S A s.heap H locs → lv_has ls 4 [] → W p l e R s m args below meth c H locs 0 0 Q (F0 m 32 ls [])) → ∀ (H : Heap) (locs : List Loc) (ls : Array Slot), va_P D vwCl [] H → va_D A [] → va_S A s.heap H locs → lv_has ls 4 [(0, .int x0), (2, .int x2), (3, .int x3)] → W p l e R s m args below meth c H locs 0 0 Q (F0 m 4 ls []) := by
    intro x0 fu
    induction fu with
    | zero =>
      intro x2 x3 u hf
      cases hf
    | succ fu ih =>
      intro x2 x3 u hf hk0 hk1 H locs ls hP hD hS hl
      rw [L_X12_pick_4] at hf
      refine lv_iload_n hx hb dX12_pick_4 rfl (lv_at hl 2 rfl) ?_
      refine lv_iconst (v := 5) hx hb dX12_pick_5 (by decide) ?_
      refine lv_icmp_ge (tgt := 32) hx hb dX12_pick_6 (by decide) (fun c1 => ?_) (fun c1 => ?_)
      · have hf := kp_e hf c1
        exact hk1  (Option.some.inj hf).symm _ _ _ hP hD hS (lv_sub hl [] rfl)
      · have hf := kn_e hf c1
        refine lv_iload_n hx hb dX12_pick_9 rfl (lv_at hl 0 rfl) ?_
        refine lv_iload_n hx hb dX12_pick_10 rfl (lv_at hl 2 rfl) ?_
        obtain ⟨r2, h3, hf⟩ := kb1_e hf
        refine k_gi (nW := 0) (ws' := []) (wr := []) (k_runS (rest := []) hat hP hD hS hl.1 (c_X12_has x0 x3 r2 h3) [] (by decide) rfl kw941 kw942 kw79 kw943 kdX12_has ⟨rfl, rfl⟩ (by rw [hR]; exact ⟨Nat.le_of_ble_eq_true rfl, Nat.le_of_ble_eq_true rfl⟩) ⟨Nat.zero_le _, Nat.zero_le _⟩ rfl rfl (Nat.le_of_ble_eq_true rfl) dX12_pick_11) hat hP hD hS [] rfl [] rfl rfl rfl rfl rfl (by decide) (fun H locs hP hD hS => ?_)
        refine lv_if_eq (tgt := 26) hx hb dX12_pick_14 (by decide) (fun c4 => ?_) (fun c4 => ?_)
        · have hf := kp_e hf c4
          obtain ⟨t5, et5⟩ : ∃ z : Int32, z = (x3 + (1 : Int32)) := ⟨_, rfl⟩
          have hf := kl_e hf t5 et5
          refine lv_iinc (v := t5) (lv' := [(3, .int t5), (0, .int x0), (2, .int x2)]) hx hb dX12_pick_26 hl (k := 2) rfl (by rw [et5]; rfl) (by decide) rfl (fun ls hl => ?_)
          refine lv_goto (tgt := 4) hx hb dX12_pick_29 (by decide) ?_
          exact ih x2 t5 u hf hk0 hk1 _ _ _ hP hD hS (lv_sub hl [1, 2, 0] rfl)
        · have hf := kn_e hf c4
          refine lv_iload_n hx hb dX12_pick_17 rfl (lv_at hl 1 rfl) ?_
          refine lv_if_ne (tgt := 23) hx hb dX12_pick_18 (by decide) (fun c6 => ?_) (fun c6 => ?_)
          · have hf := kn_e hf c6
            obtain ⟨t7, et7⟩ : ∃ z : Int32, z = (x2 + (-1 : Int32)) := ⟨_, rfl⟩
            have hf := kl_e hf t7 et7
            refine lv_iinc (v := t7) (lv' := [(2, .int t7), (0, .int x0), (3, .int x3)]) hx hb dX12_pick_23 hl (k := 1) rfl (by rw [et7]; rfl) (by decide) rfl (fun ls hl => ?_)
            obtain ⟨t8, et8⟩ : ∃ z : Int32, z = (x3 + (1 : Int32)) := ⟨_, rfl⟩
            have hf := kl_e hf t8 et8
            refine lv_iinc (v := t8) (lv' := [(3, .int t8), (2, .int t7), (0, .int x0)]) hx hb dX12_pick_26 hl (k := 2) rfl (by rw [et8]; rfl) (by decide) rfl (fun ls hl => ?_)
            refine lv_goto (tgt := 4) hx hb dX12_pick_29 (by decide) ?_
            exact ih t7 t8 u hf hk0 hk1 _ _ _ hP hD hS (lv_sub hl [2, 1, 0] rfl)
          · have hf := kp_e hf c6
            exact hk0 _ (Option.some.inj hf).symm _ _ _ hP hD hS (lv_sub hl [2] rfl)
  unfold f_X12_pick at hf
  refine lv_iload_n hx hb dX12_pick_0 rfl (lv_at hl 1 rfl) ?_
  refine lv_istore_n (lv' := [(2, .int x1), (0, .int x0), (1, .int x1)]) hx hb dX12_pick_1 rfl hl (by decide) rfl (fun ls hl => ?_)
  refine lv_iconst (v := 0) hx hb dX12_pick_2 (by decide) ?_
  refine lv_istore_n (lv' := [(3, .int (0 : Int32)), (2, .int x1), (0, .int x0), (1, .int x1)]) hx hb dX12_pick_3 rfl hl (by decide) rfl (fun ls hl => ?_)
  obtain ⟨u10, hu, hf0, hf1⟩ := ks_e hf
  refine hL4 x0 F x1 (0 : Int32) u10 hu (fun y9 hu2 H locs ls hP hD hS hl => ?_) (fun hu2 H locs ls hP hD hS hl => ?_) _ _ _ hP hD hS (lv_sub hl [2, 1, 0] rfl)
  · have hf := kf1_e (hf0 _ hu2)
    refine lv_iload_n hx hb dX12_pick_21 rfl (lv_at hl 0 rfl) ?_
    obtain rfl := ki1 hf
    rw [hQ]
    exact k_iret hat hP hS rfl dX12_pick_22
  · have hf := hf1 _ hu2
    refine lv_iconst (v := 0) hx hb dX12_pick_32 (by decide) ?_
    obtain rfl := ki1 hf
    rw [hQ]
    exact k_iret hat hP hS rfl dX12_pick_33
set_option maxHeartbeats 4000000 in
set_option maxRecDepth 100000 in
theorem c_X12_minor {l : Launch} {D : va_G} {cI cJ cQ : ClassId} {tp : Nat} (q : Nat) (q_w : Nat) (q_imageSeed : Nat) (q_bookOf : Nat) (q_bookAt : Nat) (q_bookIs : Nat) (q_rs : Nat) (q_cs : Nat) (q_zs : Nat) (v_known : Int32) (v_kept : Int32) (v_seed : Int32) (v_written : Int32) (v_above : Int64) (v_below : Int64) (v_leftAbove : Int64) (v_leftBelow : Int64) (v_guessAbove : Int64) (v_guessBelow : Int64) (v_sign : Int32) (v_power2 : Int32) (v_bits : Int64) (v_w : (Nat → Int32)) (v_rs : (Nat → Int32)) (v_cs : (Nat → Int32)) (F : Nat) (x1 : Int32) (x2 : Int32) (r0 : Int64) (o_v_rs : (Nat → Int32)) (o_v_cs : (Nat → Int32)) (hf : f_X12_minor F v_w v_rs v_cs x1 x2 = some (r0, o_v_rs, o_v_cs)) : kM (fun A => kQl D A [(q, .inr (11, [.ref q_w, .int v_known, .int v_kept, .int v_seed, .ref q_imageSeed, .ref q_bookOf, .ref q_bookAt, .ref q_bookIs, .int v_written, .ref q_rs, .ref q_cs, .long v_above, .long v_below, .ref q_zs, .long v_leftAbove, .long v_leftBelow, .long v_guessAbove, .long v_guessBelow, .int v_sign, .int v_power2, .long v_bits])), (q_w, .inl (cI, 418, .inl v_w)), (q_rs, .inl (cI, 4, .inl o_v_rs)), (q_cs, .inl (cI, 4, .inl o_v_cs))] r0) (some .long) l yX12_minor cX12_minor 5 { frames := 5, cells := 0, slots := 0, locals := 113 } D cI cJ cQ tp [.ref q, .int x1, .int x2] [(q, .inr (11, [.ref q_w, .int v_known, .int v_kept, .int v_seed, .ref q_imageSeed, .ref q_bookOf, .ref q_bookAt, .ref q_bookIs, .int v_written, .ref q_rs, .ref q_cs, .long v_above, .long v_below, .ref q_zs, .long v_leftAbove, .long v_leftBelow, .long v_guessAbove, .long v_guessBelow, .int v_sign, .int v_power2, .long v_bits])), (q_w, .inl (cI, 418, .inl v_w)), (q_rs, .inl (cI, 4, .inl v_rs)), (q_cs, .inl (cI, 4, .inl v_cs))] := by
  refine kM_of (by decide +kernel) (Nat.le_of_ble_eq_true rfl) ?_
  intro p e s m args below meth c A ls R Q hR hQ hat hP hD hS hl
  obtain ⟨hx, hb, hr, hml, hown, hts, hT, hlk, hK, hA, hZ⟩ := id hat
  have hown : s.vm.findClass RX12 = some m.cls := hown
  have hl : lv_has ls 5 [(0, .ref q), (1, .int x1), (2, .int x2)] := hl
  have hL8 : ∀ (x1 : Int32) (x2 : Int32) (x3 : Int32) (v_known : Int32) (v_kept : Int32) (v_seed : Int32) (v_written : Int32) (v_above : Int64) (v_below : Int64) (v_leftAbove : Int64) (v_leftBelow : Int64) (v_guessAbove : Int64) (v_guessBelow : Int64) (v_sign : Int32) (v_power2 : Int32) (v_bits : Int64) (v_w : (Nat → Int32)) (fu : Nat) (x4 : Int32) (v_rs : (Nat → Int32)) (v_cs : (Nat → Int32)) (o0 : (Nat → Int32)) (o1 : (Nat → Int32)), L_X12_minor_8 F x1 x2 x3 fu x4 v_rs v_cs = some (o0, o1) → (∀ (H : Heap) (locs : List Loc) (ls : Array Slot), va_P D vwCl [(q, .inr (11, [.ref q_w, .int v_known, .int v_kept, .int v_seed, .ref q_imageSeed, .ref q_bookOf, .ref q_bookAt, .ref q_bookIs, .int v_written, .ref q_rs, .ref q_cs, .long v_above, .long v_below, .ref q_zs, .long v_leftAbove, .long v_leftBelow, .long v_guessAbove, .long v_guessBelow, .int v_sign, .int v_power2, .long v_bits])), (q_w, .inl (cI, 418, .inl v_w)), (q_rs, .inl (cI, 4, .inl o0)), (q_cs, .inl (cI, 4, .inl o1))] H → va_D A [(q, .inr (11, [.ref q_w, .int v_known, .int v_kept, .int v_seed, .ref q_imageSeed, .ref q_bookOf, .ref q_bookAt, .ref q_bookIs, .int v_written, .ref q_rs, .ref q_cs, .long v_above, .long v_below, .ref q_zs, .long v_leftAbove, .long v_leftBelow, .long v_guessAbove, .long v_guessBelow, .int v_sign, .int v_power2, .long v_bits])), (q_w, .inl (cI, 418, .inl v_w)), (q_rs, .inl (cI, 4, .inl o0)), (q_cs, .inl (cI, 4, .inl o1))] → va_S A s.heap H locs → lv_has ls 5 [(0, .ref q), (3, .int x3)] → W p l e R s m args below meth c H locs 0 0 Q (F0 m 46 ls [])) → ∀ (H : Heap) (locs : List Loc) (ls : Array Slot), va_P D vwCl [(q, .inr (11, [.ref q_w, .int v_known, .int v_kept, .int v_seed, .ref q_imageSeed, .ref q_bookOf, .ref q_bookAt, .ref q_bookIs, .int v_written, .ref q_rs, .ref q_cs, .long v_above, .long v_below, .ref q_zs, .long v_leftAbove, .long v_leftBelow, .long v_guessAbove, .long v_guessBelow, .int v_sign, .int v_power2, .long v_bits])), (q_w, .inl (cI, 418, .inl v_w)), (q_rs, .inl (cI, 4, .inl v_rs)), (q_cs, .inl (cI, 4, .inl v_cs))] H → va_D A [(q, .inr (11, [.ref q_w, .int v_known, .int v_kept, .int v_seed, .ref q_imageSeed, .ref q_bookOf, .ref q_bookAt, .ref q_bookIs, .int v_written, .ref q_rs, .ref q_cs, .long v_above, .long v_below, .ref q_zs, .long v_leftAbove, .long v_leftBelow, .long v_guessAbove, .long v_guessBelow, .int v_sign, .int v_power2, .long v_bits])), (q_w, .inl (cI, 418, .inl v_w)), (q_rs, .inl (cI, 4, .inl v_rs)), (q_cs, .inl (cI, 4, .inl v_cs))] → va_S A s.heap H locs → lv_has ls 5 [(0, .ref q), (1, .int x1), (2, .int x2), (3, .int x3), (4, .int x4)] → W p l e R s m args below meth c H locs 0 0 Q (F0 m 8 ls []) := by
    intro x1 x2 x3 v_known v_kept v_seed v_written v_above v_below v_leftAbove v_leftBelow v_guessAbove v_guessBelow v_sign v_power2 v_bits v_w fu
    induction fu with
    | zero =>
      intro x4 v_rs v_cs o0 o1 hf
      cases hf
    | succ fu ih =>
      intro x4 v_rs v_cs o0 o1 hf hk0 H locs ls hP hD hS hl
      rw [L_X12_minor_8] at hf
      refine lv_iload hx hb dX12_minor_8 (lv_at hl 4 rfl) ?_
      refine lv_iload_n hx hb dX12_minor_10 rfl (lv_at hl 3 rfl) ?_
      refine lv_icmp_ge (tgt := 46) hx hb dX12_minor_11 (by decide) (fun c3 => ?_) (fun c3 => ?_)
      · have hf := kp_e hf c3
        obtain ⟨rfl, rfl⟩ := ki2 hf
        exact hk0 _ _ _ hP hD hS (lv_sub hl [0, 3] rfl)
      · have hf := kn_e hf c3
        refine lv_aload_n hx hb dX12_minor_14 rfl (lv_at hl 0 rfl) ?_
        refine va_get (D := D) (ci := 11) (v := .ref q_rs) (C := RX12) (T := TX12) (N := 21) hx hb hts kinX12 hown hK hP 0 rfl rfl 9 (by decide) (hts _ kw853) (fun _ h9 => h9) rfl dX12_minor_15 ?_
        refine lv_iload hx hb dX12_minor_18 (lv_at hl 4 rfl) ?_
        refine lv_iload_n hx hb dX12_minor_20 rfl (lv_at hl 1 rfl) ?_
        refine lv_iload hx hb dX12_minor_21 (lv_at hl 4 rfl) ?_
        obtain ⟨r4, h5, hf⟩ := kb1_e hf
        refine k_gi (nW := 4) (ws' := [(q, .inr (11, [.ref q_w, .int v_known, .int v_kept, .int v_seed, .ref q_imageSeed, .ref q_bookOf, .ref q_bookAt, .ref q_bookIs, .int v_written, .ref q_rs, .ref q_cs, .long v_above, .long v_below, .ref q_zs, .long v_leftAbove, .long v_leftBelow, .long v_guessAbove, .long v_guessBelow, .int v_sign, .int v_power2, .long v_bits])), (q_w, .inl (cI, 418, .inl v_w)), (q_rs, .inl (cI, 4, .inl v_rs)), (q_cs, .inl (cI, 4, .inl v_cs))]) (wr := [(q, .inr (11, [.ref q_w, .int v_known, .int v_kept, .int v_seed, .ref q_imageSeed, .ref q_bookOf, .ref q_bookAt, .ref q_bookIs, .int v_written, .ref q_rs, .ref q_cs, .long v_above, .long v_below, .ref q_zs, .long v_leftAbove, .long v_leftBelow, .long v_guessAbove, .long v_guessBelow, .int v_sign, .int v_power2, .long v_bits])), (q_w, .inl (cI, 418, .inl v_w)), (q_rs, .inl (cI, 4, .inl v_rs)), (q_cs, .inl (cI, 4, .inl v_cs))]) (k_runS (rest := [.int x4, .ref q_rs]) hat hP hD hS hl.1 (c_X12_pick F x1 x4 r4 h5) [] (by decide) rfl kw938 kw939 kw79 kw940 kdX12_pick ⟨rfl, rfl⟩ (by rw [hR]; exact ⟨Nat.le_of_ble_eq_true rfl, Nat.le_of_ble_eq_true rfl⟩) ⟨Nat.zero_le _, Nat.zero_le _⟩ rfl rfl (Nat.le_of_ble_eq_true rfl) dX12_minor_23) hat hP hD hS [] rfl [0, 1, 2, 3] rfl rfl rfl rfl rfl (by decide) (fun H locs hP hD hS => ?_)
        obtain ⟨c6, hf⟩ := kc_e hf
        refine va_iast hx hb hK hP hD hS 2 0 rfl rfl (kin_e c6) dX12_minor_26 (fun H locs hP hD hS => ?_)
        generalize ew7 : (upd v_rs x4.toNatClampNeg r4) = w7 at hP hD
        have hf := kl_e hf w7 ew7.symm
        have hP : va_P D vwCl [(q, .inr (11, [.ref q_w, .int v_known, .int v_kept, .int v_seed, .ref q_imageSeed, .ref q_bookOf, .ref q_bookAt, .ref q_bookIs, .int v_written, .ref q_rs, .ref q_cs, .long v_above, .long v_below, .ref q_zs, .long v_leftAbove, .long v_leftBelow, .long v_guessAbove, .long v_guessBelow, .int v_sign, .int v_power2, .long v_bits])), (q_w, .inl (cI, 418, .inl v_w)), (q_rs, .inl (cI, 4, .inl w7)), (q_cs, .inl (cI, 4, .inl v_cs))] H := hP
        have hD : va_D A [(q, .inr (11, [.ref q_w, .int v_known, .int v_kept, .int v_seed, .ref q_imageSeed, .ref q_bookOf, .ref q_bookAt, .ref q_bookIs, .int v_written, .ref q_rs, .ref q_cs, .long v_above, .long v_below, .ref q_zs, .long v_leftAbove, .long v_leftBelow, .long v_guessAbove, .long v_guessBelow, .int v_sign, .int v_power2, .long v_bits])), (q_w, .inl (cI, 418, .inl v_w)), (q_rs, .inl (cI, 4, .inl w7)), (q_cs, .inl (cI, 4, .inl v_cs))] := hD
        refine lv_aload_n hx hb dX12_minor_27 rfl (lv_at hl 0 rfl) ?_
        refine va_get (D := D) (ci := 11) (v := .ref q_cs) (C := RX12) (T := TX12) (N := 21) hx hb hts kinX12 hown hK hP 0 rfl rfl 10 (by decide) (hts _ kw854) (fun _ h9 => h9) rfl dX12_minor_28 ?_
        refine lv_iload hx hb dX12_minor_31 (lv_at hl 4 rfl) ?_
        refine lv_iload_n hx hb dX12_minor_33 rfl (lv_at hl 2 rfl) ?_
        refine lv_iload hx hb dX12_minor_34 (lv_at hl 4 rfl) ?_
        obtain ⟨r8, h9, hf⟩ := kb1_e hf
        refine k_gi (nW := 4) (ws' := [(q, .inr (11, [.ref q_w, .int v_known, .int v_kept, .int v_seed, .ref q_imageSeed, .ref q_bookOf, .ref q_bookAt, .ref q_bookIs, .int v_written, .ref q_rs, .ref q_cs, .long v_above, .long v_below, .ref q_zs, .long v_leftAbove, .long v_leftBelow, .long v_guessAbove, .long v_guessBelow, .int v_sign, .int v_power2, .long v_bits])), (q_w, .inl (cI, 418, .inl v_w)), (q_rs, .inl (cI, 4, .inl w7)), (q_cs, .inl (cI, 4, .inl v_cs))]) (wr := [(q, .inr (11, [.ref q_w, .int v_known, .int v_kept, .int v_seed, .ref q_imageSeed, .ref q_bookOf, .ref q_bookAt, .ref q_bookIs, .int v_written, .ref q_rs, .ref q_cs, .long v_above, .long v_below, .ref q_zs, .long v_leftAbove, .long v_leftBelow, .long v_guessAbove, .long v_guessBelow, .int v_sign, .int v_power2, .long v_bits])), (q_w, .inl (cI, 418, .inl v_w)), (q_rs, .inl (cI, 4, .inl w7)), (q_cs, .inl (cI, 4, .inl v_cs))]) (k_runS (rest := [.int x4, .ref q_cs]) hat hP hD hS hl.1 (c_X12_pick F x2 x4 r8 h9) [] (by decide) rfl kw938 kw939 kw79 kw940 kdX12_pick ⟨rfl, rfl⟩ (by rw [hR]; exact ⟨Nat.le_of_ble_eq_true rfl, Nat.le_of_ble_eq_true rfl⟩) ⟨Nat.zero_le _, Nat.zero_le _⟩ rfl rfl (Nat.le_of_ble_eq_true rfl) dX12_minor_36) hat hP hD hS [] rfl [0, 1, 2, 3] rfl rfl rfl rfl rfl (by decide) (fun H locs hP hD hS => ?_)
        obtain ⟨c10, hf⟩ := kc_e hf
        refine va_iast hx hb hK hP hD hS 3 0 rfl rfl (kin_e c10) dX12_minor_39 (fun H locs hP hD hS => ?_)
        generalize ew11 : (upd v_cs x4.toNatClampNeg r8) = w11 at hP hD
        have hf := kl_e hf w11 ew11.symm
        have hP : va_P D vwCl [(q, .inr (11, [.ref q_w, .int v_known, .int v_kept, .int v_seed, .ref q_imageSeed, .ref q_bookOf, .ref q_bookAt, .ref q_bookIs, .int v_written, .ref q_rs, .ref q_cs, .long v_above, .long v_below, .ref q_zs, .long v_leftAbove, .long v_leftBelow, .long v_guessAbove, .long v_guessBelow, .int v_sign, .int v_power2, .long v_bits])), (q_w, .inl (cI, 418, .inl v_w)), (q_rs, .inl (cI, 4, .inl w7)), (q_cs, .inl (cI, 4, .inl w11))] H := hP
        have hD : va_D A [(q, .inr (11, [.ref q_w, .int v_known, .int v_kept, .int v_seed, .ref q_imageSeed, .ref q_bookOf, .ref q_bookAt, .ref q_bookIs, .int v_written, .ref q_rs, .ref q_cs, .long v_above, .long v_below, .ref q_zs, .long v_leftAbove, .long v_leftBelow, .long v_guessAbove, .long v_guessBelow, .int v_sign, .int v_power2, .long v_bits])), (q_w, .inl (cI, 418, .inl v_w)), (q_rs, .inl (cI, 4, .inl w7)), (q_cs, .inl (cI, 4, .inl w11))] := hD
        obtain ⟨t12, et12⟩ : ∃ z : Int32, z = (x4 + (1 : Int32)) := ⟨_, rfl⟩
        have hf := kl_e hf t12 et12
        refine lv_iinc (v := t12) (lv' := [(4, .int t12), (0, .ref q), (1, .int x1), (2, .int x2), (3, .int x3)]) hx hb dX12_minor_40 hl (k := 4) rfl (by rw [et12]; rfl) (by decide) rfl (fun ls hl => ?_)
        refine lv_goto (tgt := 8) hx hb dX12_minor_43 (by decide) ?_
        exact ih t12 w7 w11 o0 o1 hf hk0 _ _ _ hP hD hS (lv_sub hl [1, 2, 3, 4, 0] rfl)
  unfold f_X12_minor at hf
  refine lv_iload_n hx hb dX12_minor_0 rfl (lv_at hl 1 rfl) ?_
  obtain ⟨r1, h2, hf⟩ := kb1_e hf
  refine k_gi (nW := 4) (ws' := [(q, .inr (11, [.ref q_w, .int v_known, .int v_kept, .int v_seed, .ref q_imageSeed, .ref q_bookOf, .ref q_bookAt, .ref q_bookIs, .int v_written, .ref q_rs, .ref q_cs, .long v_above, .long v_below, .ref q_zs, .long v_leftAbove, .long v_leftBelow, .long v_guessAbove, .long v_guessBelow, .int v_sign, .int v_power2, .long v_bits])), (q_w, .inl (cI, 418, .inl v_w)), (q_rs, .inl (cI, 4, .inl v_rs)), (q_cs, .inl (cI, 4, .inl v_cs))]) (wr := [(q, .inr (11, [.ref q_w, .int v_known, .int v_kept, .int v_seed, .ref q_imageSeed, .ref q_bookOf, .ref q_bookAt, .ref q_bookIs, .int v_written, .ref q_rs, .ref q_cs, .long v_above, .long v_below, .ref q_zs, .long v_leftAbove, .long v_leftBelow, .long v_guessAbove, .long v_guessBelow, .int v_sign, .int v_power2, .long v_bits])), (q_w, .inl (cI, 418, .inl v_w)), (q_rs, .inl (cI, 4, .inl v_rs)), (q_cs, .inl (cI, 4, .inl v_cs))]) (k_runS (rest := []) hat hP hD hS hl.1 (c_X12_ones x1 r1 h2) [] (by decide) rfl kw935 kw936 kw79 kw937 kdX12_ones ⟨rfl, rfl⟩ (by rw [hR]; exact ⟨Nat.le_of_ble_eq_true rfl, Nat.le_of_ble_eq_true rfl⟩) ⟨Nat.zero_le _, Nat.zero_le _⟩ rfl rfl (Nat.le_of_ble_eq_true rfl) dX12_minor_1) hat hP hD hS [] rfl [0, 1, 2, 3] rfl rfl rfl rfl rfl (by decide) (fun H locs hP hD hS => ?_)
  refine lv_istore_n (lv' := [(3, .int r1), (0, .ref q), (1, .int x1), (2, .int x2)]) hx hb dX12_minor_4 rfl hl (by decide) rfl (fun ls hl => ?_)
  refine lv_iconst (v := 0) hx hb dX12_minor_5 (by decide) ?_
  refine lv_istore (lv' := [(4, .int (0 : Int32)), (3, .int r1), (0, .ref q), (1, .int x1), (2, .int x2)]) hx hb dX12_minor_6 hl (by decide) rfl (fun ls hl => ?_)
  obtain ⟨w13, w14, hu, hf⟩ := kb2_e hf
  refine hL8 x1 x2 r1 v_known v_kept v_seed v_written v_above v_below v_leftAbove v_leftBelow v_guessAbove v_guessBelow v_sign v_power2 v_bits v_w F (0 : Int32) v_rs v_cs w13 w14 hu (fun H locs ls hP hD hS hl => ?_) _ _ _ hP hD hS (lv_sub hl [2, 3, 4, 1, 0] rfl)
  refine lv_aload_n hx hb dX12_minor_46 rfl (lv_at hl 0 rfl) ?_
  refine lv_iload_n hx hb dX12_minor_47 rfl (lv_at hl 1 rfl) ?_
  obtain ⟨r15, h16, hf⟩ := kb1_e hf
  refine k_gl (nW := 4) (ws' := [(q, .inr (11, [.ref q_w, .int v_known, .int v_kept, .int v_seed, .ref q_imageSeed, .ref q_bookOf, .ref q_bookAt, .ref q_bookIs, .int v_written, .ref q_rs, .ref q_cs, .long v_above, .long v_below, .ref q_zs, .long v_leftAbove, .long v_leftBelow, .long v_guessAbove, .long v_guessBelow, .int v_sign, .int v_power2, .long v_bits])), (q_w, .inl (cI, 418, .inl v_w)), (q_rs, .inl (cI, 4, .inl w13)), (q_cs, .inl (cI, 4, .inl w14))]) (wr := []) (k_runV (rest := []) hat hP hD hS hl.1 (c_X12_det q q_w q_imageSeed q_bookOf q_bookAt q_bookIs q_rs q_cs q_zs v_known v_kept v_seed v_written v_above v_below v_leftAbove v_leftBelow v_guessAbove v_guessBelow v_sign v_power2 v_bits v_w w13 w14 r1 r15 h16) [0, 1, 2, 3] (by decide) rfl kw944 kw946 kw24 kw79 kw947 kdVX12_det ⟨rfl, rfl⟩ (by rw [hR]; exact ⟨Nat.le_of_ble_eq_true rfl, Nat.le_of_ble_eq_true rfl⟩) ⟨Nat.zero_le _, Nat.zero_le _⟩ 0 11 rfl rfl rfl rfl (Nat.le_of_ble_eq_true rfl) dX12_minor_48) hat hP hD hS [0, 1, 2, 3] rfl [] rfl rfl rfl rfl rfl (by decide) (fun H locs hP hD hS => ?_)
  obtain ⟨rfl, rfl, rfl⟩ := ki3 hf
  rw [hQ]
  exact k_lret hat hP hS rfl dX12_minor_51
set_option maxHeartbeats 4000000 in
set_option maxRecDepth 100000 in
theorem c_X12_allColumns {l : Launch} {D : va_G} {cI cJ cQ : ClassId} {tp : Nat} (q : Nat) (q_w : Nat) (q_imageSeed : Nat) (q_bookOf : Nat) (q_bookAt : Nat) (q_bookIs : Nat) (q_rs : Nat) (q_cs : Nat) (q_zs : Nat) (v_known : Int32) (v_kept : Int32) (v_seed : Int32) (v_written : Int32) (v_above : Int64) (v_below : Int64) (v_leftAbove : Int64) (v_leftBelow : Int64) (v_guessAbove : Int64) (v_guessBelow : Int64) (v_sign : Int32) (v_power2 : Int32) (v_bits : Int64) (v_w : (Nat → Int32)) (r0 : Int32) (hf : f_X12_allColumns v_w = some r0) : kM (fun A => kQi D A [(q, .inr (11, [.ref q_w, .int v_known, .int v_kept, .int v_seed, .ref q_imageSeed, .ref q_bookOf, .ref q_bookAt, .ref q_bookIs, .int v_written, .ref q_rs, .ref q_cs, .long v_above, .long v_below, .ref q_zs, .long v_leftAbove, .long v_leftBelow, .long v_guessAbove, .long v_guessBelow, .int v_sign, .int v_power2, .long v_bits])), (q_w, .inl (cI, 418, .inl v_w))] r0) (some .int) l yX12_allColumns cX12_allColumns 1 { frames := 1, cells := 0, slots := 0, locals := 20 } D cI cJ cQ tp [.ref q] [(q, .inr (11, [.ref q_w, .int v_known, .int v_kept, .int v_seed, .ref q_imageSeed, .ref q_bookOf, .ref q_bookAt, .ref q_bookIs, .int v_written, .ref q_rs, .ref q_cs, .long v_above, .long v_below, .ref q_zs, .long v_leftAbove, .long v_leftBelow, .long v_guessAbove, .long v_guessBelow, .int v_sign, .int v_power2, .long v_bits])), (q_w, .inl (cI, 418, .inl v_w))] := by
  refine kM_of (by decide +kernel) (Nat.le_of_ble_eq_true rfl) ?_
  intro p e s m args below meth c A ls R Q hR hQ hat hP hD hS hl
  obtain ⟨hx, hb, hr, hml, hown, hts, hT, hlk, hK, hA, hZ⟩ := id hat
  have hown : s.vm.findClass RX12 = some m.cls := hown
  have hl : lv_has ls 1 [(0, .ref q)] := hl
  unfold f_X12_allColumns at hf
  refine lv_iconst (v := 1) hx hb dX12_allColumns_0 (by decide) ?_
  refine lv_aload_n hx hb dX12_allColumns_1 rfl (lv_at hl 0 rfl) ?_
  obtain ⟨r1, h2, hf⟩ := kb1_e hf
  refine k_gi (nW := 2) (ws' := [(q, .inr (11, [.ref q_w, .int v_known, .int v_kept, .int v_seed, .ref q_imageSeed, .ref q_bookOf, .ref q_bookAt, .ref q_bookIs, .int v_written, .ref q_rs, .ref q_cs, .long v_above, .long v_below, .ref q_zs, .long v_leftAbove, .long v_leftBelow, .long v_guessAbove, .long v_guessBelow, .int v_sign, .int v_power2, .long v_bits])), (q_w, .inl (cI, 418, .inl v_w))]) (wr := []) (k_runV (rest := [.int (1 : Int32)]) hat hP hD hS hl.1 (c_X12_n q q_w q_imageSeed q_bookOf q_bookAt q_bookIs q_rs q_cs q_zs v_known v_kept v_seed v_written v_above v_below v_leftAbove v_leftBelow v_guessAbove v_guessBelow v_sign v_power2 v_bits v_w r1 h2) [0, 1] (by decide) rfl kw912 kw914 kw19 kw79 kw915 kdVX12_n ⟨rfl, rfl⟩ (by rw [hR]; exact ⟨Nat.le_of_ble_eq_true rfl, Nat.le_of_ble_eq_true rfl⟩) ⟨Nat.zero_le _, Nat.zero_le _⟩ 0 11 rfl rfl rfl rfl (Nat.le_of_ble_eq_true rfl) dX12_allColumns_2) hat hP hD hS [0, 1] rfl [] rfl rfl rfl rfl rfl (by decide) (fun H locs hP hD hS => ?_)
  refine lv_ishl hx hb dX12_allColumns_5 ?_
  refine lv_iconst (v := 1) hx hb dX12_allColumns_6 (by decide) ?_
  refine lv_isub hx hb dX12_allColumns_7 ?_
  obtain rfl := ki1 hf
  rw [hQ]
  exact k_iret hat hP hS rfl dX12_allColumns_8
set_option maxHeartbeats 4000000 in
set_option maxRecDepth 100000 in
theorem c_X12_determinant {l : Launch} {D : va_G} {cI cJ cQ : ClassId} {tp : Nat} (q : Nat) (q_w : Nat) (q_imageSeed : Nat) (q_bookOf : Nat) (q_bookAt : Nat) (q_bookIs : Nat) (q_rs : Nat) (q_cs : Nat) (q_zs : Nat) (v_known : Int32) (v_kept : Int32) (v_seed : Int32) (v_written : Int32) (v_above : Int64) (v_below : Int64) (v_leftAbove : Int64) (v_leftBelow : Int64) (v_guessAbove : Int64) (v_guessBelow : Int64) (v_sign : Int32) (v_power2 : Int32) (v_bits : Int64) (v_w : (Nat → Int32)) (v_rs : (Nat → Int32)) (v_cs : (Nat → Int32)) (F : Nat) (r0 : Int64) (o_v_rs : (Nat → Int32)) (o_v_cs : (Nat → Int32)) (hf : f_X12_determinant F v_w v_rs v_cs = some (r0, o_v_rs, o_v_cs)) : kM (fun A => kQl D A [(q, .inr (11, [.ref q_w, .int v_known, .int v_kept, .int v_seed, .ref q_imageSeed, .ref q_bookOf, .ref q_bookAt, .ref q_bookIs, .int v_written, .ref q_rs, .ref q_cs, .long v_above, .long v_below, .ref q_zs, .long v_leftAbove, .long v_leftBelow, .long v_guessAbove, .long v_guessBelow, .int v_sign, .int v_power2, .long v_bits])), (q_w, .inl (cI, 418, .inl v_w)), (q_rs, .inl (cI, 4, .inl o_v_rs)), (q_cs, .inl (cI, 4, .inl o_v_cs))] r0) (some .long) l yX12_determinant cX12_determinant 1 { frames := 6, cells := 0, slots := 0, locals := 137 } D cI cJ cQ tp [.ref q] [(q, .inr (11, [.ref q_w, .int v_known, .int v_kept, .int v_seed, .ref q_imageSeed, .ref q_bookOf, .ref q_bookAt, .ref q_bookIs, .int v_written, .ref q_rs, .ref q_cs, .long v_above, .long v_below, .ref q_zs, .long v_leftAbove, .long v_leftBelow, .long v_guessAbove, .long v_guessBelow, .int v_sign, .int v_power2, .long v_bits])), (q_w, .inl (cI, 418, .inl v_w)), (q_rs, .inl (cI, 4, .inl v_rs)), (q_cs, .inl (cI, 4, .inl v_cs))] := by
  refine kM_of (by decide +kernel) (Nat.le_of_ble_eq_true rfl) ?_
  intro p e s m args below meth c A ls R Q hR hQ hat hP hD hS hl
  obtain ⟨hx, hb, hr, hml, hown, hts, hT, hlk, hK, hA, hZ⟩ := id hat
  have hown : s.vm.findClass RX12 = some m.cls := hown
  have hl : lv_has ls 1 [(0, .ref q)] := hl
  unfold f_X12_determinant at hf
  refine lv_aload_n hx hb dX12_determinant_0 rfl (lv_at hl 0 rfl) ?_
  refine lv_aload_n hx hb dX12_determinant_1 rfl (lv_at hl 0 rfl) ?_
  obtain ⟨r1, h2, hf⟩ := kb1_e hf
  refine k_gi (nW := 4) (ws' := [(q, .inr (11, [.ref q_w, .int v_known, .int v_kept, .int v_seed, .ref q_imageSeed, .ref q_bookOf, .ref q_bookAt, .ref q_bookIs, .int v_written, .ref q_rs, .ref q_cs, .long v_above, .long v_below, .ref q_zs, .long v_leftAbove, .long v_leftBelow, .long v_guessAbove, .long v_guessBelow, .int v_sign, .int v_power2, .long v_bits])), (q_w, .inl (cI, 418, .inl v_w)), (q_rs, .inl (cI, 4, .inl v_rs)), (q_cs, .inl (cI, 4, .inl v_cs))]) (wr := [(q_rs, .inl (cI, 4, .inl v_rs)), (q_cs, .inl (cI, 4, .inl v_cs))]) (k_runV (rest := [.ref q]) hat hP hD hS hl.1 (c_X12_allColumns q q_w q_imageSeed q_bookOf q_bookAt q_bookIs q_rs q_cs q_zs v_known v_kept v_seed v_written v_above v_below v_leftAbove v_leftBelow v_guessAbove v_guessBelow v_sign v_power2 v_bits v_w r1 h2) [0, 1] (by decide) rfl kw927 kw929 kw22 kw79 kw930 kdVX12_allColumns ⟨rfl, rfl⟩ (by rw [hR]; exact ⟨Nat.le_of_ble_eq_true rfl, Nat.le_of_ble_eq_true rfl⟩) ⟨Nat.zero_le _, Nat.zero_le _⟩ 0 11 rfl rfl rfl rfl (Nat.le_of_ble_eq_true rfl) dX12_determinant_2) hat hP hD hS [0, 1] rfl [2, 3] rfl rfl rfl rfl rfl (by decide) (fun H locs hP hD hS => ?_)
  refine lv_aload_n hx hb dX12_determinant_5 rfl (lv_at hl 0 rfl) ?_
  obtain ⟨r3, h4, hf⟩ := kb1_e hf
  refine k_gi (nW := 4) (ws' := [(q, .inr (11, [.ref q_w, .int v_known, .int v_kept, .int v_seed, .ref q_imageSeed, .ref q_bookOf, .ref q_bookAt, .ref q_bookIs, .int v_written, .ref q_rs, .ref q_cs, .long v_above, .long v_below, .ref q_zs, .long v_leftAbove, .long v_leftBelow, .long v_guessAbove, .long v_guessBelow, .int v_sign, .int v_power2, .long v_bits])), (q_w, .inl (cI, 418, .inl v_w)), (q_rs, .inl (cI, 4, .inl v_rs)), (q_cs, .inl (cI, 4, .inl v_cs))]) (wr := [(q_rs, .inl (cI, 4, .inl v_rs)), (q_cs, .inl (cI, 4, .inl v_cs))]) (k_runV (rest := [.int r1, .ref q]) hat hP hD hS hl.1 (c_X12_allColumns q q_w q_imageSeed q_bookOf q_bookAt q_bookIs q_rs q_cs q_zs v_known v_kept v_seed v_written v_above v_below v_leftAbove v_leftBelow v_guessAbove v_guessBelow v_sign v_power2 v_bits v_w r3 h4) [0, 1] (by decide) rfl kw927 kw929 kw22 kw79 kw930 kdVX12_allColumns ⟨rfl, rfl⟩ (by rw [hR]; exact ⟨Nat.le_of_ble_eq_true rfl, Nat.le_of_ble_eq_true rfl⟩) ⟨Nat.zero_le _, Nat.zero_le _⟩ 0 11 rfl rfl rfl rfl (Nat.le_of_ble_eq_true rfl) dX12_determinant_6) hat hP hD hS [0, 1] rfl [2, 3] rfl rfl rfl rfl rfl (by decide) (fun H locs hP hD hS => ?_)
  obtain ⟨r5, w6, w7, h8, hf⟩ := kb3_e hf
  refine k_gl (nW := 4) (ws' := [(q, .inr (11, [.ref q_w, .int v_known, .int v_kept, .int v_seed, .ref q_imageSeed, .ref q_bookOf, .ref q_bookAt, .ref q_bookIs, .int v_written, .ref q_rs, .ref q_cs, .long v_above, .long v_below, .ref q_zs, .long v_leftAbove, .long v_leftBelow, .long v_guessAbove, .long v_guessBelow, .int v_sign, .int v_power2, .long v_bits])), (q_w, .inl (cI, 418, .inl v_w)), (q_rs, .inl (cI, 4, .inl w6)), (q_cs, .inl (cI, 4, .inl w7))]) (wr := []) (k_runV (rest := []) hat hP hD hS hl.1 (c_X12_minor q q_w q_imageSeed q_bookOf q_bookAt q_bookIs q_rs q_cs q_zs v_known v_kept v_seed v_written v_above v_below v_leftAbove v_leftBelow v_guessAbove v_guessBelow v_sign v_power2 v_bits v_w v_rs v_cs F r1 r3 r5 w6 w7 h8) [0, 1, 2, 3] (by decide) rfl kw931 kw933 kw23 kw79 kw934 kdVX12_minor ⟨rfl, rfl⟩ (by rw [hR]; exact ⟨Nat.le_of_ble_eq_true rfl, Nat.le_of_ble_eq_true rfl⟩) ⟨Nat.zero_le _, Nat.zero_le _⟩ 0 11 rfl rfl rfl rfl (Nat.le_of_ble_eq_true rfl) dX12_determinant_9) hat hP hD hS [0, 1, 2, 3] rfl [] rfl rfl rfl rfl rfl (by decide) (fun H locs hP hD hS => ?_)
  obtain ⟨rfl, rfl, rfl⟩ := ki3 hf
  rw [hQ]
  exact k_lret hat hP hS rfl dX12_determinant_12
set_option maxHeartbeats 4000000 in
set_option maxRecDepth 100000 in
theorem c_X12_rankOf {l : Launch} {D : va_G} {cI cJ cQ : ClassId} {tp : Nat} (q : Nat) (q_w : Nat) (q_imageSeed : Nat) (q_bookOf : Nat) (q_bookAt : Nat) (q_bookIs : Nat) (q_rs : Nat) (q_cs : Nat) (q_zs : Nat) (v_known : Int32) (v_kept : Int32) (v_seed : Int32) (v_written : Int32) (v_above : Int64) (v_below : Int64) (v_leftAbove : Int64) (v_leftBelow : Int64) (v_guessAbove : Int64) (v_guessBelow : Int64) (v_sign : Int32) (v_power2 : Int32) (v_bits : Int64) (v_w : (Nat → Int32)) (v_rs : (Nat → Int32)) (v_cs : (Nat → Int32)) (F : Nat) (x1 : Int32) (x2 : Int32) (r0 : Int32) (o_v_rs : (Nat → Int32)) (o_v_cs : (Nat → Int32)) (hf : f_X12_rankOf F v_w v_rs v_cs x1 x2 = some (r0, o_v_rs, o_v_cs)) : kM (fun A => kQi D A [(q, .inr (11, [.ref q_w, .int v_known, .int v_kept, .int v_seed, .ref q_imageSeed, .ref q_bookOf, .ref q_bookAt, .ref q_bookIs, .int v_written, .ref q_rs, .ref q_cs, .long v_above, .long v_below, .ref q_zs, .long v_leftAbove, .long v_leftBelow, .long v_guessAbove, .long v_guessBelow, .int v_sign, .int v_power2, .long v_bits])), (q_w, .inl (cI, 418, .inl v_w)), (q_rs, .inl (cI, 4, .inl o_v_rs)), (q_cs, .inl (cI, 4, .inl o_v_cs))] r0) (some .int) l yX12_rankOf cX12_rankOf 8 { frames := 6, cells := 0, slots := 0, locals := 137 } D cI cJ cQ tp [.ref q, .int x1, .int x2] [(q, .inr (11, [.ref q_w, .int v_known, .int v_kept, .int v_seed, .ref q_imageSeed, .ref q_bookOf, .ref q_bookAt, .ref q_bookIs, .int v_written, .ref q_rs, .ref q_cs, .long v_above, .long v_below, .ref q_zs, .long v_leftAbove, .long v_leftBelow, .long v_guessAbove, .long v_guessBelow, .int v_sign, .int v_power2, .long v_bits])), (q_w, .inl (cI, 418, .inl v_w)), (q_rs, .inl (cI, 4, .inl v_rs)), (q_cs, .inl (cI, 4, .inl v_cs))] := by
  refine kM_of (by decide +kernel) (Nat.le_of_ble_eq_true rfl) ?_
  intro p e s m args below meth c A ls R Q hR hQ hat hP hD hS hl
  obtain ⟨hx, hb, hr, hml, hown, hts, hT, hlk, hK, hA, hZ⟩ := id hat
  have hown : s.vm.findClass RX12 = some m.cls := hown
  have hl : lv_has ls 8 [(0, .ref q), (1, .int x1), (2, .int x2)] := hl
  have hL19 : ∀ (x1 : Int32) (x2 : Int32) (x4 : Int32) (v_known : Int32) (v_kept : Int32) (v_seed : Int32) (v_written : Int32) (v_above : Int64) (v_below : Int64) (v_leftAbove : Int64) (v_leftBelow : Int64) (v_guessAbove : Int64) (v_guessBelow : Int64) (v_sign : Int32) (v_power2 : Int32) (v_bits : Int64) (v_w : (Nat → Int32)) (fu : Nat) (x3 : Int32) (x5 : Int32) (v_rs : (Nat → Int32)) (v_cs : (Nat → Int32)) (o0 : Int32) (o1 : (Nat → Int32)) (o2 : (Nat → Int32)), L_X12_rankOf_19 F x1 x2 x4 v_w fu x3 x5 v_rs v_cs = some (o0, o1, o2) → (∀ (H : Heap) (locs : List Loc) (ls : Array Slot), va_P D vwCl [(q, .inr (11, [.ref q_w, .int v_known, .int v_kept, .int v_seed, .ref q_imageSeed, .ref q_bookOf, .ref q_bookAt, .ref q_bookIs, .int v_written, .ref q_rs, .ref q_cs, .long v_above, .long v_below, .ref q_zs, .long v_leftAbove, .long v_leftBelow, .long v_guessAbove, .long v_guessBelow, .int v_sign, .int v_power2, .long v_bits])), (q_w, .inl (cI, 418, .inl v_w)), (q_rs, .inl (cI, 4, .inl o1)), (q_cs, .inl (cI, 4, .inl o2))] H → va_D A [(q, .inr (11, [.ref q_w, .int v_known, .int v_kept, .int v_seed, .ref q_imageSeed, .ref q_bookOf, .ref q_bookAt, .ref q_bookIs, .int v_written, .ref q_rs, .ref q_cs, .long v_above, .long v_below, .ref q_zs, .long v_leftAbove, .long v_leftBelow, .long v_guessAbove, .long v_guessBelow, .int v_sign, .int v_power2, .long v_bits])), (q_w, .inl (cI, 418, .inl v_w)), (q_rs, .inl (cI, 4, .inl o1)), (q_cs, .inl (cI, 4, .inl o2))] → va_S A s.heap H locs → lv_has ls 8 [(0, .ref q), (1, .int x1), (2, .int x2), (3, .int o0), (4, .int x4)] → W p l e R s m args below meth c H locs 0 0 Q (F0 m 107 ls [])) → ∀ (H : Heap) (locs : List Loc) (ls : Array Slot), va_P D vwCl [(q, .inr (11, [.ref q_w, .int v_known, .int v_kept, .int v_seed, .ref q_imageSeed, .ref q_bookOf, .ref q_bookAt, .ref q_bookIs, .int v_written, .ref q_rs, .ref q_cs, .long v_above, .long v_below, .ref q_zs, .long v_leftAbove, .long v_leftBelow, .long v_guessAbove, .long v_guessBelow, .int v_sign, .int v_power2, .long v_bits])), (q_w, .inl (cI, 418, .inl v_w)), (q_rs, .inl (cI, 4, .inl v_rs)), (q_cs, .inl (cI, 4, .inl v_cs))] H → va_D A [(q, .inr (11, [.ref q_w, .int v_known, .int v_kept, .int v_seed, .ref q_imageSeed, .ref q_bookOf, .ref q_bookAt, .ref q_bookIs, .int v_written, .ref q_rs, .ref q_cs, .long v_above, .long v_below, .ref q_zs, .long v_leftAbove, .long v_leftBelow, .long v_guessAbove, .long v_guessBelow, .int v_sign, .int v_power2, .long v_bits])), (q_w, .inl (cI, 418, .inl v_w)), (q_rs, .inl (cI, 4, .inl v_rs)), (q_cs, .inl (cI, 4, .inl v_cs))] → va_S A s.heap H locs → lv_has ls 8 [(0, .ref q), (1, .int x1), (2, .int x2), (3, .int x3), (4, .int x4), (5, .int x5)] → W p l e R s m args below meth c H locs 0 0 Q (F0 m 19 ls []) := by
    intro x1 x2 x4 v_known v_kept v_seed v_written v_above v_below v_leftAbove v_leftBelow v_guessAbove v_guessBelow v_sign v_power2 v_bits v_w fu
    induction fu with
    | zero =>
      intro x3 x5 v_rs v_cs o0 o1 o2 hf
      cases hf
    | succ fu ih =>
      intro x3 x5 v_rs v_cs o0 o1 o2 hf hk0 H locs ls hP hD hS hl
      rw [L_X12_rankOf_19] at hf
      refine lv_iload hx hb dX12_rankOf_19 (lv_at hl 5 rfl) ?_
      refine lv_bipush (v := 32) hx hb dX12_rankOf_21 (by decide) ?_
      refine lv_icmp_ge (tgt := 107) hx hb dX12_rankOf_23 (by decide) (fun c4 => ?_) (fun c4 => ?_)
      · have hf := kp_e hf c4
        obtain ⟨rfl, rfl, rfl⟩ := ki3 hf
        exact hk0 _ _ _ hP hD hS (lv_sub hl [0, 1, 2, 3, 4] rfl)
      · have hf := kn_e hf c4
        refine lv_iload hx hb dX12_rankOf_26 (lv_at hl 4 rfl) ?_
        obtain ⟨r5, h6, hf⟩ := kb1_e hf
        refine k_gi (nW := 4) (ws' := [(q, .inr (11, [.ref q_w, .int v_known, .int v_kept, .int v_seed, .ref q_imageSeed, .ref q_bookOf, .ref q_bookAt, .ref q_bookIs, .int v_written, .ref q_rs, .ref q_cs, .long v_above, .long v_below, .ref q_zs, .long v_leftAbove, .long v_leftBelow, .long v_guessAbove, .long v_guessBelow, .int v_sign, .int v_power2, .long v_bits])), (q_w, .inl (cI, 418, .inl v_w)), (q_rs, .inl (cI, 4, .inl v_rs)), (q_cs, .inl (cI, 4, .inl v_cs))]) (wr := [(q, .inr (11, [.ref q_w, .int v_known, .int v_kept, .int v_seed, .ref q_imageSeed, .ref q_bookOf, .ref q_bookAt, .ref q_bookIs, .int v_written, .ref q_rs, .ref q_cs, .long v_above, .long v_below, .ref q_zs, .long v_leftAbove, .long v_leftBelow, .long v_guessAbove, .long v_guessBelow, .int v_sign, .int v_power2, .long v_bits])), (q_w, .inl (cI, 418, .inl v_w)), (q_rs, .inl (cI, 4, .inl v_rs)), (q_cs, .inl (cI, 4, .inl v_cs))]) (k_runS (rest := []) hat hP hD hS hl.1 (c_X12_ones x4 r5 h6) [] (by decide) rfl kw935 kw936 kw79 kw937 kdX12_ones ⟨rfl, rfl⟩ (by rw [hR]; exact ⟨Nat.le_of_ble_eq_true rfl, Nat.le_of_ble_eq_true rfl⟩) ⟨Nat.zero_le _, Nat.zero_le _⟩ rfl rfl (Nat.le_of_ble_eq_true rfl) dX12_rankOf_28) hat hP hD hS [] rfl [0, 1, 2, 3] rfl rfl rfl rfl rfl (by decide) (fun H locs hP hD hS => ?_)
        refine lv_iload_n hx hb dX12_rankOf_31 rfl (lv_at hl 3 rfl) ?_
        refine lv_icmp_le (tgt := 107) hx hb dX12_rankOf_32 (by decide) (fun c7 => ?_) (fun c7 => ?_)
        · have hf := kp_e hf c7
          obtain ⟨rfl, rfl, rfl⟩ := ki3 hf
          exact hk0 _ _ _ hP hD hS (lv_sub hl [0, 1, 2, 3, 4] rfl)
        · have hf := kn_e hf c7
          refine lv_iload hx hb dX12_rankOf_35 (lv_at hl 5 rfl) ?_
          refine lv_iload_n hx hb dX12_rankOf_37 rfl (lv_at hl 1 rfl) ?_
          refine lv_iconst (v := -1) hx hb dX12_rankOf_38 (by decide) ?_
          refine lv_ixor hx hb dX12_rankOf_39 ?_
          refine lv_iand hx hb dX12_rankOf_40 ?_
          refine lv_if_ne (tgt := 101) hx hb dX12_rankOf_41 (by decide) (fun c8 => ?_) (fun c8 => ?_)
          · have hf := kn_e hf c8
            obtain ⟨t9, et9⟩ : ∃ z : Int32, z = (x5 + (1 : Int32)) := ⟨_, rfl⟩
            have hf := kl_e hf t9 et9
            refine lv_iinc (v := t9) (lv' := [(5, .int t9), (0, .ref q), (1, .int x1), (2, .int x2), (3, .int x3), (4, .int x4)]) hx hb dX12_rankOf_101 hl (k := 5) rfl (by rw [et9]; rfl) (by decide) rfl (fun ls hl => ?_)
            refine lv_goto (tgt := 19) hx hb dX12_rankOf_104 (by decide) ?_
            exact ih x3 t9 v_rs v_cs o0 o1 o2 hf hk0 _ _ _ hP hD hS (lv_sub hl [1, 2, 3, 4, 5, 0] rfl)
          · have hf := kp_e hf c8
            refine lv_iload hx hb dX12_rankOf_44 (lv_at hl 5 rfl) ?_
            obtain ⟨r10, h11, hf⟩ := kb1_e hf
            refine k_gi (nW := 4) (ws' := [(q, .inr (11, [.ref q_w, .int v_known, .int v_kept, .int v_seed, .ref q_imageSeed, .ref q_bookOf, .ref q_bookAt, .ref q_bookIs, .int v_written, .ref q_rs, .ref q_cs, .long v_above, .long v_below, .ref q_zs, .long v_leftAbove, .long v_leftBelow, .long v_guessAbove, .long v_guessBelow, .int v_sign, .int v_power2, .long v_bits])), (q_w, .inl (cI, 418, .inl v_w)), (q_rs, .inl (cI, 4, .inl v_rs)), (q_cs, .inl (cI, 4, .inl v_cs))]) (wr := [(q, .inr (11, [.ref q_w, .int v_known, .int v_kept, .int v_seed, .ref q_imageSeed, .ref q_bookOf, .ref q_bookAt, .ref q_bookIs, .int v_written, .ref q_rs, .ref q_cs, .long v_above, .long v_below, .ref q_zs, .long v_leftAbove, .long v_leftBelow, .long v_guessAbove, .long v_guessBelow, .int v_sign, .int v_power2, .long v_bits])), (q_w, .inl (cI, 418, .inl v_w)), (q_rs, .inl (cI, 4, .inl v_rs)), (q_cs, .inl (cI, 4, .inl v_cs))]) (k_runS (rest := []) hat hP hD hS hl.1 (c_X12_ones x5 r10 h11) [] (by decide) rfl kw935 kw936 kw79 kw937 kdX12_ones ⟨rfl, rfl⟩ (by rw [hR]; exact ⟨Nat.le_of_ble_eq_true rfl, Nat.le_of_ble_eq_true rfl⟩) ⟨Nat.zero_le _, Nat.zero_le _⟩ rfl rfl (Nat.le_of_ble_eq_true rfl) dX12_rankOf_46) hat hP hD hS [] rfl [0, 1, 2, 3] rfl rfl rfl rfl rfl (by decide) (fun H locs hP hD hS => ?_)
            refine lv_iload hx hb dX12_rankOf_49 (lv_at hl 4 rfl) ?_
            obtain ⟨r12, h13, hf⟩ := kb1_e hf
            refine k_gi (nW := 4) (ws' := [(q, .inr (11, [.ref q_w, .int v_known, .int v_kept, .int v_seed, .ref q_imageSeed, .ref q_bookOf, .ref q_bookAt, .ref q_bookIs, .int v_written, .ref q_rs, .ref q_cs, .long v_above, .long v_below, .ref q_zs, .long v_leftAbove, .long v_leftBelow, .long v_guessAbove, .long v_guessBelow, .int v_sign, .int v_power2, .long v_bits])), (q_w, .inl (cI, 418, .inl v_w)), (q_rs, .inl (cI, 4, .inl v_rs)), (q_cs, .inl (cI, 4, .inl v_cs))]) (wr := [(q, .inr (11, [.ref q_w, .int v_known, .int v_kept, .int v_seed, .ref q_imageSeed, .ref q_bookOf, .ref q_bookAt, .ref q_bookIs, .int v_written, .ref q_rs, .ref q_cs, .long v_above, .long v_below, .ref q_zs, .long v_leftAbove, .long v_leftBelow, .long v_guessAbove, .long v_guessBelow, .int v_sign, .int v_power2, .long v_bits])), (q_w, .inl (cI, 418, .inl v_w)), (q_rs, .inl (cI, 4, .inl v_rs)), (q_cs, .inl (cI, 4, .inl v_cs))]) (k_runS (rest := [.int r10]) hat hP hD hS hl.1 (c_X12_ones x4 r12 h13) [] (by decide) rfl kw935 kw936 kw79 kw937 kdX12_ones ⟨rfl, rfl⟩ (by rw [hR]; exact ⟨Nat.le_of_ble_eq_true rfl, Nat.le_of_ble_eq_true rfl⟩) ⟨Nat.zero_le _, Nat.zero_le _⟩ rfl rfl (Nat.le_of_ble_eq_true rfl) dX12_rankOf_51) hat hP hD hS [] rfl [0, 1, 2, 3] rfl rfl rfl rfl rfl (by decide) (fun H locs hP hD hS => ?_)
            refine lv_icmp_ne (tgt := 101) hx hb dX12_rankOf_54 (by decide) (fun c14 => ?_) (fun c14 => ?_)
            · have hf := kn_e hf c14
              obtain ⟨t15, et15⟩ : ∃ z : Int32, z = (x5 + (1 : Int32)) := ⟨_, rfl⟩
              have hf := kl_e hf t15 et15
              refine lv_iinc (v := t15) (lv' := [(5, .int t15), (0, .ref q), (1, .int x1), (2, .int x2), (3, .int x3), (4, .int x4)]) hx hb dX12_rankOf_101 hl (k := 5) rfl (by rw [et15]; rfl) (by decide) rfl (fun ls hl => ?_)
              refine lv_goto (tgt := 19) hx hb dX12_rankOf_104 (by decide) ?_
              exact ih x3 t15 v_rs v_cs o0 o1 o2 hf hk0 _ _ _ hP hD hS (lv_sub hl [1, 2, 3, 4, 5, 0] rfl)
            · have hf := kp_e hf c14
              refine lv_aload_n hx hb dX12_rankOf_57 rfl (lv_at hl 0 rfl) ?_
              refine lv_iload hx hb dX12_rankOf_58 (lv_at hl 4 rfl) ?_
              refine lv_iload hx hb dX12_rankOf_60 (lv_at hl 5 rfl) ?_
              obtain ⟨r16, w17, w18, h19, hf⟩ := kb3_e hf
              refine k_gl (nW := 4) (ws' := [(q, .inr (11, [.ref q_w, .int v_known, .int v_kept, .int v_seed, .ref q_imageSeed, .ref q_bookOf, .ref q_bookAt, .ref q_bookIs, .int v_written, .ref q_rs, .ref q_cs, .long v_above, .long v_below, .ref q_zs, .long v_leftAbove, .long v_leftBelow, .long v_guessAbove, .long v_guessBelow, .int v_sign, .int v_power2, .long v_bits])), (q_w, .inl (cI, 418, .inl v_w)), (q_rs, .inl (cI, 4, .inl w17)), (q_cs, .inl (cI, 4, .inl w18))]) (wr := []) (k_runV (rest := []) hat hP hD hS hl.1 (c_X12_minor q q_w q_imageSeed q_bookOf q_bookAt q_bookIs q_rs q_cs q_zs v_known v_kept v_seed v_written v_above v_below v_leftAbove v_leftBelow v_guessAbove v_guessBelow v_sign v_power2 v_bits v_w v_rs v_cs F x4 x5 r16 w17 w18 h19) [0, 1, 2, 3] (by decide) rfl kw931 kw933 kw23 kw79 kw934 kdVX12_minor ⟨rfl, rfl⟩ (by rw [hR]; exact ⟨Nat.le_of_ble_eq_true rfl, Nat.le_of_ble_eq_true rfl⟩) ⟨Nat.zero_le _, Nat.zero_le _⟩ 0 11 rfl rfl rfl rfl (Nat.le_of_ble_eq_true rfl) dX12_rankOf_62) hat hP hD hS [0, 1, 2, 3] rfl [] rfl rfl rfl rfl rfl (by decide) (fun H locs hP hD hS => ?_)
              refine lv_lstore (lv' := [(6, .long r16), (0, .ref q), (1, .int x1), (2, .int x2), (3, .int x3), (4, .int x4), (5, .int x5)]) hx hb dX12_rankOf_65 hl (by decide) rfl (fun ls hl => ?_)
              refine lv_iload_n hx hb dX12_rankOf_67 rfl (lv_at hl 3 rfl) ?_
              refine lv_if_ne (tgt := 81) hx hb dX12_rankOf_68 (by decide) (fun c20 => ?_) (fun c20 => ?_)
              · have hf := kn_e hf c20
                refine lv_lload hx hb dX12_rankOf_81 (lv_at hl 0 rfl) ?_
                refine lv_iload_n hx hb dX12_rankOf_83 rfl (lv_at hl 3 rfl) ?_
                refine lv_i2l hx hb dX12_rankOf_84 rfl ?_
                obtain ⟨c21, hf⟩ := kc_e hf
                refine lv_lrem hx hb dX12_rankOf_85 c21 ?_
                refine lv_lconst (v := 0) hx hb dX12_rankOf_86 (by decide) ?_
                refine k_lcmp_eq (tgt := 99) hx hb dX12_rankOf_87 dX12_rankOf_88 (by decide) (fun c22 => ?_) (fun c22 => ?_)
                · have hf := kp_e hf c22
                  refine lv_iload_n hx hb dX12_rankOf_99 rfl (lv_at hl 4 rfl) ?_
                  refine lv_istore_n (lv' := [(3, .int x3), (6, .long r16), (0, .ref q), (1, .int x1), (2, .int x2), (4, .int x4), (5, .int x5)]) hx hb dX12_rankOf_100 rfl hl (by decide) rfl (fun ls hl => ?_)
                  obtain ⟨t23, et23⟩ : ∃ z : Int32, z = (x5 + (1 : Int32)) := ⟨_, rfl⟩
                  have hf := kl_e hf t23 et23
                  refine lv_iinc (v := t23) (lv' := [(5, .int t23), (3, .int x3), (6, .long r16), (0, .ref q), (1, .int x1), (2, .int x2), (4, .int x4)]) hx hb dX12_rankOf_101 hl (k := 6) rfl (by rw [et23]; rfl) (by decide) rfl (fun ls hl => ?_)
                  refine lv_goto (tgt := 19) hx hb dX12_rankOf_104 (by decide) ?_
                  exact ih x3 t23 w17 w18 o0 o1 o2 hf hk0 _ _ _ hP hD hS (lv_sub hl [3, 4, 5, 1, 6, 0] rfl)
                · have hf := kn_e hf c22
                  refine lv_iload hx hb dX12_rankOf_91 (lv_at hl 5 rfl) ?_
                  obtain ⟨r24, h25, hf⟩ := kb1_e hf
                  refine k_gi (nW := 4) (ws' := [(q, .inr (11, [.ref q_w, .int v_known, .int v_kept, .int v_seed, .ref q_imageSeed, .ref q_bookOf, .ref q_bookAt, .ref q_bookIs, .int v_written, .ref q_rs, .ref q_cs, .long v_above, .long v_below, .ref q_zs, .long v_leftAbove, .long v_leftBelow, .long v_guessAbove, .long v_guessBelow, .int v_sign, .int v_power2, .long v_bits])), (q_w, .inl (cI, 418, .inl v_w)), (q_rs, .inl (cI, 4, .inl w17)), (q_cs, .inl (cI, 4, .inl w18))]) (wr := [(q, .inr (11, [.ref q_w, .int v_known, .int v_kept, .int v_seed, .ref q_imageSeed, .ref q_bookOf, .ref q_bookAt, .ref q_bookIs, .int v_written, .ref q_rs, .ref q_cs, .long v_above, .long v_below, .ref q_zs, .long v_leftAbove, .long v_leftBelow, .long v_guessAbove, .long v_guessBelow, .int v_sign, .int v_power2, .long v_bits])), (q_w, .inl (cI, 418, .inl v_w)), (q_rs, .inl (cI, 4, .inl w17)), (q_cs, .inl (cI, 4, .inl w18))]) (k_runS (rest := []) hat hP hD hS hl.1 (c_X12_ones x4 r24 h25) [] (by decide) rfl kw935 kw936 kw79 kw937 kdX12_ones ⟨rfl, rfl⟩ (by rw [hR]; exact ⟨Nat.le_of_ble_eq_true rfl, Nat.le_of_ble_eq_true rfl⟩) ⟨Nat.zero_le _, Nat.zero_le _⟩ rfl rfl (Nat.le_of_ble_eq_true rfl) dX12_rankOf_93) hat hP hD hS [] rfl [0, 1, 2, 3] rfl rfl rfl rfl rfl (by decide) (fun H locs hP hD hS => ?_)
                  refine lv_goto (tgt := 100) hx hb dX12_rankOf_96 (by decide) ?_
                  refine lv_istore_n (lv' := [(3, .int r24), (6, .long r16), (0, .ref q), (1, .int x1), (2, .int x2), (4, .int x4), (5, .int x5)]) hx hb dX12_rankOf_100 rfl hl (by decide) rfl (fun ls hl => ?_)
                  obtain ⟨t26, et26⟩ : ∃ z : Int32, z = (x5 + (1 : Int32)) := ⟨_, rfl⟩
                  have hf := kl_e hf t26 et26
                  refine lv_iinc (v := t26) (lv' := [(5, .int t26), (3, .int r24), (6, .long r16), (0, .ref q), (1, .int x1), (2, .int x2), (4, .int x4)]) hx hb dX12_rankOf_101 hl (k := 6) rfl (by rw [et26]; rfl) (by decide) rfl (fun ls hl => ?_)
                  refine lv_goto (tgt := 19) hx hb dX12_rankOf_104 (by decide) ?_
                  exact ih r24 t26 w17 w18 o0 o1 o2 hf hk0 _ _ _ hP hD hS (lv_sub hl [3, 4, 5, 1, 6, 0] rfl)
              · have hf := kp_e hf c20
                refine lv_lload hx hb dX12_rankOf_71 (lv_at hl 0 rfl) ?_
                refine lv_lconst (v := 0) hx hb dX12_rankOf_73 (by decide) ?_
                refine k_lcmp_eq (tgt := 99) hx hb dX12_rankOf_74 dX12_rankOf_75 (by decide) (fun c27 => ?_) (fun c27 => ?_)
                · have hf := kp_e hf c27
                  refine lv_iload_n hx hb dX12_rankOf_99 rfl (lv_at hl 4 rfl) ?_
                  refine lv_istore_n (lv' := [(3, .int x3), (6, .long r16), (0, .ref q), (1, .int x1), (2, .int x2), (4, .int x4), (5, .int x5)]) hx hb dX12_rankOf_100 rfl hl (by decide) rfl (fun ls hl => ?_)
                  obtain ⟨t28, et28⟩ : ∃ z : Int32, z = (x5 + (1 : Int32)) := ⟨_, rfl⟩
                  have hf := kl_e hf t28 et28
                  refine lv_iinc (v := t28) (lv' := [(5, .int t28), (3, .int x3), (6, .long r16), (0, .ref q), (1, .int x1), (2, .int x2), (4, .int x4)]) hx hb dX12_rankOf_101 hl (k := 6) rfl (by rw [et28]; rfl) (by decide) rfl (fun ls hl => ?_)
                  refine lv_goto (tgt := 19) hx hb dX12_rankOf_104 (by decide) ?_
                  exact ih x3 t28 w17 w18 o0 o1 o2 hf hk0 _ _ _ hP hD hS (lv_sub hl [3, 4, 5, 1, 6, 0] rfl)
                · have hf := kn_e hf c27
                  refine lv_goto (tgt := 91) hx hb dX12_rankOf_78 (by decide) ?_
                  refine lv_iload hx hb dX12_rankOf_91 (lv_at hl 5 rfl) ?_
                  obtain ⟨r29, h30, hf⟩ := kb1_e hf
                  refine k_gi (nW := 4) (ws' := [(q, .inr (11, [.ref q_w, .int v_known, .int v_kept, .int v_seed, .ref q_imageSeed, .ref q_bookOf, .ref q_bookAt, .ref q_bookIs, .int v_written, .ref q_rs, .ref q_cs, .long v_above, .long v_below, .ref q_zs, .long v_leftAbove, .long v_leftBelow, .long v_guessAbove, .long v_guessBelow, .int v_sign, .int v_power2, .long v_bits])), (q_w, .inl (cI, 418, .inl v_w)), (q_rs, .inl (cI, 4, .inl w17)), (q_cs, .inl (cI, 4, .inl w18))]) (wr := [(q, .inr (11, [.ref q_w, .int v_known, .int v_kept, .int v_seed, .ref q_imageSeed, .ref q_bookOf, .ref q_bookAt, .ref q_bookIs, .int v_written, .ref q_rs, .ref q_cs, .long v_above, .long v_below, .ref q_zs, .long v_leftAbove, .long v_leftBelow, .long v_guessAbove, .long v_guessBelow, .int v_sign, .int v_power2, .long v_bits])), (q_w, .inl (cI, 418, .inl v_w)), (q_rs, .inl (cI, 4, .inl w17)), (q_cs, .inl (cI, 4, .inl w18))]) (k_runS (rest := []) hat hP hD hS hl.1 (c_X12_ones x4 r29 h30) [] (by decide) rfl kw935 kw936 kw79 kw937 kdX12_ones ⟨rfl, rfl⟩ (by rw [hR]; exact ⟨Nat.le_of_ble_eq_true rfl, Nat.le_of_ble_eq_true rfl⟩) ⟨Nat.zero_le _, Nat.zero_le _⟩ rfl rfl (Nat.le_of_ble_eq_true rfl) dX12_rankOf_93) hat hP hD hS [] rfl [0, 1, 2, 3] rfl rfl rfl rfl rfl (by decide) (fun H locs hP hD hS => ?_)
                  refine lv_goto (tgt := 100) hx hb dX12_rankOf_96 (by decide) ?_
                  refine lv_istore_n (lv' := [(3, .int r29), (6, .long r16), (0, .ref q), (1, .int x1), (2, .int x2), (4, .int x4), (5, .int x5)]) hx hb dX12_rankOf_100 rfl hl (by decide) rfl (fun ls hl => ?_)
                  obtain ⟨t31, et31⟩ : ∃ z : Int32, z = (x5 + (1 : Int32)) := ⟨_, rfl⟩
                  have hf := kl_e hf t31 et31
                  refine lv_iinc (v := t31) (lv' := [(5, .int t31), (3, .int r29), (6, .long r16), (0, .ref q), (1, .int x1), (2, .int x2), (4, .int x4)]) hx hb dX12_rankOf_101 hl (k := 6) rfl (by rw [et31]; rfl) (by decide) rfl (fun ls hl => ?_)
                  refine lv_goto (tgt := 19) hx hb dX12_rankOf_104 (by decide) ?_
                  exact ih r29 t31 w17 w18 o0 o1 o2 hf hk0 _ _ _ hP hD hS (lv_sub hl [3, 4, 5, 1, 6, 0] rfl)
  have hL5 : ∀ (x1 : Int32) (x2 : Int32) (v_known : Int32) (v_kept : Int32) (v_seed : Int32) (v_written : Int32) (v_above : Int64) (v_below : Int64) (v_leftAbove : Int64) (v_leftBelow : Int64) (v_guessAbove : Int64) (v_guessBelow : Int64) (v_sign : Int32) (v_power2 : Int32) (v_bits : Int64) (v_w : (Nat → Int32)) (fu : Nat) (x3 : Int32) (x4 : Int32) (v_rs : (Nat → Int32)) (v_cs : (Nat → Int32)) (o0 : Int32) (o1 : (Nat → Int32)) (o2 : (Nat → Int32)), L_X12_rankOf_5 F x1 x2 v_w fu x3 x4 v_rs v_cs = some (o0, o1, o2) → (∀ (H : Heap) (locs : List Loc) (ls : Array Slot), va_P D vwCl [(q, .inr (11, [.ref q_w, .int v_known, .int v_kept, .int v_seed, .ref q_imageSeed, .ref q_bookOf, .ref q_bookAt, .ref q_bookIs, .int v_written, .ref q_rs, .ref q_cs, .long v_above, .long v_below, .ref q_zs, .long v_leftAbove, .long v_leftBelow, .long v_guessAbove, .long v_guessBelow, .int v_sign, .int v_power2, .long v_bits])), (q_w, .inl (cI, 418, .inl v_w)), (q_rs, .inl (cI, 4, .inl o1)), (q_cs, .inl (cI, 4, .inl o2))] H → va_D A [(q, .inr (11, [.ref q_w, .int v_known, .int v_kept, .int v_seed, .ref q_imageSeed, .ref q_bookOf, .ref q_bookAt, .ref q_bookIs, .int v_written, .ref q_rs, .ref q_cs, .long v_above, .long v_below, .ref q_zs, .long v_leftAbove, .long v_leftBelow, .long v_guessAbove, .long v_guessBelow, .int v_sign, .int v_power2, .long v_bits])), (q_w, .inl (cI, 418, .inl v_w)), (q_rs, .inl (cI, 4, .inl o1)), (q_cs, .inl (cI, 4, .inl o2))] → va_S A s.heap H locs → lv_has ls 8 [(3, .int o0)] → W p l e R s m args below meth c H locs 0 0 Q (F0 m 113 ls [])) → ∀ (H : Heap) (locs : List Loc) (ls : Array Slot), va_P D vwCl [(q, .inr (11, [.ref q_w, .int v_known, .int v_kept, .int v_seed, .ref q_imageSeed, .ref q_bookOf, .ref q_bookAt, .ref q_bookIs, .int v_written, .ref q_rs, .ref q_cs, .long v_above, .long v_below, .ref q_zs, .long v_leftAbove, .long v_leftBelow, .long v_guessAbove, .long v_guessBelow, .int v_sign, .int v_power2, .long v_bits])), (q_w, .inl (cI, 418, .inl v_w)), (q_rs, .inl (cI, 4, .inl v_rs)), (q_cs, .inl (cI, 4, .inl v_cs))] H → va_D A [(q, .inr (11, [.ref q_w, .int v_known, .int v_kept, .int v_seed, .ref q_imageSeed, .ref q_bookOf, .ref q_bookAt, .ref q_bookIs, .int v_written, .ref q_rs, .ref q_cs, .long v_above, .long v_below, .ref q_zs, .long v_leftAbove, .long v_leftBelow, .long v_guessAbove, .long v_guessBelow, .int v_sign, .int v_power2, .long v_bits])), (q_w, .inl (cI, 418, .inl v_w)), (q_rs, .inl (cI, 4, .inl v_rs)), (q_cs, .inl (cI, 4, .inl v_cs))] → va_S A s.heap H locs → lv_has ls 8 [(0, .ref q), (1, .int x1), (2, .int x2), (3, .int x3), (4, .int x4)] → W p l e R s m args below meth c H locs 0 0 Q (F0 m 5 ls []) := by
    intro x1 x2 v_known v_kept v_seed v_written v_above v_below v_leftAbove v_leftBelow v_guessAbove v_guessBelow v_sign v_power2 v_bits v_w fu
    induction fu with
    | zero =>
      intro x3 x4 v_rs v_cs o0 o1 o2 hf
      cases hf
    | succ fu ih =>
      intro x3 x4 v_rs v_cs o0 o1 o2 hf hk0 H locs ls hP hD hS hl
      rw [L_X12_rankOf_5] at hf
      refine lv_iload hx hb dX12_rankOf_5 (lv_at hl 4 rfl) ?_
      refine lv_iconst (v := 1) hx hb dX12_rankOf_7 (by decide) ?_
      refine lv_aload_n hx hb dX12_rankOf_8 rfl (lv_at hl 0 rfl) ?_
      obtain ⟨r1, h2, hf⟩ := kb1_e hf
      refine k_gi (nW := 4) (ws' := [(q, .inr (11, [.ref q_w, .int v_known, .int v_kept, .int v_seed, .ref q_imageSeed, .ref q_bookOf, .ref q_bookAt, .ref q_bookIs, .int v_written, .ref q_rs, .ref q_cs, .long v_above, .long v_below, .ref q_zs, .long v_leftAbove, .long v_leftBelow, .long v_guessAbove, .long v_guessBelow, .int v_sign, .int v_power2, .long v_bits])), (q_w, .inl (cI, 418, .inl v_w)), (q_rs, .inl (cI, 4, .inl v_rs)), (q_cs, .inl (cI, 4, .inl v_cs))]) (wr := [(q_rs, .inl (cI, 4, .inl v_rs)), (q_cs, .inl (cI, 4, .inl v_cs))]) (k_runV (rest := [.int (1 : Int32), .int x4]) hat hP hD hS hl.1 (c_X12_n q q_w q_imageSeed q_bookOf q_bookAt q_bookIs q_rs q_cs q_zs v_known v_kept v_seed v_written v_above v_below v_leftAbove v_leftBelow v_guessAbove v_guessBelow v_sign v_power2 v_bits v_w r1 h2) [0, 1] (by decide) rfl kw912 kw914 kw19 kw79 kw915 kdVX12_n ⟨rfl, rfl⟩ (by rw [hR]; exact ⟨Nat.le_of_ble_eq_true rfl, Nat.le_of_ble_eq_true rfl⟩) ⟨Nat.zero_le _, Nat.zero_le _⟩ 0 11 rfl rfl rfl rfl (Nat.le_of_ble_eq_true rfl) dX12_rankOf_9) hat hP hD hS [0, 1] rfl [2, 3] rfl rfl rfl rfl rfl (by decide) (fun H locs hP hD hS => ?_)
      refine lv_ishl hx hb dX12_rankOf_12 ?_
      refine lv_icmp_ge (tgt := 113) hx hb dX12_rankOf_13 (by decide) (fun c3 => ?_) (fun c3 => ?_)
      · have hf := kp_e hf c3
        obtain ⟨rfl, rfl, rfl⟩ := ki3 hf
        exact hk0 _ _ _ hP hD hS (lv_sub hl [3] rfl)
      · have hf := kn_e hf c3
        refine lv_iconst (v := 1) hx hb dX12_rankOf_16 (by decide) ?_
        refine lv_istore (lv' := [(5, .int (1 : Int32)), (0, .ref q), (1, .int x1), (2, .int x2), (3, .int x3), (4, .int x4)]) hx hb dX12_rankOf_17 hl (by decide) rfl (fun ls hl => ?_)
        obtain ⟨y32, w33, w34, hu, hf⟩ := kb3_e hf
        refine hL19 x1 x2 x4 v_known v_kept v_seed v_written v_above v_below v_leftAbove v_leftBelow v_guessAbove v_guessBelow v_sign v_power2 v_bits v_w F x3 (1 : Int32) v_rs v_cs y32 w33 w34 hu (fun H locs ls hP hD hS hl => ?_) _ _ _ hP hD hS (lv_sub hl [1, 2, 3, 4, 5, 0] rfl)
        obtain ⟨t35, et35⟩ : ∃ z : Int32, z = (x4 + (1 : Int32)) := ⟨_, rfl⟩
        have hf := kl_e hf t35 et35
        refine lv_iinc (v := t35) (lv' := [(4, .int t35), (0, .ref q), (1, .int x1), (2, .int x2), (3, .int y32)]) hx hb dX12_rankOf_107 hl (k := 4) rfl (by rw [et35]; rfl) (by decide) rfl (fun ls hl => ?_)
        refine lv_goto (tgt := 5) hx hb dX12_rankOf_110 (by decide) ?_
        exact ih y32 t35 w33 w34 o0 o1 o2 hf hk0 _ _ _ hP hD hS (lv_sub hl [1, 2, 3, 4, 0] rfl)
  unfold f_X12_rankOf at hf
  refine lv_iconst (v := 0) hx hb dX12_rankOf_0 (by decide) ?_
  refine lv_istore_n (lv' := [(3, .int (0 : Int32)), (0, .ref q), (1, .int x1), (2, .int x2)]) hx hb dX12_rankOf_1 rfl hl (by decide) rfl (fun ls hl => ?_)
  refine lv_iconst (v := 1) hx hb dX12_rankOf_2 (by decide) ?_
  refine lv_istore (lv' := [(4, .int (1 : Int32)), (3, .int (0 : Int32)), (0, .ref q), (1, .int x1), (2, .int x2)]) hx hb dX12_rankOf_3 hl (by decide) rfl (fun ls hl => ?_)
  obtain ⟨y36, w37, w38, hu, hf⟩ := kb3_e hf
  refine hL5 x1 x2 v_known v_kept v_seed v_written v_above v_below v_leftAbove v_leftBelow v_guessAbove v_guessBelow v_sign v_power2 v_bits v_w F (0 : Int32) (1 : Int32) v_rs v_cs y36 w37 w38 hu (fun H locs ls hP hD hS hl => ?_) _ _ _ hP hD hS (lv_sub hl [2, 3, 4, 1, 0] rfl)
  refine lv_iload_n hx hb dX12_rankOf_113 rfl (lv_at hl 0 rfl) ?_
  obtain ⟨rfl, rfl, rfl⟩ := ki3 hf
  rw [hQ]
  exact k_iret hat hP hS rfl dX12_rankOf_114
set_option maxHeartbeats 4000000 in
set_option maxRecDepth 100000 in
theorem c_X12_rank {l : Launch} {D : va_G} {cI cJ cQ : ClassId} {tp : Nat} (q : Nat) (q_w : Nat) (q_imageSeed : Nat) (q_bookOf : Nat) (q_bookAt : Nat) (q_bookIs : Nat) (q_rs : Nat) (q_cs : Nat) (q_zs : Nat) (v_known : Int32) (v_kept : Int32) (v_seed : Int32) (v_written : Int32) (v_above : Int64) (v_below : Int64) (v_leftAbove : Int64) (v_leftBelow : Int64) (v_guessAbove : Int64) (v_guessBelow : Int64) (v_sign : Int32) (v_power2 : Int32) (v_bits : Int64) (v_w : (Nat → Int32)) (v_rs : (Nat → Int32)) (v_cs : (Nat → Int32)) (F : Nat) (r0 : Int32) (o_v_rs : (Nat → Int32)) (o_v_cs : (Nat → Int32)) (hf : f_X12_rank F v_w v_rs v_cs = some (r0, o_v_rs, o_v_cs)) : kM (fun A => kQi D A [(q, .inr (11, [.ref q_w, .int v_known, .int v_kept, .int v_seed, .ref q_imageSeed, .ref q_bookOf, .ref q_bookAt, .ref q_bookIs, .int v_written, .ref q_rs, .ref q_cs, .long v_above, .long v_below, .ref q_zs, .long v_leftAbove, .long v_leftBelow, .long v_guessAbove, .long v_guessBelow, .int v_sign, .int v_power2, .long v_bits])), (q_w, .inl (cI, 418, .inl v_w)), (q_rs, .inl (cI, 4, .inl o_v_rs)), (q_cs, .inl (cI, 4, .inl o_v_cs))] r0) (some .int) l yX12_rank cX12_rank 1 { frames := 7, cells := 0, slots := 0, locals := 164 } D cI cJ cQ tp [.ref q] [(q, .inr (11, [.ref q_w, .int v_known, .int v_kept, .int v_seed, .ref q_imageSeed, .ref q_bookOf, .ref q_bookAt, .ref q_bookIs, .int v_written, .ref q_rs, .ref q_cs, .long v_above, .long v_below, .ref q_zs, .long v_leftAbove, .long v_leftBelow, .long v_guessAbove, .long v_guessBelow, .int v_sign, .int v_power2, .long v_bits])), (q_w, .inl (cI, 418, .inl v_w)), (q_rs, .inl (cI, 4, .inl v_rs)), (q_cs, .inl (cI, 4, .inl v_cs))] := by
  refine kM_of (by decide +kernel) (Nat.le_of_ble_eq_true rfl) ?_
  intro p e s m args below meth c A ls R Q hR hQ hat hP hD hS hl
  obtain ⟨hx, hb, hr, hml, hown, hts, hT, hlk, hK, hA, hZ⟩ := id hat
  have hown : s.vm.findClass RX12 = some m.cls := hown
  have hl : lv_has ls 1 [(0, .ref q)] := hl
  unfold f_X12_rank at hf
  refine lv_aload_n hx hb dX12_rank_0 rfl (lv_at hl 0 rfl) ?_
  obtain ⟨r1, w2, w3, h4, hf⟩ := kb3_e hf
  refine k_gl (nW := 4) (ws' := [(q, .inr (11, [.ref q_w, .int v_known, .int v_kept, .int v_seed, .ref q_imageSeed, .ref q_bookOf, .ref q_bookAt, .ref q_bookIs, .int v_written, .ref q_rs, .ref q_cs, .long v_above, .long v_below, .ref q_zs, .long v_leftAbove, .long v_leftBelow, .long v_guessAbove, .long v_guessBelow, .int v_sign, .int v_power2, .long v_bits])), (q_w, .inl (cI, 418, .inl v_w)), (q_rs, .inl (cI, 4, .inl w2)), (q_cs, .inl (cI, 4, .inl w3))]) (wr := []) (k_runV (rest := []) hat hP hD hS hl.1 (c_X12_determinant q q_w q_imageSeed q_bookOf q_bookAt q_bookIs q_rs q_cs q_zs v_known v_kept v_seed v_written v_above v_below v_leftAbove v_leftBelow v_guessAbove v_guessBelow v_sign v_power2 v_bits v_w v_rs v_cs F r1 w2 w3 h4) [0, 1, 2, 3] (by decide) rfl kw923 kw925 kw21 kw79 kw926 kdVX12_determinant ⟨rfl, rfl⟩ (by rw [hR]; exact ⟨Nat.le_of_ble_eq_true rfl, Nat.le_of_ble_eq_true rfl⟩) ⟨Nat.zero_le _, Nat.zero_le _⟩ 0 11 rfl rfl rfl rfl (Nat.le_of_ble_eq_true rfl) dX12_rank_1) hat hP hD hS [0, 1, 2, 3] rfl [] rfl rfl rfl rfl rfl (by decide) (fun H locs hP hD hS => ?_)
  refine lv_lconst (v := 0) hx hb dX12_rank_4 (by decide) ?_
  refine k_lcmp_eq (tgt := 16) hx hb dX12_rank_5 dX12_rank_6 (by decide) (fun c5 => ?_) (fun c5 => ?_)
  · have hf := kp_e hf c5
    refine lv_aload_n hx hb dX12_rank_16 rfl (lv_at hl 0 rfl) ?_
    refine lv_aload_n hx hb dX12_rank_17 rfl (lv_at hl 0 rfl) ?_
    obtain ⟨r6, h7, hf⟩ := kb1_e hf
    refine k_gi (nW := 4) (ws' := [(q, .inr (11, [.ref q_w, .int v_known, .int v_kept, .int v_seed, .ref q_imageSeed, .ref q_bookOf, .ref q_bookAt, .ref q_bookIs, .int v_written, .ref q_rs, .ref q_cs, .long v_above, .long v_below, .ref q_zs, .long v_leftAbove, .long v_leftBelow, .long v_guessAbove, .long v_guessBelow, .int v_sign, .int v_power2, .long v_bits])), (q_w, .inl (cI, 418, .inl v_w)), (q_rs, .inl (cI, 4, .inl w2)), (q_cs, .inl (cI, 4, .inl w3))]) (wr := [(q_rs, .inl (cI, 4, .inl w2)), (q_cs, .inl (cI, 4, .inl w3))]) (k_runV (rest := [.ref q]) hat hP hD hS hl.1 (c_X12_allColumns q q_w q_imageSeed q_bookOf q_bookAt q_bookIs q_rs q_cs q_zs v_known v_kept v_seed v_written v_above v_below v_leftAbove v_leftBelow v_guessAbove v_guessBelow v_sign v_power2 v_bits v_w r6 h7) [0, 1] (by decide) rfl kw927 kw929 kw22 kw79 kw930 kdVX12_allColumns ⟨rfl, rfl⟩ (by rw [hR]; exact ⟨Nat.le_of_ble_eq_true rfl, Nat.le_of_ble_eq_true rfl⟩) ⟨Nat.zero_le _, Nat.zero_le _⟩ 0 11 rfl rfl rfl rfl (Nat.le_of_ble_eq_true rfl) dX12_rank_18) hat hP hD hS [0, 1] rfl [2, 3] rfl rfl rfl rfl rfl (by decide) (fun H locs hP hD hS => ?_)
    refine lv_iconst (v := 0) hx hb dX12_rank_21 (by decide) ?_
    obtain ⟨r8, w9, w10, h11, hf⟩ := kb3_e hf
    refine k_gi (nW := 4) (ws' := [(q, .inr (11, [.ref q_w, .int v_known, .int v_kept, .int v_seed, .ref q_imageSeed, .ref q_bookOf, .ref q_bookAt, .ref q_bookIs, .int v_written, .ref q_rs, .ref q_cs, .long v_above, .long v_below, .ref q_zs, .long v_leftAbove, .long v_leftBelow, .long v_guessAbove, .long v_guessBelow, .int v_sign, .int v_power2, .long v_bits])), (q_w, .inl (cI, 418, .inl v_w)), (q_rs, .inl (cI, 4, .inl w9)), (q_cs, .inl (cI, 4, .inl w10))]) (wr := []) (k_runV (rest := []) hat hP hD hS hl.1 (c_X12_rankOf q q_w q_imageSeed q_bookOf q_bookAt q_bookIs q_rs q_cs q_zs v_known v_kept v_seed v_written v_above v_below v_leftAbove v_leftBelow v_guessAbove v_guessBelow v_sign v_power2 v_bits v_w w2 w3 F r6 (0 : Int32) r8 w9 w10 h11) [0, 1, 2, 3] (by decide) rfl kw969 kw971 kw30 kw79 kw972 kdVX12_rankOf ⟨rfl, rfl⟩ (by rw [hR]; exact ⟨Nat.le_of_ble_eq_true rfl, Nat.le_of_ble_eq_true rfl⟩) ⟨Nat.zero_le _, Nat.zero_le _⟩ 0 11 rfl rfl rfl rfl (Nat.le_of_ble_eq_true rfl) dX12_rank_22) hat hP hD hS [0, 1, 2, 3] rfl [] rfl rfl rfl rfl rfl (by decide) (fun H locs hP hD hS => ?_)
    obtain ⟨rfl, rfl, rfl⟩ := ki3 hf
    rw [hQ]
    exact k_iret hat hP hS rfl dX12_rank_25
  · have hf := kn_e hf c5
    refine lv_aload_n hx hb dX12_rank_9 rfl (lv_at hl 0 rfl) ?_
    obtain ⟨r12, h13, hf⟩ := kb1_e hf
    refine k_gi (nW := 4) (ws' := [(q, .inr (11, [.ref q_w, .int v_known, .int v_kept, .int v_seed, .ref q_imageSeed, .ref q_bookOf, .ref q_bookAt, .ref q_bookIs, .int v_written, .ref q_rs, .ref q_cs, .long v_above, .long v_below, .ref q_zs, .long v_leftAbove, .long v_leftBelow, .long v_guessAbove, .long v_guessBelow, .int v_sign, .int v_power2, .long v_bits])), (q_w, .inl (cI, 418, .inl v_w)), (q_rs, .inl (cI, 4, .inl w2)), (q_cs, .inl (cI, 4, .inl w3))]) (wr := [(q_rs, .inl (cI, 4, .inl w2)), (q_cs, .inl (cI, 4, .inl w3))]) (k_runV (rest := []) hat hP hD hS hl.1 (c_X12_n q q_w q_imageSeed q_bookOf q_bookAt q_bookIs q_rs q_cs q_zs v_known v_kept v_seed v_written v_above v_below v_leftAbove v_leftBelow v_guessAbove v_guessBelow v_sign v_power2 v_bits v_w r12 h13) [0, 1] (by decide) rfl kw912 kw914 kw19 kw79 kw915 kdVX12_n ⟨rfl, rfl⟩ (by rw [hR]; exact ⟨Nat.le_of_ble_eq_true rfl, Nat.le_of_ble_eq_true rfl⟩) ⟨Nat.zero_le _, Nat.zero_le _⟩ 0 11 rfl rfl rfl rfl (Nat.le_of_ble_eq_true rfl) dX12_rank_10) hat hP hD hS [0, 1] rfl [2, 3] rfl rfl rfl rfl rfl (by decide) (fun H locs hP hD hS => ?_)
    refine lv_goto (tgt := 25) hx hb dX12_rank_13 (by decide) ?_
    obtain ⟨rfl, rfl, rfl⟩ := ki3 hf
    rw [hQ]
    exact k_iret hat hP hS rfl dX12_rank_25
set_option maxHeartbeats 4000000 in
set_option maxRecDepth 100000 in
theorem c_X12_wideRank {l : Launch} {D : va_G} {cI cJ cQ : ClassId} {tp : Nat} (q : Nat) (q_w : Nat) (q_imageSeed : Nat) (q_bookOf : Nat) (q_bookAt : Nat) (q_bookIs : Nat) (q_rs : Nat) (q_cs : Nat) (q_zs : Nat) (v_known : Int32) (v_kept : Int32) (v_seed : Int32) (v_written : Int32) (v_above : Int64) (v_below : Int64) (v_leftAbove : Int64) (v_leftBelow : Int64) (v_guessAbove : Int64) (v_guessBelow : Int64) (v_sign : Int32) (v_power2 : Int32) (v_bits : Int64) (v_w : (Nat → Int32)) (v_rs : (Nat → Int32)) (v_cs : (Nat → Int32)) (F : Nat) (x1 : Int32) (r0 : Int32) (o_v_rs : (Nat → Int32)) (o_v_cs : (Nat → Int32)) (hf : f_X12_wideRank F v_w v_rs v_cs x1 = some (r0, o_v_rs, o_v_cs)) : kM (fun A => kQi D A [(q, .inr (11, [.ref q_w, .int v_known, .int v_kept, .int v_seed, .ref q_imageSeed, .ref q_bookOf, .ref q_bookAt, .ref q_bookIs, .int v_written, .ref q_rs, .ref q_cs, .long v_above, .long v_below, .ref q_zs, .long v_leftAbove, .long v_leftBelow, .long v_guessAbove, .long v_guessBelow, .int v_sign, .int v_power2, .long v_bits])), (q_w, .inl (cI, 418, .inl v_w)), (q_rs, .inl (cI, 4, .inl o_v_rs)), (q_cs, .inl (cI, 4, .inl o_v_cs))] r0) (some .int) l yX12_wideRank cX12_wideRank 2 { frames := 7, cells := 0, slots := 0, locals := 164 } D cI cJ cQ tp [.ref q, .int x1] [(q, .inr (11, [.ref q_w, .int v_known, .int v_kept, .int v_seed, .ref q_imageSeed, .ref q_bookOf, .ref q_bookAt, .ref q_bookIs, .int v_written, .ref q_rs, .ref q_cs, .long v_above, .long v_below, .ref q_zs, .long v_leftAbove, .long v_leftBelow, .long v_guessAbove, .long v_guessBelow, .int v_sign, .int v_power2, .long v_bits])), (q_w, .inl (cI, 418, .inl v_w)), (q_rs, .inl (cI, 4, .inl v_rs)), (q_cs, .inl (cI, 4, .inl v_cs))] := by
  refine kM_of (by decide +kernel) (Nat.le_of_ble_eq_true rfl) ?_
  intro p e s m args below meth c A ls R Q hR hQ hat hP hD hS hl
  obtain ⟨hx, hb, hr, hml, hown, hts, hT, hlk, hK, hA, hZ⟩ := id hat
  have hown : s.vm.findClass RX12 = some m.cls := hown
  have hl : lv_has ls 2 [(0, .ref q), (1, .int x1)] := hl
  unfold f_X12_wideRank at hf
  refine lv_aload_n hx hb dX12_wideRank_0 rfl (lv_at hl 0 rfl) ?_
  refine lv_aload_n hx hb dX12_wideRank_1 rfl (lv_at hl 0 rfl) ?_
  obtain ⟨r1, h2, hf⟩ := kb1_e hf
  refine k_gi (nW := 4) (ws' := [(q, .inr (11, [.ref q_w, .int v_known, .int v_kept, .int v_seed, .ref q_imageSeed, .ref q_bookOf, .ref q_bookAt, .ref q_bookIs, .int v_written, .ref q_rs, .ref q_cs, .long v_above, .long v_below, .ref q_zs, .long v_leftAbove, .long v_leftBelow, .long v_guessAbove, .long v_guessBelow, .int v_sign, .int v_power2, .long v_bits])), (q_w, .inl (cI, 418, .inl v_w)), (q_rs, .inl (cI, 4, .inl v_rs)), (q_cs, .inl (cI, 4, .inl v_cs))]) (wr := [(q_rs, .inl (cI, 4, .inl v_rs)), (q_cs, .inl (cI, 4, .inl v_cs))]) (k_runV (rest := [.ref q]) hat hP hD hS hl.1 (c_X12_allColumns q q_w q_imageSeed q_bookOf q_bookAt q_bookIs q_rs q_cs q_zs v_known v_kept v_seed v_written v_above v_below v_leftAbove v_leftBelow v_guessAbove v_guessBelow v_sign v_power2 v_bits v_w r1 h2) [0, 1] (by decide) rfl kw927 kw929 kw22 kw79 kw930 kdVX12_allColumns ⟨rfl, rfl⟩ (by rw [hR]; exact ⟨Nat.le_of_ble_eq_true rfl, Nat.le_of_ble_eq_true rfl⟩) ⟨Nat.zero_le _, Nat.zero_le _⟩ 0 11 rfl rfl rfl rfl (Nat.le_of_ble_eq_true rfl) dX12_wideRank_2) hat hP hD hS [0, 1] rfl [2, 3] rfl rfl rfl rfl rfl (by decide) (fun H locs hP hD hS => ?_)
  refine lv_bipush (v := 16) hx hb dX12_wideRank_5 (by decide) ?_
  refine lv_ior hx hb dX12_wideRank_7 ?_
  refine lv_iload_n hx hb dX12_wideRank_8 rfl (lv_at hl 1 rfl) ?_
  obtain ⟨r3, w4, w5, h6, hf⟩ := kb3_e hf
  refine k_gi (nW := 4) (ws' := [(q, .inr (11, [.ref q_w, .int v_known, .int v_kept, .int v_seed, .ref q_imageSeed, .ref q_bookOf, .ref q_bookAt, .ref q_bookIs, .int v_written, .ref q_rs, .ref q_cs, .long v_above, .long v_below, .ref q_zs, .long v_leftAbove, .long v_leftBelow, .long v_guessAbove, .long v_guessBelow, .int v_sign, .int v_power2, .long v_bits])), (q_w, .inl (cI, 418, .inl v_w)), (q_rs, .inl (cI, 4, .inl w4)), (q_cs, .inl (cI, 4, .inl w5))]) (wr := []) (k_runV (rest := []) hat hP hD hS hl.1 (c_X12_rankOf q q_w q_imageSeed q_bookOf q_bookAt q_bookIs q_rs q_cs q_zs v_known v_kept v_seed v_written v_above v_below v_leftAbove v_leftBelow v_guessAbove v_guessBelow v_sign v_power2 v_bits v_w v_rs v_cs F (r1 ||| (16 : Int32)) x1 r3 w4 w5 h6) [0, 1, 2, 3] (by decide) rfl kw969 kw971 kw30 kw79 kw972 kdVX12_rankOf ⟨rfl, rfl⟩ (by rw [hR]; exact ⟨Nat.le_of_ble_eq_true rfl, Nat.le_of_ble_eq_true rfl⟩) ⟨Nat.zero_le _, Nat.zero_le _⟩ 0 11 rfl rfl rfl rfl (Nat.le_of_ble_eq_true rfl) dX12_wideRank_9) hat hP hD hS [0, 1, 2, 3] rfl [] rfl rfl rfl rfl rfl (by decide) (fun H locs hP hD hS => ?_)
  obtain ⟨rfl, rfl, rfl⟩ := ki3 hf
  rw [hQ]
  exact k_iret hat hP hS rfl dX12_wideRank_12
set_option maxHeartbeats 4000000 in
set_option maxRecDepth 100000 in
theorem c_X12_leading {l : Launch} {D : va_G} {cI cJ cQ : ClassId} {tp : Nat} (q : Nat) (q_w : Nat) (q_imageSeed : Nat) (q_bookOf : Nat) (q_bookAt : Nat) (q_bookIs : Nat) (q_rs : Nat) (q_cs : Nat) (q_zs : Nat) (v_known : Int32) (v_kept : Int32) (v_seed : Int32) (v_written : Int32) (v_above : Int64) (v_below : Int64) (v_leftAbove : Int64) (v_leftBelow : Int64) (v_guessAbove : Int64) (v_guessBelow : Int64) (v_sign : Int32) (v_power2 : Int32) (v_bits : Int64) (v_w : (Nat → Int32)) (v_rs : (Nat → Int32)) (v_cs : (Nat → Int32)) (F : Nat) (r0 : Int32) (o_v_rs : (Nat → Int32)) (o_v_cs : (Nat → Int32)) (hf : f_X12_leading F v_w v_rs v_cs = some (r0, o_v_rs, o_v_cs)) : kM (fun A => kQi D A [(q, .inr (11, [.ref q_w, .int v_known, .int v_kept, .int v_seed, .ref q_imageSeed, .ref q_bookOf, .ref q_bookAt, .ref q_bookIs, .int v_written, .ref q_rs, .ref q_cs, .long v_above, .long v_below, .ref q_zs, .long v_leftAbove, .long v_leftBelow, .long v_guessAbove, .long v_guessBelow, .int v_sign, .int v_power2, .long v_bits])), (q_w, .inl (cI, 418, .inl v_w)), (q_rs, .inl (cI, 4, .inl o_v_rs)), (q_cs, .inl (cI, 4, .inl o_v_cs))] r0) (some .int) l yX12_leading cX12_leading 3 { frames := 7, cells := 0, slots := 0, locals := 164 } D cI cJ cQ tp [.ref q] [(q, .inr (11, [.ref q_w, .int v_known, .int v_kept, .int v_seed, .ref q_imageSeed, .ref q_bookOf, .ref q_bookAt, .ref q_bookIs, .int v_written, .ref q_rs, .ref q_cs, .long v_above, .long v_below, .ref q_zs, .long v_leftAbove, .long v_leftBelow, .long v_guessAbove, .long v_guessBelow, .int v_sign, .int v_power2, .long v_bits])), (q_w, .inl (cI, 418, .inl v_w)), (q_rs, .inl (cI, 4, .inl v_rs)), (q_cs, .inl (cI, 4, .inl v_cs))] := by
  refine kM_of (by decide +kernel) (Nat.le_of_ble_eq_true rfl) ?_
  intro p e s m args below meth c A ls R Q hR hQ hat hP hD hS hl
  obtain ⟨hx, hb, hr, hml, hown, hts, hT, hlk, hK, hA, hZ⟩ := id hat
  have hown : s.vm.findClass RX12 = some m.cls := hown
  have hl : lv_has ls 3 [(0, .ref q)] := hl
  have hL18 : ∀ (v_known : Int32) (v_kept : Int32) (v_seed : Int32) (v_written : Int32) (v_above : Int64) (v_below : Int64) (v_leftAbove : Int64) (v_leftBelow : Int64) (v_guessAbove : Int64) (v_guessBelow : Int64) (v_sign : Int32) (v_power2 : Int32) (v_bits : Int64) (v_w : (Nat → Int32)) (fu : Nat) (x1 : Int32) (x2 : Int32) (v_rs : (Nat → Int32)) (v_cs : (Nat → Int32)) (o0 : Int32) (o1 : (Nat → Int32)) (o2 : (Nat → Int32)), L_X12_leading_18 F v_w fu x1 x2 v_rs v_cs = some (o0, o1, o2) → (∀ (H : Heap) (locs : List Loc) (ls : Array Slot), va_P D vwCl [(q, .inr (11, [.ref q_w, .int v_known, .int v_kept, .int v_seed, .ref q_imageSeed, .ref q_bookOf, .ref q_bookAt, .ref q_bookIs, .int v_written, .ref q_rs, .ref q_cs, .long v_above, .long v_below, .ref q_zs, .long v_leftAbove, .long v_leftBelow, .long v_guessAbove, .long v_guessBelow, .int v_sign, .int v_power2, .long v_bits])), (q_w, .inl (cI, 418, .inl v_w)), (q_rs, .inl (cI, 4, .inl o1)), (q_cs, .inl (cI, 4, .inl o2))] H → va_D A [(q, .inr (11, [.ref q_w, .int v_known, .int v_kept, .int v_seed, .ref q_imageSeed, .ref q_bookOf, .ref q_bookAt, .ref q_bookIs, .int v_written, .ref q_rs, .ref q_cs, .long v_above, .long v_below, .ref q_zs, .long v_leftAbove, .long v_leftBelow, .long v_guessAbove, .long v_guessBelow, .int v_sign, .int v_power2, .long v_bits])), (q_w, .inl (cI, 418, .inl v_w)), (q_rs, .inl (cI, 4, .inl o1)), (q_cs, .inl (cI, 4, .inl o2))] → va_S A s.heap H locs → lv_has ls 3 [(1, .int o0)] → W p l e R s m args below meth c H locs 0 0 Q (F0 m 65 ls [])) → ∀ (H : Heap) (locs : List Loc) (ls : Array Slot), va_P D vwCl [(q, .inr (11, [.ref q_w, .int v_known, .int v_kept, .int v_seed, .ref q_imageSeed, .ref q_bookOf, .ref q_bookAt, .ref q_bookIs, .int v_written, .ref q_rs, .ref q_cs, .long v_above, .long v_below, .ref q_zs, .long v_leftAbove, .long v_leftBelow, .long v_guessAbove, .long v_guessBelow, .int v_sign, .int v_power2, .long v_bits])), (q_w, .inl (cI, 418, .inl v_w)), (q_rs, .inl (cI, 4, .inl v_rs)), (q_cs, .inl (cI, 4, .inl v_cs))] H → va_D A [(q, .inr (11, [.ref q_w, .int v_known, .int v_kept, .int v_seed, .ref q_imageSeed, .ref q_bookOf, .ref q_bookAt, .ref q_bookIs, .int v_written, .ref q_rs, .ref q_cs, .long v_above, .long v_below, .ref q_zs, .long v_leftAbove, .long v_leftBelow, .long v_guessAbove, .long v_guessBelow, .int v_sign, .int v_power2, .long v_bits])), (q_w, .inl (cI, 418, .inl v_w)), (q_rs, .inl (cI, 4, .inl v_rs)), (q_cs, .inl (cI, 4, .inl v_cs))] → va_S A s.heap H locs → lv_has ls 3 [(0, .ref q), (1, .int x1), (2, .int x2)] → W p l e R s m args below meth c H locs 0 0 Q (F0 m 18 ls []) := by
    intro v_known v_kept v_seed v_written v_above v_below v_leftAbove v_leftBelow v_guessAbove v_guessBelow v_sign v_power2 v_bits v_w fu
    induction fu with
    | zero =>
      intro x1 x2 v_rs v_cs o0 o1 o2 hf
      cases hf
    | succ fu ih =>
      intro x1 x2 v_rs v_cs o0 o1 o2 hf hk0 H locs ls hP hD hS hl
      rw [L_X12_leading_18] at hf
      refine lv_iload_n hx hb dX12_leading_18 rfl (lv_at hl 2 rfl) ?_
      refine lv_aload_n hx hb dX12_leading_19 rfl (lv_at hl 0 rfl) ?_
      obtain ⟨r6, h7, hf⟩ := kb1_e hf
      refine k_gi (nW := 4) (ws' := [(q, .inr (11, [.ref q_w, .int v_known, .int v_kept, .int v_seed, .ref q_imageSeed, .ref q_bookOf, .ref q_bookAt, .ref q_bookIs, .int v_written, .ref q_rs, .ref q_cs, .long v_above, .long v_below, .ref q_zs, .long v_leftAbove, .long v_leftBelow, .long v_guessAbove, .long v_guessBelow, .int v_sign, .int v_power2, .long v_bits])), (q_w, .inl (cI, 418, .inl v_w)), (q_rs, .inl (cI, 4, .inl v_rs)), (q_cs, .inl (cI, 4, .inl v_cs))]) (wr := [(q_rs, .inl (cI, 4, .inl v_rs)), (q_cs, .inl (cI, 4, .inl v_cs))]) (k_runV (rest := [.int x2]) hat hP hD hS hl.1 (c_X12_n q q_w q_imageSeed q_bookOf q_bookAt q_bookIs q_rs q_cs q_zs v_known v_kept v_seed v_written v_above v_below v_leftAbove v_leftBelow v_guessAbove v_guessBelow v_sign v_power2 v_bits v_w r6 h7) [0, 1] (by decide) rfl kw912 kw914 kw19 kw79 kw915 kdVX12_n ⟨rfl, rfl⟩ (by rw [hR]; exact ⟨Nat.le_of_ble_eq_true rfl, Nat.le_of_ble_eq_true rfl⟩) ⟨Nat.zero_le _, Nat.zero_le _⟩ 0 11 rfl rfl rfl rfl (Nat.le_of_ble_eq_true rfl) dX12_leading_20) hat hP hD hS [0, 1] rfl [2, 3] rfl rfl rfl rfl rfl (by decide) (fun H locs hP hD hS => ?_)
      refine lv_icmp_ge (tgt := 65) hx hb dX12_leading_23 (by decide) (fun c8 => ?_) (fun c8 => ?_)
      · have hf := kp_e hf c8
        obtain ⟨rfl, rfl, rfl⟩ := ki3 hf
        exact hk0 _ _ _ hP hD hS (lv_sub hl [1] rfl)
      · have hf := kn_e hf c8
        refine lv_iload_n hx hb dX12_leading_26 rfl (lv_at hl 1 rfl) ?_
        refine lv_aload_n hx hb dX12_leading_27 rfl (lv_at hl 0 rfl) ?_
        refine lv_iconst (v := 2) hx hb dX12_leading_28 (by decide) ?_
        refine lv_iload_n hx hb dX12_leading_29 rfl (lv_at hl 2 rfl) ?_
        refine lv_ishl hx hb dX12_leading_30 ?_
        refine lv_iconst (v := 1) hx hb dX12_leading_31 (by decide) ?_
        refine lv_isub hx hb dX12_leading_32 ?_
        refine lv_iconst (v := 0) hx hb dX12_leading_33 (by decide) ?_
        obtain ⟨r9, w10, w11, h12, hf⟩ := kb3_e hf
        refine k_gi (nW := 4) (ws' := [(q, .inr (11, [.ref q_w, .int v_known, .int v_kept, .int v_seed, .ref q_imageSeed, .ref q_bookOf, .ref q_bookAt, .ref q_bookIs, .int v_written, .ref q_rs, .ref q_cs, .long v_above, .long v_below, .ref q_zs, .long v_leftAbove, .long v_leftBelow, .long v_guessAbove, .long v_guessBelow, .int v_sign, .int v_power2, .long v_bits])), (q_w, .inl (cI, 418, .inl v_w)), (q_rs, .inl (cI, 4, .inl w10)), (q_cs, .inl (cI, 4, .inl w11))]) (wr := []) (k_runV (rest := [.int x1]) hat hP hD hS hl.1 (c_X12_rankOf q q_w q_imageSeed q_bookOf q_bookAt q_bookIs q_rs q_cs q_zs v_known v_kept v_seed v_written v_above v_below v_leftAbove v_leftBelow v_guessAbove v_guessBelow v_sign v_power2 v_bits v_w v_rs v_cs F (((2 : Int32) <<< (x2 &&& 31)) - (1 : Int32)) (0 : Int32) r9 w10 w11 h12) [0, 1, 2, 3] (by decide) rfl kw969 kw971 kw30 kw79 kw972 kdVX12_rankOf ⟨rfl, rfl⟩ (by rw [hR]; exact ⟨Nat.le_of_ble_eq_true rfl, Nat.le_of_ble_eq_true rfl⟩) ⟨Nat.zero_le _, Nat.zero_le _⟩ 0 11 rfl rfl rfl rfl (Nat.le_of_ble_eq_true rfl) dX12_leading_34) hat hP hD hS [0, 1, 2, 3] rfl [] rfl rfl rfl rfl rfl (by decide) (fun H locs hP hD hS => ?_)
        refine lv_aload_n hx hb dX12_leading_37 rfl (lv_at hl 0 rfl) ?_
        refine lv_iconst (v := 1) hx hb dX12_leading_38 (by decide) ?_
        refine lv_iload_n hx hb dX12_leading_39 rfl (lv_at hl 2 rfl) ?_
        refine lv_ishl hx hb dX12_leading_40 ?_
        refine lv_iconst (v := 1) hx hb dX12_leading_41 (by decide) ?_
        refine lv_isub hx hb dX12_leading_42 ?_
        refine lv_iconst (v := 0) hx hb dX12_leading_43 (by decide) ?_
        obtain ⟨r13, w14, w15, h16, hf⟩ := kb3_e hf
        refine k_gi (nW := 4) (ws' := [(q, .inr (11, [.ref q_w, .int v_known, .int v_kept, .int v_seed, .ref q_imageSeed, .ref q_bookOf, .ref q_bookAt, .ref q_bookIs, .int v_written, .ref q_rs, .ref q_cs, .long v_above, .long v_below, .ref q_zs, .long v_leftAbove, .long v_leftBelow, .long v_guessAbove, .long v_guessBelow, .int v_sign, .int v_power2, .long v_bits])), (q_w, .inl (cI, 418, .inl v_w)), (q_rs, .inl (cI, 4, .inl w14)), (q_cs, .inl (cI, 4, .inl w15))]) (wr := []) (k_runV (rest := [.int r9, .int x1]) hat hP hD hS hl.1 (c_X12_rankOf q q_w q_imageSeed q_bookOf q_bookAt q_bookIs q_rs q_cs q_zs v_known v_kept v_seed v_written v_above v_below v_leftAbove v_leftBelow v_guessAbove v_guessBelow v_sign v_power2 v_bits v_w w10 w11 F (((1 : Int32) <<< (x2 &&& 31)) - (1 : Int32)) (0 : Int32) r13 w14 w15 h16) [0, 1, 2, 3] (by decide) rfl kw969 kw971 kw30 kw79 kw972 kdVX12_rankOf ⟨rfl, rfl⟩ (by rw [hR]; exact ⟨Nat.le_of_ble_eq_true rfl, Nat.le_of_ble_eq_true rfl⟩) ⟨Nat.zero_le _, Nat.zero_le _⟩ 0 11 rfl rfl rfl rfl (Nat.le_of_ble_eq_true rfl) dX12_leading_44) hat hP hD hS [0, 1, 2, 3] rfl [] rfl rfl rfl rfl rfl (by decide) (fun H locs hP hD hS => ?_)
        refine lv_icmp_le (tgt := 56) hx hb dX12_leading_47 (by decide) (fun c17 => ?_) (fun c17 => ?_)
        · have hf := kp_e hf c17
          refine lv_iconst (v := 0) hx hb dX12_leading_56 (by decide) ?_
          refine lv_ior hx hb dX12_leading_57 ?_
          refine lv_topi (fun t18 et18 => ?_)
          have hf := kl_e hf t18 et18
          refine lv_istore_n (lv' := [(1, .int t18), (0, .ref q), (2, .int x2)]) hx hb dX12_leading_58 rfl hl (by decide) rfl (fun ls hl => ?_)
          obtain ⟨t19, et19⟩ : ∃ z : Int32, z = (x2 + (1 : Int32)) := ⟨_, rfl⟩
          have hf := kl_e hf t19 et19
          refine lv_iinc (v := t19) (lv' := [(2, .int t19), (1, .int t18), (0, .ref q)]) hx hb dX12_leading_59 hl (k := 2) rfl (by rw [et19]; rfl) (by decide) rfl (fun ls hl => ?_)
          refine lv_goto (tgt := 18) hx hb dX12_leading_62 (by decide) ?_
          exact ih t18 t19 w14 w15 o0 o1 o2 hf hk0 _ _ _ hP hD hS (lv_sub hl [2, 1, 0] rfl)
        · have hf := kn_e hf c17
          refine lv_iconst (v := 1) hx hb dX12_leading_50 (by decide) ?_
          refine lv_iload_n hx hb dX12_leading_51 rfl (lv_at hl 2 rfl) ?_
          refine lv_ishl hx hb dX12_leading_52 ?_
          refine lv_goto (tgt := 57) hx hb dX12_leading_53 (by decide) ?_
          refine lv_ior hx hb dX12_leading_57 ?_
          refine lv_topi (fun t20 et20 => ?_)
          have hf := kl_e hf t20 et20
          refine lv_istore_n (lv' := [(1, .int t20), (0, .ref q), (2, .int x2)]) hx hb dX12_leading_58 rfl hl (by decide) rfl (fun ls hl => ?_)
          obtain ⟨t21, et21⟩ : ∃ z : Int32, z = (x2 + (1 : Int32)) := ⟨_, rfl⟩
          have hf := kl_e hf t21 et21
          refine lv_iinc (v := t21) (lv' := [(2, .int t21), (1, .int t20), (0, .ref q)]) hx hb dX12_leading_59 hl (k := 2) rfl (by rw [et21]; rfl) (by decide) rfl (fun ls hl => ?_)
          refine lv_goto (tgt := 18) hx hb dX12_leading_62 (by decide) ?_
          exact ih t20 t21 w14 w15 o0 o1 o2 hf hk0 _ _ _ hP hD hS (lv_sub hl [2, 1, 0] rfl)
  unfold f_X12_leading at hf
  refine lv_aload_n hx hb dX12_leading_0 rfl (lv_at hl 0 rfl) ?_
  obtain ⟨r1, w2, w3, h4, hf⟩ := kb3_e hf
  refine k_gl (nW := 4) (ws' := [(q, .inr (11, [.ref q_w, .int v_known, .int v_kept, .int v_seed, .ref q_imageSeed, .ref q_bookOf, .ref q_bookAt, .ref q_bookIs, .int v_written, .ref q_rs, .ref q_cs, .long v_above, .long v_below, .ref q_zs, .long v_leftAbove, .long v_leftBelow, .long v_guessAbove, .long v_guessBelow, .int v_sign, .int v_power2, .long v_bits])), (q_w, .inl (cI, 418, .inl v_w)), (q_rs, .inl (cI, 4, .inl w2)), (q_cs, .inl (cI, 4, .inl w3))]) (wr := []) (k_runV (rest := []) hat hP hD hS hl.1 (c_X12_determinant q q_w q_imageSeed q_bookOf q_bookAt q_bookIs q_rs q_cs q_zs v_known v_kept v_seed v_written v_above v_below v_leftAbove v_leftBelow v_guessAbove v_guessBelow v_sign v_power2 v_bits v_w v_rs v_cs F r1 w2 w3 h4) [0, 1, 2, 3] (by decide) rfl kw923 kw925 kw21 kw79 kw926 kdVX12_determinant ⟨rfl, rfl⟩ (by rw [hR]; exact ⟨Nat.le_of_ble_eq_true rfl, Nat.le_of_ble_eq_true rfl⟩) ⟨Nat.zero_le _, Nat.zero_le _⟩ 0 11 rfl rfl rfl rfl (Nat.le_of_ble_eq_true rfl) dX12_leading_1) hat hP hD hS [0, 1, 2, 3] rfl [] rfl rfl rfl rfl rfl (by decide) (fun H locs hP hD hS => ?_)
  refine lv_lconst (v := 0) hx hb dX12_leading_4 (by decide) ?_
  refine k_lcmp_eq (tgt := 14) hx hb dX12_leading_5 dX12_leading_6 (by decide) (fun c5 => ?_) (fun c5 => ?_)
  · have hf := kp_e hf c5
    refine lv_iconst (v := 0) hx hb dX12_leading_14 (by decide) ?_
    refine lv_istore_n (lv' := [(1, .int (0 : Int32)), (0, .ref q)]) hx hb dX12_leading_15 rfl hl (by decide) rfl (fun ls hl => ?_)
    refine lv_iconst (v := 0) hx hb dX12_leading_16 (by decide) ?_
    refine lv_istore_n (lv' := [(2, .int (0 : Int32)), (1, .int (0 : Int32)), (0, .ref q)]) hx hb dX12_leading_17 rfl hl (by decide) rfl (fun ls hl => ?_)
    obtain ⟨y22, w23, w24, hu, hf⟩ := kb3_e hf
    refine hL18 v_known v_kept v_seed v_written v_above v_below v_leftAbove v_leftBelow v_guessAbove v_guessBelow v_sign v_power2 v_bits v_w F (0 : Int32) (0 : Int32) w2 w3 y22 w23 w24 hu (fun H locs ls hP hD hS hl => ?_) _ _ _ hP hD hS (lv_sub hl [2, 1, 0] rfl)
    refine lv_iload_n hx hb dX12_leading_65 rfl (lv_at hl 0 rfl) ?_
    obtain ⟨rfl, rfl, rfl⟩ := ki3 hf
    rw [hQ]
    exact k_iret hat hP hS rfl dX12_leading_66
  · have hf := kn_e hf c5
    refine lv_aload_n hx hb dX12_leading_9 rfl (lv_at hl 0 rfl) ?_
    obtain ⟨r25, h26, hf⟩ := kb1_e hf
    refine k_gi (nW := 4) (ws' := [(q, .inr (11, [.ref q_w, .int v_known, .int v_kept, .int v_seed, .ref q_imageSeed, .ref q_bookOf, .ref q_bookAt, .ref q_bookIs, .int v_written, .ref q_rs, .ref q_cs, .long v_above, .long v_below, .ref q_zs, .long v_leftAbove, .long v_leftBelow, .long v_guessAbove, .long v_guessBelow, .int v_sign, .int v_power2, .long v_bits])), (q_w, .inl (cI, 418, .inl v_w)), (q_rs, .inl (cI, 4, .inl w2)), (q_cs, .inl (cI, 4, .inl w3))]) (wr := [(q_rs, .inl (cI, 4, .inl w2)), (q_cs, .inl (cI, 4, .inl w3))]) (k_runV (rest := []) hat hP hD hS hl.1 (c_X12_allColumns q q_w q_imageSeed q_bookOf q_bookAt q_bookIs q_rs q_cs q_zs v_known v_kept v_seed v_written v_above v_below v_leftAbove v_leftBelow v_guessAbove v_guessBelow v_sign v_power2 v_bits v_w r25 h26) [0, 1] (by decide) rfl kw927 kw929 kw22 kw79 kw930 kdVX12_allColumns ⟨rfl, rfl⟩ (by rw [hR]; exact ⟨Nat.le_of_ble_eq_true rfl, Nat.le_of_ble_eq_true rfl⟩) ⟨Nat.zero_le _, Nat.zero_le _⟩ 0 11 rfl rfl rfl rfl (Nat.le_of_ble_eq_true rfl) dX12_leading_10) hat hP hD hS [0, 1] rfl [2, 3] rfl rfl rfl rfl rfl (by decide) (fun H locs hP hD hS => ?_)
    obtain ⟨rfl, rfl, rfl⟩ := ki3 hf
    rw [hQ]
    exact k_iret hat hP hS rfl dX12_leading_13
set_option maxHeartbeats 4000000 in
set_option maxRecDepth 100000 in
theorem c_X12_rowsFor {l : Launch} {D : va_G} {cI cJ cQ : ClassId} {tp : Nat} (q : Nat) (q_w : Nat) (q_imageSeed : Nat) (q_bookOf : Nat) (q_bookAt : Nat) (q_bookIs : Nat) (q_rs : Nat) (q_cs : Nat) (q_zs : Nat) (v_known : Int32) (v_kept : Int32) (v_seed : Int32) (v_written : Int32) (v_above : Int64) (v_below : Int64) (v_leftAbove : Int64) (v_leftBelow : Int64) (v_guessAbove : Int64) (v_guessBelow : Int64) (v_sign : Int32) (v_power2 : Int32) (v_bits : Int64) (v_w : (Nat → Int32)) (v_rs : (Nat → Int32)) (v_cs : (Nat → Int32)) (F : Nat) (x1 : Int32) (r0 : Int32) (o_v_rs : (Nat → Int32)) (o_v_cs : (Nat → Int32)) (hf : f_X12_rowsFor F v_w v_rs v_cs x1 = some (r0, o_v_rs, o_v_cs)) : kM (fun A => kQi D A [(q, .inr (11, [.ref q_w, .int v_known, .int v_kept, .int v_seed, .ref q_imageSeed, .ref q_bookOf, .ref q_bookAt, .ref q_bookIs, .int v_written, .ref q_rs, .ref q_cs, .long v_above, .long v_below, .ref q_zs, .long v_leftAbove, .long v_leftBelow, .long v_guessAbove, .long v_guessBelow, .int v_sign, .int v_power2, .long v_bits])), (q_w, .inl (cI, 418, .inl v_w)), (q_rs, .inl (cI, 4, .inl o_v_rs)), (q_cs, .inl (cI, 4, .inl o_v_cs))] r0) (some .int) l yX12_rowsFor cX12_rowsFor 4 { frames := 6, cells := 0, slots := 0, locals := 137 } D cI cJ cQ tp [.ref q, .int x1] [(q, .inr (11, [.ref q_w, .int v_known, .int v_kept, .int v_seed, .ref q_imageSeed, .ref q_bookOf, .ref q_bookAt, .ref q_bookIs, .int v_written, .ref q_rs, .ref q_cs, .long v_above, .long v_below, .ref q_zs, .long v_leftAbove, .long v_leftBelow, .long v_guessAbove, .long v_guessBelow, .int v_sign, .int v_power2, .long v_bits])), (q_w, .inl (cI, 418, .inl v_w)), (q_rs, .inl (cI, 4, .inl v_rs)), (q_cs, .inl (cI, 4, .inl v_cs))] := by
  refine kM_of (by decide +kernel) (Nat.le_of_ble_eq_true rfl) ?_
  intro p e s m args below meth c A ls R Q hR hQ hat hP hD hS hl
  obtain ⟨hx, hb, hr, hml, hown, hts, hT, hlk, hK, hA, hZ⟩ := id hat
  have hown : s.vm.findClass RX12 = some m.cls := hown
  have hl : lv_has ls 4 [(0, .ref q), (1, .int x1)] := hl
  have hL14 : ∀ (x1 : Int32) (v_known : Int32) (v_kept : Int32) (v_seed : Int32) (v_written : Int32) (v_above : Int64) (v_below : Int64) (v_leftAbove : Int64) (v_leftBelow : Int64) (v_guessAbove : Int64) (v_guessBelow : Int64) (v_sign : Int32) (v_power2 : Int32) (v_bits : Int64) (v_w : (Nat → Int32)) (fu : Nat) (x2 : Int32) (x3 : Int32) (v_rs : (Nat → Int32)) (v_cs : (Nat → Int32)) (o0 : Int32) (o1 : (Nat → Int32)) (o2 : (Nat → Int32)), L_X12_rowsFor_14 F x1 v_w fu x2 x3 v_rs v_cs = some (o0, o1, o2) → (∀ (H : Heap) (locs : List Loc) (ls : Array Slot), va_P D vwCl [(q, .inr (11, [.ref q_w, .int v_known, .int v_kept, .int v_seed, .ref q_imageSeed, .ref q_bookOf, .ref q_bookAt, .ref q_bookIs, .int v_written, .ref q_rs, .ref q_cs, .long v_above, .long v_below, .ref q_zs, .long v_leftAbove, .long v_leftBelow, .long v_guessAbove, .long v_guessBelow, .int v_sign, .int v_power2, .long v_bits])), (q_w, .inl (cI, 418, .inl v_w)), (q_rs, .inl (cI, 4, .inl o1)), (q_cs, .inl (cI, 4, .inl o2))] H → va_D A [(q, .inr (11, [.ref q_w, .int v_known, .int v_kept, .int v_seed, .ref q_imageSeed, .ref q_bookOf, .ref q_bookAt, .ref q_bookIs, .int v_written, .ref q_rs, .ref q_cs, .long v_above, .long v_below, .ref q_zs, .long v_leftAbove, .long v_leftBelow, .long v_guessAbove, .long v_guessBelow, .int v_sign, .int v_power2, .long v_bits])), (q_w, .inl (cI, 418, .inl v_w)), (q_rs, .inl (cI, 4, .inl o1)), (q_cs, .inl (cI, 4, .inl o2))] → va_S A s.heap H locs → lv_has ls 4 [(2, .int o0)] → W p l e R s m args below meth c H locs 0 0 Q (F0 m 58 ls [])) → ∀ (H : Heap) (locs : List Loc) (ls : Array Slot), va_P D vwCl [(q, .inr (11, [.ref q_w, .int v_known, .int v_kept, .int v_seed, .ref q_imageSeed, .ref q_bookOf, .ref q_bookAt, .ref q_bookIs, .int v_written, .ref q_rs, .ref q_cs, .long v_above, .long v_below, .ref q_zs, .long v_leftAbove, .long v_leftBelow, .long v_guessAbove, .long v_guessBelow, .int v_sign, .int v_power2, .long v_bits])), (q_w, .inl (cI, 418, .inl v_w)), (q_rs, .inl (cI, 4, .inl v_rs)), (q_cs, .inl (cI, 4, .inl v_cs))] H → va_D A [(q, .inr (11, [.ref q_w, .int v_known, .int v_kept, .int v_seed, .ref q_imageSeed, .ref q_bookOf, .ref q_bookAt, .ref q_bookIs, .int v_written, .ref q_rs, .ref q_cs, .long v_above, .long v_below, .ref q_zs, .long v_leftAbove, .long v_leftBelow, .long v_guessAbove, .long v_guessBelow, .int v_sign, .int v_power2, .long v_bits])), (q_w, .inl (cI, 418, .inl v_w)), (q_rs, .inl (cI, 4, .inl v_rs)), (q_cs, .inl (cI, 4, .inl v_cs))] → va_S A s.heap H locs → lv_has ls 4 [(0, .ref q), (1, .int x1), (2, .int x2), (3, .int x3)] → W p l e R s m args below meth c H locs 0 0 Q (F0 m 14 ls []) := by
    intro x1 v_known v_kept v_seed v_written v_above v_below v_leftAbove v_leftBelow v_guessAbove v_guessBelow v_sign v_power2 v_bits v_w fu
    induction fu with
    | zero =>
      intro x2 x3 v_rs v_cs o0 o1 o2 hf
      cases hf
    | succ fu ih =>
      intro x2 x3 v_rs v_cs o0 o1 o2 hf hk0 H locs ls hP hD hS hl
      rw [L_X12_rowsFor_14] at hf
      refine lv_iload_n hx hb dX12_rowsFor_14 rfl (lv_at hl 3 rfl) ?_
      refine lv_iconst (v := 1) hx hb dX12_rowsFor_15 (by decide) ?_
      refine lv_aload_n hx hb dX12_rowsFor_16 rfl (lv_at hl 0 rfl) ?_
      obtain ⟨r4, h5, hf⟩ := kb1_e hf
      refine k_gi (nW := 4) (ws' := [(q, .inr (11, [.ref q_w, .int v_known, .int v_kept, .int v_seed, .ref q_imageSeed, .ref q_bookOf, .ref q_bookAt, .ref q_bookIs, .int v_written, .ref q_rs, .ref q_cs, .long v_above, .long v_below, .ref q_zs, .long v_leftAbove, .long v_leftBelow, .long v_guessAbove, .long v_guessBelow, .int v_sign, .int v_power2, .long v_bits])), (q_w, .inl (cI, 418, .inl v_w)), (q_rs, .inl (cI, 4, .inl v_rs)), (q_cs, .inl (cI, 4, .inl v_cs))]) (wr := [(q_rs, .inl (cI, 4, .inl v_rs)), (q_cs, .inl (cI, 4, .inl v_cs))]) (k_runV (rest := [.int (1 : Int32), .int x3]) hat hP hD hS hl.1 (c_X12_n q q_w q_imageSeed q_bookOf q_bookAt q_bookIs q_rs q_cs q_zs v_known v_kept v_seed v_written v_above v_below v_leftAbove v_leftBelow v_guessAbove v_guessBelow v_sign v_power2 v_bits v_w r4 h5) [0, 1] (by decide) rfl kw912 kw914 kw19 kw79 kw915 kdVX12_n ⟨rfl, rfl⟩ (by rw [hR]; exact ⟨Nat.le_of_ble_eq_true rfl, Nat.le_of_ble_eq_true rfl⟩) ⟨Nat.zero_le _, Nat.zero_le _⟩ 0 11 rfl rfl rfl rfl (Nat.le_of_ble_eq_true rfl) dX12_rowsFor_17) hat hP hD hS [0, 1] rfl [2, 3] rfl rfl rfl rfl rfl (by decide) (fun H locs hP hD hS => ?_)
      refine lv_ishl hx hb dX12_rowsFor_20 ?_
      refine lv_icmp_ge (tgt := 58) hx hb dX12_rowsFor_21 (by decide) (fun c6 => ?_) (fun c6 => ?_)
      · have hf := kp_e hf c6
        obtain ⟨rfl, rfl, rfl⟩ := ki3 hf
        exact hk0 _ _ _ hP hD hS (lv_sub hl [2] rfl)
      · have hf := kn_e hf c6
        refine lv_iload_n hx hb dX12_rowsFor_24 rfl (lv_at hl 3 rfl) ?_
        obtain ⟨r7, h8, hf⟩ := kb1_e hf
        refine k_gi (nW := 4) (ws' := [(q, .inr (11, [.ref q_w, .int v_known, .int v_kept, .int v_seed, .ref q_imageSeed, .ref q_bookOf, .ref q_bookAt, .ref q_bookIs, .int v_written, .ref q_rs, .ref q_cs, .long v_above, .long v_below, .ref q_zs, .long v_leftAbove, .long v_leftBelow, .long v_guessAbove, .long v_guessBelow, .int v_sign, .int v_power2, .long v_bits])), (q_w, .inl (cI, 418, .inl v_w)), (q_rs, .inl (cI, 4, .inl v_rs)), (q_cs, .inl (cI, 4, .inl v_cs))]) (wr := [(q, .inr (11, [.ref q_w, .int v_known, .int v_kept, .int v_seed, .ref q_imageSeed, .ref q_bookOf, .ref q_bookAt, .ref q_bookIs, .int v_written, .ref q_rs, .ref q_cs, .long v_above, .long v_below, .ref q_zs, .long v_leftAbove, .long v_leftBelow, .long v_guessAbove, .long v_guessBelow, .int v_sign, .int v_power2, .long v_bits])), (q_w, .inl (cI, 418, .inl v_w)), (q_rs, .inl (cI, 4, .inl v_rs)), (q_cs, .inl (cI, 4, .inl v_cs))]) (k_runS (rest := []) hat hP hD hS hl.1 (c_X12_ones x3 r7 h8) [] (by decide) rfl kw935 kw936 kw79 kw937 kdX12_ones ⟨rfl, rfl⟩ (by rw [hR]; exact ⟨Nat.le_of_ble_eq_true rfl, Nat.le_of_ble_eq_true rfl⟩) ⟨Nat.zero_le _, Nat.zero_le _⟩ rfl rfl (Nat.le_of_ble_eq_true rfl) dX12_rowsFor_25) hat hP hD hS [] rfl [0, 1, 2, 3] rfl rfl rfl rfl rfl (by decide) (fun H locs hP hD hS => ?_)
        refine lv_iload_n hx hb dX12_rowsFor_28 rfl (lv_at hl 1 rfl) ?_
        obtain ⟨r9, h10, hf⟩ := kb1_e hf
        refine k_gi (nW := 4) (ws' := [(q, .inr (11, [.ref q_w, .int v_known, .int v_kept, .int v_seed, .ref q_imageSeed, .ref q_bookOf, .ref q_bookAt, .ref q_bookIs, .int v_written, .ref q_rs, .ref q_cs, .long v_above, .long v_below, .ref q_zs, .long v_leftAbove, .long v_leftBelow, .long v_guessAbove, .long v_guessBelow, .int v_sign, .int v_power2, .long v_bits])), (q_w, .inl (cI, 418, .inl v_w)), (q_rs, .inl (cI, 4, .inl v_rs)), (q_cs, .inl (cI, 4, .inl v_cs))]) (wr := [(q, .inr (11, [.ref q_w, .int v_known, .int v_kept, .int v_seed, .ref q_imageSeed, .ref q_bookOf, .ref q_bookAt, .ref q_bookIs, .int v_written, .ref q_rs, .ref q_cs, .long v_above, .long v_below, .ref q_zs, .long v_leftAbove, .long v_leftBelow, .long v_guessAbove, .long v_guessBelow, .int v_sign, .int v_power2, .long v_bits])), (q_w, .inl (cI, 418, .inl v_w)), (q_rs, .inl (cI, 4, .inl v_rs)), (q_cs, .inl (cI, 4, .inl v_cs))]) (k_runS (rest := [.int r7]) hat hP hD hS hl.1 (c_X12_ones x1 r9 h10) [] (by decide) rfl kw935 kw936 kw79 kw937 kdX12_ones ⟨rfl, rfl⟩ (by rw [hR]; exact ⟨Nat.le_of_ble_eq_true rfl, Nat.le_of_ble_eq_true rfl⟩) ⟨Nat.zero_le _, Nat.zero_le _⟩ rfl rfl (Nat.le_of_ble_eq_true rfl) dX12_rowsFor_29) hat hP hD hS [] rfl [0, 1, 2, 3] rfl rfl rfl rfl rfl (by decide) (fun H locs hP hD hS => ?_)
        refine lv_icmp_ne (tgt := 50) hx hb dX12_rowsFor_32 (by decide) (fun c11 => ?_) (fun c11 => ?_)
        · have hf := kn_e hf c11
          refine lv_iload_n hx hb dX12_rowsFor_50 rfl (lv_at hl 2 rfl) ?_
          refine lv_istore_n (lv' := [(2, .int x2), (0, .ref q), (1, .int x1), (3, .int x3)]) hx hb dX12_rowsFor_51 rfl hl (by decide) rfl (fun ls hl => ?_)
          obtain ⟨t12, et12⟩ : ∃ z : Int32, z = (x3 + (1 : Int32)) := ⟨_, rfl⟩
          have hf := kl_e hf t12 et12
          refine lv_iinc (v := t12) (lv' := [(3, .int t12), (2, .int x2), (0, .ref q), (1, .int x1)]) hx hb dX12_rowsFor_52 hl (k := 3) rfl (by rw [et12]; rfl) (by decide) rfl (fun ls hl => ?_)
          refine lv_goto (tgt := 14) hx hb dX12_rowsFor_55 (by decide) ?_
          exact ih x2 t12 v_rs v_cs o0 o1 o2 hf hk0 _ _ _ hP hD hS (lv_sub hl [2, 3, 1, 0] rfl)
        · have hf := kp_e hf c11
          refine lv_aload_n hx hb dX12_rowsFor_35 rfl (lv_at hl 0 rfl) ?_
          refine lv_iload_n hx hb dX12_rowsFor_36 rfl (lv_at hl 3 rfl) ?_
          refine lv_iload_n hx hb dX12_rowsFor_37 rfl (lv_at hl 1 rfl) ?_
          obtain ⟨r13, w14, w15, h16, hf⟩ := kb3_e hf
          refine k_gl (nW := 4) (ws' := [(q, .inr (11, [.ref q_w, .int v_known, .int v_kept, .int v_seed, .ref q_imageSeed, .ref q_bookOf, .ref q_bookAt, .ref q_bookIs, .int v_written, .ref q_rs, .ref q_cs, .long v_above, .long v_below, .ref q_zs, .long v_leftAbove, .long v_leftBelow, .long v_guessAbove, .long v_guessBelow, .int v_sign, .int v_power2, .long v_bits])), (q_w, .inl (cI, 418, .inl v_w)), (q_rs, .inl (cI, 4, .inl w14)), (q_cs, .inl (cI, 4, .inl w15))]) (wr := []) (k_runV (rest := []) hat hP hD hS hl.1 (c_X12_minor q q_w q_imageSeed q_bookOf q_bookAt q_bookIs q_rs q_cs q_zs v_known v_kept v_seed v_written v_above v_below v_leftAbove v_leftBelow v_guessAbove v_guessBelow v_sign v_power2 v_bits v_w v_rs v_cs F x3 x1 r13 w14 w15 h16) [0, 1, 2, 3] (by decide) rfl kw931 kw933 kw23 kw79 kw934 kdVX12_minor ⟨rfl, rfl⟩ (by rw [hR]; exact ⟨Nat.le_of_ble_eq_true rfl, Nat.le_of_ble_eq_true rfl⟩) ⟨Nat.zero_le _, Nat.zero_le _⟩ 0 11 rfl rfl rfl rfl (Nat.le_of_ble_eq_true rfl) dX12_rowsFor_38) hat hP hD hS [0, 1, 2, 3] rfl [] rfl rfl rfl rfl rfl (by decide) (fun H locs hP hD hS => ?_)
          refine lv_lconst (v := 0) hx hb dX12_rowsFor_41 (by decide) ?_
          refine k_lcmp_eq (tgt := 50) hx hb dX12_rowsFor_42 dX12_rowsFor_43 (by decide) (fun c17 => ?_) (fun c17 => ?_)
          · have hf := kp_e hf c17
            refine lv_iload_n hx hb dX12_rowsFor_50 rfl (lv_at hl 2 rfl) ?_
            refine lv_istore_n (lv' := [(2, .int x2), (0, .ref q), (1, .int x1), (3, .int x3)]) hx hb dX12_rowsFor_51 rfl hl (by decide) rfl (fun ls hl => ?_)
            obtain ⟨t18, et18⟩ : ∃ z : Int32, z = (x3 + (1 : Int32)) := ⟨_, rfl⟩
            have hf := kl_e hf t18 et18
            refine lv_iinc (v := t18) (lv' := [(3, .int t18), (2, .int x2), (0, .ref q), (1, .int x1)]) hx hb dX12_rowsFor_52 hl (k := 3) rfl (by rw [et18]; rfl) (by decide) rfl (fun ls hl => ?_)
            refine lv_goto (tgt := 14) hx hb dX12_rowsFor_55 (by decide) ?_
            exact ih x2 t18 w14 w15 o0 o1 o2 hf hk0 _ _ _ hP hD hS (lv_sub hl [2, 3, 1, 0] rfl)
          · have hf := kn_e hf c17
            refine lv_iload_n hx hb dX12_rowsFor_46 rfl (lv_at hl 3 rfl) ?_
            refine lv_goto (tgt := 51) hx hb dX12_rowsFor_47 (by decide) ?_
            refine lv_istore_n (lv' := [(2, .int x3), (0, .ref q), (1, .int x1), (3, .int x3)]) hx hb dX12_rowsFor_51 rfl hl (by decide) rfl (fun ls hl => ?_)
            obtain ⟨t19, et19⟩ : ∃ z : Int32, z = (x3 + (1 : Int32)) := ⟨_, rfl⟩
            have hf := kl_e hf t19 et19
            refine lv_iinc (v := t19) (lv' := [(3, .int t19), (2, .int x3), (0, .ref q), (1, .int x1)]) hx hb dX12_rowsFor_52 hl (k := 3) rfl (by rw [et19]; rfl) (by decide) rfl (fun ls hl => ?_)
            refine lv_goto (tgt := 14) hx hb dX12_rowsFor_55 (by decide) ?_
            exact ih x3 t19 w14 w15 o0 o1 o2 hf hk0 _ _ _ hP hD hS (lv_sub hl [2, 3, 1, 0] rfl)
  unfold f_X12_rowsFor at hf
  refine lv_iload_n hx hb dX12_rowsFor_0 rfl (lv_at hl 1 rfl) ?_
  refine lv_aload_n hx hb dX12_rowsFor_1 rfl (lv_at hl 0 rfl) ?_
  obtain ⟨r1, h2, hf⟩ := kb1_e hf
  refine k_gi (nW := 4) (ws' := [(q, .inr (11, [.ref q_w, .int v_known, .int v_kept, .int v_seed, .ref q_imageSeed, .ref q_bookOf, .ref q_bookAt, .ref q_bookIs, .int v_written, .ref q_rs, .ref q_cs, .long v_above, .long v_below, .ref q_zs, .long v_leftAbove, .long v_leftBelow, .long v_guessAbove, .long v_guessBelow, .int v_sign, .int v_power2, .long v_bits])), (q_w, .inl (cI, 418, .inl v_w)), (q_rs, .inl (cI, 4, .inl v_rs)), (q_cs, .inl (cI, 4, .inl v_cs))]) (wr := [(q_rs, .inl (cI, 4, .inl v_rs)), (q_cs, .inl (cI, 4, .inl v_cs))]) (k_runV (rest := [.int x1]) hat hP hD hS hl.1 (c_X12_allColumns q q_w q_imageSeed q_bookOf q_bookAt q_bookIs q_rs q_cs q_zs v_known v_kept v_seed v_written v_above v_below v_leftAbove v_leftBelow v_guessAbove v_guessBelow v_sign v_power2 v_bits v_w r1 h2) [0, 1] (by decide) rfl kw927 kw929 kw22 kw79 kw930 kdVX12_allColumns ⟨rfl, rfl⟩ (by rw [hR]; exact ⟨Nat.le_of_ble_eq_true rfl, Nat.le_of_ble_eq_true rfl⟩) ⟨Nat.zero_le _, Nat.zero_le _⟩ 0 11 rfl rfl rfl rfl (Nat.le_of_ble_eq_true rfl) dX12_rowsFor_2) hat hP hD hS [0, 1] rfl [2, 3] rfl rfl rfl rfl rfl (by decide) (fun H locs hP hD hS => ?_)
  refine lv_icmp_ne (tgt := 10) hx hb dX12_rowsFor_5 (by decide) (fun c3 => ?_) (fun c3 => ?_)
  · have hf := kn_e hf c3
    refine lv_iconst (v := 0) hx hb dX12_rowsFor_10 (by decide) ?_
    refine lv_istore_n (lv' := [(2, .int (0 : Int32)), (0, .ref q), (1, .int x1)]) hx hb dX12_rowsFor_11 rfl hl (by decide) rfl (fun ls hl => ?_)
    refine lv_iconst (v := 0) hx hb dX12_rowsFor_12 (by decide) ?_
    refine lv_istore_n (lv' := [(3, .int (0 : Int32)), (2, .int (0 : Int32)), (0, .ref q), (1, .int x1)]) hx hb dX12_rowsFor_13 rfl hl (by decide) rfl (fun ls hl => ?_)
    obtain ⟨y20, w21, w22, hu, hf⟩ := kb3_e hf
    refine hL14 x1 v_known v_kept v_seed v_written v_above v_below v_leftAbove v_leftBelow v_guessAbove v_guessBelow v_sign v_power2 v_bits v_w F (0 : Int32) (0 : Int32) v_rs v_cs y20 w21 w22 hu (fun H locs ls hP hD hS hl => ?_) _ _ _ hP hD hS (lv_sub hl [2, 3, 1, 0] rfl)
    refine lv_iload_n hx hb dX12_rowsFor_58 rfl (lv_at hl 0 rfl) ?_
    obtain ⟨rfl, rfl, rfl⟩ := ki3 hf
    rw [hQ]
    exact k_iret hat hP hS rfl dX12_rowsFor_59
  · have hf := kp_e hf c3
    refine lv_iload_n hx hb dX12_rowsFor_8 rfl (lv_at hl 1 rfl) ?_
    obtain ⟨rfl, rfl, rfl⟩ := ki3 hf
    rw [hQ]
    exact k_iret hat hP hS rfl dX12_rowsFor_9
set_option maxHeartbeats 4000000 in
set_option maxRecDepth 100000 in
theorem c_X12_divisor {l : Launch} {D : va_G} {cI cJ cQ : ClassId} {tp : Nat} (F : Nat) (x0 : Int64) (x2 : Int64) (r0 : Int64) (hf : f_X12_divisor F x0 x2 = some r0) : kM (fun A => kQl D A [] r0) (some .long) l yX12_divisor cX12_divisor 10 { frames := 0, cells := 0, slots := 0, locals := 0 } D cI cJ cQ tp [.long x0, .long x2] [] := by
  refine kM_of (by decide +kernel) (Nat.le_of_ble_eq_true rfl) ?_
  intro p e s m args below meth c A ls R Q hR hQ hat hP hD hS hl
  obtain ⟨hx, hb, hr, hml, hown, hts, hT, hlk, hK, hA, hZ⟩ := id hat
  have hown : s.vm.findClass RX12 = some m.cls := hown
  have hl : lv_has ls 10 [(0, .long x0), (2, .long x2)] := hl
  have hL28 : ∀ (fu : Nat) (x4 : Int64) (x6 : Int64) (o0 : Int64), L_X12_divisor_28 fu x4 x6 = some o0 → (∀ (H : Heap) (locs : List Loc) (ls : Array Slot), va_P D vwCl [] H → va_D A [] → va_S A s.heap H locs → lv_has ls 10 [(4, .long o0)] → W p l e R s m args below meth c H locs 0 0 Q (F0 m 53 ls [])) → ∀ (H : Heap) (locs : List Loc) (ls : Array Slot), va_P D vwCl [] H → va_D A [] → va_S A s.heap H locs → lv_has ls 10 [(4, .long x4), (6, .long x6)] → W p l e R s m args below meth c H locs 0 0 Q (F0 m 28 ls []) := by
    intro fu
    induction fu with
    | zero =>
      intro x4 x6 o0 hf
      cases hf
    | succ fu ih =>
      intro x4 x6 o0 hf hk0 H locs ls hP hD hS hl
      rw [L_X12_divisor_28] at hf
      refine lv_lload hx hb dX12_divisor_28 (lv_at hl 1 rfl) ?_
      refine lv_lconst (v := 0) hx hb dX12_divisor_30 (by decide) ?_
      refine k_lcmp_eq (tgt := 53) hx hb dX12_divisor_31 dX12_divisor_32 (by decide) (fun c4 => ?_) (fun c4 => ?_)
      · have hf := kp_e hf c4
        obtain rfl := ki1 hf
        exact hk0 _ _ _ hP hD hS (lv_sub hl [0] rfl)
      · have hf := kn_e hf c4
        refine lv_lload hx hb dX12_divisor_35 (lv_at hl 0 rfl) ?_
        refine lv_lload hx hb dX12_divisor_37 (lv_at hl 1 rfl) ?_
        obtain ⟨c5, hf⟩ := kc_e hf
        refine lv_lrem hx hb dX12_divisor_39 c5 ?_
        refine lv_topl (fun t6 et6 => ?_)
        have hf := kl_e hf t6 et6
        refine lv_lstore (lv' := [(8, .long t6), (4, .long x4), (6, .long x6)]) hx hb dX12_divisor_40 hl (by decide) rfl (fun ls hl => ?_)
        refine lv_lload hx hb dX12_divisor_42 (lv_at hl 2 rfl) ?_
        refine lv_lstore (lv' := [(4, .long x6), (8, .long t6), (6, .long x6)]) hx hb dX12_divisor_44 hl (by decide) rfl (fun ls hl => ?_)
        refine lv_lload hx hb dX12_divisor_46 (lv_at hl 1 rfl) ?_
        refine lv_lstore (lv' := [(6, .long t6), (4, .long x6), (8, .long t6)]) hx hb dX12_divisor_48 hl (by decide) rfl (fun ls hl => ?_)
        refine lv_goto (tgt := 28) hx hb dX12_divisor_50 (by decide) ?_
        exact ih x6 t6 o0 hf hk0 _ _ _ hP hD hS (lv_sub hl [1, 0] rfl)
  unfold f_X12_divisor at hf
  refine lv_lload_n hx hb dX12_divisor_0 rfl (lv_at hl 0 rfl) ?_
  refine lv_lconst (v := 0) hx hb dX12_divisor_1 (by decide) ?_
  obtain ⟨J2, hJ2_, hf⟩ := kj1_e hf
  have hJ2 : ∀ (t1 : Int64), J2 t1 = some r0 → ∀ (H : Heap) (locs : List Loc) (ls : Array Slot), va_P D vwCl [] H → va_D A [] → va_S A s.heap H locs → lv_has ls 10 [(2, .long x2)] → W p l e R s m args below meth c H locs 0 0 Q (F0 m 12 ls [.long t1]) := by
    intro t1 hf H locs ls hP hD hS hl
    rw [hJ2_] at hf
    refine lv_lstore (lv' := [(4, .long t1), (2, .long x2)]) hx hb dX12_divisor_12 hl (by decide) rfl (fun ls hl => ?_)
    refine lv_lload_n hx hb dX12_divisor_14 rfl (lv_at hl 1 rfl) ?_
    refine lv_lconst (v := 0) hx hb dX12_divisor_15 (by decide) ?_
    refine k_lcmp_ge (tgt := 25) hx hb dX12_divisor_16 dX12_divisor_17 (by decide) (fun c3 => ?_) (fun c3 => ?_)
    · have hf := kp_e hf c3
      refine lv_lload_n hx hb dX12_divisor_25 rfl (lv_at hl 1 rfl) ?_
      refine lv_lstore (lv' := [(6, .long x2), (4, .long t1), (2, .long x2)]) hx hb dX12_divisor_26 hl (by decide) rfl (fun ls hl => ?_)
      obtain ⟨y7, hu, hf⟩ := kb1_e hf
      refine hL28 F t1 x2 y7 hu (fun H locs ls hP hD hS hl => ?_) _ _ _ hP hD hS (lv_sub hl [1, 0] rfl)
      refine lv_lload hx hb dX12_divisor_53 (lv_at hl 0 rfl) ?_
      obtain rfl := ki1 hf
      rw [hQ]
      exact k_lret hat hP hS rfl dX12_divisor_55
    · have hf := kn_e hf c3
      refine lv_lload_n hx hb dX12_divisor_20 rfl (lv_at hl 1 rfl) ?_
      refine lv_lneg hx hb dX12_divisor_21 ?_
      refine lv_goto (tgt := 26) hx hb dX12_divisor_22 (by decide) ?_
      refine lv_topl (fun t8 et8 => ?_)
      have hf := kl_e hf t8 et8
      refine lv_lstore (lv' := [(6, .long t8), (4, .long t1), (2, .long x2)]) hx hb dX12_divisor_26 hl (by decide) rfl (fun ls hl => ?_)
      obtain ⟨y9, hu, hf⟩ := kb1_e hf
      refine hL28 F t1 t8 y9 hu (fun H locs ls hP hD hS hl => ?_) _ _ _ hP hD hS (lv_sub hl [1, 0] rfl)
      refine lv_lload hx hb dX12_divisor_53 (lv_at hl 0 rfl) ?_
      obtain rfl := ki1 hf
      rw [hQ]
      exact k_lret hat hP hS rfl dX12_divisor_55
  refine k_lcmp_ge (tgt := 11) hx hb dX12_divisor_2 dX12_divisor_3 (by decide) (fun c10 => ?_) (fun c10 => ?_)
  · have hf := kp_e hf c10
    refine lv_lload_n hx hb dX12_divisor_11 rfl (lv_at hl 0 rfl) ?_
    exact hJ2 x0 hf _ _ _ hP hD hS (lv_sub hl [1] rfl)
  · have hf := kn_e hf c10
    refine lv_lload_n hx hb dX12_divisor_6 rfl (lv_at hl 0 rfl) ?_
    refine lv_lneg hx hb dX12_divisor_7 ?_
    refine lv_goto (tgt := 12) hx hb dX12_divisor_8 (by decide) ?_
    exact hJ2 (-x0) hf _ _ _ hP hD hS (lv_sub hl [1] rfl)
