set_option maxHeartbeats 4000000 in
set_option maxRecDepth 100000 in
theorem c_X11_rest {l : Launch} {D : va_G} {cI cJ cQ : ClassId} {tp : Nat} (q : Nat) (q_now : Nat) (q_clearing : Nat) (q_residues : Nat) (q_lifting : Nat) (q_guessed : Nat) (q_walk : Nat) (q_history : Nat) (q_book : Nat) (q_draws : Nat) (q_firstImage : Nat) (q_secondImage : Nat) (q_now_numbers : Nat) (q_residues_rows : Nat) (q_residues_rows_r : Nat → Nat) (q_lifting_rests : Nat) (q_lifting_digits : Nat) (q_lifting_made : Nat) (v_now_n : Int32) (v_now_primeNumber : Int32) (v_now_numbers : (Nat → Int32)) (v_residues_n : Int32) (v_residues_rank : Int32) (v_residues_exchanges : Int32) (v_residues_width : Int32) (v_residues_p : Int32) (v_residues_rows : (Nat → Nat → Int64)) (v_lifting_power : Int64) (v_lifting_rests : (Nat → Int32)) (v_lifting_digits : (Nat → Int32)) (v_lifting_made : (Nat → Int64)) (F : Nat) (x1 : Int32) (x2 : Int32) (r0 : Int32) (o_v_residues_n : Int32) (o_v_residues_rank : Int32) (o_v_residues_exchanges : Int32) (o_v_residues_p : Int32) (o_v_residues_rows : (Nat → Nat → Int64)) (o_v_lifting_power : Int64) (o_v_lifting_rests : (Nat → Int32)) (o_v_lifting_digits : (Nat → Int32)) (o_v_lifting_made : (Nat → Int64)) (hf : f_X11_rest F v_now_n v_now_primeNumber v_now_numbers v_residues_n v_residues_rank v_residues_exchanges v_residues_width v_residues_p v_residues_rows v_lifting_power v_lifting_rests v_lifting_digits v_lifting_made x1 x2 = some (r0, o_v_residues_n, o_v_residues_rank, o_v_residues_exchanges, o_v_residues_p, o_v_residues_rows, o_v_lifting_power, o_v_lifting_rests, o_v_lifting_digits, o_v_lifting_made)) : kM (fun A => kQi D A [(q, .inr (10, [.ref q_now, .ref q_clearing, .ref q_residues, .ref q_lifting, .ref q_guessed, .ref q_walk, .ref q_history, .ref q_book, .ref q_draws, .ref q_firstImage, .ref q_secondImage])), (q_now, .inr (3, [.int v_now_n, .int v_now_primeNumber, .ref q_now_numbers])), (q_now_numbers, .inl (cI, 20, .inl v_now_numbers)), (q_residues, .inr (8, [.int o_v_residues_n, .int o_v_residues_rank, .int o_v_residues_exchanges, .ref q_residues_rows, .int v_residues_width, .int o_v_residues_p])), (q_residues_rows, .inl (cQ, 4, .inr (.inr (.inr (.inr (kg q_residues_rows_r)))))), (q_residues_rows_r 0, .inl (cJ, 9, .inr (.inl (o_v_residues_rows 0)))), (q_residues_rows_r 1, .inl (cJ, 9, .inr (.inl (o_v_residues_rows 1)))), (q_residues_rows_r 2, .inl (cJ, 9, .inr (.inl (o_v_residues_rows 2)))), (q_residues_rows_r 3, .inl (cJ, 9, .inr (.inl (o_v_residues_rows 3)))), (q_lifting, .inr (7, [.ref q_lifting_rests, .ref q_lifting_digits, .ref q_lifting_made, .long o_v_lifting_power])), (q_lifting_rests, .inl (cI, 4, .inl o_v_lifting_rests)), (q_lifting_digits, .inl (cI, 4, .inl o_v_lifting_digits)), (q_lifting_made, .inl (cJ, 4, .inr (.inl o_v_lifting_made)))] r0) (some .int) l yX11_rest cX11_rest 3 { frames := 6, cells := 0, slots := 0, locals := 137 } D cI cJ cQ tp [.ref q, .int x1, .int x2] [(q, .inr (10, [.ref q_now, .ref q_clearing, .ref q_residues, .ref q_lifting, .ref q_guessed, .ref q_walk, .ref q_history, .ref q_book, .ref q_draws, .ref q_firstImage, .ref q_secondImage])), (q_now, .inr (3, [.int v_now_n, .int v_now_primeNumber, .ref q_now_numbers])), (q_now_numbers, .inl (cI, 20, .inl v_now_numbers)), (q_residues, .inr (8, [.int v_residues_n, .int v_residues_rank, .int v_residues_exchanges, .ref q_residues_rows, .int v_residues_width, .int v_residues_p])), (q_residues_rows, .inl (cQ, 4, .inr (.inr (.inr (.inr (kg q_residues_rows_r)))))), (q_residues_rows_r 0, .inl (cJ, 9, .inr (.inl (v_residues_rows 0)))), (q_residues_rows_r 1, .inl (cJ, 9, .inr (.inl (v_residues_rows 1)))), (q_residues_rows_r 2, .inl (cJ, 9, .inr (.inl (v_residues_rows 2)))), (q_residues_rows_r 3, .inl (cJ, 9, .inr (.inl (v_residues_rows 3)))), (q_lifting, .inr (7, [.ref q_lifting_rests, .ref q_lifting_digits, .ref q_lifting_made, .long v_lifting_power])), (q_lifting_rests, .inl (cI, 4, .inl v_lifting_rests)), (q_lifting_digits, .inl (cI, 4, .inl v_lifting_digits)), (q_lifting_made, .inl (cJ, 4, .inr (.inl v_lifting_made)))] := by
  refine kM_of (by decide) (Nat.le_of_ble_eq_true rfl) ?_
  intro p e s m args below meth c A ls R Q hR hQ hat hP hD hS hl
  obtain ⟨hx, hb, hr, hml, hown, hts, hT, hlk, hK, hA, hZ⟩ := id hat
  have hown : s.vm.findClass RX11 = some m.cls := hown
  have hl : lv_has ls 3 [(0, .ref q), (1, .int x1), (2, .int x2)] := hl
  unfold f_X11_rest at hf
  refine lv_aload_n hx hb dX11_rest_0 rfl (lv_at hl 0 rfl) ?_
  refine va_get (D := D) (ci := 10) (v := .ref q_now) (C := RX11) (T := TX11) (N := 11) hx hb hts kinX11 hown hK hP 0 rfl rfl 0 (by decide) (hts _ kw327) (fun _ h9 => h9) rfl dX11_rest_1 ?_
  refine lv_iload_n hx hb dX11_rest_4 rfl (lv_at hl 1 rfl) ?_
  obtain ⟨r1, h2, hf⟩ := kb1_e hf
  refine k_gi (ws' := [(q, .inr (10, [.ref q_now, .ref q_clearing, .ref q_residues, .ref q_lifting, .ref q_guessed, .ref q_walk, .ref q_history, .ref q_book, .ref q_draws, .ref q_firstImage, .ref q_secondImage])), (q_now, .inr (3, [.int v_now_n, .int v_now_primeNumber, .ref q_now_numbers])), (q_now_numbers, .inl (cI, 20, .inl v_now_numbers)), (q_residues, .inr (8, [.int v_residues_n, .int v_residues_rank, .int v_residues_exchanges, .ref q_residues_rows, .int v_residues_width, .int v_residues_p])), (q_residues_rows, .inl (cQ, 4, .inr (.inr (.inr (.inr (kg q_residues_rows_r)))))), (q_residues_rows_r 0, .inl (cJ, 9, .inr (.inl (v_residues_rows 0)))), (q_residues_rows_r 1, .inl (cJ, 9, .inr (.inl (v_residues_rows 1)))), (q_residues_rows_r 2, .inl (cJ, 9, .inr (.inl (v_residues_rows 2)))), (q_residues_rows_r 3, .inl (cJ, 9, .inr (.inl (v_residues_rows 3)))), (q_lifting, .inr (7, [.ref q_lifting_rests, .ref q_lifting_digits, .ref q_lifting_made, .long v_lifting_power])), (q_lifting_rests, .inl (cI, 4, .inl v_lifting_rests)), (q_lifting_digits, .inl (cI, 4, .inl v_lifting_digits)), (q_lifting_made, .inl (cJ, 4, .inr (.inl v_lifting_made)))]) (k_runV (rest := []) hat hP hD hS hl.1 (c_X3_has q_now q_now_numbers v_now_n v_now_primeNumber x1 r1 h2) [1] (by decide) rfl kw580 kw581 kw582 kw68 kw583 kdVX3_has ⟨rfl, rfl⟩ (by rw [hR]; exact ⟨Nat.le_of_ble_eq_true rfl, Nat.le_of_ble_eq_true rfl⟩) ⟨Nat.zero_le _, Nat.zero_le _⟩ 1 3 rfl rfl rfl rfl (Nat.le_of_ble_eq_true rfl) dX11_rest_5) hat hP hD hS [1] rfl [0, 2, 3, 4, 5, 6, 7, 8, 9, 10, 11, 12] rfl rfl rfl rfl (by decide) (fun H locs hP hD hS => ?_)
  refine lv_if_ne (tgt := 14) hx hb dX11_rest_8 (by decide) (fun c3 => ?_) (fun c3 => ?_)
  · have hf := kn_e hf c3
    refine lv_iload_n hx hb dX11_rest_14 rfl (lv_at hl 2 rfl) ?_
    refine lv_if_lt (tgt := 24) hx hb dX11_rest_15 (by decide) (fun c4 => ?_) (fun c4 => ?_)
    · have hf := kp_e hf c4
      refine lv_ldc hx hb hown (hts _ kw575) dX11_rest_24 ?_
      obtain ⟨rfl, rfl, rfl, rfl, rfl, rfl, rfl, rfl, rfl, rfl⟩ := ki10 hf
      rw [hQ]
      exact k_iret hat hP hS rfl dX11_rest_26
    · have hf := kn_e hf c4
      refine lv_iload_n hx hb dX11_rest_18 rfl (lv_at hl 2 rfl) ?_
      refine lv_bipush (v := 100) hx hb dX11_rest_19 (by decide) ?_
      refine lv_icmp_le (tgt := 27) hx hb dX11_rest_21 (by decide) (fun c5 => ?_) (fun c5 => ?_)
      · have hf := kp_e hf c5
        refine lv_aload_n hx hb dX11_rest_27 rfl (lv_at hl 0 rfl) ?_
        obtain ⟨r6, w7, w8, w9, w10, w11, h12, hf⟩ := kb6_e hf
        refine k_gi (ws' := [(q, .inr (10, [.ref q_now, .ref q_clearing, .ref q_residues, .ref q_lifting, .ref q_guessed, .ref q_walk, .ref q_history, .ref q_book, .ref q_draws, .ref q_firstImage, .ref q_secondImage])), (q_now, .inr (3, [.int v_now_n, .int v_now_primeNumber, .ref q_now_numbers])), (q_now_numbers, .inl (cI, 20, .inl v_now_numbers)), (q_residues, .inr (8, [.int w7, .int w8, .int w9, .ref q_residues_rows, .int v_residues_width, .int w10])), (q_residues_rows, .inl (cQ, 4, .inr (.inr (.inr (.inr (kg q_residues_rows_r)))))), (q_residues_rows_r 0, .inl (cJ, 9, .inr (.inl (w11 0)))), (q_residues_rows_r 1, .inl (cJ, 9, .inr (.inl (w11 1)))), (q_residues_rows_r 2, .inl (cJ, 9, .inr (.inl (w11 2)))), (q_residues_rows_r 3, .inl (cJ, 9, .inr (.inl (w11 3)))), (q_lifting, .inr (7, [.ref q_lifting_rests, .ref q_lifting_digits, .ref q_lifting_made, .long v_lifting_power])), (q_lifting_rests, .inl (cI, 4, .inl v_lifting_rests)), (q_lifting_digits, .inl (cI, 4, .inl v_lifting_digits)), (q_lifting_made, .inl (cJ, 4, .inr (.inl v_lifting_made)))]) (k_runV (rest := []) hat hP hD hS hl.1 (c_X11_primeIsBad q q_now q_clearing q_residues q_lifting q_guessed q_walk q_history q_book q_draws q_firstImage q_secondImage q_now_numbers q_residues_rows q_residues_rows_r v_now_n v_now_primeNumber v_now_numbers v_residues_n v_residues_rank v_residues_exchanges v_residues_width v_residues_p v_residues_rows F r6 w7 w8 w9 w10 w11 h12) [0, 1, 2, 3, 4, 5, 6, 7, 8] (by decide) rfl kw471 kw473 kw5 kw67 kw474 kdVX11_primeIsBad ⟨rfl, rfl⟩ (by rw [hR]; exact ⟨Nat.le_of_ble_eq_true rfl, Nat.le_of_ble_eq_true rfl⟩) ⟨Nat.zero_le _, Nat.zero_le _⟩ 0 10 rfl rfl rfl rfl (Nat.le_of_ble_eq_true rfl) dX11_rest_28) hat hP hD hS [0, 1, 2, 3, 4, 5, 6, 7, 8] rfl [9, 10, 11, 12] rfl rfl rfl rfl (by decide) (fun H locs hP hD hS => ?_)
        refine lv_if_eq (tgt := 37) hx hb dX11_rest_31 (by decide) (fun c13 => ?_) (fun c13 => ?_)
        · have hf := kp_e hf c13
          refine lv_aload_n hx hb dX11_rest_37 rfl (lv_at hl 0 rfl) ?_
          refine lv_iload_n hx hb dX11_rest_38 rfl (lv_at hl 2 rfl) ?_
          obtain ⟨w14, w15, w16, w17, h18, hf⟩ := kb4_e hf
          refine k_gv (ws' := [(q, .inr (10, [.ref q_now, .ref q_clearing, .ref q_residues, .ref q_lifting, .ref q_guessed, .ref q_walk, .ref q_history, .ref q_book, .ref q_draws, .ref q_firstImage, .ref q_secondImage])), (q_now, .inr (3, [.int v_now_n, .int v_now_primeNumber, .ref q_now_numbers])), (q_now_numbers, .inl (cI, 20, .inl v_now_numbers)), (q_residues, .inr (8, [.int w7, .int w8, .int w9, .ref q_residues_rows, .int v_residues_width, .int w10])), (q_residues_rows, .inl (cQ, 4, .inr (.inr (.inr (.inr (kg q_residues_rows_r)))))), (q_residues_rows_r 0, .inl (cJ, 9, .inr (.inl (w11 0)))), (q_residues_rows_r 1, .inl (cJ, 9, .inr (.inl (w11 1)))), (q_residues_rows_r 2, .inl (cJ, 9, .inr (.inl (w11 2)))), (q_residues_rows_r 3, .inl (cJ, 9, .inr (.inl (w11 3)))), (q_lifting, .inr (7, [.ref q_lifting_rests, .ref q_lifting_digits, .ref q_lifting_made, .long w14])), (q_lifting_rests, .inl (cI, 4, .inl w15)), (q_lifting_digits, .inl (cI, 4, .inl w16)), (q_lifting_made, .inl (cJ, 4, .inr (.inl w17)))]) (k_runV (rest := []) hat hP hD hS hl.1 (c_X11_lift q q_now q_clearing q_residues q_lifting q_guessed q_walk q_history q_book q_draws q_firstImage q_secondImage q_now_numbers q_residues_rows q_residues_rows_r q_lifting_rests q_lifting_digits q_lifting_made v_now_n v_now_primeNumber v_now_numbers w7 w8 w9 v_residues_width w10 w11 v_lifting_power v_lifting_rests v_lifting_digits v_lifting_made F x2 w14 w15 w16 w17 h18) [0, 1, 2, 3, 4, 5, 6, 7, 8, 9, 10, 11, 12] (by decide) rfl kw626 kw628 kw11 kw67 kw629 kdVX11_lift ⟨rfl, rfl⟩ (by rw [hR]; exact ⟨Nat.le_of_ble_eq_true rfl, Nat.le_of_ble_eq_true rfl⟩) ⟨Nat.zero_le _, Nat.zero_le _⟩ 0 10 rfl rfl rfl rfl (Nat.le_of_ble_eq_true rfl) dX11_rest_39) hat hP hD hS [0, 1, 2, 3, 4, 5, 6, 7, 8, 9, 10, 11, 12] rfl [] rfl rfl rfl rfl (by decide) (fun H locs hP hD hS => ?_)
          refine lv_aload_n hx hb dX11_rest_42 rfl (lv_at hl 0 rfl) ?_
          refine va_get (D := D) (ci := 10) (v := .ref q_lifting) (C := RX11) (T := TX11) (N := 11) hx hb hts kinX11 hown hK hP 0 rfl rfl 3 (by decide) (hts _ kw330) (fun _ h9 => h9) rfl dX11_rest_43 ?_
          refine va_get (D := D) (ci := 7) (v := .ref q_lifting_rests) (C := RX7) (T := TX7) (N := 4) hx hb hts kinX7 hown hK hP 9 rfl rfl 0 (by decide) (hts _ kw193) (fun _ h9 => h9) rfl dX11_rest_46 ?_
          refine lv_iload_n hx hb dX11_rest_49 rfl (lv_at hl 1 rfl) ?_
          obtain ⟨c19, hf⟩ := kc_e hf
          refine va_iald hx hb hK hP 10 0 rfl rfl (kin_e c19) dX11_rest_50 ?_
          refine lv_ldc hx hb hown (hts _ kw424) dX11_rest_51 ?_
          refine lv_iadd hx hb dX11_rest_53 ?_
          obtain ⟨rfl, rfl, rfl, rfl, rfl, rfl, rfl, rfl, rfl, rfl⟩ := ki10 hf
          rw [hQ]
          exact k_iret hat hP hS rfl dX11_rest_54
        · have hf := kn_e hf c13
          refine lv_ldc hx hb hown (hts _ kw617) dX11_rest_34 ?_
          obtain ⟨rfl, rfl, rfl, rfl, rfl, rfl, rfl, rfl, rfl, rfl⟩ := ki10 hf
          rw [hQ]
          exact k_iret hat hP hS rfl dX11_rest_36
      · have hf := kn_e hf c5
        refine lv_ldc hx hb hown (hts _ kw575) dX11_rest_24 ?_
        obtain ⟨rfl, rfl, rfl, rfl, rfl, rfl, rfl, rfl, rfl, rfl⟩ := ki10 hf
        rw [hQ]
        exact k_iret hat hP hS rfl dX11_rest_26
  · have hf := kp_e hf c3
    refine lv_ldc hx hb hown (hts _ kw584) dX11_rest_11 ?_
    obtain ⟨rfl, rfl, rfl, rfl, rfl, rfl, rfl, rfl, rfl, rfl⟩ := ki10 hf
    rw [hQ]
    exact k_iret hat hP hS rfl dX11_rest_13
set_option maxHeartbeats 4000000 in
set_option maxRecDepth 100000 in
theorem c_X11_powerForGuess {l : Launch} {D : va_G} {cI cJ cQ : ClassId} {tp : Nat} (F : Nat) (x0 : Int32) (x1 : Int32) (r0 : Int64) (hf : f_X11_powerForGuess F x0 x1 = some r0) : kM (fun A => kQl D A [] r0) (some .long) l yX11_powerForGuess cX11_powerForGuess 5 { frames := 1, cells := 0, slots := 0, locals := 23 } D cI cJ cQ tp [.int x0, .int x1] [] := by
  refine kM_of (by decide) (Nat.le_of_ble_eq_true rfl) ?_
  intro p e s m args below meth c A ls R Q hR hQ hat hP hD hS hl
  obtain ⟨hx, hb, hr, hml, hown, hts, hT, hlk, hK, hA, hZ⟩ := id hat
  have hown : s.vm.findClass RX11 = some m.cls := hown
  have hl : lv_has ls 5 [(0, .int x0), (1, .int x1)] := hl
  have hL14 : ∀ (x0 : Int32) (x1 : Int32) (fu : Nat) (x2 : Int64) (x4 : Int32) (u : Unit ⊕ Int64), L_X11_powerForGuess_14 x0 x1 fu x2 x4 = some u → (u = .inl () → ∀ (H : Heap) (locs : List Loc) (ls : Array Slot), va_P D vwCl [] H → va_D A [] → va_S A s.heap H locs → lv_has ls 5 [] → W p l e R s m args below meth c H locs 0 0 Q (F0 m 33 ls [])) → (∀ (o0 : Int64), u = .inr o0 → ∀ (H : Heap) (locs : List Loc) (ls : Array Slot), va_P D vwCl [] H → va_D A [] → va_S A s.heap H locs → lv_has ls 5 [(2, .long o0)] → W p l e R s m args below meth c H locs 0 0 Q (F0 m 48 ls [])) → ∀ (H : Heap) (locs : List Loc) (ls : Array Slot), va_P D vwCl [] H → va_D A [] → va_S A s.heap H locs → lv_has ls 5 [(0, .int x0), (1, .int x1), (2, .long x2), (4, .int x4)] → W p l e R s m args below meth c H locs 0 0 Q (F0 m 14 ls []) := by
    intro x0 x1 fu
    induction fu with
    | zero =>
      intro x2 x4 u hf
      cases hf
    | succ fu ih =>
      intro x2 x4 u hf hk0 hk1 H locs ls hP hD hS hl
      rw [L_X11_powerForGuess_14] at hf
      refine lv_iload hx hb dX11_powerForGuess_14 (lv_at hl 3 rfl) ?_
      refine lv_iload_n hx hb dX11_powerForGuess_16 rfl (lv_at hl 1 rfl) ?_
      refine lv_icmp_ge (tgt := 48) hx hb dX11_powerForGuess_17 (by decide) (fun c2 => ?_) (fun c2 => ?_)
      · have hf := kp_e hf c2
        exact hk1 _ (Option.some.inj hf).symm _ _ _ hP hD hS (lv_sub hl [2] rfl)
      · have hf := kn_e hf c2
        refine lv_lload_n hx hb dX11_powerForGuess_20 rfl (lv_at hl 2 rfl) ?_
        refine lv_ldc2 hx hb hown (hts _ kw643) dX11_powerForGuess_21 ?_
        refine lv_iload_n hx hb dX11_powerForGuess_24 rfl (lv_at hl 0 rfl) ?_
        refine lv_i2l hx hb dX11_powerForGuess_25 rfl ?_
        obtain ⟨r3, h4, hf⟩ := kb1_e hf
        refine k_gl (ws' := []) (k_runS (rest := [.long x2]) hat hP hD hS hl.1 (c_X11_quotient (2000000000000000000 : Int64) (x0.toInt64) r3 h4) [] (by decide) rfl kw644 kw408 kw67 kw409 kdX11_quotient ⟨rfl, rfl⟩ (by rw [hR]; exact ⟨Nat.le_of_ble_eq_true rfl, Nat.le_of_ble_eq_true rfl⟩) ⟨Nat.zero_le _, Nat.zero_le _⟩ rfl rfl (Nat.le_of_ble_eq_true rfl) dX11_powerForGuess_26) hat hP hD hS [] rfl [] rfl rfl rfl rfl (by decide) (fun H locs hP hD hS => ?_)
        refine k_lcmp_le (tgt := 37) hx hb dX11_powerForGuess_29 dX11_powerForGuess_30 (by decide) (fun c5 => ?_) (fun c5 => ?_)
        · have hf := kp_e hf c5
          refine lv_lload_n hx hb dX11_powerForGuess_37 rfl (lv_at hl 2 rfl) ?_
          refine lv_iload_n hx hb dX11_powerForGuess_38 rfl (lv_at hl 0 rfl) ?_
          refine lv_i2l hx hb dX11_powerForGuess_39 rfl ?_
          refine lv_lmul hx hb dX11_powerForGuess_40 ?_
          refine lv_topl (fun t6 et6 => ?_)
          have hf := kl_e hf t6 et6
          refine lv_lstore_n (lv' := [(2, .long t6), (0, .int x0), (1, .int x1), (4, .int x4)]) hx hb dX11_powerForGuess_41 rfl hl (by decide) rfl (fun ls hl => ?_)
          obtain ⟨t7, et7⟩ : ∃ z : Int32, z = (x4 + (1 : Int32)) := ⟨_, rfl⟩
          have hf := kl_e hf t7 et7
          refine lv_iinc (v := t7) (lv' := [(4, .int t7), (2, .long t6), (0, .int x0), (1, .int x1)]) hx hb dX11_powerForGuess_42 hl (k := 3) rfl (by rw [et7]; rfl) (by decide) rfl (fun ls hl => ?_)
          refine lv_goto (tgt := 14) hx hb dX11_powerForGuess_45 (by decide) ?_
          exact ih t6 t7 u hf hk0 hk1 _ _ _ hP hD hS (lv_sub hl [2, 3, 1, 0] rfl)
        · have hf := kn_e hf c5
          exact hk0  (Option.some.inj hf).symm _ _ _ hP hD hS (lv_sub hl [] rfl)
  unfold f_X11_powerForGuess at hf
  refine lv_iload_n hx hb dX11_powerForGuess_0 rfl (lv_at hl 1 rfl) ?_
  refine lv_iconst (v := 1) hx hb dX11_powerForGuess_1 (by decide) ?_
  refine lv_icmp_ge (tgt := 9) hx hb dX11_powerForGuess_2 (by decide) (fun c1 => ?_) (fun c1 => ?_)
  · have hf := kp_e hf c1
    refine lv_lconst (v := 1) hx hb dX11_powerForGuess_9 (by decide) ?_
    refine lv_lstore_n (lv' := [(2, .long (1 : Int64)), (0, .int x0), (1, .int x1)]) hx hb dX11_powerForGuess_10 rfl hl (by decide) rfl (fun ls hl => ?_)
    refine lv_iconst (v := 0) hx hb dX11_powerForGuess_11 (by decide) ?_
    refine lv_istore (lv' := [(4, .int (0 : Int32)), (2, .long (1 : Int64)), (0, .int x0), (1, .int x1)]) hx hb dX11_powerForGuess_12 hl (by decide) rfl (fun ls hl => ?_)
    obtain ⟨u9, hu, hf0, hf1⟩ := ks_e hf
    refine hL14 x0 x1 F (1 : Int64) (0 : Int32) u9 hu (fun hu2 H locs ls hP hD hS hl => ?_) (fun y8 hu2 H locs ls hP hD hS hl => ?_) _ _ _ hP hD hS (lv_sub hl [2, 3, 1, 0] rfl)
    · have hf := hf0 _ hu2
      refine lv_ldc2 hx hb hown (hts _ kw642) dX11_powerForGuess_33 ?_
      obtain rfl := ki1 hf
      rw [hQ]
      exact k_lret hat hP hS rfl dX11_powerForGuess_36
    · have hf := kf1_e (hf1 _ hu2)
      refine lv_lload_n hx hb dX11_powerForGuess_48 rfl (lv_at hl 0 rfl) ?_
      obtain rfl := ki1 hf
      rw [hQ]
      exact k_lret hat hP hS rfl dX11_powerForGuess_49
  · have hf := kn_e hf c1
    refine lv_ldc2 hx hb hown (hts _ kw642) dX11_powerForGuess_5 ?_
    obtain rfl := ki1 hf
    rw [hQ]
    exact k_lret hat hP hS rfl dX11_powerForGuess_8
set_option maxHeartbeats 4000000 in
set_option maxRecDepth 100000 in
theorem c_X11_guess {l : Launch} {D : va_G} {cI cJ cQ : ClassId} {tp : Nat} (q : Nat) (q_now : Nat) (q_clearing : Nat) (q_residues : Nat) (q_lifting : Nat) (q_guessed : Nat) (q_walk : Nat) (q_history : Nat) (q_book : Nat) (q_draws : Nat) (q_firstImage : Nat) (q_secondImage : Nat) (q_now_numbers : Nat) (q_residues_rows : Nat) (q_residues_rows_r : Nat → Nat) (q_lifting_rests : Nat) (q_lifting_digits : Nat) (q_lifting_made : Nat) (v_now_n : Int32) (v_now_primeNumber : Int32) (v_now_numbers : (Nat → Int32)) (v_residues_n : Int32) (v_residues_rank : Int32) (v_residues_exchanges : Int32) (v_residues_width : Int32) (v_residues_p : Int32) (v_residues_rows : (Nat → Nat → Int64)) (v_lifting_power : Int64) (v_lifting_rests : (Nat → Int32)) (v_lifting_digits : (Nat → Int32)) (v_lifting_made : (Nat → Int64)) (v_guessed_found : Int32) (v_guessed_above : Int64) (v_guessed_below : Int64) (F : Nat) (x1 : Int32) (x2 : Int32) (x3 : Int32) (r0 : Int64) (o_v_residues_n : Int32) (o_v_residues_rank : Int32) (o_v_residues_exchanges : Int32) (o_v_residues_p : Int32) (o_v_residues_rows : (Nat → Nat → Int64)) (o_v_lifting_power : Int64) (o_v_lifting_rests : (Nat → Int32)) (o_v_lifting_digits : (Nat → Int32)) (o_v_lifting_made : (Nat → Int64)) (o_v_guessed_found : Int32) (o_v_guessed_above : Int64) (o_v_guessed_below : Int64) (hf : f_X11_guess F v_now_n v_now_primeNumber v_now_numbers v_residues_n v_residues_rank v_residues_exchanges v_residues_width v_residues_p v_residues_rows v_lifting_power v_lifting_rests v_lifting_digits v_lifting_made v_guessed_found v_guessed_above v_guessed_below x1 x2 x3 = some (r0, o_v_residues_n, o_v_residues_rank, o_v_residues_exchanges, o_v_residues_p, o_v_residues_rows, o_v_lifting_power, o_v_lifting_rests, o_v_lifting_digits, o_v_lifting_made, o_v_guessed_found, o_v_guessed_above, o_v_guessed_below)) : kM (fun A => kQl D A [(q, .inr (10, [.ref q_now, .ref q_clearing, .ref q_residues, .ref q_lifting, .ref q_guessed, .ref q_walk, .ref q_history, .ref q_book, .ref q_draws, .ref q_firstImage, .ref q_secondImage])), (q_now, .inr (3, [.int v_now_n, .int v_now_primeNumber, .ref q_now_numbers])), (q_now_numbers, .inl (cI, 20, .inl v_now_numbers)), (q_residues, .inr (8, [.int o_v_residues_n, .int o_v_residues_rank, .int o_v_residues_exchanges, .ref q_residues_rows, .int v_residues_width, .int o_v_residues_p])), (q_residues_rows, .inl (cQ, 4, .inr (.inr (.inr (.inr (kg q_residues_rows_r)))))), (q_residues_rows_r 0, .inl (cJ, 9, .inr (.inl (o_v_residues_rows 0)))), (q_residues_rows_r 1, .inl (cJ, 9, .inr (.inl (o_v_residues_rows 1)))), (q_residues_rows_r 2, .inl (cJ, 9, .inr (.inl (o_v_residues_rows 2)))), (q_residues_rows_r 3, .inl (cJ, 9, .inr (.inl (o_v_residues_rows 3)))), (q_lifting, .inr (7, [.ref q_lifting_rests, .ref q_lifting_digits, .ref q_lifting_made, .long o_v_lifting_power])), (q_lifting_rests, .inl (cI, 4, .inl o_v_lifting_rests)), (q_lifting_digits, .inl (cI, 4, .inl o_v_lifting_digits)), (q_lifting_made, .inl (cJ, 4, .inr (.inl o_v_lifting_made))), (q_guessed, .inr (4, [.int o_v_guessed_found, .long o_v_guessed_above, .long o_v_guessed_below]))] r0) (some .long) l yX11_guess cX11_guess 6 { frames := 6, cells := 0, slots := 0, locals := 137 } D cI cJ cQ tp [.ref q, .int x1, .int x2, .int x3] [(q, .inr (10, [.ref q_now, .ref q_clearing, .ref q_residues, .ref q_lifting, .ref q_guessed, .ref q_walk, .ref q_history, .ref q_book, .ref q_draws, .ref q_firstImage, .ref q_secondImage])), (q_now, .inr (3, [.int v_now_n, .int v_now_primeNumber, .ref q_now_numbers])), (q_now_numbers, .inl (cI, 20, .inl v_now_numbers)), (q_residues, .inr (8, [.int v_residues_n, .int v_residues_rank, .int v_residues_exchanges, .ref q_residues_rows, .int v_residues_width, .int v_residues_p])), (q_residues_rows, .inl (cQ, 4, .inr (.inr (.inr (.inr (kg q_residues_rows_r)))))), (q_residues_rows_r 0, .inl (cJ, 9, .inr (.inl (v_residues_rows 0)))), (q_residues_rows_r 1, .inl (cJ, 9, .inr (.inl (v_residues_rows 1)))), (q_residues_rows_r 2, .inl (cJ, 9, .inr (.inl (v_residues_rows 2)))), (q_residues_rows_r 3, .inl (cJ, 9, .inr (.inl (v_residues_rows 3)))), (q_lifting, .inr (7, [.ref q_lifting_rests, .ref q_lifting_digits, .ref q_lifting_made, .long v_lifting_power])), (q_lifting_rests, .inl (cI, 4, .inl v_lifting_rests)), (q_lifting_digits, .inl (cI, 4, .inl v_lifting_digits)), (q_lifting_made, .inl (cJ, 4, .inr (.inl v_lifting_made))), (q_guessed, .inr (4, [.int v_guessed_found, .long v_guessed_above, .long v_guessed_below]))] := by
  refine kM_of (by decide) (Nat.le_of_ble_eq_true rfl) ?_
  intro p e s m args below meth c A ls R Q hR hQ hat hP hD hS hl
  obtain ⟨hx, hb, hr, hml, hown, hts, hT, hlk, hK, hA, hZ⟩ := id hat
  have hown : s.vm.findClass RX11 = some m.cls := hown
  have hl : lv_has ls 6 [(0, .ref q), (1, .int x1), (2, .int x2), (3, .int x3)] := hl
  unfold f_X11_guess at hf
  refine lv_aload_n hx hb dX11_guess_0 rfl (lv_at hl 0 rfl) ?_
  refine va_get (D := D) (ci := 10) (v := .ref q_now) (C := RX11) (T := TX11) (N := 11) hx hb hts kinX11 hown hK hP 0 rfl rfl 0 (by decide) (hts _ kw327) (fun _ h9 => h9) rfl dX11_guess_1 ?_
  refine lv_iload_n hx hb dX11_guess_4 rfl (lv_at hl 1 rfl) ?_
  obtain ⟨r1, h2, hf⟩ := kb1_e hf
  refine k_gi (ws' := [(q, .inr (10, [.ref q_now, .ref q_clearing, .ref q_residues, .ref q_lifting, .ref q_guessed, .ref q_walk, .ref q_history, .ref q_book, .ref q_draws, .ref q_firstImage, .ref q_secondImage])), (q_now, .inr (3, [.int v_now_n, .int v_now_primeNumber, .ref q_now_numbers])), (q_now_numbers, .inl (cI, 20, .inl v_now_numbers)), (q_residues, .inr (8, [.int v_residues_n, .int v_residues_rank, .int v_residues_exchanges, .ref q_residues_rows, .int v_residues_width, .int v_residues_p])), (q_residues_rows, .inl (cQ, 4, .inr (.inr (.inr (.inr (kg q_residues_rows_r)))))), (q_residues_rows_r 0, .inl (cJ, 9, .inr (.inl (v_residues_rows 0)))), (q_residues_rows_r 1, .inl (cJ, 9, .inr (.inl (v_residues_rows 1)))), (q_residues_rows_r 2, .inl (cJ, 9, .inr (.inl (v_residues_rows 2)))), (q_residues_rows_r 3, .inl (cJ, 9, .inr (.inl (v_residues_rows 3)))), (q_lifting, .inr (7, [.ref q_lifting_rests, .ref q_lifting_digits, .ref q_lifting_made, .long v_lifting_power])), (q_lifting_rests, .inl (cI, 4, .inl v_lifting_rests)), (q_lifting_digits, .inl (cI, 4, .inl v_lifting_digits)), (q_lifting_made, .inl (cJ, 4, .inr (.inl v_lifting_made))), (q_guessed, .inr (4, [.int v_guessed_found, .long v_guessed_above, .long v_guessed_below]))]) (k_runV (rest := []) hat hP hD hS hl.1 (c_X3_has q_now q_now_numbers v_now_n v_now_primeNumber x1 r1 h2) [1] (by decide) rfl kw580 kw581 kw582 kw68 kw583 kdVX3_has ⟨rfl, rfl⟩ (by rw [hR]; exact ⟨Nat.le_of_ble_eq_true rfl, Nat.le_of_ble_eq_true rfl⟩) ⟨Nat.zero_le _, Nat.zero_le _⟩ 1 3 rfl rfl rfl rfl (Nat.le_of_ble_eq_true rfl) dX11_guess_5) hat hP hD hS [1] rfl [0, 2, 3, 4, 5, 6, 7, 8, 9, 10, 11, 12, 13] rfl rfl rfl rfl (by decide) (fun H locs hP hD hS => ?_)
  refine lv_if_ne (tgt := 15) hx hb dX11_guess_8 (by decide) (fun c3 => ?_) (fun c3 => ?_)
  · have hf := kn_e hf c3
    refine lv_aload_n hx hb dX11_guess_15 rfl (lv_at hl 0 rfl) ?_
    refine va_get (D := D) (ci := 10) (v := .ref q_now) (C := RX11) (T := TX11) (N := 11) hx hb hts kinX11 hown hK hP 0 rfl rfl 0 (by decide) (hts _ kw327) (fun _ h9 => h9) rfl dX11_guess_16 ?_
    obtain ⟨r4, h5, hf⟩ := kb1_e hf
    refine k_gi (ws' := [(q, .inr (10, [.ref q_now, .ref q_clearing, .ref q_residues, .ref q_lifting, .ref q_guessed, .ref q_walk, .ref q_history, .ref q_book, .ref q_draws, .ref q_firstImage, .ref q_secondImage])), (q_now, .inr (3, [.int v_now_n, .int v_now_primeNumber, .ref q_now_numbers])), (q_now_numbers, .inl (cI, 20, .inl v_now_numbers)), (q_residues, .inr (8, [.int v_residues_n, .int v_residues_rank, .int v_residues_exchanges, .ref q_residues_rows, .int v_residues_width, .int v_residues_p])), (q_residues_rows, .inl (cQ, 4, .inr (.inr (.inr (.inr (kg q_residues_rows_r)))))), (q_residues_rows_r 0, .inl (cJ, 9, .inr (.inl (v_residues_rows 0)))), (q_residues_rows_r 1, .inl (cJ, 9, .inr (.inl (v_residues_rows 1)))), (q_residues_rows_r 2, .inl (cJ, 9, .inr (.inl (v_residues_rows 2)))), (q_residues_rows_r 3, .inl (cJ, 9, .inr (.inl (v_residues_rows 3)))), (q_lifting, .inr (7, [.ref q_lifting_rests, .ref q_lifting_digits, .ref q_lifting_made, .long v_lifting_power])), (q_lifting_rests, .inl (cI, 4, .inl v_lifting_rests)), (q_lifting_digits, .inl (cI, 4, .inl v_lifting_digits)), (q_lifting_made, .inl (cJ, 4, .inr (.inl v_lifting_made))), (q_guessed, .inr (4, [.int v_guessed_found, .long v_guessed_above, .long v_guessed_below]))]) (k_runV (rest := []) hat hP hD hS hl.1 (c_X3_p q_now q_now_numbers v_now_n v_now_primeNumber r4 h5) [1] (by decide) rfl kw365 kw366 kw367 kw68 kw368 kdVX3_p ⟨rfl, rfl⟩ (by rw [hR]; exact ⟨Nat.le_of_ble_eq_true rfl, Nat.le_of_ble_eq_true rfl⟩) ⟨Nat.zero_le _, Nat.zero_le _⟩ 1 3 rfl rfl rfl rfl (Nat.le_of_ble_eq_true rfl) dX11_guess_19) hat hP hD hS [1] rfl [0, 2, 3, 4, 5, 6, 7, 8, 9, 10, 11, 12, 13] rfl rfl rfl rfl (by decide) (fun H locs hP hD hS => ?_)
    refine lv_iload_n hx hb dX11_guess_22 rfl (lv_at hl 2 rfl) ?_
    obtain ⟨r6, h7, hf⟩ := kb1_e hf
    refine k_gl (ws' := [(q, .inr (10, [.ref q_now, .ref q_clearing, .ref q_residues, .ref q_lifting, .ref q_guessed, .ref q_walk, .ref q_history, .ref q_book, .ref q_draws, .ref q_firstImage, .ref q_secondImage])), (q_now, .inr (3, [.int v_now_n, .int v_now_primeNumber, .ref q_now_numbers])), (q_now_numbers, .inl (cI, 20, .inl v_now_numbers)), (q_residues, .inr (8, [.int v_residues_n, .int v_residues_rank, .int v_residues_exchanges, .ref q_residues_rows, .int v_residues_width, .int v_residues_p])), (q_residues_rows, .inl (cQ, 4, .inr (.inr (.inr (.inr (kg q_residues_rows_r)))))), (q_residues_rows_r 0, .inl (cJ, 9, .inr (.inl (v_residues_rows 0)))), (q_residues_rows_r 1, .inl (cJ, 9, .inr (.inl (v_residues_rows 1)))), (q_residues_rows_r 2, .inl (cJ, 9, .inr (.inl (v_residues_rows 2)))), (q_residues_rows_r 3, .inl (cJ, 9, .inr (.inl (v_residues_rows 3)))), (q_lifting, .inr (7, [.ref q_lifting_rests, .ref q_lifting_digits, .ref q_lifting_made, .long v_lifting_power])), (q_lifting_rests, .inl (cI, 4, .inl v_lifting_rests)), (q_lifting_digits, .inl (cI, 4, .inl v_lifting_digits)), (q_lifting_made, .inl (cJ, 4, .inr (.inl v_lifting_made))), (q_guessed, .inr (4, [.int v_guessed_found, .long v_guessed_above, .long v_guessed_below]))]) (k_runS (rest := []) hat hP hD hS hl.1 (c_X11_powerForGuess F r4 x2 r6 h7) [] (by decide) rfl kw639 kw640 kw67 kw641 kdX11_powerForGuess ⟨rfl, rfl⟩ (by rw [hR]; exact ⟨Nat.le_of_ble_eq_true rfl, Nat.le_of_ble_eq_true rfl⟩) ⟨Nat.zero_le _, Nat.zero_le _⟩ rfl rfl (Nat.le_of_ble_eq_true rfl) dX11_guess_23) hat hP hD hS [] rfl [0, 1, 2, 3, 4, 5, 6, 7, 8, 9, 10, 11, 12, 13] rfl rfl rfl rfl (by decide) (fun H locs hP hD hS => ?_)
    refine lv_lstore (lv' := [(4, .long r6), (0, .ref q), (1, .int x1), (2, .int x2), (3, .int x3)]) hx hb dX11_guess_26 hl (by decide) rfl (fun ls hl => ?_)
    refine lv_iload_n hx hb dX11_guess_28 rfl (lv_at hl 4 rfl) ?_
    obtain ⟨r8, h9, hf⟩ := kb1_e hf
    refine k_gi (ws' := [(q, .inr (10, [.ref q_now, .ref q_clearing, .ref q_residues, .ref q_lifting, .ref q_guessed, .ref q_walk, .ref q_history, .ref q_book, .ref q_draws, .ref q_firstImage, .ref q_secondImage])), (q_now, .inr (3, [.int v_now_n, .int v_now_primeNumber, .ref q_now_numbers])), (q_now_numbers, .inl (cI, 20, .inl v_now_numbers)), (q_residues, .inr (8, [.int v_residues_n, .int v_residues_rank, .int v_residues_exchanges, .ref q_residues_rows, .int v_residues_width, .int v_residues_p])), (q_residues_rows, .inl (cQ, 4, .inr (.inr (.inr (.inr (kg q_residues_rows_r)))))), (q_residues_rows_r 0, .inl (cJ, 9, .inr (.inl (v_residues_rows 0)))), (q_residues_rows_r 1, .inl (cJ, 9, .inr (.inl (v_residues_rows 1)))), (q_residues_rows_r 2, .inl (cJ, 9, .inr (.inl (v_residues_rows 2)))), (q_residues_rows_r 3, .inl (cJ, 9, .inr (.inl (v_residues_rows 3)))), (q_lifting, .inr (7, [.ref q_lifting_rests, .ref q_lifting_digits, .ref q_lifting_made, .long v_lifting_power])), (q_lifting_rests, .inl (cI, 4, .inl v_lifting_rests)), (q_lifting_digits, .inl (cI, 4, .inl v_lifting_digits)), (q_lifting_made, .inl (cJ, 4, .inr (.inl v_lifting_made))), (q_guessed, .inr (4, [.int v_guessed_found, .long v_guessed_above, .long v_guessed_below]))]) (k_runS (rest := []) hat hP hD hS hl.1 (c_X11_isNeitherPart x3 r8 h9) [] (by decide) rfl kw590 kw591 kw67 kw592 kdX11_isNeitherPart ⟨rfl, rfl⟩ (by rw [hR]; exact ⟨Nat.le_of_ble_eq_true rfl, Nat.le_of_ble_eq_true rfl⟩) ⟨Nat.zero_le _, Nat.zero_le _⟩ rfl rfl (Nat.le_of_ble_eq_true rfl) dX11_guess_29) hat hP hD hS [] rfl [0, 1, 2, 3, 4, 5, 6, 7, 8, 9, 10, 11, 12, 13] rfl rfl rfl rfl (by decide) (fun H locs hP hD hS => ?_)
    refine lv_if_ne (tgt := 44) hx hb dX11_guess_32 (by decide) (fun c10 => ?_) (fun c10 => ?_)
    · have hf := kn_e hf c10
      refine lv_ldc2 hx hb hown (hts _ kw645) dX11_guess_44 ?_
      obtain ⟨rfl, rfl, rfl, rfl, rfl, rfl, rfl, rfl, rfl, rfl, rfl, rfl, rfl⟩ := ki13 hf
      rw [hQ]
      exact k_lret hat hP hS rfl dX11_guess_47
    · have hf := kp_e hf c10
      refine lv_lload hx hb dX11_guess_35 (lv_at hl 0 rfl) ?_
      refine lv_ldc2 hx hb hown (hts _ kw642) dX11_guess_37 ?_
      refine k_lcmp_ne (tgt := 48) hx hb dX11_guess_40 dX11_guess_41 (by decide) (fun c11 => ?_) (fun c11 => ?_)
      · have hf := kn_e hf c11
        refine lv_aload_n hx hb dX11_guess_48 rfl (lv_at hl 1 rfl) ?_
        obtain ⟨r12, w13, w14, w15, w16, w17, h18, hf⟩ := kb6_e hf
        refine k_gi (ws' := [(q, .inr (10, [.ref q_now, .ref q_clearing, .ref q_residues, .ref q_lifting, .ref q_guessed, .ref q_walk, .ref q_history, .ref q_book, .ref q_draws, .ref q_firstImage, .ref q_secondImage])), (q_now, .inr (3, [.int v_now_n, .int v_now_primeNumber, .ref q_now_numbers])), (q_now_numbers, .inl (cI, 20, .inl v_now_numbers)), (q_residues, .inr (8, [.int w13, .int w14, .int w15, .ref q_residues_rows, .int v_residues_width, .int w16])), (q_residues_rows, .inl (cQ, 4, .inr (.inr (.inr (.inr (kg q_residues_rows_r)))))), (q_residues_rows_r 0, .inl (cJ, 9, .inr (.inl (w17 0)))), (q_residues_rows_r 1, .inl (cJ, 9, .inr (.inl (w17 1)))), (q_residues_rows_r 2, .inl (cJ, 9, .inr (.inl (w17 2)))), (q_residues_rows_r 3, .inl (cJ, 9, .inr (.inl (w17 3)))), (q_lifting, .inr (7, [.ref q_lifting_rests, .ref q_lifting_digits, .ref q_lifting_made, .long v_lifting_power])), (q_lifting_rests, .inl (cI, 4, .inl v_lifting_rests)), (q_lifting_digits, .inl (cI, 4, .inl v_lifting_digits)), (q_lifting_made, .inl (cJ, 4, .inr (.inl v_lifting_made))), (q_guessed, .inr (4, [.int v_guessed_found, .long v_guessed_above, .long v_guessed_below]))]) (k_runV (rest := []) hat hP hD hS hl.1 (c_X11_primeIsBad q q_now q_clearing q_residues q_lifting q_guessed q_walk q_history q_book q_draws q_firstImage q_secondImage q_now_numbers q_residues_rows q_residues_rows_r v_now_n v_now_primeNumber v_now_numbers v_residues_n v_residues_rank v_residues_exchanges v_residues_width v_residues_p v_residues_rows F r12 w13 w14 w15 w16 w17 h18) [0, 1, 2, 3, 4, 5, 6, 7, 8] (by decide) rfl kw471 kw473 kw5 kw67 kw474 kdVX11_primeIsBad ⟨rfl, rfl⟩ (by rw [hR]; exact ⟨Nat.le_of_ble_eq_true rfl, Nat.le_of_ble_eq_true rfl⟩) ⟨Nat.zero_le _, Nat.zero_le _⟩ 0 10 rfl rfl rfl rfl (Nat.le_of_ble_eq_true rfl) dX11_guess_49) hat hP hD hS [0, 1, 2, 3, 4, 5, 6, 7, 8] rfl [9, 10, 11, 12, 13] rfl rfl rfl rfl (by decide) (fun H locs hP hD hS => ?_)
        refine lv_if_eq (tgt := 59) hx hb dX11_guess_52 (by decide) (fun c19 => ?_) (fun c19 => ?_)
        · have hf := kp_e hf c19
          refine lv_aload_n hx hb dX11_guess_59 rfl (lv_at hl 1 rfl) ?_
          refine lv_iload_n hx hb dX11_guess_60 rfl (lv_at hl 3 rfl) ?_
          obtain ⟨w20, w21, w22, w23, h24, hf⟩ := kb4_e hf
          refine k_gv (ws' := [(q, .inr (10, [.ref q_now, .ref q_clearing, .ref q_residues, .ref q_lifting, .ref q_guessed, .ref q_walk, .ref q_history, .ref q_book, .ref q_draws, .ref q_firstImage, .ref q_secondImage])), (q_now, .inr (3, [.int v_now_n, .int v_now_primeNumber, .ref q_now_numbers])), (q_now_numbers, .inl (cI, 20, .inl v_now_numbers)), (q_residues, .inr (8, [.int w13, .int w14, .int w15, .ref q_residues_rows, .int v_residues_width, .int w16])), (q_residues_rows, .inl (cQ, 4, .inr (.inr (.inr (.inr (kg q_residues_rows_r)))))), (q_residues_rows_r 0, .inl (cJ, 9, .inr (.inl (w17 0)))), (q_residues_rows_r 1, .inl (cJ, 9, .inr (.inl (w17 1)))), (q_residues_rows_r 2, .inl (cJ, 9, .inr (.inl (w17 2)))), (q_residues_rows_r 3, .inl (cJ, 9, .inr (.inl (w17 3)))), (q_lifting, .inr (7, [.ref q_lifting_rests, .ref q_lifting_digits, .ref q_lifting_made, .long w20])), (q_lifting_rests, .inl (cI, 4, .inl w21)), (q_lifting_digits, .inl (cI, 4, .inl w22)), (q_lifting_made, .inl (cJ, 4, .inr (.inl w23))), (q_guessed, .inr (4, [.int v_guessed_found, .long v_guessed_above, .long v_guessed_below]))]) (k_runV (rest := []) hat hP hD hS hl.1 (c_X11_lift q q_now q_clearing q_residues q_lifting q_guessed q_walk q_history q_book q_draws q_firstImage q_secondImage q_now_numbers q_residues_rows q_residues_rows_r q_lifting_rests q_lifting_digits q_lifting_made v_now_n v_now_primeNumber v_now_numbers w13 w14 w15 v_residues_width w16 w17 v_lifting_power v_lifting_rests v_lifting_digits v_lifting_made F x2 w20 w21 w22 w23 h24) [0, 1, 2, 3, 4, 5, 6, 7, 8, 9, 10, 11, 12] (by decide) rfl kw626 kw628 kw11 kw67 kw629 kdVX11_lift ⟨rfl, rfl⟩ (by rw [hR]; exact ⟨Nat.le_of_ble_eq_true rfl, Nat.le_of_ble_eq_true rfl⟩) ⟨Nat.zero_le _, Nat.zero_le _⟩ 0 10 rfl rfl rfl rfl (Nat.le_of_ble_eq_true rfl) dX11_guess_61) hat hP hD hS [0, 1, 2, 3, 4, 5, 6, 7, 8, 9, 10, 11, 12] rfl [13] rfl rfl rfl rfl (by decide) (fun H locs hP hD hS => ?_)
          refine lv_aload_n hx hb dX11_guess_64 rfl (lv_at hl 1 rfl) ?_
          refine va_get (D := D) (ci := 10) (v := .ref q_guessed) (C := RX11) (T := TX11) (N := 11) hx hb hts kinX11 hown hK hP 0 rfl rfl 4 (by decide) (hts _ kw331) (fun _ h9 => h9) rfl dX11_guess_65 ?_
          refine lv_aload_n hx hb dX11_guess_68 rfl (lv_at hl 1 rfl) ?_
          refine va_get (D := D) (ci := 10) (v := .ref q_lifting) (C := RX11) (T := TX11) (N := 11) hx hb hts kinX11 hown hK hP 0 rfl rfl 3 (by decide) (hts _ kw330) (fun _ h9 => h9) rfl dX11_guess_69 ?_
          refine va_get (D := D) (ci := 7) (v := .ref q_lifting_made) (C := RX7) (T := TX7) (N := 4) hx hb hts kinX7 hown hK hP 9 rfl rfl 2 (by decide) (hts _ kw198) (fun _ h9 => h9) rfl dX11_guess_72 ?_
          refine lv_iload_n hx hb dX11_guess_75 rfl (lv_at hl 2 rfl) ?_
          obtain ⟨c25, hf⟩ := kc_e hf
          refine va_lald hx hb hK hP 12 1 rfl rfl (kin_e c25) dX11_guess_76 ?_
          refine lv_lload hx hb dX11_guess_77 (lv_at hl 0 rfl) ?_
          refine lv_aload_n hx hb dX11_guess_79 rfl (lv_at hl 1 rfl) ?_
          refine va_get (D := D) (ci := 10) (v := .ref q_now) (C := RX11) (T := TX11) (N := 11) hx hb hts kinX11 hown hK hP 0 rfl rfl 0 (by decide) (hts _ kw327) (fun _ h9 => h9) rfl dX11_guess_80 ?_
          obtain ⟨r26, h27, hf⟩ := kb1_e hf
          refine k_gi (ws' := [(q, .inr (10, [.ref q_now, .ref q_clearing, .ref q_residues, .ref q_lifting, .ref q_guessed, .ref q_walk, .ref q_history, .ref q_book, .ref q_draws, .ref q_firstImage, .ref q_secondImage])), (q_now, .inr (3, [.int v_now_n, .int v_now_primeNumber, .ref q_now_numbers])), (q_now_numbers, .inl (cI, 20, .inl v_now_numbers)), (q_residues, .inr (8, [.int w13, .int w14, .int w15, .ref q_residues_rows, .int v_residues_width, .int w16])), (q_residues_rows, .inl (cQ, 4, .inr (.inr (.inr (.inr (kg q_residues_rows_r)))))), (q_residues_rows_r 0, .inl (cJ, 9, .inr (.inl (w17 0)))), (q_residues_rows_r 1, .inl (cJ, 9, .inr (.inl (w17 1)))), (q_residues_rows_r 2, .inl (cJ, 9, .inr (.inl (w17 2)))), (q_residues_rows_r 3, .inl (cJ, 9, .inr (.inl (w17 3)))), (q_lifting, .inr (7, [.ref q_lifting_rests, .ref q_lifting_digits, .ref q_lifting_made, .long w20])), (q_lifting_rests, .inl (cI, 4, .inl w21)), (q_lifting_digits, .inl (cI, 4, .inl w22)), (q_lifting_made, .inl (cJ, 4, .inr (.inl w23))), (q_guessed, .inr (4, [.int v_guessed_found, .long v_guessed_above, .long v_guessed_below]))]) (k_runV (rest := [.long r6, .long (w23 x1.toNatClampNeg), .ref q_guessed]) hat hP hD hS hl.1 (c_X3_p q_now q_now_numbers v_now_n v_now_primeNumber r26 h27) [1] (by decide) rfl kw365 kw366 kw367 kw68 kw368 kdVX3_p ⟨rfl, rfl⟩ (by rw [hR]; exact ⟨Nat.le_of_ble_eq_true rfl, Nat.le_of_ble_eq_true rfl⟩) ⟨Nat.zero_le _, Nat.zero_le _⟩ 1 3 rfl rfl rfl rfl (Nat.le_of_ble_eq_true rfl) dX11_guess_83) hat hP hD hS [1] rfl [0, 2, 3, 4, 5, 6, 7, 8, 9, 10, 11, 12, 13] rfl rfl rfl rfl (by decide) (fun H locs hP hD hS => ?_)
          obtain ⟨w28, w29, w30, h31, hf⟩ := kb3_e hf
          refine k_gv (ws' := [(q, .inr (10, [.ref q_now, .ref q_clearing, .ref q_residues, .ref q_lifting, .ref q_guessed, .ref q_walk, .ref q_history, .ref q_book, .ref q_draws, .ref q_firstImage, .ref q_secondImage])), (q_now, .inr (3, [.int v_now_n, .int v_now_primeNumber, .ref q_now_numbers])), (q_now_numbers, .inl (cI, 20, .inl v_now_numbers)), (q_residues, .inr (8, [.int w13, .int w14, .int w15, .ref q_residues_rows, .int v_residues_width, .int w16])), (q_residues_rows, .inl (cQ, 4, .inr (.inr (.inr (.inr (kg q_residues_rows_r)))))), (q_residues_rows_r 0, .inl (cJ, 9, .inr (.inl (w17 0)))), (q_residues_rows_r 1, .inl (cJ, 9, .inr (.inl (w17 1)))), (q_residues_rows_r 2, .inl (cJ, 9, .inr (.inl (w17 2)))), (q_residues_rows_r 3, .inl (cJ, 9, .inr (.inl (w17 3)))), (q_lifting, .inr (7, [.ref q_lifting_rests, .ref q_lifting_digits, .ref q_lifting_made, .long w20])), (q_lifting_rests, .inl (cI, 4, .inl w21)), (q_lifting_digits, .inl (cI, 4, .inl w22)), (q_lifting_made, .inl (cJ, 4, .inr (.inl w23))), (q_guessed, .inr (4, [.int w28, .long w29, .long w30]))]) (k_runV (rest := []) hat hP hD hS hl.1 (c_X4_seek q_guessed v_guessed_found v_guessed_above v_guessed_below F (w23 x1.toNatClampNeg) r6 r26 w28 w29 w30 h31) [13] (by decide) rfl kw647 kw531 kw532 kw73 kw533 kdVX4_seek ⟨rfl, rfl⟩ (by rw [hR]; exact ⟨Nat.le_of_ble_eq_true rfl, Nat.le_of_ble_eq_true rfl⟩) ⟨Nat.zero_le _, Nat.zero_le _⟩ 13 4 rfl rfl rfl rfl (Nat.le_of_ble_eq_true rfl) dX11_guess_86) hat hP hD hS [13] rfl [0, 1, 2, 3, 4, 5, 6, 7, 8, 9, 10, 11, 12] rfl rfl rfl rfl (by decide) (fun H locs hP hD hS => ?_)
          refine lv_aload_n hx hb dX11_guess_89 rfl (lv_at hl 1 rfl) ?_
          refine va_get (D := D) (ci := 10) (v := .ref q_guessed) (C := RX11) (T := TX11) (N := 11) hx hb hts kinX11 hown hK hP 0 rfl rfl 4 (by decide) (hts _ kw331) (fun _ h9 => h9) rfl dX11_guess_90 ?_
          refine va_get (D := D) (ci := 4) (v := .int w28) (C := RX4) (T := TX4) (N := 3) hx hb hts kinX4 hown hK hP 13 rfl rfl 0 (by decide) (hts _ kw218) (fun _ h9 => h9) rfl dX11_guess_93 ?_
          refine lv_if_ne (tgt := 103) hx hb dX11_guess_96 (by decide) (fun c32 => ?_) (fun c32 => ?_)
          · have hf := kn_e hf c32
            refine lv_iload_n hx hb dX11_guess_103 rfl (lv_at hl 4 rfl) ?_
            refine lv_if_ne (tgt := 121) hx hb dX11_guess_104 (by decide) (fun c33 => ?_) (fun c33 => ?_)
            · have hf := kn_e hf c33
              refine lv_aload_n hx hb dX11_guess_121 rfl (lv_at hl 1 rfl) ?_
              refine va_get (D := D) (ci := 10) (v := .ref q_guessed) (C := RX11) (T := TX11) (N := 11) hx hb hts kinX11 hown hK hP 0 rfl rfl 4 (by decide) (hts _ kw331) (fun _ h9 => h9) rfl dX11_guess_122 ?_
              refine va_get (D := D) (ci := 4) (v := .long w30) (C := RX4) (T := TX4) (N := 3) hx hb hts kinX4 hown hK hP 13 rfl rfl 2 (by decide) (hts _ kw222) (fun _ h9 => h9) rfl dX11_guess_125 ?_
              obtain ⟨rfl, rfl, rfl, rfl, rfl, rfl, rfl, rfl, rfl, rfl, rfl, rfl, rfl⟩ := ki13 hf
              rw [hQ]
              exact k_lret hat hP hS rfl dX11_guess_128
            · have hf := kp_e hf c33
              refine lv_aload_n hx hb dX11_guess_107 rfl (lv_at hl 1 rfl) ?_
              refine va_get (D := D) (ci := 10) (v := .ref q_guessed) (C := RX11) (T := TX11) (N := 11) hx hb hts kinX11 hown hK hP 0 rfl rfl 4 (by decide) (hts _ kw331) (fun _ h9 => h9) rfl dX11_guess_108 ?_
              refine va_get (D := D) (ci := 4) (v := .long w29) (C := RX4) (T := TX4) (N := 3) hx hb hts kinX4 hown hK hP 13 rfl rfl 1 (by decide) (hts _ kw220) (fun _ h9 => h9) rfl dX11_guess_111 ?_
              refine lv_ldc2 hx hb hown (hts _ kw648) dX11_guess_114 ?_
              refine lv_ladd hx hb dX11_guess_117 ?_
              refine lv_goto (tgt := 128) hx hb dX11_guess_118 (by decide) ?_
              obtain ⟨rfl, rfl, rfl, rfl, rfl, rfl, rfl, rfl, rfl, rfl, rfl, rfl, rfl⟩ := ki13 hf
              rw [hQ]
              exact k_lret hat hP hS rfl dX11_guess_128
          · have hf := kp_e hf c32
            refine lv_ldc2 hx hb hown (hts _ kw642) dX11_guess_99 ?_
            obtain ⟨rfl, rfl, rfl, rfl, rfl, rfl, rfl, rfl, rfl, rfl, rfl, rfl, rfl⟩ := ki13 hf
            rw [hQ]
            exact k_lret hat hP hS rfl dX11_guess_102
        · have hf := kn_e hf c19
          refine lv_ldc2 hx hb hown (hts _ kw646) dX11_guess_55 ?_
          obtain ⟨rfl, rfl, rfl, rfl, rfl, rfl, rfl, rfl, rfl, rfl, rfl, rfl, rfl⟩ := ki13 hf
          rw [hQ]
          exact k_lret hat hP hS rfl dX11_guess_58
      · have hf := kp_e hf c11
        refine lv_ldc2 hx hb hown (hts _ kw645) dX11_guess_44 ?_
        obtain ⟨rfl, rfl, rfl, rfl, rfl, rfl, rfl, rfl, rfl, rfl, rfl, rfl, rfl⟩ := ki13 hf
        rw [hQ]
        exact k_lret hat hP hS rfl dX11_guess_47
  · have hf := kp_e hf c3
    refine lv_ldc2 hx hb hown (hts _ kw638) dX11_guess_11 ?_
    obtain ⟨rfl, rfl, rfl, rfl, rfl, rfl, rfl, rfl, rfl, rfl, rfl, rfl, rfl⟩ := ki13 hf
    rw [hQ]
    exact k_lret hat hP hS rfl dX11_guess_14
set_option maxHeartbeats 4000000 in
set_option maxRecDepth 100000 in
theorem c_X11_whyNoValue {l : Launch} {D : va_G} {cI cJ cQ : ClassId} {tp : Nat} (q : Nat) (q_now : Nat) (q_clearing : Nat) (q_residues : Nat) (q_lifting : Nat) (q_guessed : Nat) (q_walk : Nat) (q_history : Nat) (q_book : Nat) (q_draws : Nat) (q_firstImage : Nat) (q_secondImage : Nat) (q_now_numbers : Nat) (q_clearing_rows : Nat) (q_clearing_leads : Nat) (q_clearing_rows_r : Nat → Nat) (v_now_n : Int32) (v_now_primeNumber : Int32) (v_now_numbers : (Nat → Int32)) (v_clearing_n : Int32) (v_clearing_rank : Int32) (v_clearing_exchanges : Int32) (v_clearing_width : Int32) (v_clearing_scale : Int64) (v_clearing_rows : (Nat → Nat → Int64)) (v_clearing_leads : (Nat → Int32)) (F : Nat) (x1 : Int32) (r0 : Int32) (o_v_clearing_n : Int32) (o_v_clearing_rank : Int32) (o_v_clearing_exchanges : Int32) (o_v_clearing_scale : Int64) (o_v_clearing_rows : (Nat → Nat → Int64)) (o_v_clearing_leads : (Nat → Int32)) (hf : f_X11_whyNoValue F v_now_n v_now_numbers v_clearing_n v_clearing_rank v_clearing_exchanges v_clearing_width v_clearing_scale v_clearing_rows v_clearing_leads x1 = some (r0, o_v_clearing_n, o_v_clearing_rank, o_v_clearing_exchanges, o_v_clearing_scale, o_v_clearing_rows, o_v_clearing_leads)) : kM (fun A => kQi D A [(q, .inr (10, [.ref q_now, .ref q_clearing, .ref q_residues, .ref q_lifting, .ref q_guessed, .ref q_walk, .ref q_history, .ref q_book, .ref q_draws, .ref q_firstImage, .ref q_secondImage])), (q_now, .inr (3, [.int v_now_n, .int v_now_primeNumber, .ref q_now_numbers])), (q_now_numbers, .inl (cI, 20, .inl v_now_numbers)), (q_clearing, .inr (1, [.int o_v_clearing_n, .int o_v_clearing_rank, .int o_v_clearing_exchanges, .ref q_clearing_rows, .int v_clearing_width, .long o_v_clearing_scale, .ref q_clearing_leads])), (q_clearing_rows, .inl (cQ, 4, .inr (.inr (.inr (.inr (kg q_clearing_rows_r)))))), (q_clearing_rows_r 0, .inl (cJ, 5, .inr (.inl (o_v_clearing_rows 0)))), (q_clearing_rows_r 1, .inl (cJ, 5, .inr (.inl (o_v_clearing_rows 1)))), (q_clearing_rows_r 2, .inl (cJ, 5, .inr (.inl (o_v_clearing_rows 2)))), (q_clearing_rows_r 3, .inl (cJ, 5, .inr (.inl (o_v_clearing_rows 3)))), (q_clearing_leads, .inl (cI, 4, .inl o_v_clearing_leads))] r0) (some .int) l yX11_whyNoValue cX11_whyNoValue 2 { frames := 5, cells := 0, slots := 0, locals := 116 } D cI cJ cQ tp [.ref q, .int x1] [(q, .inr (10, [.ref q_now, .ref q_clearing, .ref q_residues, .ref q_lifting, .ref q_guessed, .ref q_walk, .ref q_history, .ref q_book, .ref q_draws, .ref q_firstImage, .ref q_secondImage])), (q_now, .inr (3, [.int v_now_n, .int v_now_primeNumber, .ref q_now_numbers])), (q_now_numbers, .inl (cI, 20, .inl v_now_numbers)), (q_clearing, .inr (1, [.int v_clearing_n, .int v_clearing_rank, .int v_clearing_exchanges, .ref q_clearing_rows, .int v_clearing_width, .long v_clearing_scale, .ref q_clearing_leads])), (q_clearing_rows, .inl (cQ, 4, .inr (.inr (.inr (.inr (kg q_clearing_rows_r)))))), (q_clearing_rows_r 0, .inl (cJ, 5, .inr (.inl (v_clearing_rows 0)))), (q_clearing_rows_r 1, .inl (cJ, 5, .inr (.inl (v_clearing_rows 1)))), (q_clearing_rows_r 2, .inl (cJ, 5, .inr (.inl (v_clearing_rows 2)))), (q_clearing_rows_r 3, .inl (cJ, 5, .inr (.inl (v_clearing_rows 3)))), (q_clearing_leads, .inl (cI, 4, .inl v_clearing_leads))] := by
  refine kM_of (by decide) (Nat.le_of_ble_eq_true rfl) ?_
  intro p e s m args below meth c A ls R Q hR hQ hat hP hD hS hl
  obtain ⟨hx, hb, hr, hml, hown, hts, hT, hlk, hK, hA, hZ⟩ := id hat
  have hown : s.vm.findClass RX11 = some m.cls := hown
  have hl : lv_has ls 2 [(0, .ref q), (1, .int x1)] := hl
  unfold f_X11_whyNoValue at hf
  refine lv_aload_n hx hb dX11_whyNoValue_0 rfl (lv_at hl 0 rfl) ?_
  refine va_get (D := D) (ci := 10) (v := .ref q_now) (C := RX11) (T := TX11) (N := 11) hx hb hts kinX11 hown hK hP 0 rfl rfl 0 (by decide) (hts _ kw327) (fun _ h9 => h9) rfl dX11_whyNoValue_1 ?_
  refine lv_iload_n hx hb dX11_whyNoValue_4 rfl (lv_at hl 1 rfl) ?_
  obtain ⟨r1, h2, hf⟩ := kb1_e hf
  refine k_gi (ws' := [(q, .inr (10, [.ref q_now, .ref q_clearing, .ref q_residues, .ref q_lifting, .ref q_guessed, .ref q_walk, .ref q_history, .ref q_book, .ref q_draws, .ref q_firstImage, .ref q_secondImage])), (q_now, .inr (3, [.int v_now_n, .int v_now_primeNumber, .ref q_now_numbers])), (q_now_numbers, .inl (cI, 20, .inl v_now_numbers)), (q_clearing, .inr (1, [.int v_clearing_n, .int v_clearing_rank, .int v_clearing_exchanges, .ref q_clearing_rows, .int v_clearing_width, .long v_clearing_scale, .ref q_clearing_leads])), (q_clearing_rows, .inl (cQ, 4, .inr (.inr (.inr (.inr (kg q_clearing_rows_r)))))), (q_clearing_rows_r 0, .inl (cJ, 5, .inr (.inl (v_clearing_rows 0)))), (q_clearing_rows_r 1, .inl (cJ, 5, .inr (.inl (v_clearing_rows 1)))), (q_clearing_rows_r 2, .inl (cJ, 5, .inr (.inl (v_clearing_rows 2)))), (q_clearing_rows_r 3, .inl (cJ, 5, .inr (.inl (v_clearing_rows 3)))), (q_clearing_leads, .inl (cI, 4, .inl v_clearing_leads))]) (k_runV (rest := []) hat hP hD hS hl.1 (c_X3_has q_now q_now_numbers v_now_n v_now_primeNumber x1 r1 h2) [1] (by decide) rfl kw580 kw581 kw582 kw68 kw583 kdVX3_has ⟨rfl, rfl⟩ (by rw [hR]; exact ⟨Nat.le_of_ble_eq_true rfl, Nat.le_of_ble_eq_true rfl⟩) ⟨Nat.zero_le _, Nat.zero_le _⟩ 1 3 rfl rfl rfl rfl (Nat.le_of_ble_eq_true rfl) dX11_whyNoValue_5) hat hP hD hS [1] rfl [0, 2, 3, 4, 5, 6, 7, 8, 9] rfl rfl rfl rfl (by decide) (fun H locs hP hD hS => ?_)
  refine lv_if_ne (tgt := 14) hx hb dX11_whyNoValue_8 (by decide) (fun c3 => ?_) (fun c3 => ?_)
  · have hf := kn_e hf c3
    refine lv_aload_n hx hb dX11_whyNoValue_14 rfl (lv_at hl 0 rfl) ?_
    refine va_get (D := D) (ci := 10) (v := .ref q_clearing) (C := RX11) (T := TX11) (N := 11) hx hb hts kinX11 hown hK hP 0 rfl rfl 1 (by decide) (hts _ kw328) (fun _ h9 => h9) rfl dX11_whyNoValue_15 ?_
    refine lv_aload_n hx hb dX11_whyNoValue_18 rfl (lv_at hl 0 rfl) ?_
    refine va_get (D := D) (ci := 10) (v := .ref q_now) (C := RX11) (T := TX11) (N := 11) hx hb hts kinX11 hown hK hP 0 rfl rfl 0 (by decide) (hts _ kw327) (fun _ h9 => h9) rfl dX11_whyNoValue_19 ?_
    obtain ⟨w4, w5, w6, w7, w8, w9, h10, hf⟩ := kb6_e hf
    refine k_gv (ws' := [(q, .inr (10, [.ref q_now, .ref q_clearing, .ref q_residues, .ref q_lifting, .ref q_guessed, .ref q_walk, .ref q_history, .ref q_book, .ref q_draws, .ref q_firstImage, .ref q_secondImage])), (q_now, .inr (3, [.int v_now_n, .int v_now_primeNumber, .ref q_now_numbers])), (q_now_numbers, .inl (cI, 20, .inl v_now_numbers)), (q_clearing, .inr (1, [.int w4, .int w5, .int w6, .ref q_clearing_rows, .int v_clearing_width, .long w7, .ref q_clearing_leads])), (q_clearing_rows, .inl (cQ, 4, .inr (.inr (.inr (.inr (kg q_clearing_rows_r)))))), (q_clearing_rows_r 0, .inl (cJ, 5, .inr (.inl (w8 0)))), (q_clearing_rows_r 1, .inl (cJ, 5, .inr (.inl (w8 1)))), (q_clearing_rows_r 2, .inl (cJ, 5, .inr (.inl (w8 2)))), (q_clearing_rows_r 3, .inl (cJ, 5, .inr (.inl (w8 3)))), (q_clearing_leads, .inl (cI, 4, .inl w9))]) (k_runV (rest := []) hat hP hD hS hl.1 (c_X1_clear q_clearing q_now q_clearing_rows q_clearing_leads q_clearing_rows_r q_now_numbers v_clearing_n v_clearing_rank v_clearing_exchanges v_clearing_width v_clearing_scale v_clearing_rows v_clearing_leads v_now_n v_now_primeNumber v_now_numbers F w4 w5 w6 w7 w8 w9 h10) [3, 4, 5, 6, 7, 8, 9, 1, 2] (by decide) rfl kw375 kw376 kw377 kw70 kw378 kdVX1_clear ⟨rfl, rfl⟩ (by rw [hR]; exact ⟨Nat.le_of_ble_eq_true rfl, Nat.le_of_ble_eq_true rfl⟩) ⟨Nat.zero_le _, Nat.zero_le _⟩ 3 1 rfl rfl rfl rfl (Nat.le_of_ble_eq_true rfl) dX11_whyNoValue_22) hat hP hD hS [3, 4, 5, 6, 7, 8, 9, 1, 2] rfl [0] rfl rfl rfl rfl (by decide) (fun H locs hP hD hS => ?_)
    refine lv_aload_n hx hb dX11_whyNoValue_25 rfl (lv_at hl 0 rfl) ?_
    refine va_get (D := D) (ci := 10) (v := .ref q_clearing) (C := RX11) (T := TX11) (N := 11) hx hb hts kinX11 hown hK hP 0 rfl rfl 1 (by decide) (hts _ kw328) (fun _ h9 => h9) rfl dX11_whyNoValue_26 ?_
    obtain ⟨r11, h12, hf⟩ := kb1_e hf
    refine k_gi (ws' := [(q, .inr (10, [.ref q_now, .ref q_clearing, .ref q_residues, .ref q_lifting, .ref q_guessed, .ref q_walk, .ref q_history, .ref q_book, .ref q_draws, .ref q_firstImage, .ref q_secondImage])), (q_now, .inr (3, [.int v_now_n, .int v_now_primeNumber, .ref q_now_numbers])), (q_now_numbers, .inl (cI, 20, .inl v_now_numbers)), (q_clearing, .inr (1, [.int w4, .int w5, .int w6, .ref q_clearing_rows, .int v_clearing_width, .long w7, .ref q_clearing_leads])), (q_clearing_rows, .inl (cQ, 4, .inr (.inr (.inr (.inr (kg q_clearing_rows_r)))))), (q_clearing_rows_r 0, .inl (cJ, 5, .inr (.inl (w8 0)))), (q_clearing_rows_r 1, .inl (cJ, 5, .inr (.inl (w8 1)))), (q_clearing_rows_r 2, .inl (cJ, 5, .inr (.inl (w8 2)))), (q_clearing_rows_r 3, .inl (cJ, 5, .inr (.inl (w8 3)))), (q_clearing_leads, .inl (cI, 4, .inl w9))]) (k_runU (rest := []) hat hP hD hS hl.1 (c_X9_fitsSide_C q_clearing q_clearing_rows q_clearing_leads q_clearing_rows_r w4 w5 w6 v_clearing_width w7 w8 F r11 h12) [3, 4, 5, 6, 7, 8] (by decide) rfl (cu_X11_whyNoValue_X9_fitsSide_X1 hat (by rw [hR]; exact ⟨Nat.le_of_ble_eq_true rfl, Nat.le_of_ble_eq_true rfl⟩)) ⟨Nat.zero_le _, Nat.zero_le _⟩ 3 1 rfl rfl rfl rfl (Nat.le_of_ble_eq_true rfl) dX11_whyNoValue_29) hat hP hD hS [3, 4, 5, 6, 7, 8] rfl [0, 1, 2, 9] rfl rfl rfl rfl (by decide) (fun H locs hP hD hS => ?_)
    refine lv_if_eq (tgt := 39) hx hb dX11_whyNoValue_32 (by decide) (fun c13 => ?_) (fun c13 => ?_)
    · have hf := kp_e hf c13
      refine lv_iconst (v := -1) hx hb dX11_whyNoValue_39 (by decide) ?_
      obtain ⟨rfl, rfl, rfl, rfl, rfl, rfl, rfl⟩ := ki7 hf
      rw [hQ]
      exact k_iret hat hP hS rfl dX11_whyNoValue_40
    · have hf := kn_e hf c13
      refine lv_iconst (v := 0) hx hb dX11_whyNoValue_35 (by decide) ?_
      refine lv_goto (tgt := 40) hx hb dX11_whyNoValue_36 (by decide) ?_
      obtain ⟨rfl, rfl, rfl, rfl, rfl, rfl, rfl⟩ := ki7 hf
      rw [hQ]
      exact k_iret hat hP hS rfl dX11_whyNoValue_40
  · have hf := kp_e hf c3
    refine lv_ldc hx hb hown (hts _ kw584) dX11_whyNoValue_11 ?_
    obtain ⟨rfl, rfl, rfl, rfl, rfl, rfl, rfl⟩ := ki7 hf
    rw [hQ]
    exact k_iret hat hP hS rfl dX11_whyNoValue_13
set_option maxHeartbeats 4000000 in
set_option maxRecDepth 100000 in
theorem c_X1_nearest {l : Launch} {D : va_G} {cI cJ cQ : ClassId} {tp : Nat} (q : Nat) (q_rows : Nat) (q_leads : Nat) (q_rows_r : Nat → Nat) (v_n : Int32) (v_rank : Int32) (v_exchanges : Int32) (v_width : Int32) (v_scale : Int64) (v_rows : (Nat → Nat → Int64)) (v_leads : (Nat → Int32)) (F : Nat) (x1 : Int32) (r0 : UInt64) (hf : f_X1_nearest F v_rank v_scale v_rows v_leads x1 = some r0) : kM (fun A => kQd D A [(q, .inr (1, [.int v_n, .int v_rank, .int v_exchanges, .ref q_rows, .int v_width, .long v_scale, .ref q_leads])), (q_rows, .inl (cQ, 4, .inr (.inr (.inr (.inr (kg q_rows_r)))))), (q_rows_r 0, .inl (cJ, 5, .inr (.inl (v_rows 0)))), (q_rows_r 1, .inl (cJ, 5, .inr (.inl (v_rows 1)))), (q_rows_r 2, .inl (cJ, 5, .inr (.inl (v_rows 2)))), (q_rows_r 3, .inl (cJ, 5, .inr (.inl (v_rows 3)))), (q_leads, .inl (cI, 4, .inl v_leads))] r0) (some .double) l yX1_nearest cX1_nearest 4 { frames := 4, cells := 0, slots := 0, locals := 116 } D cI cJ cQ tp [.ref q, .int x1] [(q, .inr (1, [.int v_n, .int v_rank, .int v_exchanges, .ref q_rows, .int v_width, .long v_scale, .ref q_leads])), (q_rows, .inl (cQ, 4, .inr (.inr (.inr (.inr (kg q_rows_r)))))), (q_rows_r 0, .inl (cJ, 5, .inr (.inl (v_rows 0)))), (q_rows_r 1, .inl (cJ, 5, .inr (.inl (v_rows 1)))), (q_rows_r 2, .inl (cJ, 5, .inr (.inl (v_rows 2)))), (q_rows_r 3, .inl (cJ, 5, .inr (.inl (v_rows 3)))), (q_leads, .inl (cI, 4, .inl v_leads))] := by
  refine kM_of (by decide) (Nat.le_of_ble_eq_true rfl) ?_
  intro p e s m args below meth c A ls R Q hR hQ hat hP hD hS hl
  obtain ⟨hx, hb, hr, hml, hown, hts, hT, hlk, hK, hA, hZ⟩ := id hat
  have hown : s.vm.findClass RX1 = some m.cls := hown
  have hl : lv_has ls 4 [(0, .ref q), (1, .int x1)] := hl
  unfold f_X1_nearest at hf
  refine lv_aload_n hx hb dX1_nearest_0 rfl (lv_at hl 0 rfl) ?_
  refine lv_iload_n hx hb dX1_nearest_1 rfl (lv_at hl 1 rfl) ?_
  obtain ⟨r1, h2, hf⟩ := kb1_e hf
  refine k_gl (ws' := [(q, .inr (1, [.int v_n, .int v_rank, .int v_exchanges, .ref q_rows, .int v_width, .long v_scale, .ref q_leads])), (q_rows, .inl (cQ, 4, .inr (.inr (.inr (.inr (kg q_rows_r)))))), (q_rows_r 0, .inl (cJ, 5, .inr (.inl (v_rows 0)))), (q_rows_r 1, .inl (cJ, 5, .inr (.inl (v_rows 1)))), (q_rows_r 2, .inl (cJ, 5, .inr (.inl (v_rows 2)))), (q_rows_r 3, .inl (cJ, 5, .inr (.inl (v_rows 3)))), (q_leads, .inl (cI, 4, .inl v_leads))]) (k_runV (rest := []) hat hP hD hS hl.1 (c_X1_solutionBelow q q_rows q_leads q_rows_r v_n v_rank v_exchanges v_width v_scale v_rows v_leads F x1 r1 h2) [0, 1, 2, 3, 4, 5, 6] (by decide) rfl kw661 kw554 kw555 kw70 kw556 kdVX1_solutionBelow ⟨rfl, rfl⟩ (by rw [hR]; exact ⟨Nat.le_of_ble_eq_true rfl, Nat.le_of_ble_eq_true rfl⟩) ⟨Nat.zero_le _, Nat.zero_le _⟩ 0 1 rfl rfl rfl rfl (Nat.le_of_ble_eq_true rfl) dX1_nearest_2) hat hP hD hS [0, 1, 2, 3, 4, 5, 6] rfl [] rfl rfl rfl rfl (by decide) (fun H locs hP hD hS => ?_)
  refine lv_l2d hx hb dX1_nearest_5 ?_
  refine lv_topd (fun t3 et3 => ?_)
  have hf := kl_e hf t3 et3
  refine lv_dstore_n (lv' := [(2, .double t3), (0, .ref q), (1, .int x1)]) hx hb dX1_nearest_6 rfl hl (by decide) rfl (fun ls hl => ?_)
  refine lv_dload_n hx hb dX1_nearest_7 rfl (lv_at hl 0 rfl) ?_
  refine lv_dconst0 hx hb dX1_nearest_8 ?_
  refine lv_dcmp hx hb dX1_nearest_9 ?_
  refine lv_if_le (tgt := 24) hx hb dX1_nearest_10 (by decide) (fun c4 => ?_) (fun c4 => ?_)
  · have hf := kp_e hf c4
    refine lv_dconst0 hx hb dX1_nearest_24 ?_
    obtain rfl := ki1 hf
    rw [hQ]
    exact k_dret hat hP hS rfl dX1_nearest_25
  · have hf := kn_e hf c4
    refine lv_aload_n hx hb dX1_nearest_13 rfl (lv_at hl 1 rfl) ?_
    refine lv_iload_n hx hb dX1_nearest_14 rfl (lv_at hl 2 rfl) ?_
    obtain ⟨r5, h6, hf⟩ := kb1_e hf
    refine k_gl (ws' := [(q, .inr (1, [.int v_n, .int v_rank, .int v_exchanges, .ref q_rows, .int v_width, .long v_scale, .ref q_leads])), (q_rows, .inl (cQ, 4, .inr (.inr (.inr (.inr (kg q_rows_r)))))), (q_rows_r 0, .inl (cJ, 5, .inr (.inl (v_rows 0)))), (q_rows_r 1, .inl (cJ, 5, .inr (.inl (v_rows 1)))), (q_rows_r 2, .inl (cJ, 5, .inr (.inl (v_rows 2)))), (q_rows_r 3, .inl (cJ, 5, .inr (.inl (v_rows 3)))), (q_leads, .inl (cI, 4, .inl v_leads))]) (k_runV (rest := []) hat hP hD hS hl.1 (c_X1_solutionAbove q q_rows q_leads q_rows_r v_n v_rank v_exchanges v_width v_scale v_rows v_leads F x1 r5 h6) [0, 1, 2, 3, 4, 5, 6] (by decide) rfl kw662 kw542 kw543 kw70 kw544 kdVX1_solutionAbove ⟨rfl, rfl⟩ (by rw [hR]; exact ⟨Nat.le_of_ble_eq_true rfl, Nat.le_of_ble_eq_true rfl⟩) ⟨Nat.zero_le _, Nat.zero_le _⟩ 0 1 rfl rfl rfl rfl (Nat.le_of_ble_eq_true rfl) dX1_nearest_15) hat hP hD hS [0, 1, 2, 3, 4, 5, 6] rfl [] rfl rfl rfl rfl (by decide) (fun H locs hP hD hS => ?_)
    refine lv_l2d hx hb dX1_nearest_18 ?_
    refine lv_dload_n hx hb dX1_nearest_19 rfl (lv_at hl 0 rfl) ?_
    obtain ⟨c7, hf⟩ := kc_e hf
    refine lv_ddiv hx hb dX1_nearest_20 (kq64_e c7) ?_
    refine lv_goto (tgt := 25) hx hb dX1_nearest_21 (by decide) ?_
    obtain rfl := ki1 hf
    rw [hQ]
    exact k_dret hat hP hS rfl dX1_nearest_25
set_option maxHeartbeats 4000000 in
set_option maxRecDepth 100000 in
theorem c_X11_bitsOfSize {l : Launch} {D : va_G} {cI cJ cQ : ClassId} {tp : Nat} (F : Nat) (x0 : UInt64) (x2 : Int32) (x3 : Int32) (r0 : Int64) (hf : f_X11_bitsOfSize F x0 x2 x3 = some r0) : kM (fun A => kQl D A [] r0) (some .long) l yX11_bitsOfSize cX11_bitsOfSize 11 { frames := 0, cells := 0, slots := 0, locals := 0 } D cI cJ cQ tp [.double x0, .int x2, .int x3] [] := by
  refine kM_of (by decide) (Nat.le_of_ble_eq_true rfl) ?_
  intro p e s m args below meth c A ls R Q hR hQ hat hP hD hS hl
  obtain ⟨hx, hb, hr, hml, hown, hts, hT, hlk, hK, hA, hZ⟩ := id hat
  have hown : s.vm.findClass RX11 = some m.cls := hown
  have hl : lv_has ls 11 [(0, .double x0), (2, .int x2), (3, .int x3)] := hl
  have hL25 : ∀ (x2 : Int32) (x3 : Int32) (x4 : Int64) (fu : Nat) (x6 : UInt64) (x8 : Int64) (x10 : Int32) (o0 : UInt64) (o1 : Int64), L_X11_bitsOfSize_25 x2 x3 x4 fu x6 x8 x10 = some (o0, o1) → (∀ (H : Heap) (locs : List Loc) (ls : Array Slot), va_P D vwCl [] H → va_D A [] → va_S A s.heap H locs → lv_has ls 11 [(2, .int x2), (4, .long x4), (6, .double o0), (8, .long o1)] → W p l e R s m args below meth c H locs 0 0 Q (F0 m 62 ls [])) → ∀ (H : Heap) (locs : List Loc) (ls : Array Slot), va_P D vwCl [] H → va_D A [] → va_S A s.heap H locs → lv_has ls 11 [(2, .int x2), (3, .int x3), (4, .long x4), (6, .double x6), (8, .long x8), (10, .int x10)] → W p l e R s m args below meth c H locs 0 0 Q (F0 m 25 ls []) := by
    intro x2 x3 x4 fu
    induction fu with
    | zero =>
      intro x6 x8 x10 o0 o1 hf
      cases hf
    | succ fu ih =>
      intro x6 x8 x10 o0 o1 hf hk0 H locs ls hP hD hS hl
      rw [L_X11_bitsOfSize_25] at hf
      refine lv_iload hx hb dX11_bitsOfSize_25 (lv_at hl 5 rfl) ?_
      refine lv_iload_n hx hb dX11_bitsOfSize_27 rfl (lv_at hl 0 rfl) ?_
      refine lv_iload_n hx hb dX11_bitsOfSize_28 rfl (lv_at hl 1 rfl) ?_
      refine lv_iadd hx hb dX11_bitsOfSize_29 ?_
      refine lv_icmp_ge (tgt := 62) hx hb dX11_bitsOfSize_30 (by decide) (fun c4 => ?_) (fun c4 => ?_)
      · have hf := kp_e hf c4
        obtain ⟨rfl, rfl⟩ := ki2 hf
        exact hk0 _ _ _ hP hD hS (lv_sub hl [0, 2, 3, 4] rfl)
      · have hf := kn_e hf c4
        refine lv_dload hx hb dX11_bitsOfSize_33 (lv_at hl 3 rfl) ?_
        refine lv_lload hx hb dX11_bitsOfSize_35 (lv_at hl 2 rfl) ?_
        refine lv_l2d hx hb dX11_bitsOfSize_37 ?_
        refine lv_dcmp hx hb dX11_bitsOfSize_38 ?_
        refine lv_if_ge (tgt := 62) hx hb dX11_bitsOfSize_39 (by decide) (fun c5 => ?_) (fun c5 => ?_)
        · have hf := kp_e hf c5
          obtain ⟨rfl, rfl⟩ := ki2 hf
          exact hk0 _ _ _ hP hD hS (lv_sub hl [0, 2, 3, 4] rfl)
        · have hf := kn_e hf c5
          refine lv_dload hx hb dX11_bitsOfSize_42 (lv_at hl 3 rfl) ?_
          refine lv_ldc2d hx hb hown (hts _ kw669) dX11_bitsOfSize_44 ?_
          obtain ⟨c6, hf⟩ := kc_e hf
          refine lv_dmul hx hb dX11_bitsOfSize_47 (kq64_e c6) ?_
          refine lv_topd (fun t7 et7 => ?_)
          have hf := kl_e hf t7 et7
          refine lv_dstore (lv' := [(6, .double t7), (2, .int x2), (3, .int x3), (4, .long x4), (8, .long x8), (10, .int x10)]) hx hb dX11_bitsOfSize_48 hl (by decide) rfl (fun ls hl => ?_)
          refine lv_lload hx hb dX11_bitsOfSize_50 (lv_at hl 4 rfl) ?_
          refine lv_lconst (v := 1) hx hb dX11_bitsOfSize_52 (by decide) ?_
          refine lv_lsub hx hb dX11_bitsOfSize_53 ?_
          refine lv_topl (fun t8 et8 => ?_)
          have hf := kl_e hf t8 et8
          refine lv_lstore (lv' := [(8, .long t8), (6, .double t7), (2, .int x2), (3, .int x3), (4, .long x4), (10, .int x10)]) hx hb dX11_bitsOfSize_54 hl (by decide) rfl (fun ls hl => ?_)
          obtain ⟨t9, et9⟩ : ∃ z : Int32, z = (x10 + (1 : Int32)) := ⟨_, rfl⟩
          have hf := kl_e hf t9 et9
          refine lv_iinc (v := t9) (lv' := [(10, .int t9), (8, .long t8), (6, .double t7), (2, .int x2), (3, .int x3), (4, .long x4)]) hx hb dX11_bitsOfSize_56 hl (k := 5) rfl (by rw [et9]; rfl) (by decide) rfl (fun ls hl => ?_)
          refine lv_goto (tgt := 25) hx hb dX11_bitsOfSize_59 (by decide) ?_
          exact ih t7 t8 t9 o0 o1 hf hk0 _ _ _ hP hD hS (lv_sub hl [3, 4, 5, 2, 1, 0] rfl)
  unfold f_X11_bitsOfSize at hf
  refine lv_dload_n hx hb dX11_bitsOfSize_0 rfl (lv_at hl 0 rfl) ?_
  refine lv_dconst0 hx hb dX11_bitsOfSize_1 ?_
  refine lv_dcmp hx hb dX11_bitsOfSize_2 ?_
  refine lv_if_ne (tgt := 8) hx hb dX11_bitsOfSize_3 (by decide) (fun c1 => ?_) (fun c1 => ?_)
  · have hf := kn_e hf c1
    refine lv_lconst (v := 1) hx hb dX11_bitsOfSize_8 (by decide) ?_
    refine lv_iload_n hx hb dX11_bitsOfSize_9 rfl (lv_at hl 1 rfl) ?_
    refine lv_lshl hx hb dX11_bitsOfSize_10 rfl ?_
    refine lv_topl (fun t2 et2 => ?_)
    have hf := kl_e hf t2 et2
    refine lv_lstore (lv' := [(4, .long t2), (0, .double x0), (2, .int x2), (3, .int x3)]) hx hb dX11_bitsOfSize_11 hl (by decide) rfl (fun ls hl => ?_)
    refine lv_dload_n hx hb dX11_bitsOfSize_13 rfl (lv_at hl 1 rfl) ?_
    refine lv_dstore (lv' := [(6, .double x0), (4, .long t2), (0, .double x0), (2, .int x2), (3, .int x3)]) hx hb dX11_bitsOfSize_14 hl (by decide) rfl (fun ls hl => ?_)
    refine lv_iload_n hx hb dX11_bitsOfSize_16 rfl (lv_at hl 4 rfl) ?_
    refine lv_iload_n hx hb dX11_bitsOfSize_17 rfl (lv_at hl 3 rfl) ?_
    refine lv_iadd hx hb dX11_bitsOfSize_18 ?_
    refine lv_i2l hx hb dX11_bitsOfSize_19 rfl ?_
    refine lv_topl (fun t3 et3 => ?_)
    have hf := kl_e hf t3 et3
    refine lv_lstore (lv' := [(8, .long t3), (6, .double x0), (4, .long t2), (0, .double x0), (2, .int x2), (3, .int x3)]) hx hb dX11_bitsOfSize_20 hl (by decide) rfl (fun ls hl => ?_)
    refine lv_iconst (v := 0) hx hb dX11_bitsOfSize_22 (by decide) ?_
    refine lv_istore (lv' := [(10, .int (0 : Int32)), (8, .long t3), (6, .double x0), (4, .long t2), (0, .double x0), (2, .int x2), (3, .int x3)]) hx hb dX11_bitsOfSize_23 hl (by decide) rfl (fun ls hl => ?_)
    obtain ⟨y10, y11, hu, hf⟩ := kb2_e hf
    refine hL25 x2 x3 t2 F x0 t3 (0 : Int32) y10 y11 hu (fun H locs ls hP hD hS hl => ?_) _ _ _ hP hD hS (lv_sub hl [5, 6, 3, 2, 1, 0] rfl)
    refine lv_lload hx hb dX11_bitsOfSize_62 (lv_at hl 3 rfl) ?_
    refine lv_iload_n hx hb dX11_bitsOfSize_64 rfl (lv_at hl 0 rfl) ?_
    refine lv_lshl hx hb dX11_bitsOfSize_65 rfl ?_
    refine lv_dload hx hb dX11_bitsOfSize_66 (lv_at hl 2 rfl) ?_
    refine lv_d2l hx hb dX11_bitsOfSize_68 ?_
    refine lv_lload hx hb dX11_bitsOfSize_69 (lv_at hl 1 rfl) ?_
    refine lv_lsub hx hb dX11_bitsOfSize_71 ?_
    refine lv_ladd hx hb dX11_bitsOfSize_72 ?_
    obtain rfl := ki1 hf
    rw [hQ]
    exact k_lret hat hP hS rfl dX11_bitsOfSize_73
  · have hf := kp_e hf c1
    refine lv_lconst (v := 0) hx hb dX11_bitsOfSize_6 (by decide) ?_
    obtain rfl := ki1 hf
    rw [hQ]
    exact k_lret hat hP hS rfl dX11_bitsOfSize_7
set_option maxHeartbeats 4000000 in
set_option maxRecDepth 100000 in
theorem c_X11_bitsOfDouble {l : Launch} {D : va_G} {cI cJ cQ : ClassId} {tp : Nat} (F : Nat) (x0 : UInt64) (r0 : Int64) (hf : f_X11_bitsOfDouble F x0 = some r0) : kM (fun A => kQl D A [] r0) (some .long) l yX11_bitsOfDouble cX11_bitsOfDouble 4 { frames := 1, cells := 0, slots := 0, locals := 30 } D cI cJ cQ tp [.double x0] [] := by
  refine kM_of (by decide) (Nat.le_of_ble_eq_true rfl) ?_
  intro p e s m args below meth c A ls R Q hR hQ hat hP hD hS hl
  obtain ⟨hx, hb, hr, hml, hown, hts, hT, hlk, hK, hA, hZ⟩ := id hat
  have hown : s.vm.findClass RX11 = some m.cls := hown
  have hl : lv_has ls 4 [(0, .double x0)] := hl
  unfold f_X11_bitsOfDouble at hf
  refine lv_dload_n hx hb dX11_bitsOfDouble_0 rfl (lv_at hl 0 rfl) ?_
  refine lv_dconst0 hx hb dX11_bitsOfDouble_1 ?_
  refine lv_dcmp hx hb dX11_bitsOfDouble_2 ?_
  obtain ⟨J2, hJ2_, hf⟩ := kj1_e hf
  have hJ2 : ∀ (t1 : UInt64), J2 t1 = some r0 → ∀ (H : Heap) (locs : List Loc) (ls : Array Slot), va_P D vwCl [] H → va_D A [] → va_S A s.heap H locs → lv_has ls 4 [(0, .double x0)] → W p l e R s m args below meth c H locs 0 0 Q (F0 m 13 ls [.double t1]) := by
    intro t1 hf H locs ls hP hD hS hl
    rw [hJ2_] at hf
    refine lv_bipush (v := 52) hx hb dX11_bitsOfDouble_13 (by decide) ?_
    refine lv_sipush (v := 1023) hx hb dX11_bitsOfDouble_15 (by decide) ?_
    obtain ⟨r3, h4, hf⟩ := kb1_e hf
    refine k_gl (ws' := []) (k_runS (rest := []) hat hP hD hS hl.1 (c_X11_bitsOfSize F t1 (52 : Int32) (1023 : Int32) r3 h4) [] (by decide) rfl kw666 kw667 kw67 kw668 kdX11_bitsOfSize ⟨rfl, rfl⟩ (by rw [hR]; exact ⟨Nat.le_of_ble_eq_true rfl, Nat.le_of_ble_eq_true rfl⟩) ⟨Nat.zero_le _, Nat.zero_le _⟩ rfl rfl (Nat.le_of_ble_eq_true rfl) dX11_bitsOfDouble_18) hat hP hD hS [] rfl [] rfl rfl rfl rfl (by decide) (fun H locs hP hD hS => ?_)
    refine lv_lstore_n (lv' := [(2, .long r3), (0, .double x0)]) hx hb dX11_bitsOfDouble_21 rfl hl (by decide) rfl (fun ls hl => ?_)
    refine lv_dload_n hx hb dX11_bitsOfDouble_22 rfl (lv_at hl 1 rfl) ?_
    refine lv_dconst0 hx hb dX11_bitsOfDouble_23 ?_
    refine lv_dcmp hx hb dX11_bitsOfDouble_24 ?_
    refine lv_if_ge (tgt := 36) hx hb dX11_bitsOfDouble_25 (by decide) (fun c5 => ?_) (fun c5 => ?_)
    · have hf := kp_e hf c5
      refine lv_lload_n hx hb dX11_bitsOfDouble_36 rfl (lv_at hl 0 rfl) ?_
      obtain rfl := ki1 hf
      rw [hQ]
      exact k_lret hat hP hS rfl dX11_bitsOfDouble_37
    · have hf := kn_e hf c5
      refine lv_lload_n hx hb dX11_bitsOfDouble_28 rfl (lv_at hl 0 rfl) ?_
      refine lv_ldc2 hx hb hown (hts _ kw670) dX11_bitsOfDouble_29 ?_
      refine lv_lor hx hb dX11_bitsOfDouble_32 ?_
      refine lv_goto (tgt := 37) hx hb dX11_bitsOfDouble_33 (by decide) ?_
      obtain rfl := ki1 hf
      rw [hQ]
      exact k_lret hat hP hS rfl dX11_bitsOfDouble_37
  refine lv_if_ge (tgt := 12) hx hb dX11_bitsOfDouble_3 (by decide) (fun c6 => ?_) (fun c6 => ?_)
  · have hf := kp_e hf c6
    refine lv_dload_n hx hb dX11_bitsOfDouble_12 rfl (lv_at hl 0 rfl) ?_
    exact hJ2 x0 hf _ _ _ hP hD hS hl
  · have hf := kn_e hf c6
    refine lv_dconst0 hx hb dX11_bitsOfDouble_6 ?_
    refine lv_dload_n hx hb dX11_bitsOfDouble_7 rfl (lv_at hl 0 rfl) ?_
    obtain ⟨c7, hf⟩ := kc_e hf
    refine lv_dsub hx hb dX11_bitsOfDouble_8 (kq64_e c7) ?_
    refine lv_goto (tgt := 13) hx hb dX11_bitsOfDouble_9 (by decide) ?_
    exact hJ2 (FP.dsub FP.dconst0 x0) hf _ _ _ hP hD hS hl
set_option maxHeartbeats 4000000 in
set_option maxRecDepth 100000 in
theorem c_X11_near {l : Launch} {D : va_G} {cI cJ cQ : ClassId} {tp : Nat} (q : Nat) (q_now : Nat) (q_clearing : Nat) (q_residues : Nat) (q_lifting : Nat) (q_guessed : Nat) (q_walk : Nat) (q_history : Nat) (q_book : Nat) (q_draws : Nat) (q_firstImage : Nat) (q_secondImage : Nat) (q_now_numbers : Nat) (q_clearing_rows : Nat) (q_clearing_leads : Nat) (q_clearing_rows_r : Nat → Nat) (v_now_n : Int32) (v_now_primeNumber : Int32) (v_now_numbers : (Nat → Int32)) (v_clearing_n : Int32) (v_clearing_rank : Int32) (v_clearing_exchanges : Int32) (v_clearing_width : Int32) (v_clearing_scale : Int64) (v_clearing_rows : (Nat → Nat → Int64)) (v_clearing_leads : (Nat → Int32)) (F : Nat) (x1 : Int32) (r0 : Int64) (o_v_clearing_n : Int32) (o_v_clearing_rank : Int32) (o_v_clearing_exchanges : Int32) (o_v_clearing_scale : Int64) (o_v_clearing_rows : (Nat → Nat → Int64)) (o_v_clearing_leads : (Nat → Int32)) (hf : f_X11_near F v_now_n v_now_numbers v_clearing_n v_clearing_rank v_clearing_exchanges v_clearing_width v_clearing_scale v_clearing_rows v_clearing_leads x1 = some (r0, o_v_clearing_n, o_v_clearing_rank, o_v_clearing_exchanges, o_v_clearing_scale, o_v_clearing_rows, o_v_clearing_leads)) : kM (fun A => kQl D A [(q, .inr (10, [.ref q_now, .ref q_clearing, .ref q_residues, .ref q_lifting, .ref q_guessed, .ref q_walk, .ref q_history, .ref q_book, .ref q_draws, .ref q_firstImage, .ref q_secondImage])), (q_now, .inr (3, [.int v_now_n, .int v_now_primeNumber, .ref q_now_numbers])), (q_now_numbers, .inl (cI, 20, .inl v_now_numbers)), (q_clearing, .inr (1, [.int o_v_clearing_n, .int o_v_clearing_rank, .int o_v_clearing_exchanges, .ref q_clearing_rows, .int v_clearing_width, .long o_v_clearing_scale, .ref q_clearing_leads])), (q_clearing_rows, .inl (cQ, 4, .inr (.inr (.inr (.inr (kg q_clearing_rows_r)))))), (q_clearing_rows_r 0, .inl (cJ, 5, .inr (.inl (o_v_clearing_rows 0)))), (q_clearing_rows_r 1, .inl (cJ, 5, .inr (.inl (o_v_clearing_rows 1)))), (q_clearing_rows_r 2, .inl (cJ, 5, .inr (.inl (o_v_clearing_rows 2)))), (q_clearing_rows_r 3, .inl (cJ, 5, .inr (.inl (o_v_clearing_rows 3)))), (q_clearing_leads, .inl (cI, 4, .inl o_v_clearing_leads))] r0) (some .long) l yX11_near cX11_near 3 { frames := 6, cells := 0, slots := 0, locals := 139 } D cI cJ cQ tp [.ref q, .int x1] [(q, .inr (10, [.ref q_now, .ref q_clearing, .ref q_residues, .ref q_lifting, .ref q_guessed, .ref q_walk, .ref q_history, .ref q_book, .ref q_draws, .ref q_firstImage, .ref q_secondImage])), (q_now, .inr (3, [.int v_now_n, .int v_now_primeNumber, .ref q_now_numbers])), (q_now_numbers, .inl (cI, 20, .inl v_now_numbers)), (q_clearing, .inr (1, [.int v_clearing_n, .int v_clearing_rank, .int v_clearing_exchanges, .ref q_clearing_rows, .int v_clearing_width, .long v_clearing_scale, .ref q_clearing_leads])), (q_clearing_rows, .inl (cQ, 4, .inr (.inr (.inr (.inr (kg q_clearing_rows_r)))))), (q_clearing_rows_r 0, .inl (cJ, 5, .inr (.inl (v_clearing_rows 0)))), (q_clearing_rows_r 1, .inl (cJ, 5, .inr (.inl (v_clearing_rows 1)))), (q_clearing_rows_r 2, .inl (cJ, 5, .inr (.inl (v_clearing_rows 2)))), (q_clearing_rows_r 3, .inl (cJ, 5, .inr (.inl (v_clearing_rows 3)))), (q_clearing_leads, .inl (cI, 4, .inl v_clearing_leads))] := by
  refine kM_of (by decide) (Nat.le_of_ble_eq_true rfl) ?_
  intro p e s m args below meth c A ls R Q hR hQ hat hP hD hS hl
  obtain ⟨hx, hb, hr, hml, hown, hts, hT, hlk, hK, hA, hZ⟩ := id hat
  have hown : s.vm.findClass RX11 = some m.cls := hown
  have hl : lv_has ls 3 [(0, .ref q), (1, .int x1)] := hl
  unfold f_X11_near at hf
  refine lv_aload_n hx hb dX11_near_0 rfl (lv_at hl 0 rfl) ?_
  refine lv_iload_n hx hb dX11_near_1 rfl (lv_at hl 1 rfl) ?_
  obtain ⟨r1, w2, w3, w4, w5, w6, w7, h8, hf⟩ := kb7_e hf
  refine k_gi (ws' := [(q, .inr (10, [.ref q_now, .ref q_clearing, .ref q_residues, .ref q_lifting, .ref q_guessed, .ref q_walk, .ref q_history, .ref q_book, .ref q_draws, .ref q_firstImage, .ref q_secondImage])), (q_now, .inr (3, [.int v_now_n, .int v_now_primeNumber, .ref q_now_numbers])), (q_now_numbers, .inl (cI, 20, .inl v_now_numbers)), (q_clearing, .inr (1, [.int w2, .int w3, .int w4, .ref q_clearing_rows, .int v_clearing_width, .long w5, .ref q_clearing_leads])), (q_clearing_rows, .inl (cQ, 4, .inr (.inr (.inr (.inr (kg q_clearing_rows_r)))))), (q_clearing_rows_r 0, .inl (cJ, 5, .inr (.inl (w6 0)))), (q_clearing_rows_r 1, .inl (cJ, 5, .inr (.inl (w6 1)))), (q_clearing_rows_r 2, .inl (cJ, 5, .inr (.inl (w6 2)))), (q_clearing_rows_r 3, .inl (cJ, 5, .inr (.inl (w6 3)))), (q_clearing_leads, .inl (cI, 4, .inl w7))]) (k_runV (rest := []) hat hP hD hS hl.1 (c_X11_whyNoValue q q_now q_clearing q_residues q_lifting q_guessed q_walk q_history q_book q_draws q_firstImage q_secondImage q_now_numbers q_clearing_rows q_clearing_leads q_clearing_rows_r v_now_n v_now_primeNumber v_now_numbers v_clearing_n v_clearing_rank v_clearing_exchanges v_clearing_width v_clearing_scale v_clearing_rows v_clearing_leads F x1 r1 w2 w3 w4 w5 w6 w7 h8) [0, 1, 2, 3, 4, 5, 6, 7, 8, 9] (by decide) rfl kw653 kw655 kw12 kw67 kw656 kdVX11_whyNoValue ⟨rfl, rfl⟩ (by rw [hR]; exact ⟨Nat.le_of_ble_eq_true rfl, Nat.le_of_ble_eq_true rfl⟩) ⟨Nat.zero_le _, Nat.zero_le _⟩ 0 10 rfl rfl rfl rfl (Nat.le_of_ble_eq_true rfl) dX11_near_2) hat hP hD hS [0, 1, 2, 3, 4, 5, 6, 7, 8, 9] rfl [] rfl rfl rfl rfl (by decide) (fun H locs hP hD hS => ?_)
  refine lv_istore_n (lv' := [(2, .int r1), (0, .ref q), (1, .int x1)]) hx hb dX11_near_5 rfl hl (by decide) rfl (fun ls hl => ?_)
  refine lv_iload_n hx hb dX11_near_6 rfl (lv_at hl 0 rfl) ?_
  refine lv_if_eq (tgt := 15) hx hb dX11_near_7 (by decide) (fun c9 => ?_) (fun c9 => ?_)
  · have hf := kp_e hf c9
    refine lv_aload_n hx hb dX11_near_15 rfl (lv_at hl 1 rfl) ?_
    refine va_get (D := D) (ci := 10) (v := .ref q_clearing) (C := RX11) (T := TX11) (N := 11) hx hb hts kinX11 hown hK hP 0 rfl rfl 1 (by decide) (hts _ kw328) (fun _ h9 => h9) rfl dX11_near_16 ?_
    refine lv_iload_n hx hb dX11_near_19 rfl (lv_at hl 2 rfl) ?_
    obtain ⟨r10, h11, hf⟩ := kb1_e hf
    refine k_gd (ws' := [(q, .inr (10, [.ref q_now, .ref q_clearing, .ref q_residues, .ref q_lifting, .ref q_guessed, .ref q_walk, .ref q_history, .ref q_book, .ref q_draws, .ref q_firstImage, .ref q_secondImage])), (q_now, .inr (3, [.int v_now_n, .int v_now_primeNumber, .ref q_now_numbers])), (q_now_numbers, .inl (cI, 20, .inl v_now_numbers)), (q_clearing, .inr (1, [.int w2, .int w3, .int w4, .ref q_clearing_rows, .int v_clearing_width, .long w5, .ref q_clearing_leads])), (q_clearing_rows, .inl (cQ, 4, .inr (.inr (.inr (.inr (kg q_clearing_rows_r)))))), (q_clearing_rows_r 0, .inl (cJ, 5, .inr (.inl (w6 0)))), (q_clearing_rows_r 1, .inl (cJ, 5, .inr (.inl (w6 1)))), (q_clearing_rows_r 2, .inl (cJ, 5, .inr (.inl (w6 2)))), (q_clearing_rows_r 3, .inl (cJ, 5, .inr (.inl (w6 3)))), (q_clearing_leads, .inl (cI, 4, .inl w7))]) (k_runV (rest := []) hat hP hD hS hl.1 (c_X1_nearest q_clearing q_clearing_rows q_clearing_leads q_clearing_rows_r w2 w3 w4 v_clearing_width w5 w6 w7 F x1 r10 h11) [3, 4, 5, 6, 7, 8, 9] (by decide) rfl kw657 kw658 kw659 kw70 kw660 kdVX1_nearest ⟨rfl, rfl⟩ (by rw [hR]; exact ⟨Nat.le_of_ble_eq_true rfl, Nat.le_of_ble_eq_true rfl⟩) ⟨Nat.zero_le _, Nat.zero_le _⟩ 3 1 rfl rfl rfl rfl (Nat.le_of_ble_eq_true rfl) dX11_near_20) hat hP hD hS [3, 4, 5, 6, 7, 8, 9] rfl [0, 1, 2] rfl rfl rfl rfl (by decide) (fun H locs hP hD hS => ?_)
    obtain ⟨r12, h13, hf⟩ := kb1_e hf
    refine k_gl (ws' := [(q, .inr (10, [.ref q_now, .ref q_clearing, .ref q_residues, .ref q_lifting, .ref q_guessed, .ref q_walk, .ref q_history, .ref q_book, .ref q_draws, .ref q_firstImage, .ref q_secondImage])), (q_now, .inr (3, [.int v_now_n, .int v_now_primeNumber, .ref q_now_numbers])), (q_now_numbers, .inl (cI, 20, .inl v_now_numbers)), (q_clearing, .inr (1, [.int w2, .int w3, .int w4, .ref q_clearing_rows, .int v_clearing_width, .long w5, .ref q_clearing_leads])), (q_clearing_rows, .inl (cQ, 4, .inr (.inr (.inr (.inr (kg q_clearing_rows_r)))))), (q_clearing_rows_r 0, .inl (cJ, 5, .inr (.inl (w6 0)))), (q_clearing_rows_r 1, .inl (cJ, 5, .inr (.inl (w6 1)))), (q_clearing_rows_r 2, .inl (cJ, 5, .inr (.inl (w6 2)))), (q_clearing_rows_r 3, .inl (cJ, 5, .inr (.inl (w6 3)))), (q_clearing_leads, .inl (cI, 4, .inl w7))]) (k_runS (rest := []) hat hP hD hS hl.1 (c_X11_bitsOfDouble F r10 r12 h13) [] (by decide) rfl kw663 kw664 kw67 kw665 kdX11_bitsOfDouble ⟨rfl, rfl⟩ (by rw [hR]; exact ⟨Nat.le_of_ble_eq_true rfl, Nat.le_of_ble_eq_true rfl⟩) ⟨Nat.zero_le _, Nat.zero_le _⟩ rfl rfl (Nat.le_of_ble_eq_true rfl) dX11_near_23) hat hP hD hS [] rfl [0, 1, 2, 3, 4, 5, 6, 7, 8, 9] rfl rfl rfl rfl (by decide) (fun H locs hP hD hS => ?_)
    obtain ⟨rfl, rfl, rfl, rfl, rfl, rfl, rfl⟩ := ki7 hf
    rw [hQ]
    exact k_lret hat hP hS rfl dX11_near_26
  · have hf := kn_e hf c9
    refine lv_iload_n hx hb dX11_near_10 rfl (lv_at hl 0 rfl) ?_
    refine lv_i2l hx hb dX11_near_11 rfl ?_
    refine lv_goto (tgt := 26) hx hb dX11_near_12 (by decide) ?_
    obtain ⟨rfl, rfl, rfl, rfl, rfl, rfl, rfl⟩ := ki7 hf
    rw [hQ]
    exact k_lret hat hP hS rfl dX11_near_26
set_option maxHeartbeats 4000000 in
set_option maxRecDepth 100000 in
theorem c_X11_bitsOfFloat {l : Launch} {D : va_G} {cI cJ cQ : ClassId} {tp : Nat} (F : Nat) (x0 : UInt32) (r0 : Int64) (hf : f_X11_bitsOfFloat F x0 = some r0) : kM (fun A => kQl D A [] r0) (some .long) l yX11_bitsOfFloat cX11_bitsOfFloat 3 { frames := 1, cells := 0, slots := 0, locals := 30 } D cI cJ cQ tp [.float x0] [] := by
  refine kM_of (by decide) (Nat.le_of_ble_eq_true rfl) ?_
  intro p e s m args below meth c A ls R Q hR hQ hat hP hD hS hl
  obtain ⟨hx, hb, hr, hml, hown, hts, hT, hlk, hK, hA, hZ⟩ := id hat
  have hown : s.vm.findClass RX11 = some m.cls := hown
  have hl : lv_has ls 3 [(0, .float x0)] := hl
  unfold f_X11_bitsOfFloat at hf
  refine lv_fload_n hx hb dX11_bitsOfFloat_0 rfl (lv_at hl 0 rfl) ?_
  refine lv_fconst0 hx hb dX11_bitsOfFloat_1 ?_
  refine lv_fcmp hx hb dX11_bitsOfFloat_2 ?_
  obtain ⟨J2, hJ2_, hf⟩ := kj1_e hf
  have hJ2 : ∀ (t1 : UInt64), J2 t1 = some r0 → ∀ (H : Heap) (locs : List Loc) (ls : Array Slot), va_P D vwCl [] H → va_D A [] → va_S A s.heap H locs → lv_has ls 3 [(0, .float x0)] → W p l e R s m args below meth c H locs 0 0 Q (F0 m 15 ls [.double t1]) := by
    intro t1 hf H locs ls hP hD hS hl
    rw [hJ2_] at hf
    refine lv_bipush (v := 23) hx hb dX11_bitsOfFloat_15 (by decide) ?_
    refine lv_bipush (v := 127) hx hb dX11_bitsOfFloat_17 (by decide) ?_
    obtain ⟨r3, h4, hf⟩ := kb1_e hf
    refine k_gl (ws' := []) (k_runS (rest := []) hat hP hD hS hl.1 (c_X11_bitsOfSize F t1 (23 : Int32) (127 : Int32) r3 h4) [] (by decide) rfl kw666 kw667 kw67 kw668 kdX11_bitsOfSize ⟨rfl, rfl⟩ (by rw [hR]; exact ⟨Nat.le_of_ble_eq_true rfl, Nat.le_of_ble_eq_true rfl⟩) ⟨Nat.zero_le _, Nat.zero_le _⟩ rfl rfl (Nat.le_of_ble_eq_true rfl) dX11_bitsOfFloat_19) hat hP hD hS [] rfl [] rfl rfl rfl rfl (by decide) (fun H locs hP hD hS => ?_)
    refine lv_lstore_n (lv' := [(1, .long r3), (0, .float x0)]) hx hb dX11_bitsOfFloat_22 rfl hl (by decide) rfl (fun ls hl => ?_)
    refine lv_fload_n hx hb dX11_bitsOfFloat_23 rfl (lv_at hl 1 rfl) ?_
    refine lv_fconst0 hx hb dX11_bitsOfFloat_24 ?_
    refine lv_fcmp hx hb dX11_bitsOfFloat_25 ?_
    refine lv_if_ge (tgt := 37) hx hb dX11_bitsOfFloat_26 (by decide) (fun c5 => ?_) (fun c5 => ?_)
    · have hf := kp_e hf c5
      refine lv_lload_n hx hb dX11_bitsOfFloat_37 rfl (lv_at hl 0 rfl) ?_
      obtain rfl := ki1 hf
      rw [hQ]
      exact k_lret hat hP hS rfl dX11_bitsOfFloat_38
    · have hf := kn_e hf c5
      refine lv_lload_n hx hb dX11_bitsOfFloat_29 rfl (lv_at hl 0 rfl) ?_
      refine lv_ldc2 hx hb hown (hts _ kw678) dX11_bitsOfFloat_30 ?_
      refine lv_lor hx hb dX11_bitsOfFloat_33 ?_
      refine lv_goto (tgt := 38) hx hb dX11_bitsOfFloat_34 (by decide) ?_
      obtain rfl := ki1 hf
      rw [hQ]
      exact k_lret hat hP hS rfl dX11_bitsOfFloat_38
  refine lv_if_ge (tgt := 13) hx hb dX11_bitsOfFloat_3 (by decide) (fun c6 => ?_) (fun c6 => ?_)
  · have hf := kp_e hf c6
    refine lv_fload_n hx hb dX11_bitsOfFloat_13 rfl (lv_at hl 0 rfl) ?_
    obtain ⟨c7, hf⟩ := kc_e hf
    refine lv_f2d hx hb dX11_bitsOfFloat_14 (kq64_e c7) ?_
    exact hJ2 (FP.f2d x0) hf _ _ _ hP hD hS hl
  · have hf := kn_e hf c6
    refine lv_fconst0 hx hb dX11_bitsOfFloat_6 ?_
    refine lv_fload_n hx hb dX11_bitsOfFloat_7 rfl (lv_at hl 0 rfl) ?_
    obtain ⟨c8, hf⟩ := kc_e hf
    refine lv_fsub hx hb dX11_bitsOfFloat_8 (kq32_e c8) ?_
    obtain ⟨c9, hf⟩ := kc_e hf
    refine lv_f2d hx hb dX11_bitsOfFloat_9 (kq64_e c9) ?_
    refine lv_goto (tgt := 15) hx hb dX11_bitsOfFloat_10 (by decide) ?_
    exact hJ2 (FP.f2d (FP.fsub FP.fconst0 x0)) hf _ _ _ hP hD hS hl
set_option maxHeartbeats 4000000 in
set_option maxRecDepth 100000 in
theorem c_X11_shortly {l : Launch} {D : va_G} {cI cJ cQ : ClassId} {tp : Nat} (q : Nat) (q_now : Nat) (q_clearing : Nat) (q_residues : Nat) (q_lifting : Nat) (q_guessed : Nat) (q_walk : Nat) (q_history : Nat) (q_book : Nat) (q_draws : Nat) (q_firstImage : Nat) (q_secondImage : Nat) (q_now_numbers : Nat) (q_clearing_rows : Nat) (q_clearing_leads : Nat) (q_clearing_rows_r : Nat → Nat) (v_now_n : Int32) (v_now_primeNumber : Int32) (v_now_numbers : (Nat → Int32)) (v_clearing_n : Int32) (v_clearing_rank : Int32) (v_clearing_exchanges : Int32) (v_clearing_width : Int32) (v_clearing_scale : Int64) (v_clearing_rows : (Nat → Nat → Int64)) (v_clearing_leads : (Nat → Int32)) (F : Nat) (x1 : Int32) (r0 : Int64) (o_v_clearing_n : Int32) (o_v_clearing_rank : Int32) (o_v_clearing_exchanges : Int32) (o_v_clearing_scale : Int64) (o_v_clearing_rows : (Nat → Nat → Int64)) (o_v_clearing_leads : (Nat → Int32)) (hf : f_X11_shortly F v_now_n v_now_numbers v_clearing_n v_clearing_rank v_clearing_exchanges v_clearing_width v_clearing_scale v_clearing_rows v_clearing_leads x1 = some (r0, o_v_clearing_n, o_v_clearing_rank, o_v_clearing_exchanges, o_v_clearing_scale, o_v_clearing_rows, o_v_clearing_leads)) : kM (fun A => kQl D A [(q, .inr (10, [.ref q_now, .ref q_clearing, .ref q_residues, .ref q_lifting, .ref q_guessed, .ref q_walk, .ref q_history, .ref q_book, .ref q_draws, .ref q_firstImage, .ref q_secondImage])), (q_now, .inr (3, [.int v_now_n, .int v_now_primeNumber, .ref q_now_numbers])), (q_now_numbers, .inl (cI, 20, .inl v_now_numbers)), (q_clearing, .inr (1, [.int o_v_clearing_n, .int o_v_clearing_rank, .int o_v_clearing_exchanges, .ref q_clearing_rows, .int v_clearing_width, .long o_v_clearing_scale, .ref q_clearing_leads])), (q_clearing_rows, .inl (cQ, 4, .inr (.inr (.inr (.inr (kg q_clearing_rows_r)))))), (q_clearing_rows_r 0, .inl (cJ, 5, .inr (.inl (o_v_clearing_rows 0)))), (q_clearing_rows_r 1, .inl (cJ, 5, .inr (.inl (o_v_clearing_rows 1)))), (q_clearing_rows_r 2, .inl (cJ, 5, .inr (.inl (o_v_clearing_rows 2)))), (q_clearing_rows_r 3, .inl (cJ, 5, .inr (.inl (o_v_clearing_rows 3)))), (q_clearing_leads, .inl (cI, 4, .inl o_v_clearing_leads))] r0) (some .long) l yX11_shortly cX11_shortly 3 { frames := 6, cells := 0, slots := 0, locals := 139 } D cI cJ cQ tp [.ref q, .int x1] [(q, .inr (10, [.ref q_now, .ref q_clearing, .ref q_residues, .ref q_lifting, .ref q_guessed, .ref q_walk, .ref q_history, .ref q_book, .ref q_draws, .ref q_firstImage, .ref q_secondImage])), (q_now, .inr (3, [.int v_now_n, .int v_now_primeNumber, .ref q_now_numbers])), (q_now_numbers, .inl (cI, 20, .inl v_now_numbers)), (q_clearing, .inr (1, [.int v_clearing_n, .int v_clearing_rank, .int v_clearing_exchanges, .ref q_clearing_rows, .int v_clearing_width, .long v_clearing_scale, .ref q_clearing_leads])), (q_clearing_rows, .inl (cQ, 4, .inr (.inr (.inr (.inr (kg q_clearing_rows_r)))))), (q_clearing_rows_r 0, .inl (cJ, 5, .inr (.inl (v_clearing_rows 0)))), (q_clearing_rows_r 1, .inl (cJ, 5, .inr (.inl (v_clearing_rows 1)))), (q_clearing_rows_r 2, .inl (cJ, 5, .inr (.inl (v_clearing_rows 2)))), (q_clearing_rows_r 3, .inl (cJ, 5, .inr (.inl (v_clearing_rows 3)))), (q_clearing_leads, .inl (cI, 4, .inl v_clearing_leads))] := by
  refine kM_of (by decide) (Nat.le_of_ble_eq_true rfl) ?_
  intro p e s m args below meth c A ls R Q hR hQ hat hP hD hS hl
  obtain ⟨hx, hb, hr, hml, hown, hts, hT, hlk, hK, hA, hZ⟩ := id hat
  have hown : s.vm.findClass RX11 = some m.cls := hown
  have hl : lv_has ls 3 [(0, .ref q), (1, .int x1)] := hl
  unfold f_X11_shortly at hf
  refine lv_aload_n hx hb dX11_shortly_0 rfl (lv_at hl 0 rfl) ?_
  refine lv_iload_n hx hb dX11_shortly_1 rfl (lv_at hl 1 rfl) ?_
  obtain ⟨r1, w2, w3, w4, w5, w6, w7, h8, hf⟩ := kb7_e hf
  refine k_gi (ws' := [(q, .inr (10, [.ref q_now, .ref q_clearing, .ref q_residues, .ref q_lifting, .ref q_guessed, .ref q_walk, .ref q_history, .ref q_book, .ref q_draws, .ref q_firstImage, .ref q_secondImage])), (q_now, .inr (3, [.int v_now_n, .int v_now_primeNumber, .ref q_now_numbers])), (q_now_numbers, .inl (cI, 20, .inl v_now_numbers)), (q_clearing, .inr (1, [.int w2, .int w3, .int w4, .ref q_clearing_rows, .int v_clearing_width, .long w5, .ref q_clearing_leads])), (q_clearing_rows, .inl (cQ, 4, .inr (.inr (.inr (.inr (kg q_clearing_rows_r)))))), (q_clearing_rows_r 0, .inl (cJ, 5, .inr (.inl (w6 0)))), (q_clearing_rows_r 1, .inl (cJ, 5, .inr (.inl (w6 1)))), (q_clearing_rows_r 2, .inl (cJ, 5, .inr (.inl (w6 2)))), (q_clearing_rows_r 3, .inl (cJ, 5, .inr (.inl (w6 3)))), (q_clearing_leads, .inl (cI, 4, .inl w7))]) (k_runV (rest := []) hat hP hD hS hl.1 (c_X11_whyNoValue q q_now q_clearing q_residues q_lifting q_guessed q_walk q_history q_book q_draws q_firstImage q_secondImage q_now_numbers q_clearing_rows q_clearing_leads q_clearing_rows_r v_now_n v_now_primeNumber v_now_numbers v_clearing_n v_clearing_rank v_clearing_exchanges v_clearing_width v_clearing_scale v_clearing_rows v_clearing_leads F x1 r1 w2 w3 w4 w5 w6 w7 h8) [0, 1, 2, 3, 4, 5, 6, 7, 8, 9] (by decide) rfl kw653 kw655 kw12 kw67 kw656 kdVX11_whyNoValue ⟨rfl, rfl⟩ (by rw [hR]; exact ⟨Nat.le_of_ble_eq_true rfl, Nat.le_of_ble_eq_true rfl⟩) ⟨Nat.zero_le _, Nat.zero_le _⟩ 0 10 rfl rfl rfl rfl (Nat.le_of_ble_eq_true rfl) dX11_shortly_2) hat hP hD hS [0, 1, 2, 3, 4, 5, 6, 7, 8, 9] rfl [] rfl rfl rfl rfl (by decide) (fun H locs hP hD hS => ?_)
  refine lv_istore_n (lv' := [(2, .int r1), (0, .ref q), (1, .int x1)]) hx hb dX11_shortly_5 rfl hl (by decide) rfl (fun ls hl => ?_)
  refine lv_iload_n hx hb dX11_shortly_6 rfl (lv_at hl 0 rfl) ?_
  refine lv_if_eq (tgt := 15) hx hb dX11_shortly_7 (by decide) (fun c9 => ?_) (fun c9 => ?_)
  · have hf := kp_e hf c9
    refine lv_aload_n hx hb dX11_shortly_15 rfl (lv_at hl 1 rfl) ?_
    refine va_get (D := D) (ci := 10) (v := .ref q_clearing) (C := RX11) (T := TX11) (N := 11) hx hb hts kinX11 hown hK hP 0 rfl rfl 1 (by decide) (hts _ kw328) (fun _ h9 => h9) rfl dX11_shortly_16 ?_
    refine lv_iload_n hx hb dX11_shortly_19 rfl (lv_at hl 2 rfl) ?_
    obtain ⟨r10, h11, hf⟩ := kb1_e hf
    refine k_gd (ws' := [(q, .inr (10, [.ref q_now, .ref q_clearing, .ref q_residues, .ref q_lifting, .ref q_guessed, .ref q_walk, .ref q_history, .ref q_book, .ref q_draws, .ref q_firstImage, .ref q_secondImage])), (q_now, .inr (3, [.int v_now_n, .int v_now_primeNumber, .ref q_now_numbers])), (q_now_numbers, .inl (cI, 20, .inl v_now_numbers)), (q_clearing, .inr (1, [.int w2, .int w3, .int w4, .ref q_clearing_rows, .int v_clearing_width, .long w5, .ref q_clearing_leads])), (q_clearing_rows, .inl (cQ, 4, .inr (.inr (.inr (.inr (kg q_clearing_rows_r)))))), (q_clearing_rows_r 0, .inl (cJ, 5, .inr (.inl (w6 0)))), (q_clearing_rows_r 1, .inl (cJ, 5, .inr (.inl (w6 1)))), (q_clearing_rows_r 2, .inl (cJ, 5, .inr (.inl (w6 2)))), (q_clearing_rows_r 3, .inl (cJ, 5, .inr (.inl (w6 3)))), (q_clearing_leads, .inl (cI, 4, .inl w7))]) (k_runV (rest := []) hat hP hD hS hl.1 (c_X1_nearest q_clearing q_clearing_rows q_clearing_leads q_clearing_rows_r w2 w3 w4 v_clearing_width w5 w6 w7 F x1 r10 h11) [3, 4, 5, 6, 7, 8, 9] (by decide) rfl kw657 kw658 kw659 kw70 kw660 kdVX1_nearest ⟨rfl, rfl⟩ (by rw [hR]; exact ⟨Nat.le_of_ble_eq_true rfl, Nat.le_of_ble_eq_true rfl⟩) ⟨Nat.zero_le _, Nat.zero_le _⟩ 3 1 rfl rfl rfl rfl (Nat.le_of_ble_eq_true rfl) dX11_shortly_20) hat hP hD hS [3, 4, 5, 6, 7, 8, 9] rfl [0, 1, 2] rfl rfl rfl rfl (by decide) (fun H locs hP hD hS => ?_)
    obtain ⟨c12, hf⟩ := kc_e hf
    refine lv_d2f hx hb dX11_shortly_23 (kq32_e c12) ?_
    obtain ⟨r13, h14, hf⟩ := kb1_e hf
    refine k_gl (ws' := [(q, .inr (10, [.ref q_now, .ref q_clearing, .ref q_residues, .ref q_lifting, .ref q_guessed, .ref q_walk, .ref q_history, .ref q_book, .ref q_draws, .ref q_firstImage, .ref q_secondImage])), (q_now, .inr (3, [.int v_now_n, .int v_now_primeNumber, .ref q_now_numbers])), (q_now_numbers, .inl (cI, 20, .inl v_now_numbers)), (q_clearing, .inr (1, [.int w2, .int w3, .int w4, .ref q_clearing_rows, .int v_clearing_width, .long w5, .ref q_clearing_leads])), (q_clearing_rows, .inl (cQ, 4, .inr (.inr (.inr (.inr (kg q_clearing_rows_r)))))), (q_clearing_rows_r 0, .inl (cJ, 5, .inr (.inl (w6 0)))), (q_clearing_rows_r 1, .inl (cJ, 5, .inr (.inl (w6 1)))), (q_clearing_rows_r 2, .inl (cJ, 5, .inr (.inl (w6 2)))), (q_clearing_rows_r 3, .inl (cJ, 5, .inr (.inl (w6 3)))), (q_clearing_leads, .inl (cI, 4, .inl w7))]) (k_runS (rest := []) hat hP hD hS hl.1 (c_X11_bitsOfFloat F (FP.d2f r10) r13 h14) [] (by decide) rfl kw675 kw676 kw67 kw677 kdX11_bitsOfFloat ⟨rfl, rfl⟩ (by rw [hR]; exact ⟨Nat.le_of_ble_eq_true rfl, Nat.le_of_ble_eq_true rfl⟩) ⟨Nat.zero_le _, Nat.zero_le _⟩ rfl rfl (Nat.le_of_ble_eq_true rfl) dX11_shortly_24) hat hP hD hS [] rfl [0, 1, 2, 3, 4, 5, 6, 7, 8, 9] rfl rfl rfl rfl (by decide) (fun H locs hP hD hS => ?_)
    obtain ⟨rfl, rfl, rfl, rfl, rfl, rfl, rfl⟩ := ki7 hf
    rw [hQ]
    exact k_lret hat hP hS rfl dX11_shortly_27
  · have hf := kn_e hf c9
    refine lv_iload_n hx hb dX11_shortly_10 rfl (lv_at hl 0 rfl) ?_
    refine lv_i2l hx hb dX11_shortly_11 rfl ?_
    refine lv_goto (tgt := 27) hx hb dX11_shortly_12 (by decide) ?_
    obtain ⟨rfl, rfl, rfl, rfl, rfl, rfl, rfl⟩ := ki7 hf
    rw [hQ]
    exact k_lret hat hP hS rfl dX11_shortly_27
set_option maxHeartbeats 4000000 in
set_option maxRecDepth 100000 in
theorem c_X11_cut {l : Launch} {D : va_G} {cI cJ cQ : ClassId} {tp : Nat} (q : Nat) (q_now : Nat) (q_clearing : Nat) (q_residues : Nat) (q_lifting : Nat) (q_guessed : Nat) (q_walk : Nat) (q_history : Nat) (q_book : Nat) (q_draws : Nat) (q_firstImage : Nat) (q_secondImage : Nat) (q_now_numbers : Nat) (q_clearing_rows : Nat) (q_clearing_leads : Nat) (q_clearing_rows_r : Nat → Nat) (v_now_n : Int32) (v_now_primeNumber : Int32) (v_now_numbers : (Nat → Int32)) (v_clearing_n : Int32) (v_clearing_rank : Int32) (v_clearing_exchanges : Int32) (v_clearing_width : Int32) (v_clearing_scale : Int64) (v_clearing_rows : (Nat → Nat → Int64)) (v_clearing_leads : (Nat → Int32)) (F : Nat) (x1 : Int32) (r0 : Int64) (o_v_clearing_n : Int32) (o_v_clearing_rank : Int32) (o_v_clearing_exchanges : Int32) (o_v_clearing_scale : Int64) (o_v_clearing_rows : (Nat → Nat → Int64)) (o_v_clearing_leads : (Nat → Int32)) (hf : f_X11_cut F v_now_n v_now_numbers v_clearing_n v_clearing_rank v_clearing_exchanges v_clearing_width v_clearing_scale v_clearing_rows v_clearing_leads x1 = some (r0, o_v_clearing_n, o_v_clearing_rank, o_v_clearing_exchanges, o_v_clearing_scale, o_v_clearing_rows, o_v_clearing_leads)) : kM (fun A => kQl D A [(q, .inr (10, [.ref q_now, .ref q_clearing, .ref q_residues, .ref q_lifting, .ref q_guessed, .ref q_walk, .ref q_history, .ref q_book, .ref q_draws, .ref q_firstImage, .ref q_secondImage])), (q_now, .inr (3, [.int v_now_n, .int v_now_primeNumber, .ref q_now_numbers])), (q_now_numbers, .inl (cI, 20, .inl v_now_numbers)), (q_clearing, .inr (1, [.int o_v_clearing_n, .int o_v_clearing_rank, .int o_v_clearing_exchanges, .ref q_clearing_rows, .int v_clearing_width, .long o_v_clearing_scale, .ref q_clearing_leads])), (q_clearing_rows, .inl (cQ, 4, .inr (.inr (.inr (.inr (kg q_clearing_rows_r)))))), (q_clearing_rows_r 0, .inl (cJ, 5, .inr (.inl (o_v_clearing_rows 0)))), (q_clearing_rows_r 1, .inl (cJ, 5, .inr (.inl (o_v_clearing_rows 1)))), (q_clearing_rows_r 2, .inl (cJ, 5, .inr (.inl (o_v_clearing_rows 2)))), (q_clearing_rows_r 3, .inl (cJ, 5, .inr (.inl (o_v_clearing_rows 3)))), (q_clearing_leads, .inl (cI, 4, .inl o_v_clearing_leads))] r0) (some .long) l yX11_cut cX11_cut 4 { frames := 6, cells := 0, slots := 0, locals := 139 } D cI cJ cQ tp [.ref q, .int x1] [(q, .inr (10, [.ref q_now, .ref q_clearing, .ref q_residues, .ref q_lifting, .ref q_guessed, .ref q_walk, .ref q_history, .ref q_book, .ref q_draws, .ref q_firstImage, .ref q_secondImage])), (q_now, .inr (3, [.int v_now_n, .int v_now_primeNumber, .ref q_now_numbers])), (q_now_numbers, .inl (cI, 20, .inl v_now_numbers)), (q_clearing, .inr (1, [.int v_clearing_n, .int v_clearing_rank, .int v_clearing_exchanges, .ref q_clearing_rows, .int v_clearing_width, .long v_clearing_scale, .ref q_clearing_leads])), (q_clearing_rows, .inl (cQ, 4, .inr (.inr (.inr (.inr (kg q_clearing_rows_r)))))), (q_clearing_rows_r 0, .inl (cJ, 5, .inr (.inl (v_clearing_rows 0)))), (q_clearing_rows_r 1, .inl (cJ, 5, .inr (.inl (v_clearing_rows 1)))), (q_clearing_rows_r 2, .inl (cJ, 5, .inr (.inl (v_clearing_rows 2)))), (q_clearing_rows_r 3, .inl (cJ, 5, .inr (.inl (v_clearing_rows 3)))), (q_clearing_leads, .inl (cI, 4, .inl v_clearing_leads))] := by
  refine kM_of (by decide) (Nat.le_of_ble_eq_true rfl) ?_
  intro p e s m args below meth c A ls R Q hR hQ hat hP hD hS hl
  obtain ⟨hx, hb, hr, hml, hown, hts, hT, hlk, hK, hA, hZ⟩ := id hat
  have hown : s.vm.findClass RX11 = some m.cls := hown
  have hl : lv_has ls 4 [(0, .ref q), (1, .int x1)] := hl
  unfold f_X11_cut at hf
  refine lv_aload_n hx hb dX11_cut_0 rfl (lv_at hl 0 rfl) ?_
  refine lv_iload_n hx hb dX11_cut_1 rfl (lv_at hl 1 rfl) ?_
  obtain ⟨r1, w2, w3, w4, w5, w6, w7, h8, hf⟩ := kb7_e hf
  refine k_gi (ws' := [(q, .inr (10, [.ref q_now, .ref q_clearing, .ref q_residues, .ref q_lifting, .ref q_guessed, .ref q_walk, .ref q_history, .ref q_book, .ref q_draws, .ref q_firstImage, .ref q_secondImage])), (q_now, .inr (3, [.int v_now_n, .int v_now_primeNumber, .ref q_now_numbers])), (q_now_numbers, .inl (cI, 20, .inl v_now_numbers)), (q_clearing, .inr (1, [.int w2, .int w3, .int w4, .ref q_clearing_rows, .int v_clearing_width, .long w5, .ref q_clearing_leads])), (q_clearing_rows, .inl (cQ, 4, .inr (.inr (.inr (.inr (kg q_clearing_rows_r)))))), (q_clearing_rows_r 0, .inl (cJ, 5, .inr (.inl (w6 0)))), (q_clearing_rows_r 1, .inl (cJ, 5, .inr (.inl (w6 1)))), (q_clearing_rows_r 2, .inl (cJ, 5, .inr (.inl (w6 2)))), (q_clearing_rows_r 3, .inl (cJ, 5, .inr (.inl (w6 3)))), (q_clearing_leads, .inl (cI, 4, .inl w7))]) (k_runV (rest := []) hat hP hD hS hl.1 (c_X11_whyNoValue q q_now q_clearing q_residues q_lifting q_guessed q_walk q_history q_book q_draws q_firstImage q_secondImage q_now_numbers q_clearing_rows q_clearing_leads q_clearing_rows_r v_now_n v_now_primeNumber v_now_numbers v_clearing_n v_clearing_rank v_clearing_exchanges v_clearing_width v_clearing_scale v_clearing_rows v_clearing_leads F x1 r1 w2 w3 w4 w5 w6 w7 h8) [0, 1, 2, 3, 4, 5, 6, 7, 8, 9] (by decide) rfl kw653 kw655 kw12 kw67 kw656 kdVX11_whyNoValue ⟨rfl, rfl⟩ (by rw [hR]; exact ⟨Nat.le_of_ble_eq_true rfl, Nat.le_of_ble_eq_true rfl⟩) ⟨Nat.zero_le _, Nat.zero_le _⟩ 0 10 rfl rfl rfl rfl (Nat.le_of_ble_eq_true rfl) dX11_cut_2) hat hP hD hS [0, 1, 2, 3, 4, 5, 6, 7, 8, 9] rfl [] rfl rfl rfl rfl (by decide) (fun H locs hP hD hS => ?_)
  refine lv_istore_n (lv' := [(2, .int r1), (0, .ref q), (1, .int x1)]) hx hb dX11_cut_5 rfl hl (by decide) rfl (fun ls hl => ?_)
  refine lv_iload_n hx hb dX11_cut_6 rfl (lv_at hl 0 rfl) ?_
  refine lv_if_eq (tgt := 13) hx hb dX11_cut_7 (by decide) (fun c9 => ?_) (fun c9 => ?_)
  · have hf := kp_e hf c9
    refine lv_aload_n hx hb dX11_cut_13 rfl (lv_at hl 1 rfl) ?_
    refine va_get (D := D) (ci := 10) (v := .ref q_clearing) (C := RX11) (T := TX11) (N := 11) hx hb hts kinX11 hown hK hP 0 rfl rfl 1 (by decide) (hts _ kw328) (fun _ h9 => h9) rfl dX11_cut_14 ?_
    refine lv_iload_n hx hb dX11_cut_17 rfl (lv_at hl 2 rfl) ?_
    obtain ⟨r10, h11, hf⟩ := kb1_e hf
    refine k_gd (ws' := [(q, .inr (10, [.ref q_now, .ref q_clearing, .ref q_residues, .ref q_lifting, .ref q_guessed, .ref q_walk, .ref q_history, .ref q_book, .ref q_draws, .ref q_firstImage, .ref q_secondImage])), (q_now, .inr (3, [.int v_now_n, .int v_now_primeNumber, .ref q_now_numbers])), (q_now_numbers, .inl (cI, 20, .inl v_now_numbers)), (q_clearing, .inr (1, [.int w2, .int w3, .int w4, .ref q_clearing_rows, .int v_clearing_width, .long w5, .ref q_clearing_leads])), (q_clearing_rows, .inl (cQ, 4, .inr (.inr (.inr (.inr (kg q_clearing_rows_r)))))), (q_clearing_rows_r 0, .inl (cJ, 5, .inr (.inl (w6 0)))), (q_clearing_rows_r 1, .inl (cJ, 5, .inr (.inl (w6 1)))), (q_clearing_rows_r 2, .inl (cJ, 5, .inr (.inl (w6 2)))), (q_clearing_rows_r 3, .inl (cJ, 5, .inr (.inl (w6 3)))), (q_clearing_leads, .inl (cI, 4, .inl w7))]) (k_runV (rest := []) hat hP hD hS hl.1 (c_X1_nearest q_clearing q_clearing_rows q_clearing_leads q_clearing_rows_r w2 w3 w4 v_clearing_width w5 w6 w7 F x1 r10 h11) [3, 4, 5, 6, 7, 8, 9] (by decide) rfl kw657 kw658 kw659 kw70 kw660 kdVX1_nearest ⟨rfl, rfl⟩ (by rw [hR]; exact ⟨Nat.le_of_ble_eq_true rfl, Nat.le_of_ble_eq_true rfl⟩) ⟨Nat.zero_le _, Nat.zero_le _⟩ 3 1 rfl rfl rfl rfl (Nat.le_of_ble_eq_true rfl) dX11_cut_18) hat hP hD hS [3, 4, 5, 6, 7, 8, 9] rfl [0, 1, 2] rfl rfl rfl rfl (by decide) (fun H locs hP hD hS => ?_)
    obtain ⟨c12, hf⟩ := kc_e hf
    refine lv_d2f hx hb dX11_cut_21 (kq32_e c12) ?_
    refine lv_ldcf hx hb hown (hts _ kw683) dX11_cut_22 ?_
    obtain ⟨c13, hf⟩ := kc_e hf
    refine lv_fmul hx hb dX11_cut_24 (kq32_e c13) ?_
    refine lv_topf (fun t14 et14 => ?_)
    have hf := kl_e hf t14 et14
    refine lv_fstore_n (lv' := [(3, .float t14), (2, .int r1), (0, .ref q), (1, .int x1)]) hx hb dX11_cut_25 rfl hl (by decide) rfl (fun ls hl => ?_)
    refine lv_fload_n hx hb dX11_cut_26 rfl (lv_at hl 0 rfl) ?_
    refine lv_f2i hx hb dX11_cut_27 ?_
    refine lv_i2l hx hb dX11_cut_28 rfl ?_
    refine lv_ldc2 hx hb hown (hts _ kw684) dX11_cut_29 ?_
    refine lv_ladd hx hb dX11_cut_32 ?_
    obtain ⟨rfl, rfl, rfl, rfl, rfl, rfl, rfl⟩ := ki7 hf
    rw [hQ]
    exact k_lret hat hP hS rfl dX11_cut_33
  · have hf := kn_e hf c9
    refine lv_iload_n hx hb dX11_cut_10 rfl (lv_at hl 0 rfl) ?_
    refine lv_i2l hx hb dX11_cut_11 rfl ?_
    obtain ⟨rfl, rfl, rfl, rfl, rfl, rfl, rfl⟩ := ki7 hf
    rw [hQ]
    exact k_lret hat hP hS rfl dX11_cut_12
set_option maxHeartbeats 4000000 in
set_option maxRecDepth 100000 in
theorem c_X3_writeTo {l : Launch} {D : va_G} {cI cJ cQ : ClassId} {tp : Nat} (q : Nat) (qa1 : Nat) (q_numbers : Nat) (na1 : Nat) (v_n : Int32) (v_primeNumber : Int32) (v_numbers : (Nat → Int32)) (va1 : (Nat → Int32)) (x2 : Int32) (o_va1 : (Nat → Int32)) (hf : f_X3_writeTo na1 v_n v_primeNumber v_numbers va1 x2 = some o_va1) : kM (fun A => kQv D A [(q, .inr (3, [.int v_n, .int v_primeNumber, .ref q_numbers])), (q_numbers, .inl (cI, 20, .inl v_numbers)), (qa1, .inl (cI, na1, .inl o_va1))]) none l yX3_writeTo cX3_writeTo 3 { frames := 1, cells := 0, slots := 0, locals := 40 } D cI cJ cQ tp [.ref q, .ref qa1, .int x2] [(q, .inr (3, [.int v_n, .int v_primeNumber, .ref q_numbers])), (q_numbers, .inl (cI, 20, .inl v_numbers)), (qa1, .inl (cI, na1, .inl va1))] := by
  refine kM_of (by decide) (Nat.le_of_ble_eq_true rfl) ?_
  intro p e s m args below meth c A ls R Q hR hQ hat hP hD hS hl
  obtain ⟨hx, hb, hr, hml, hown, hts, hT, hlk, hK, hA, hZ⟩ := id hat
  have hown : s.vm.findClass RX3 = some m.cls := hown
  have hl : lv_has ls 3 [(0, .ref q), (1, .ref qa1), (2, .int x2)] := hl
  unfold f_X3_writeTo at hf
  refine lv_aload_n hx hb dX3_writeTo_0 rfl (lv_at hl 1 rfl) ?_
  refine lv_iload_n hx hb dX3_writeTo_1 rfl (lv_at hl 2 rfl) ?_
  refine lv_aload_n hx hb dX3_writeTo_2 rfl (lv_at hl 0 rfl) ?_
  refine va_get (D := D) (ci := 3) (v := .int v_n) (C := RX3) (T := TX3) (N := 3) hx hb hts kinX3 hown hK hP 0 rfl rfl 0 (by decide) (hts _ kw104) (fun _ h9 => h9) rfl dX3_writeTo_3 ?_
  obtain ⟨c1, hf⟩ := kc_e hf
  refine va_iast hx hb hK hP hD hS 2 0 rfl rfl (kin_e c1) dX3_writeTo_6 (fun H locs hP hD hS => ?_)
  generalize ew2 : (upd va1 x2.toNatClampNeg v_n) = w2 at hP hD
  have hf := kl_e hf w2 ew2.symm
  have hP : va_P D vwCl [(q, .inr (3, [.int v_n, .int v_primeNumber, .ref q_numbers])), (q_numbers, .inl (cI, 20, .inl v_numbers)), (qa1, .inl (cI, na1, .inl w2))] H := hP
  have hD : va_D A [(q, .inr (3, [.int v_n, .int v_primeNumber, .ref q_numbers])), (q_numbers, .inl (cI, 20, .inl v_numbers)), (qa1, .inl (cI, na1, .inl w2))] := hD
  refine lv_aload_n hx hb dX3_writeTo_7 rfl (lv_at hl 1 rfl) ?_
  refine lv_iload_n hx hb dX3_writeTo_8 rfl (lv_at hl 2 rfl) ?_
  refine lv_iconst (v := 1) hx hb dX3_writeTo_9 (by decide) ?_
  refine lv_iadd hx hb dX3_writeTo_10 ?_
  refine lv_aload_n hx hb dX3_writeTo_11 rfl (lv_at hl 0 rfl) ?_
  refine va_get (D := D) (ci := 3) (v := .int v_primeNumber) (C := RX3) (T := TX3) (N := 3) hx hb hts kinX3 hown hK hP 0 rfl rfl 1 (by decide) (hts _ kw110) (fun _ h9 => h9) rfl dX3_writeTo_12 ?_
  obtain ⟨c3, hf⟩ := kc_e hf
  refine va_iast hx hb hK hP hD hS 2 0 rfl rfl (kin_e c3) dX3_writeTo_15 (fun H locs hP hD hS => ?_)
  generalize ew4 : (upd w2 (x2 + (1 : Int32)).toNatClampNeg v_primeNumber) = w4 at hP hD
  have hf := kl_e hf w4 ew4.symm
  have hP : va_P D vwCl [(q, .inr (3, [.int v_n, .int v_primeNumber, .ref q_numbers])), (q_numbers, .inl (cI, 20, .inl v_numbers)), (qa1, .inl (cI, na1, .inl w4))] H := hP
  have hD : va_D A [(q, .inr (3, [.int v_n, .int v_primeNumber, .ref q_numbers])), (q_numbers, .inl (cI, 20, .inl v_numbers)), (qa1, .inl (cI, na1, .inl w4))] := hD
  refine lv_aload_n hx hb dX3_writeTo_16 rfl (lv_at hl 0 rfl) ?_
  refine va_get (D := D) (ci := 3) (v := .ref q_numbers) (C := RX3) (T := TX3) (N := 3) hx hb hts kinX3 hown hK hP 0 rfl rfl 2 (by decide) (hts _ kw112) (fun _ h9 => h9) rfl dX3_writeTo_17 ?_
  refine lv_iconst (v := 0) hx hb dX3_writeTo_20 (by decide) ?_
  refine lv_aload_n hx hb dX3_writeTo_21 rfl (lv_at hl 1 rfl) ?_
  refine lv_iload_n hx hb dX3_writeTo_22 rfl (lv_at hl 2 rfl) ?_
  refine lv_iconst (v := 2) hx hb dX3_writeTo_23 (by decide) ?_
  refine lv_iadd hx hb dX3_writeTo_24 ?_
  refine lv_aload_n hx hb dX3_writeTo_25 rfl (lv_at hl 0 rfl) ?_
  refine va_get (D := D) (ci := 3) (v := .ref q_numbers) (C := RX3) (T := TX3) (N := 3) hx hb hts kinX3 hown hK hP 0 rfl rfl 2 (by decide) (hts _ kw112) (fun _ h9 => h9) rfl dX3_writeTo_26 ?_
  refine va_alen hx hb hK hP 1 0 rfl rfl (v := 20) (by decide) dX3_writeTo_29 ?_
  obtain ⟨c5, hf⟩ := kc_e hf
  refine va_copyi hx hb (hml.trans hl.1.symm) hown (hts _ kw697) (hts _ kw699) (hts _ kw698) (hts _ kw81) hK hP hD hS 1 2 0 0 rfl rfl rfl rfl rfl c5.1 c5.2.1 c5.2.2.1 c5.2.2.2.1 c5.2.2.2.2 (fun _ _ => rfl) (by rw [hR]; exact Nat.le_of_ble_eq_true rfl) (by rw [hR]; exact Nat.le_of_ble_eq_true rfl) dX3_writeTo_30 (fun H locs hP hD hS => ?_)
  generalize ew6 : (va_cpy v_numbers w4 (0 : Int32).toNatClampNeg (x2 + (2 : Int32)).toNatClampNeg (20 : Int32).toNatClampNeg) = w6 at hP hD
  have hf := kl_e hf w6 ew6.symm
  have hP : va_P D vwCl [(q, .inr (3, [.int v_n, .int v_primeNumber, .ref q_numbers])), (q_numbers, .inl (cI, 20, .inl v_numbers)), (qa1, .inl (cI, na1, .inl w6))] H := hP
  have hD : va_D A [(q, .inr (3, [.int v_n, .int v_primeNumber, .ref q_numbers])), (q_numbers, .inl (cI, 20, .inl v_numbers)), (qa1, .inl (cI, na1, .inl w6))] := hD
  obtain rfl := ki1 hf
  rw [hQ]
  exact k_vret hat hP hS dX3_writeTo_33
