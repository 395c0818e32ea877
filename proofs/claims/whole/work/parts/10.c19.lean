set_option maxHeartbeats 4000000 in
set_option maxRecDepth 100000 in
theorem c_X11_at {l : Launch} {D : va_G} {cI cJ cQ : ClassId} {tp : Nat} (q : Nat) (q_now : Nat) (q_clearing : Nat) (q_residues : Nat) (q_lifting : Nat) (q_guessed : Nat) (q_walk : Nat) (q_history : Nat) (q_book : Nat) (q_draws : Nat) (q_firstImage : Nat) (q_secondImage : Nat) (q_now_numbers : Nat) (v_now_n : Int32) (v_now_primeNumber : Int32) (v_now_numbers : (Nat → Int32)) (x1 : Int32) (x2 : Int32) (r0 : Int32) (hf : f_X11_at v_now_n v_now_numbers x1 x2 = some r0) : kM (fun A => kQi D A [(q, .inr (10, [.ref q_now, .ref q_clearing, .ref q_residues, .ref q_lifting, .ref q_guessed, .ref q_walk, .ref q_history, .ref q_book, .ref q_draws, .ref q_firstImage, .ref q_secondImage])), (q_now, .inr (3, [.int v_now_n, .int v_now_primeNumber, .ref q_now_numbers])), (q_now_numbers, .inl (cI, 20, .inl v_now_numbers))] r0) (some .int) l yX11_at cX11_at 3 { frames := 1, cells := 0, slots := 0, locals := 22 } D cI cJ cQ tp [.ref q, .int x1, .int x2] [(q, .inr (10, [.ref q_now, .ref q_clearing, .ref q_residues, .ref q_lifting, .ref q_guessed, .ref q_walk, .ref q_history, .ref q_book, .ref q_draws, .ref q_firstImage, .ref q_secondImage])), (q_now, .inr (3, [.int v_now_n, .int v_now_primeNumber, .ref q_now_numbers])), (q_now_numbers, .inl (cI, 20, .inl v_now_numbers))] := by
  refine kM_of (by decide +kernel) (Nat.le_of_ble_eq_true rfl) ?_
  intro p e s m args below meth c A ls R Q hR hQ hat hP hD hS hl
  obtain ⟨hx, hb, hr, hml, hown, hts, hT, hlk, hK, hA, hZ⟩ := id hat
  have hown : s.vm.findClass RX11 = some m.cls := hown
  have hl : lv_has ls 3 [(0, .ref q), (1, .int x1), (2, .int x2)] := hl
  unfold f_X11_at at hf
  refine lv_aload_n hx hb dX11_at_0 rfl (lv_at hl 0 rfl) ?_
  refine va_get (D := D) (ci := 10) (v := .ref q_now) (C := RX11) (T := TX11) (N := 11) hx hb hts kinX11 hown hK hP 0 rfl rfl 0 (by decide) (hts _ kw327) (fun _ h9 => h9) rfl dX11_at_1 ?_
  refine lv_iload_n hx hb dX11_at_4 rfl (lv_at hl 1 rfl) ?_
  obtain ⟨r1, h2, hf⟩ := kb1_e hf
  refine k_gi (nW := 3) (ws' := [(q, .inr (10, [.ref q_now, .ref q_clearing, .ref q_residues, .ref q_lifting, .ref q_guessed, .ref q_walk, .ref q_history, .ref q_book, .ref q_draws, .ref q_firstImage, .ref q_secondImage])), (q_now, .inr (3, [.int v_now_n, .int v_now_primeNumber, .ref q_now_numbers])), (q_now_numbers, .inl (cI, 20, .inl v_now_numbers))]) (wr := [(q, .inr (10, [.ref q_now, .ref q_clearing, .ref q_residues, .ref q_lifting, .ref q_guessed, .ref q_walk, .ref q_history, .ref q_book, .ref q_draws, .ref q_firstImage, .ref q_secondImage])), (q_now_numbers, .inl (cI, 20, .inl v_now_numbers))]) (k_runV (rest := []) hat hP hD hS hl.1 (c_X3_has q_now q_now_numbers v_now_n v_now_primeNumber x1 r1 h2) [1] (by decide) rfl kw580 kw581 kw582 kw68 kw583 kdVX3_has ⟨rfl, rfl⟩ (by rw [hR]; exact ⟨Nat.le_of_ble_eq_true rfl, Nat.le_of_ble_eq_true rfl⟩) ⟨Nat.zero_le _, Nat.zero_le _⟩ 1 3 rfl rfl rfl rfl (Nat.le_of_ble_eq_true rfl) dX11_at_5) hat hP hD hS [1] rfl [0, 2] rfl rfl rfl rfl rfl (by decide) (fun H locs hP hD hS => ?_)
  refine lv_if_eq (tgt := 26) hx hb dX11_at_8 (by decide) (fun c3 => ?_) (fun c3 => ?_)
  · have hf := kp_e hf c3
    refine lv_ldc hx hb hown (hts _ kw584) dX11_at_26 ?_
    obtain rfl := ki1 hf
    rw [hQ]
    exact k_iret hat hP hS rfl dX11_at_28
  · have hf := kn_e hf c3
    refine lv_iload_n hx hb dX11_at_11 rfl (lv_at hl 2 rfl) ?_
    refine lv_if_lt (tgt := 26) hx hb dX11_at_12 (by decide) (fun c4 => ?_) (fun c4 => ?_)
    · have hf := kp_e hf c4
      refine lv_ldc hx hb hown (hts _ kw584) dX11_at_26 ?_
      obtain rfl := ki1 hf
      rw [hQ]
      exact k_iret hat hP hS rfl dX11_at_28
    · have hf := kn_e hf c4
      refine lv_iload_n hx hb dX11_at_15 rfl (lv_at hl 2 rfl) ?_
      refine lv_aload_n hx hb dX11_at_16 rfl (lv_at hl 0 rfl) ?_
      refine va_get (D := D) (ci := 10) (v := .ref q_now) (C := RX11) (T := TX11) (N := 11) hx hb hts kinX11 hown hK hP 0 rfl rfl 0 (by decide) (hts _ kw327) (fun _ h9 => h9) rfl dX11_at_17 ?_
      refine va_get (D := D) (ci := 3) (v := .int v_now_n) (C := RX3) (T := TX3) (N := 3) hx hb hts kinX3 hown hK hP 1 rfl rfl 0 (by decide) (hts _ kw107) (fun _ h9 => h9) rfl dX11_at_20 ?_
      refine lv_icmp_le (tgt := 29) hx hb dX11_at_23 (by decide) (fun c5 => ?_) (fun c5 => ?_)
      · have hf := kp_e hf c5
        refine lv_aload_n hx hb dX11_at_29 rfl (lv_at hl 0 rfl) ?_
        refine va_get (D := D) (ci := 10) (v := .ref q_now) (C := RX11) (T := TX11) (N := 11) hx hb hts kinX11 hown hK hP 0 rfl rfl 0 (by decide) (hts _ kw327) (fun _ h9 => h9) rfl dX11_at_30 ?_
        refine lv_iload_n hx hb dX11_at_33 rfl (lv_at hl 1 rfl) ?_
        refine lv_iload_n hx hb dX11_at_34 rfl (lv_at hl 2 rfl) ?_
        refine lv_aload_n hx hb dX11_at_35 rfl (lv_at hl 0 rfl) ?_
        refine va_get (D := D) (ci := 10) (v := .ref q_now) (C := RX11) (T := TX11) (N := 11) hx hb hts kinX11 hown hK hP 0 rfl rfl 0 (by decide) (hts _ kw327) (fun _ h9 => h9) rfl dX11_at_36 ?_
        refine va_get (D := D) (ci := 3) (v := .int v_now_n) (C := RX3) (T := TX3) (N := 3) hx hb hts kinX3 hown hK hP 1 rfl rfl 0 (by decide) (hts _ kw107) (fun _ h9 => h9) rfl dX11_at_39 ?_
        refine lv_icmp_ne (tgt := 49) hx hb dX11_at_42 (by decide) (fun c6 => ?_) (fun c6 => ?_)
        · have hf := kn_e hf c6
          refine lv_iload_n hx hb dX11_at_49 rfl (lv_at hl 2 rfl) ?_
          obtain ⟨r7, h8, hf⟩ := kb1_e hf
          refine k_gi (nW := 3) (ws' := [(q, .inr (10, [.ref q_now, .ref q_clearing, .ref q_residues, .ref q_lifting, .ref q_guessed, .ref q_walk, .ref q_history, .ref q_book, .ref q_draws, .ref q_firstImage, .ref q_secondImage])), (q_now, .inr (3, [.int v_now_n, .int v_now_primeNumber, .ref q_now_numbers])), (q_now_numbers, .inl (cI, 20, .inl v_now_numbers))]) (wr := [(q, .inr (10, [.ref q_now, .ref q_clearing, .ref q_residues, .ref q_lifting, .ref q_guessed, .ref q_walk, .ref q_history, .ref q_book, .ref q_draws, .ref q_firstImage, .ref q_secondImage]))]) (k_runV (rest := []) hat hP hD hS hl.1 (c_X3_number q_now q_now_numbers v_now_n v_now_primeNumber v_now_numbers x1 x2 r7 h8) [1, 2] (by decide) rfl kw585 kw380 kw381 kw68 kw382 kdVX3_number ⟨rfl, rfl⟩ (by rw [hR]; exact ⟨Nat.le_of_ble_eq_true rfl, Nat.le_of_ble_eq_true rfl⟩) ⟨Nat.zero_le _, Nat.zero_le _⟩ 1 3 rfl rfl rfl rfl (Nat.le_of_ble_eq_true rfl) dX11_at_50) hat hP hD hS [1, 2] rfl [0] rfl rfl rfl rfl rfl (by decide) (fun H locs hP hD hS => ?_)
          refine lv_bipush (v := 100) hx hb dX11_at_53 (by decide) ?_
          refine lv_iadd hx hb dX11_at_55 ?_
          obtain rfl := ki1 hf
          rw [hQ]
          exact k_iret hat hP hS rfl dX11_at_56
        · have hf := kp_e hf c6
          refine lv_iconst (v := 4) hx hb dX11_at_45 (by decide) ?_
          refine lv_goto (tgt := 50) hx hb dX11_at_46 (by decide) ?_
          obtain ⟨r9, h10, hf⟩ := kb1_e hf
          refine k_gi (nW := 3) (ws' := [(q, .inr (10, [.ref q_now, .ref q_clearing, .ref q_residues, .ref q_lifting, .ref q_guessed, .ref q_walk, .ref q_history, .ref q_book, .ref q_draws, .ref q_firstImage, .ref q_secondImage])), (q_now, .inr (3, [.int v_now_n, .int v_now_primeNumber, .ref q_now_numbers])), (q_now_numbers, .inl (cI, 20, .inl v_now_numbers))]) (wr := [(q, .inr (10, [.ref q_now, .ref q_clearing, .ref q_residues, .ref q_lifting, .ref q_guessed, .ref q_walk, .ref q_history, .ref q_book, .ref q_draws, .ref q_firstImage, .ref q_secondImage]))]) (k_runV (rest := []) hat hP hD hS hl.1 (c_X3_number q_now q_now_numbers v_now_n v_now_primeNumber v_now_numbers x1 (4 : Int32) r9 h10) [1, 2] (by decide) rfl kw585 kw380 kw381 kw68 kw382 kdVX3_number ⟨rfl, rfl⟩ (by rw [hR]; exact ⟨Nat.le_of_ble_eq_true rfl, Nat.le_of_ble_eq_true rfl⟩) ⟨Nat.zero_le _, Nat.zero_le _⟩ 1 3 rfl rfl rfl rfl (Nat.le_of_ble_eq_true rfl) dX11_at_50) hat hP hD hS [1, 2] rfl [0] rfl rfl rfl rfl rfl (by decide) (fun H locs hP hD hS => ?_)
          refine lv_bipush (v := 100) hx hb dX11_at_53 (by decide) ?_
          refine lv_iadd hx hb dX11_at_55 ?_
          obtain rfl := ki1 hf
          rw [hQ]
          exact k_iret hat hP hS rfl dX11_at_56
      · have hf := kn_e hf c5
        refine lv_ldc hx hb hown (hts _ kw584) dX11_at_26 ?_
        obtain rfl := ki1 hf
        rw [hQ]
        exact k_iret hat hP hS rfl dX11_at_28
set_option maxHeartbeats 4000000 in
set_option maxRecDepth 100000 in
theorem c_X11_isNeitherPart {l : Launch} {D : va_G} {cI cJ cQ : ClassId} {tp : Nat} (x0 : Int32) (r0 : Int32) (hf : f_X11_isNeitherPart x0 = some r0) : kM (fun A => kQi D A [] r0) (some .boolean) l yX11_isNeitherPart cX11_isNeitherPart 1 { frames := 0, cells := 0, slots := 0, locals := 0 } D cI cJ cQ tp [.int x0] [] := by
  refine kM_of (by decide +kernel) (Nat.le_of_ble_eq_true rfl) ?_
  intro p e s m args below meth c A ls R Q hR hQ hat hP hD hS hl
  obtain ⟨hx, hb, hr, hml, hown, hts, hT, hlk, hK, hA, hZ⟩ := id hat
  have hown : s.vm.findClass RX11 = some m.cls := hown
  have hl : lv_has ls 1 [(0, .int x0)] := hl
  unfold f_X11_isNeitherPart at hf
  refine lv_iload_n hx hb dX11_isNeitherPart_0 rfl (lv_at hl 0 rfl) ?_
  refine lv_if_eq (tgt := 13) hx hb dX11_isNeitherPart_1 (by decide) (fun c1 => ?_) (fun c1 => ?_)
  · have hf := kp_e hf c1
    refine lv_iconst (v := 0) hx hb dX11_isNeitherPart_13 (by decide) ?_
    obtain rfl := ki1 hf
    rw [hQ]
    exact k_zret hat hP hS rfl (by decide) dX11_isNeitherPart_14
  · have hf := kn_e hf c1
    refine lv_iload_n hx hb dX11_isNeitherPart_4 rfl (lv_at hl 0 rfl) ?_
    refine lv_iconst (v := 1) hx hb dX11_isNeitherPart_5 (by decide) ?_
    refine lv_icmp_eq (tgt := 13) hx hb dX11_isNeitherPart_6 (by decide) (fun c2 => ?_) (fun c2 => ?_)
    · have hf := kp_e hf c2
      refine lv_iconst (v := 0) hx hb dX11_isNeitherPart_13 (by decide) ?_
      obtain rfl := ki1 hf
      rw [hQ]
      exact k_zret hat hP hS rfl (by decide) dX11_isNeitherPart_14
    · have hf := kn_e hf c2
      refine lv_iconst (v := 1) hx hb dX11_isNeitherPart_9 (by decide) ?_
      refine lv_goto (tgt := 14) hx hb dX11_isNeitherPart_10 (by decide) ?_
      obtain rfl := ki1 hf
      rw [hQ]
      exact k_zret hat hP hS rfl (by decide) dX11_isNeitherPart_14
set_option maxHeartbeats 4000000 in
set_option maxRecDepth 100000 in
theorem c_X11_shownPart {l : Launch} {D : va_G} {cI cJ cQ : ClassId} {tp : Nat} (x0 : Int64) (x2 : Int64) (x4 : Int32) (r0 : Int32) (hf : f_X11_shownPart x0 x2 x4 = some r0) : kM (fun A => kQi D A [] r0) (some .int) l yX11_shownPart cX11_shownPart 5 { frames := 0, cells := 0, slots := 0, locals := 0 } D cI cJ cQ tp [.long x0, .long x2, .int x4] [] := by
  refine kM_of (by decide +kernel) (Nat.le_of_ble_eq_true rfl) ?_
  intro p e s m args below meth c A ls R Q hR hQ hat hP hD hS hl
  obtain ⟨hx, hb, hr, hml, hown, hts, hT, hlk, hK, hA, hZ⟩ := id hat
  have hown : s.vm.findClass RX11 = some m.cls := hown
  have hl : lv_has ls 5 [(0, .long x0), (2, .long x2), (4, .int x4)] := hl
  unfold f_X11_shownPart at hf
  refine lv_iload hx hb dX11_shownPart_0 (lv_at hl 2 rfl) ?_
  refine lv_if_ne (tgt := 13) hx hb dX11_shownPart_2 (by decide) (fun c1 => ?_) (fun c1 => ?_)
  · have hf := kn_e hf c1
    refine lv_lload_n hx hb dX11_shownPart_13 rfl (lv_at hl 1 rfl) ?_
    refine lv_l2i hx hb dX11_shownPart_14 rfl ?_
    obtain rfl := ki1 hf
    rw [hQ]
    exact k_iret hat hP hS rfl dX11_shownPart_15
  · have hf := kp_e hf c1
    refine lv_lload_n hx hb dX11_shownPart_5 rfl (lv_at hl 0 rfl) ?_
    refine lv_l2i hx hb dX11_shownPart_6 rfl ?_
    refine lv_ldc hx hb hown (hts _ kw424) dX11_shownPart_7 ?_
    refine lv_iadd hx hb dX11_shownPart_9 ?_
    refine lv_goto (tgt := 15) hx hb dX11_shownPart_10 (by decide) ?_
    obtain rfl := ki1 hf
    rw [hQ]
    exact k_iret hat hP hS rfl dX11_shownPart_15
set_option maxHeartbeats 4000000 in
set_option maxRecDepth 100000 in
theorem c_X11_cleared {l : Launch} {D : va_G} {cI cJ cQ : ClassId} {tp : Nat} (q : Nat) (q_now : Nat) (q_clearing : Nat) (q_residues : Nat) (q_lifting : Nat) (q_guessed : Nat) (q_walk : Nat) (q_history : Nat) (q_book : Nat) (q_draws : Nat) (q_firstImage : Nat) (q_secondImage : Nat) (q_now_numbers : Nat) (q_clearing_rows : Nat) (q_clearing_leads : Nat) (q_clearing_rows_r : Nat → Nat) (v_now_n : Int32) (v_now_primeNumber : Int32) (v_now_numbers : (Nat → Int32)) (v_clearing_n : Int32) (v_clearing_rank : Int32) (v_clearing_exchanges : Int32) (v_clearing_width : Int32) (v_clearing_scale : Int64) (v_clearing_rows : (Nat → Nat → Int64)) (v_clearing_leads : (Nat → Int32)) (F : Nat) (x1 : Int32) (x2 : Int32) (x3 : Int32) (r0 : Int32) (o_v_clearing_n : Int32) (o_v_clearing_rank : Int32) (o_v_clearing_exchanges : Int32) (o_v_clearing_scale : Int64) (o_v_clearing_rows : (Nat → Nat → Int64)) (o_v_clearing_leads : (Nat → Int32)) (hf : f_X11_cleared F v_now_n v_now_numbers v_clearing_n v_clearing_rank v_clearing_exchanges v_clearing_width v_clearing_scale v_clearing_rows v_clearing_leads x1 x2 x3 = some (r0, o_v_clearing_n, o_v_clearing_rank, o_v_clearing_exchanges, o_v_clearing_scale, o_v_clearing_rows, o_v_clearing_leads)) : kM (fun A => kQi D A [(q, .inr (10, [.ref q_now, .ref q_clearing, .ref q_residues, .ref q_lifting, .ref q_guessed, .ref q_walk, .ref q_history, .ref q_book, .ref q_draws, .ref q_firstImage, .ref q_secondImage])), (q_now, .inr (3, [.int v_now_n, .int v_now_primeNumber, .ref q_now_numbers])), (q_now_numbers, .inl (cI, 20, .inl v_now_numbers)), (q_clearing, .inr (1, [.int o_v_clearing_n, .int o_v_clearing_rank, .int o_v_clearing_exchanges, .ref q_clearing_rows, .int v_clearing_width, .long o_v_clearing_scale, .ref q_clearing_leads])), (q_clearing_rows, .inl (cQ, 4, .inr (.inr (.inr (.inr (kg q_clearing_rows_r)))))), (q_clearing_rows_r 0, .inl (cJ, 5, .inr (.inl (o_v_clearing_rows 0)))), (q_clearing_rows_r 1, .inl (cJ, 5, .inr (.inl (o_v_clearing_rows 1)))), (q_clearing_rows_r 2, .inl (cJ, 5, .inr (.inl (o_v_clearing_rows 2)))), (q_clearing_rows_r 3, .inl (cJ, 5, .inr (.inl (o_v_clearing_rows 3)))), (q_clearing_leads, .inl (cI, 4, .inl o_v_clearing_leads))] r0) (some .int) l yX11_cleared cX11_cleared 4 { frames := 5, cells := 0, slots := 0, locals := 116 } D cI cJ cQ tp [.ref q, .int x1, .int x2, .int x3] [(q, .inr (10, [.ref q_now, .ref q_clearing, .ref q_residues, .ref q_lifting, .ref q_guessed, .ref q_walk, .ref q_history, .ref q_book, .ref q_draws, .ref q_firstImage, .ref q_secondImage])), (q_now, .inr (3, [.int v_now_n, .int v_now_primeNumber, .ref q_now_numbers])), (q_now_numbers, .inl (cI, 20, .inl v_now_numbers)), (q_clearing, .inr (1, [.int v_clearing_n, .int v_clearing_rank, .int v_clearing_exchanges, .ref q_clearing_rows, .int v_clearing_width, .long v_clearing_scale, .ref q_clearing_leads])), (q_clearing_rows, .inl (cQ, 4, .inr (.inr (.inr (.inr (kg q_clearing_rows_r)))))), (q_clearing_rows_r 0, .inl (cJ, 5, .inr (.inl (v_clearing_rows 0)))), (q_clearing_rows_r 1, .inl (cJ, 5, .inr (.inl (v_clearing_rows 1)))), (q_clearing_rows_r 2, .inl (cJ, 5, .inr (.inl (v_clearing_rows 2)))), (q_clearing_rows_r 3, .inl (cJ, 5, .inr (.inl (v_clearing_rows 3)))), (q_clearing_leads, .inl (cI, 4, .inl v_clearing_leads))] := by
  refine kM_of (by decide +kernel) (Nat.le_of_ble_eq_true rfl) ?_
  intro p e s m args below meth c A ls R Q hR hQ hat hP hD hS hl
  obtain ⟨hx, hb, hr, hml, hown, hts, hT, hlk, hK, hA, hZ⟩ := id hat
  have hown : s.vm.findClass RX11 = some m.cls := hown
  have hl : lv_has ls 4 [(0, .ref q), (1, .int x1), (2, .int x2), (3, .int x3)] := hl
  unfold f_X11_cleared at hf
  refine lv_aload_n hx hb dX11_cleared_0 rfl (lv_at hl 0 rfl) ?_
  refine va_get (D := D) (ci := 10) (v := .ref q_clearing) (C := RX11) (T := TX11) (N := 11) hx hb hts kinX11 hown hK hP 0 rfl rfl 1 (by decide) (hts _ kw328) (fun _ h9 => h9) rfl dX11_cleared_1 ?_
  refine lv_aload_n hx hb dX11_cleared_4 rfl (lv_at hl 0 rfl) ?_
  refine va_get (D := D) (ci := 10) (v := .ref q_now) (C := RX11) (T := TX11) (N := 11) hx hb hts kinX11 hown hK hP 0 rfl rfl 0 (by decide) (hts _ kw327) (fun _ h9 => h9) rfl dX11_cleared_5 ?_
  obtain ⟨w1, w2, w3, w4, w5, w6, h7, hf⟩ := kb6_e hf
  refine k_gv (nW := 10) (ws' := [(q, .inr (10, [.ref q_now, .ref q_clearing, .ref q_residues, .ref q_lifting, .ref q_guessed, .ref q_walk, .ref q_history, .ref q_book, .ref q_draws, .ref q_firstImage, .ref q_secondImage])), (q_now, .inr (3, [.int v_now_n, .int v_now_primeNumber, .ref q_now_numbers])), (q_now_numbers, .inl (cI, 20, .inl v_now_numbers)), (q_clearing, .inr (1, [.int w1, .int w2, .int w3, .ref q_clearing_rows, .int v_clearing_width, .long w4, .ref q_clearing_leads])), (q_clearing_rows, .inl (cQ, 4, .inr (.inr (.inr (.inr (kg q_clearing_rows_r)))))), (q_clearing_rows_r 0, .inl (cJ, 5, .inr (.inl (w5 0)))), (q_clearing_rows_r 1, .inl (cJ, 5, .inr (.inl (w5 1)))), (q_clearing_rows_r 2, .inl (cJ, 5, .inr (.inl (w5 2)))), (q_clearing_rows_r 3, .inl (cJ, 5, .inr (.inl (w5 3)))), (q_clearing_leads, .inl (cI, 4, .inl w6))]) (wr := [(q, .inr (10, [.ref q_now, .ref q_clearing, .ref q_residues, .ref q_lifting, .ref q_guessed, .ref q_walk, .ref q_history, .ref q_book, .ref q_draws, .ref q_firstImage, .ref q_secondImage]))]) (k_runV (rest := []) hat hP hD hS hl.1 (c_X1_clear q_clearing q_now q_clearing_rows q_clearing_leads q_clearing_rows_r q_now_numbers v_clearing_n v_clearing_rank v_clearing_exchanges v_clearing_width v_clearing_scale v_clearing_rows v_clearing_leads v_now_n v_now_primeNumber v_now_numbers F w1 w2 w3 w4 w5 w6 h7) [3, 4, 5, 6, 7, 8, 9, 1, 2] (by decide) rfl kw375 kw376 kw377 kw70 kw378 kdVX1_clear ⟨rfl, rfl⟩ (by rw [hR]; exact ⟨Nat.le_of_ble_eq_true rfl, Nat.le_of_ble_eq_true rfl⟩) ⟨Nat.zero_le _, Nat.zero_le _⟩ 3 1 rfl rfl rfl rfl (Nat.le_of_ble_eq_true rfl) dX11_cleared_8) hat hP hD hS [3, 4, 5, 6, 7, 8, 9, 1, 2] rfl [0] rfl rfl rfl rfl rfl (by decide) (fun H locs hP hD hS => ?_)
  refine lv_iload_n hx hb dX11_cleared_11 rfl (lv_at hl 1 rfl) ?_
  refine lv_if_lt (tgt := 37) hx hb dX11_cleared_12 (by decide) (fun c8 => ?_) (fun c8 => ?_)
  · have hf := kp_e hf c8
    refine lv_ldc hx hb hown (hts _ kw584) dX11_cleared_37 ?_
    obtain ⟨rfl, rfl, rfl, rfl, rfl, rfl, rfl⟩ := ki7 hf
    rw [hQ]
    exact k_iret hat hP hS rfl dX11_cleared_39
  · have hf := kn_e hf c8
    refine lv_iload_n hx hb dX11_cleared_15 rfl (lv_at hl 1 rfl) ?_
    refine lv_aload_n hx hb dX11_cleared_16 rfl (lv_at hl 0 rfl) ?_
    refine va_get (D := D) (ci := 10) (v := .ref q_clearing) (C := RX11) (T := TX11) (N := 11) hx hb hts kinX11 hown hK hP 0 rfl rfl 1 (by decide) (hts _ kw328) (fun _ h9 => h9) rfl dX11_cleared_17 ?_
    refine va_get (D := D) (ci := 1) (v := .int w2) (C := RX1) (T := TX1) (N := 7) hx hb hts kinX1 hown hK hP 3 rfl rfl 1 (by decide) (hts _ kw144) (u_same (hts _ kw143)) rfl dX11_cleared_20 ?_
    refine lv_icmp_ge (tgt := 37) hx hb dX11_cleared_23 (by decide) (fun c9 => ?_) (fun c9 => ?_)
    · have hf := kp_e hf c9
      refine lv_ldc hx hb hown (hts _ kw584) dX11_cleared_37 ?_
      obtain ⟨rfl, rfl, rfl, rfl, rfl, rfl, rfl⟩ := ki7 hf
      rw [hQ]
      exact k_iret hat hP hS rfl dX11_cleared_39
    · have hf := kn_e hf c9
      refine lv_aload_n hx hb dX11_cleared_26 rfl (lv_at hl 0 rfl) ?_
      refine va_get (D := D) (ci := 10) (v := .ref q_now) (C := RX11) (T := TX11) (N := 11) hx hb hts kinX11 hown hK hP 0 rfl rfl 0 (by decide) (hts _ kw327) (fun _ h9 => h9) rfl dX11_cleared_27 ?_
      refine lv_iload_n hx hb dX11_cleared_30 rfl (lv_at hl 2 rfl) ?_
      obtain ⟨r10, h11, hf⟩ := kb1_e hf
      refine k_gi (nW := 10) (ws' := [(q, .inr (10, [.ref q_now, .ref q_clearing, .ref q_residues, .ref q_lifting, .ref q_guessed, .ref q_walk, .ref q_history, .ref q_book, .ref q_draws, .ref q_firstImage, .ref q_secondImage])), (q_now, .inr (3, [.int v_now_n, .int v_now_primeNumber, .ref q_now_numbers])), (q_now_numbers, .inl (cI, 20, .inl v_now_numbers)), (q_clearing, .inr (1, [.int w1, .int w2, .int w3, .ref q_clearing_rows, .int v_clearing_width, .long w4, .ref q_clearing_leads])), (q_clearing_rows, .inl (cQ, 4, .inr (.inr (.inr (.inr (kg q_clearing_rows_r)))))), (q_clearing_rows_r 0, .inl (cJ, 5, .inr (.inl (w5 0)))), (q_clearing_rows_r 1, .inl (cJ, 5, .inr (.inl (w5 1)))), (q_clearing_rows_r 2, .inl (cJ, 5, .inr (.inl (w5 2)))), (q_clearing_rows_r 3, .inl (cJ, 5, .inr (.inl (w5 3)))), (q_clearing_leads, .inl (cI, 4, .inl w6))]) (wr := [(q, .inr (10, [.ref q_now, .ref q_clearing, .ref q_residues, .ref q_lifting, .ref q_guessed, .ref q_walk, .ref q_history, .ref q_book, .ref q_draws, .ref q_firstImage, .ref q_secondImage])), (q_now_numbers, .inl (cI, 20, .inl v_now_numbers)), (q_clearing, .inr (1, [.int w1, .int w2, .int w3, .ref q_clearing_rows, .int v_clearing_width, .long w4, .ref q_clearing_leads])), (q_clearing_rows, .inl (cQ, 4, .inr (.inr (.inr (.inr (kg q_clearing_rows_r)))))), (q_clearing_rows_r 0, .inl (cJ, 5, .inr (.inl (w5 0)))), (q_clearing_rows_r 1, .inl (cJ, 5, .inr (.inl (w5 1)))), (q_clearing_rows_r 2, .inl (cJ, 5, .inr (.inl (w5 2)))), (q_clearing_rows_r 3, .inl (cJ, 5, .inr (.inl (w5 3)))), (q_clearing_leads, .inl (cI, 4, .inl w6))]) (k_runV (rest := []) hat hP hD hS hl.1 (c_X3_has q_now q_now_numbers v_now_n v_now_primeNumber x2 r10 h11) [1] (by decide) rfl kw580 kw581 kw582 kw68 kw583 kdVX3_has ⟨rfl, rfl⟩ (by rw [hR]; exact ⟨Nat.le_of_ble_eq_true rfl, Nat.le_of_ble_eq_true rfl⟩) ⟨Nat.zero_le _, Nat.zero_le _⟩ 1 3 rfl rfl rfl rfl (Nat.le_of_ble_eq_true rfl) dX11_cleared_31) hat hP hD hS [1] rfl [0, 2, 3, 4, 5, 6, 7, 8, 9] rfl rfl rfl rfl rfl (by decide) (fun H locs hP hD hS => ?_)
      refine lv_if_ne (tgt := 40) hx hb dX11_cleared_34 (by decide) (fun c12 => ?_) (fun c12 => ?_)
      · have hf := kn_e hf c12
        refine lv_iload_n hx hb dX11_cleared_40 rfl (lv_at hl 3 rfl) ?_
        obtain ⟨r13, h14, hf⟩ := kb1_e hf
        refine k_gi (nW := 10) (ws' := [(q, .inr (10, [.ref q_now, .ref q_clearing, .ref q_residues, .ref q_lifting, .ref q_guessed, .ref q_walk, .ref q_history, .ref q_book, .ref q_draws, .ref q_firstImage, .ref q_secondImage])), (q_now, .inr (3, [.int v_now_n, .int v_now_primeNumber, .ref q_now_numbers])), (q_now_numbers, .inl (cI, 20, .inl v_now_numbers)), (q_clearing, .inr (1, [.int w1, .int w2, .int w3, .ref q_clearing_rows, .int v_clearing_width, .long w4, .ref q_clearing_leads])), (q_clearing_rows, .inl (cQ, 4, .inr (.inr (.inr (.inr (kg q_clearing_rows_r)))))), (q_clearing_rows_r 0, .inl (cJ, 5, .inr (.inl (w5 0)))), (q_clearing_rows_r 1, .inl (cJ, 5, .inr (.inl (w5 1)))), (q_clearing_rows_r 2, .inl (cJ, 5, .inr (.inl (w5 2)))), (q_clearing_rows_r 3, .inl (cJ, 5, .inr (.inl (w5 3)))), (q_clearing_leads, .inl (cI, 4, .inl w6))]) (wr := [(q, .inr (10, [.ref q_now, .ref q_clearing, .ref q_residues, .ref q_lifting, .ref q_guessed, .ref q_walk, .ref q_history, .ref q_book, .ref q_draws, .ref q_firstImage, .ref q_secondImage])), (q_now, .inr (3, [.int v_now_n, .int v_now_primeNumber, .ref q_now_numbers])), (q_now_numbers, .inl (cI, 20, .inl v_now_numbers)), (q_clearing, .inr (1, [.int w1, .int w2, .int w3, .ref q_clearing_rows, .int v_clearing_width, .long w4, .ref q_clearing_leads])), (q_clearing_rows, .inl (cQ, 4, .inr (.inr (.inr (.inr (kg q_clearing_rows_r)))))), (q_clearing_rows_r 0, .inl (cJ, 5, .inr (.inl (w5 0)))), (q_clearing_rows_r 1, .inl (cJ, 5, .inr (.inl (w5 1)))), (q_clearing_rows_r 2, .inl (cJ, 5, .inr (.inl (w5 2)))), (q_clearing_rows_r 3, .inl (cJ, 5, .inr (.inl (w5 3)))), (q_clearing_leads, .inl (cI, 4, .inl w6))]) (k_runS (rest := []) hat hP hD hS hl.1 (c_X11_isNeitherPart x3 r13 h14) [] (by decide) rfl kw590 kw591 kw67 kw592 kdX11_isNeitherPart ⟨rfl, rfl⟩ (by rw [hR]; exact ⟨Nat.le_of_ble_eq_true rfl, Nat.le_of_ble_eq_true rfl⟩) ⟨Nat.zero_le _, Nat.zero_le _⟩ rfl rfl (Nat.le_of_ble_eq_true rfl) dX11_cleared_41) hat hP hD hS [] rfl [0, 1, 2, 3, 4, 5, 6, 7, 8, 9] rfl rfl rfl rfl rfl (by decide) (fun H locs hP hD hS => ?_)
        refine lv_if_eq (tgt := 50) hx hb dX11_cleared_44 (by decide) (fun c15 => ?_) (fun c15 => ?_)
        · have hf := kp_e hf c15
          refine lv_aload_n hx hb dX11_cleared_50 rfl (lv_at hl 0 rfl) ?_
          refine va_get (D := D) (ci := 10) (v := .ref q_clearing) (C := RX11) (T := TX11) (N := 11) hx hb hts kinX11 hown hK hP 0 rfl rfl 1 (by decide) (hts _ kw328) (fun _ h9 => h9) rfl dX11_cleared_51 ?_
          refine lv_iload_n hx hb dX11_cleared_54 rfl (lv_at hl 1 rfl) ?_
          refine lv_iload_n hx hb dX11_cleared_55 rfl (lv_at hl 2 rfl) ?_
          obtain ⟨r16, h17, hf⟩ := kb1_e hf
          refine k_gl (nW := 10) (ws' := [(q, .inr (10, [.ref q_now, .ref q_clearing, .ref q_residues, .ref q_lifting, .ref q_guessed, .ref q_walk, .ref q_history, .ref q_book, .ref q_draws, .ref q_firstImage, .ref q_secondImage])), (q_now, .inr (3, [.int v_now_n, .int v_now_primeNumber, .ref q_now_numbers])), (q_now_numbers, .inl (cI, 20, .inl v_now_numbers)), (q_clearing, .inr (1, [.int w1, .int w2, .int w3, .ref q_clearing_rows, .int v_clearing_width, .long w4, .ref q_clearing_leads])), (q_clearing_rows, .inl (cQ, 4, .inr (.inr (.inr (.inr (kg q_clearing_rows_r)))))), (q_clearing_rows_r 0, .inl (cJ, 5, .inr (.inl (w5 0)))), (q_clearing_rows_r 1, .inl (cJ, 5, .inr (.inl (w5 1)))), (q_clearing_rows_r 2, .inl (cJ, 5, .inr (.inl (w5 2)))), (q_clearing_rows_r 3, .inl (cJ, 5, .inr (.inl (w5 3)))), (q_clearing_leads, .inl (cI, 4, .inl w6))]) (wr := [(q, .inr (10, [.ref q_now, .ref q_clearing, .ref q_residues, .ref q_lifting, .ref q_guessed, .ref q_walk, .ref q_history, .ref q_book, .ref q_draws, .ref q_firstImage, .ref q_secondImage])), (q_now, .inr (3, [.int v_now_n, .int v_now_primeNumber, .ref q_now_numbers])), (q_now_numbers, .inl (cI, 20, .inl v_now_numbers)), (q_clearing_leads, .inl (cI, 4, .inl w6))]) (k_runV (rest := []) hat hP hD hS hl.1 (c_X1_above q_clearing q_clearing_rows q_clearing_leads q_clearing_rows_r w1 w2 w3 v_clearing_width w4 w5 F x1 x2 r16 h17) [3, 4, 5, 6, 7, 8] (by decide) rfl kw593 kw550 kw551 kw70 kw552 kdVX1_above ⟨rfl, rfl⟩ (by rw [hR]; exact ⟨Nat.le_of_ble_eq_true rfl, Nat.le_of_ble_eq_true rfl⟩) ⟨Nat.zero_le _, Nat.zero_le _⟩ 3 1 rfl rfl rfl rfl (Nat.le_of_ble_eq_true rfl) dX11_cleared_56) hat hP hD hS [3, 4, 5, 6, 7, 8] rfl [0, 1, 2, 9] rfl rfl rfl rfl rfl (by decide) (fun H locs hP hD hS => ?_)
          refine lv_aload_n hx hb dX11_cleared_59 rfl (lv_at hl 0 rfl) ?_
          refine va_get (D := D) (ci := 10) (v := .ref q_clearing) (C := RX11) (T := TX11) (N := 11) hx hb hts kinX11 hown hK hP 0 rfl rfl 1 (by decide) (hts _ kw328) (fun _ h9 => h9) rfl dX11_cleared_60 ?_
          refine lv_iload_n hx hb dX11_cleared_63 rfl (lv_at hl 1 rfl) ?_
          refine lv_iload_n hx hb dX11_cleared_64 rfl (lv_at hl 2 rfl) ?_
          obtain ⟨r18, h19, hf⟩ := kb1_e hf
          refine k_gl (nW := 10) (ws' := [(q, .inr (10, [.ref q_now, .ref q_clearing, .ref q_residues, .ref q_lifting, .ref q_guessed, .ref q_walk, .ref q_history, .ref q_book, .ref q_draws, .ref q_firstImage, .ref q_secondImage])), (q_now, .inr (3, [.int v_now_n, .int v_now_primeNumber, .ref q_now_numbers])), (q_now_numbers, .inl (cI, 20, .inl v_now_numbers)), (q_clearing, .inr (1, [.int w1, .int w2, .int w3, .ref q_clearing_rows, .int v_clearing_width, .long w4, .ref q_clearing_leads])), (q_clearing_rows, .inl (cQ, 4, .inr (.inr (.inr (.inr (kg q_clearing_rows_r)))))), (q_clearing_rows_r 0, .inl (cJ, 5, .inr (.inl (w5 0)))), (q_clearing_rows_r 1, .inl (cJ, 5, .inr (.inl (w5 1)))), (q_clearing_rows_r 2, .inl (cJ, 5, .inr (.inl (w5 2)))), (q_clearing_rows_r 3, .inl (cJ, 5, .inr (.inl (w5 3)))), (q_clearing_leads, .inl (cI, 4, .inl w6))]) (wr := [(q, .inr (10, [.ref q_now, .ref q_clearing, .ref q_residues, .ref q_lifting, .ref q_guessed, .ref q_walk, .ref q_history, .ref q_book, .ref q_draws, .ref q_firstImage, .ref q_secondImage])), (q_now, .inr (3, [.int v_now_n, .int v_now_primeNumber, .ref q_now_numbers])), (q_now_numbers, .inl (cI, 20, .inl v_now_numbers)), (q_clearing_leads, .inl (cI, 4, .inl w6))]) (k_runV (rest := [.long r16]) hat hP hD hS hl.1 (c_X1_below q_clearing q_clearing_rows q_clearing_leads q_clearing_rows_r w1 w2 w3 v_clearing_width w4 w5 F x1 x2 r18 h19) [3, 4, 5, 6, 7, 8] (by decide) rfl kw594 kw452 kw453 kw70 kw454 kdVX1_below ⟨rfl, rfl⟩ (by rw [hR]; exact ⟨Nat.le_of_ble_eq_true rfl, Nat.le_of_ble_eq_true rfl⟩) ⟨Nat.zero_le _, Nat.zero_le _⟩ 3 1 rfl rfl rfl rfl (Nat.le_of_ble_eq_true rfl) dX11_cleared_65) hat hP hD hS [3, 4, 5, 6, 7, 8] rfl [0, 1, 2, 9] rfl rfl rfl rfl rfl (by decide) (fun H locs hP hD hS => ?_)
          refine lv_iload_n hx hb dX11_cleared_68 rfl (lv_at hl 3 rfl) ?_
          obtain ⟨r20, h21, hf⟩ := kb1_e hf
          refine k_gi (nW := 10) (ws' := [(q, .inr (10, [.ref q_now, .ref q_clearing, .ref q_residues, .ref q_lifting, .ref q_guessed, .ref q_walk, .ref q_history, .ref q_book, .ref q_draws, .ref q_firstImage, .ref q_secondImage])), (q_now, .inr (3, [.int v_now_n, .int v_now_primeNumber, .ref q_now_numbers])), (q_now_numbers, .inl (cI, 20, .inl v_now_numbers)), (q_clearing, .inr (1, [.int w1, .int w2, .int w3, .ref q_clearing_rows, .int v_clearing_width, .long w4, .ref q_clearing_leads])), (q_clearing_rows, .inl (cQ, 4, .inr (.inr (.inr (.inr (kg q_clearing_rows_r)))))), (q_clearing_rows_r 0, .inl (cJ, 5, .inr (.inl (w5 0)))), (q_clearing_rows_r 1, .inl (cJ, 5, .inr (.inl (w5 1)))), (q_clearing_rows_r 2, .inl (cJ, 5, .inr (.inl (w5 2)))), (q_clearing_rows_r 3, .inl (cJ, 5, .inr (.inl (w5 3)))), (q_clearing_leads, .inl (cI, 4, .inl w6))]) (wr := [(q, .inr (10, [.ref q_now, .ref q_clearing, .ref q_residues, .ref q_lifting, .ref q_guessed, .ref q_walk, .ref q_history, .ref q_book, .ref q_draws, .ref q_firstImage, .ref q_secondImage])), (q_now, .inr (3, [.int v_now_n, .int v_now_primeNumber, .ref q_now_numbers])), (q_now_numbers, .inl (cI, 20, .inl v_now_numbers)), (q_clearing, .inr (1, [.int w1, .int w2, .int w3, .ref q_clearing_rows, .int v_clearing_width, .long w4, .ref q_clearing_leads])), (q_clearing_rows, .inl (cQ, 4, .inr (.inr (.inr (.inr (kg q_clearing_rows_r)))))), (q_clearing_rows_r 0, .inl (cJ, 5, .inr (.inl (w5 0)))), (q_clearing_rows_r 1, .inl (cJ, 5, .inr (.inl (w5 1)))), (q_clearing_rows_r 2, .inl (cJ, 5, .inr (.inl (w5 2)))), (q_clearing_rows_r 3, .inl (cJ, 5, .inr (.inl (w5 3)))), (q_clearing_leads, .inl (cI, 4, .inl w6))]) (k_runS (rest := []) hat hP hD hS hl.1 (c_X11_shownPart r16 r18 x3 r20 h21) [] (by decide) rfl kw595 kw596 kw67 kw597 kdX11_shownPart ⟨rfl, rfl⟩ (by rw [hR]; exact ⟨Nat.le_of_ble_eq_true rfl, Nat.le_of_ble_eq_true rfl⟩) ⟨Nat.zero_le _, Nat.zero_le _⟩ rfl rfl (Nat.le_of_ble_eq_true rfl) dX11_cleared_69) hat hP hD hS [] rfl [0, 1, 2, 3, 4, 5, 6, 7, 8, 9] rfl rfl rfl rfl rfl (by decide) (fun H locs hP hD hS => ?_)
          obtain ⟨rfl, rfl, rfl, rfl, rfl, rfl, rfl⟩ := ki7 hf
          rw [hQ]
          exact k_iret hat hP hS rfl dX11_cleared_72
        · have hf := kn_e hf c15
          refine lv_ldc hx hb hown (hts _ kw575) dX11_cleared_47 ?_
          obtain ⟨rfl, rfl, rfl, rfl, rfl, rfl, rfl⟩ := ki7 hf
          rw [hQ]
          exact k_iret hat hP hS rfl dX11_cleared_49
      · have hf := kp_e hf c12
        refine lv_ldc hx hb hown (hts _ kw584) dX11_cleared_37 ?_
        obtain ⟨rfl, rfl, rfl, rfl, rfl, rfl, rfl⟩ := ki7 hf
        rw [hQ]
        exact k_iret hat hP hS rfl dX11_cleared_39
set_option maxHeartbeats 4000000 in
set_option maxRecDepth 100000 in
theorem c_X11_solution {l : Launch} {D : va_G} {cI cJ cQ : ClassId} {tp : Nat} (q : Nat) (q_now : Nat) (q_clearing : Nat) (q_residues : Nat) (q_lifting : Nat) (q_guessed : Nat) (q_walk : Nat) (q_history : Nat) (q_book : Nat) (q_draws : Nat) (q_firstImage : Nat) (q_secondImage : Nat) (q_now_numbers : Nat) (q_clearing_rows : Nat) (q_clearing_leads : Nat) (q_clearing_rows_r : Nat → Nat) (v_now_n : Int32) (v_now_primeNumber : Int32) (v_now_numbers : (Nat → Int32)) (v_clearing_n : Int32) (v_clearing_rank : Int32) (v_clearing_exchanges : Int32) (v_clearing_width : Int32) (v_clearing_scale : Int64) (v_clearing_rows : (Nat → Nat → Int64)) (v_clearing_leads : (Nat → Int32)) (F : Nat) (x1 : Int32) (x2 : Int32) (r0 : Int32) (o_v_clearing_n : Int32) (o_v_clearing_rank : Int32) (o_v_clearing_exchanges : Int32) (o_v_clearing_scale : Int64) (o_v_clearing_rows : (Nat → Nat → Int64)) (o_v_clearing_leads : (Nat → Int32)) (hf : f_X11_solution F v_now_n v_now_numbers v_clearing_n v_clearing_rank v_clearing_exchanges v_clearing_width v_clearing_scale v_clearing_rows v_clearing_leads x1 x2 = some (r0, o_v_clearing_n, o_v_clearing_rank, o_v_clearing_exchanges, o_v_clearing_scale, o_v_clearing_rows, o_v_clearing_leads)) : kM (fun A => kQi D A [(q, .inr (10, [.ref q_now, .ref q_clearing, .ref q_residues, .ref q_lifting, .ref q_guessed, .ref q_walk, .ref q_history, .ref q_book, .ref q_draws, .ref q_firstImage, .ref q_secondImage])), (q_now, .inr (3, [.int v_now_n, .int v_now_primeNumber, .ref q_now_numbers])), (q_now_numbers, .inl (cI, 20, .inl v_now_numbers)), (q_clearing, .inr (1, [.int o_v_clearing_n, .int o_v_clearing_rank, .int o_v_clearing_exchanges, .ref q_clearing_rows, .int v_clearing_width, .long o_v_clearing_scale, .ref q_clearing_leads])), (q_clearing_rows, .inl (cQ, 4, .inr (.inr (.inr (.inr (kg q_clearing_rows_r)))))), (q_clearing_rows_r 0, .inl (cJ, 5, .inr (.inl (o_v_clearing_rows 0)))), (q_clearing_rows_r 1, .inl (cJ, 5, .inr (.inl (o_v_clearing_rows 1)))), (q_clearing_rows_r 2, .inl (cJ, 5, .inr (.inl (o_v_clearing_rows 2)))), (q_clearing_rows_r 3, .inl (cJ, 5, .inr (.inl (o_v_clearing_rows 3)))), (q_clearing_leads, .inl (cI, 4, .inl o_v_clearing_leads))] r0) (some .int) l yX11_solution cX11_solution 3 { frames := 5, cells := 0, slots := 0, locals := 116 } D cI cJ cQ tp [.ref q, .int x1, .int x2] [(q, .inr (10, [.ref q_now, .ref q_clearing, .ref q_residues, .ref q_lifting, .ref q_guessed, .ref q_walk, .ref q_history, .ref q_book, .ref q_draws, .ref q_firstImage, .ref q_secondImage])), (q_now, .inr (3, [.int v_now_n, .int v_now_primeNumber, .ref q_now_numbers])), (q_now_numbers, .inl (cI, 20, .inl v_now_numbers)), (q_clearing, .inr (1, [.int v_clearing_n, .int v_clearing_rank, .int v_clearing_exchanges, .ref q_clearing_rows, .int v_clearing_width, .long v_clearing_scale, .ref q_clearing_leads])), (q_clearing_rows, .inl (cQ, 4, .inr (.inr (.inr (.inr (kg q_clearing_rows_r)))))), (q_clearing_rows_r 0, .inl (cJ, 5, .inr (.inl (v_clearing_rows 0)))), (q_clearing_rows_r 1, .inl (cJ, 5, .inr (.inl (v_clearing_rows 1)))), (q_clearing_rows_r 2, .inl (cJ, 5, .inr (.inl (v_clearing_rows 2)))), (q_clearing_rows_r 3, .inl (cJ, 5, .inr (.inl (v_clearing_rows 3)))), (q_clearing_leads, .inl (cI, 4, .inl v_clearing_leads))] := by
  refine kM_of (by decide +kernel) (Nat.le_of_ble_eq_true rfl) ?_
  intro p e s m args below meth c A ls R Q hR hQ hat hP hD hS hl
  obtain ⟨hx, hb, hr, hml, hown, hts, hT, hlk, hK, hA, hZ⟩ := id hat
  have hown : s.vm.findClass RX11 = some m.cls := hown
  have hl : lv_has ls 3 [(0, .ref q), (1, .int x1), (2, .int x2)] := hl
  unfold f_X11_solution at hf
  refine lv_aload_n hx hb dX11_solution_0 rfl (lv_at hl 0 rfl) ?_
  refine va_get (D := D) (ci := 10) (v := .ref q_now) (C := RX11) (T := TX11) (N := 11) hx hb hts kinX11 hown hK hP 0 rfl rfl 0 (by decide) (hts _ kw327) (fun _ h9 => h9) rfl dX11_solution_1 ?_
  refine lv_iload_n hx hb dX11_solution_4 rfl (lv_at hl 1 rfl) ?_
  obtain ⟨r1, h2, hf⟩ := kb1_e hf
  refine k_gi (nW := 10) (ws' := [(q, .inr (10, [.ref q_now, .ref q_clearing, .ref q_residues, .ref q_lifting, .ref q_guessed, .ref q_walk, .ref q_history, .ref q_book, .ref q_draws, .ref q_firstImage, .ref q_secondImage])), (q_now, .inr (3, [.int v_now_n, .int v_now_primeNumber, .ref q_now_numbers])), (q_now_numbers, .inl (cI, 20, .inl v_now_numbers)), (q_clearing, .inr (1, [.int v_clearing_n, .int v_clearing_rank, .int v_clearing_exchanges, .ref q_clearing_rows, .int v_clearing_width, .long v_clearing_scale, .ref q_clearing_leads])), (q_clearing_rows, .inl (cQ, 4, .inr (.inr (.inr (.inr (kg q_clearing_rows_r)))))), (q_clearing_rows_r 0, .inl (cJ, 5, .inr (.inl (v_clearing_rows 0)))), (q_clearing_rows_r 1, .inl (cJ, 5, .inr (.inl (v_clearing_rows 1)))), (q_clearing_rows_r 2, .inl (cJ, 5, .inr (.inl (v_clearing_rows 2)))), (q_clearing_rows_r 3, .inl (cJ, 5, .inr (.inl (v_clearing_rows 3)))), (q_clearing_leads, .inl (cI, 4, .inl v_clearing_leads))]) (wr := [(q, .inr (10, [.ref q_now, .ref q_clearing, .ref q_residues, .ref q_lifting, .ref q_guessed, .ref q_walk, .ref q_history, .ref q_book, .ref q_draws, .ref q_firstImage, .ref q_secondImage])), (q_now_numbers, .inl (cI, 20, .inl v_now_numbers)), (q_clearing, .inr (1, [.int v_clearing_n, .int v_clearing_rank, .int v_clearing_exchanges, .ref q_clearing_rows, .int v_clearing_width, .long v_clearing_scale, .ref q_clearing_leads])), (q_clearing_rows, .inl (cQ, 4, .inr (.inr (.inr (.inr (kg q_clearing_rows_r)))))), (q_clearing_rows_r 0, .inl (cJ, 5, .inr (.inl (v_clearing_rows 0)))), (q_clearing_rows_r 1, .inl (cJ, 5, .inr (.inl (v_clearing_rows 1)))), (q_clearing_rows_r 2, .inl (cJ, 5, .inr (.inl (v_clearing_rows 2)))), (q_clearing_rows_r 3, .inl (cJ, 5, .inr (.inl (v_clearing_rows 3)))), (q_clearing_leads, .inl (cI, 4, .inl v_clearing_leads))]) (k_runV (rest := []) hat hP hD hS hl.1 (c_X3_has q_now q_now_numbers v_now_n v_now_primeNumber x1 r1 h2) [1] (by decide) rfl kw580 kw581 kw582 kw68 kw583 kdVX3_has ⟨rfl, rfl⟩ (by rw [hR]; exact ⟨Nat.le_of_ble_eq_true rfl, Nat.le_of_ble_eq_true rfl⟩) ⟨Nat.zero_le _, Nat.zero_le _⟩ 1 3 rfl rfl rfl rfl (Nat.le_of_ble_eq_true rfl) dX11_solution_5) hat hP hD hS [1] rfl [0, 2, 3, 4, 5, 6, 7, 8, 9] rfl rfl rfl rfl rfl (by decide) (fun H locs hP hD hS => ?_)
  refine lv_if_ne (tgt := 14) hx hb dX11_solution_8 (by decide) (fun c3 => ?_) (fun c3 => ?_)
  · have hf := kn_e hf c3
    refine lv_iload_n hx hb dX11_solution_14 rfl (lv_at hl 2 rfl) ?_
    obtain ⟨r4, h5, hf⟩ := kb1_e hf
    refine k_gi (nW := 10) (ws' := [(q, .inr (10, [.ref q_now, .ref q_clearing, .ref q_residues, .ref q_lifting, .ref q_guessed, .ref q_walk, .ref q_history, .ref q_book, .ref q_draws, .ref q_firstImage, .ref q_secondImage])), (q_now, .inr (3, [.int v_now_n, .int v_now_primeNumber, .ref q_now_numbers])), (q_now_numbers, .inl (cI, 20, .inl v_now_numbers)), (q_clearing, .inr (1, [.int v_clearing_n, .int v_clearing_rank, .int v_clearing_exchanges, .ref q_clearing_rows, .int v_clearing_width, .long v_clearing_scale, .ref q_clearing_leads])), (q_clearing_rows, .inl (cQ, 4, .inr (.inr (.inr (.inr (kg q_clearing_rows_r)))))), (q_clearing_rows_r 0, .inl (cJ, 5, .inr (.inl (v_clearing_rows 0)))), (q_clearing_rows_r 1, .inl (cJ, 5, .inr (.inl (v_clearing_rows 1)))), (q_clearing_rows_r 2, .inl (cJ, 5, .inr (.inl (v_clearing_rows 2)))), (q_clearing_rows_r 3, .inl (cJ, 5, .inr (.inl (v_clearing_rows 3)))), (q_clearing_leads, .inl (cI, 4, .inl v_clearing_leads))]) (wr := [(q, .inr (10, [.ref q_now, .ref q_clearing, .ref q_residues, .ref q_lifting, .ref q_guessed, .ref q_walk, .ref q_history, .ref q_book, .ref q_draws, .ref q_firstImage, .ref q_secondImage])), (q_now, .inr (3, [.int v_now_n, .int v_now_primeNumber, .ref q_now_numbers])), (q_now_numbers, .inl (cI, 20, .inl v_now_numbers)), (q_clearing, .inr (1, [.int v_clearing_n, .int v_clearing_rank, .int v_clearing_exchanges, .ref q_clearing_rows, .int v_clearing_width, .long v_clearing_scale, .ref q_clearing_leads])), (q_clearing_rows, .inl (cQ, 4, .inr (.inr (.inr (.inr (kg q_clearing_rows_r)))))), (q_clearing_rows_r 0, .inl (cJ, 5, .inr (.inl (v_clearing_rows 0)))), (q_clearing_rows_r 1, .inl (cJ, 5, .inr (.inl (v_clearing_rows 1)))), (q_clearing_rows_r 2, .inl (cJ, 5, .inr (.inl (v_clearing_rows 2)))), (q_clearing_rows_r 3, .inl (cJ, 5, .inr (.inl (v_clearing_rows 3)))), (q_clearing_leads, .inl (cI, 4, .inl v_clearing_leads))]) (k_runS (rest := []) hat hP hD hS hl.1 (c_X11_isNeitherPart x2 r4 h5) [] (by decide) rfl kw590 kw591 kw67 kw592 kdX11_isNeitherPart ⟨rfl, rfl⟩ (by rw [hR]; exact ⟨Nat.le_of_ble_eq_true rfl, Nat.le_of_ble_eq_true rfl⟩) ⟨Nat.zero_le _, Nat.zero_le _⟩ rfl rfl (Nat.le_of_ble_eq_true rfl) dX11_solution_15) hat hP hD hS [] rfl [0, 1, 2, 3, 4, 5, 6, 7, 8, 9] rfl rfl rfl rfl rfl (by decide) (fun H locs hP hD hS => ?_)
    refine lv_if_eq (tgt := 24) hx hb dX11_solution_18 (by decide) (fun c6 => ?_) (fun c6 => ?_)
    · have hf := kp_e hf c6
      refine lv_aload_n hx hb dX11_solution_24 rfl (lv_at hl 0 rfl) ?_
      refine va_get (D := D) (ci := 10) (v := .ref q_clearing) (C := RX11) (T := TX11) (N := 11) hx hb hts kinX11 hown hK hP 0 rfl rfl 1 (by decide) (hts _ kw328) (fun _ h9 => h9) rfl dX11_solution_25 ?_
      refine lv_aload_n hx hb dX11_solution_28 rfl (lv_at hl 0 rfl) ?_
      refine va_get (D := D) (ci := 10) (v := .ref q_now) (C := RX11) (T := TX11) (N := 11) hx hb hts kinX11 hown hK hP 0 rfl rfl 0 (by decide) (hts _ kw327) (fun _ h9 => h9) rfl dX11_solution_29 ?_
      obtain ⟨w7, w8, w9, w10, w11, w12, h13, hf⟩ := kb6_e hf
      refine k_gv (nW := 10) (ws' := [(q, .inr (10, [.ref q_now, .ref q_clearing, .ref q_residues, .ref q_lifting, .ref q_guessed, .ref q_walk, .ref q_history, .ref q_book, .ref q_draws, .ref q_firstImage, .ref q_secondImage])), (q_now, .inr (3, [.int v_now_n, .int v_now_primeNumber, .ref q_now_numbers])), (q_now_numbers, .inl (cI, 20, .inl v_now_numbers)), (q_clearing, .inr (1, [.int w7, .int w8, .int w9, .ref q_clearing_rows, .int v_clearing_width, .long w10, .ref q_clearing_leads])), (q_clearing_rows, .inl (cQ, 4, .inr (.inr (.inr (.inr (kg q_clearing_rows_r)))))), (q_clearing_rows_r 0, .inl (cJ, 5, .inr (.inl (w11 0)))), (q_clearing_rows_r 1, .inl (cJ, 5, .inr (.inl (w11 1)))), (q_clearing_rows_r 2, .inl (cJ, 5, .inr (.inl (w11 2)))), (q_clearing_rows_r 3, .inl (cJ, 5, .inr (.inl (w11 3)))), (q_clearing_leads, .inl (cI, 4, .inl w12))]) (wr := [(q, .inr (10, [.ref q_now, .ref q_clearing, .ref q_residues, .ref q_lifting, .ref q_guessed, .ref q_walk, .ref q_history, .ref q_book, .ref q_draws, .ref q_firstImage, .ref q_secondImage]))]) (k_runV (rest := []) hat hP hD hS hl.1 (c_X1_clear q_clearing q_now q_clearing_rows q_clearing_leads q_clearing_rows_r q_now_numbers v_clearing_n v_clearing_rank v_clearing_exchanges v_clearing_width v_clearing_scale v_clearing_rows v_clearing_leads v_now_n v_now_primeNumber v_now_numbers F w7 w8 w9 w10 w11 w12 h13) [3, 4, 5, 6, 7, 8, 9, 1, 2] (by decide) rfl kw375 kw376 kw377 kw70 kw378 kdVX1_clear ⟨rfl, rfl⟩ (by rw [hR]; exact ⟨Nat.le_of_ble_eq_true rfl, Nat.le_of_ble_eq_true rfl⟩) ⟨Nat.zero_le _, Nat.zero_le _⟩ 3 1 rfl rfl rfl rfl (Nat.le_of_ble_eq_true rfl) dX11_solution_32) hat hP hD hS [3, 4, 5, 6, 7, 8, 9, 1, 2] rfl [0] rfl rfl rfl rfl rfl (by decide) (fun H locs hP hD hS => ?_)
      refine lv_aload_n hx hb dX11_solution_35 rfl (lv_at hl 0 rfl) ?_
      refine va_get (D := D) (ci := 10) (v := .ref q_clearing) (C := RX11) (T := TX11) (N := 11) hx hb hts kinX11 hown hK hP 0 rfl rfl 1 (by decide) (hts _ kw328) (fun _ h9 => h9) rfl dX11_solution_36 ?_
      obtain ⟨r14, h15, hf⟩ := kb1_e hf
      refine k_gi (nW := 10) (ws' := [(q, .inr (10, [.ref q_now, .ref q_clearing, .ref q_residues, .ref q_lifting, .ref q_guessed, .ref q_walk, .ref q_history, .ref q_book, .ref q_draws, .ref q_firstImage, .ref q_secondImage])), (q_now, .inr (3, [.int v_now_n, .int v_now_primeNumber, .ref q_now_numbers])), (q_now_numbers, .inl (cI, 20, .inl v_now_numbers)), (q_clearing, .inr (1, [.int w7, .int w8, .int w9, .ref q_clearing_rows, .int v_clearing_width, .long w10, .ref q_clearing_leads])), (q_clearing_rows, .inl (cQ, 4, .inr (.inr (.inr (.inr (kg q_clearing_rows_r)))))), (q_clearing_rows_r 0, .inl (cJ, 5, .inr (.inl (w11 0)))), (q_clearing_rows_r 1, .inl (cJ, 5, .inr (.inl (w11 1)))), (q_clearing_rows_r 2, .inl (cJ, 5, .inr (.inl (w11 2)))), (q_clearing_rows_r 3, .inl (cJ, 5, .inr (.inl (w11 3)))), (q_clearing_leads, .inl (cI, 4, .inl w12))]) (wr := [(q, .inr (10, [.ref q_now, .ref q_clearing, .ref q_residues, .ref q_lifting, .ref q_guessed, .ref q_walk, .ref q_history, .ref q_book, .ref q_draws, .ref q_firstImage, .ref q_secondImage])), (q_now, .inr (3, [.int v_now_n, .int v_now_primeNumber, .ref q_now_numbers])), (q_now_numbers, .inl (cI, 20, .inl v_now_numbers)), (q_clearing_leads, .inl (cI, 4, .inl w12))]) (k_runU (rest := []) hat hP hD hS hl.1 (c_X9_fitsSide_C q_clearing q_clearing_rows q_clearing_leads q_clearing_rows_r w7 w8 w9 v_clearing_width w10 w11 F r14 h15) [3, 4, 5, 6, 7, 8] (by decide) rfl (cu_X11_solution_X9_fitsSide_X1 hat (by rw [hR]; exact ⟨Nat.le_of_ble_eq_true rfl, Nat.le_of_ble_eq_true rfl⟩)) ⟨Nat.zero_le _, Nat.zero_le _⟩ 3 1 rfl rfl rfl rfl (Nat.le_of_ble_eq_true rfl) dX11_solution_39) hat hP hD hS [3, 4, 5, 6, 7, 8] rfl [0, 1, 2, 9] rfl rfl rfl rfl rfl (by decide) (fun H locs hP hD hS => ?_)
      refine lv_if_ne (tgt := 47) hx hb dX11_solution_42 (by decide) (fun c16 => ?_) (fun c16 => ?_)
      · have hf := kn_e hf c16
        refine lv_aload_n hx hb dX11_solution_47 rfl (lv_at hl 0 rfl) ?_
        refine va_get (D := D) (ci := 10) (v := .ref q_clearing) (C := RX11) (T := TX11) (N := 11) hx hb hts kinX11 hown hK hP 0 rfl rfl 1 (by decide) (hts _ kw328) (fun _ h9 => h9) rfl dX11_solution_48 ?_
        refine lv_iload_n hx hb dX11_solution_51 rfl (lv_at hl 1 rfl) ?_
        obtain ⟨r17, h18, hf⟩ := kb1_e hf
        refine k_gl (nW := 10) (ws' := [(q, .inr (10, [.ref q_now, .ref q_clearing, .ref q_residues, .ref q_lifting, .ref q_guessed, .ref q_walk, .ref q_history, .ref q_book, .ref q_draws, .ref q_firstImage, .ref q_secondImage])), (q_now, .inr (3, [.int v_now_n, .int v_now_primeNumber, .ref q_now_numbers])), (q_now_numbers, .inl (cI, 20, .inl v_now_numbers)), (q_clearing, .inr (1, [.int w7, .int w8, .int w9, .ref q_clearing_rows, .int v_clearing_width, .long w10, .ref q_clearing_leads])), (q_clearing_rows, .inl (cQ, 4, .inr (.inr (.inr (.inr (kg q_clearing_rows_r)))))), (q_clearing_rows_r 0, .inl (cJ, 5, .inr (.inl (w11 0)))), (q_clearing_rows_r 1, .inl (cJ, 5, .inr (.inl (w11 1)))), (q_clearing_rows_r 2, .inl (cJ, 5, .inr (.inl (w11 2)))), (q_clearing_rows_r 3, .inl (cJ, 5, .inr (.inl (w11 3)))), (q_clearing_leads, .inl (cI, 4, .inl w12))]) (wr := [(q, .inr (10, [.ref q_now, .ref q_clearing, .ref q_residues, .ref q_lifting, .ref q_guessed, .ref q_walk, .ref q_history, .ref q_book, .ref q_draws, .ref q_firstImage, .ref q_secondImage])), (q_now, .inr (3, [.int v_now_n, .int v_now_primeNumber, .ref q_now_numbers])), (q_now_numbers, .inl (cI, 20, .inl v_now_numbers))]) (k_runV (rest := []) hat hP hD hS hl.1 (c_X1_solutionAbove q_clearing q_clearing_rows q_clearing_leads q_clearing_rows_r w7 w8 w9 v_clearing_width w10 w11 w12 F x1 r17 h18) [3, 4, 5, 6, 7, 8, 9] (by decide) rfl kw603 kw542 kw543 kw70 kw544 kdVX1_solutionAbove ⟨rfl, rfl⟩ (by rw [hR]; exact ⟨Nat.le_of_ble_eq_true rfl, Nat.le_of_ble_eq_true rfl⟩) ⟨Nat.zero_le _, Nat.zero_le _⟩ 3 1 rfl rfl rfl rfl (Nat.le_of_ble_eq_true rfl) dX11_solution_52) hat hP hD hS [3, 4, 5, 6, 7, 8, 9] rfl [0, 1, 2] rfl rfl rfl rfl rfl (by decide) (fun H locs hP hD hS => ?_)
        refine lv_aload_n hx hb dX11_solution_55 rfl (lv_at hl 0 rfl) ?_
        refine va_get (D := D) (ci := 10) (v := .ref q_clearing) (C := RX11) (T := TX11) (N := 11) hx hb hts kinX11 hown hK hP 0 rfl rfl 1 (by decide) (hts _ kw328) (fun _ h9 => h9) rfl dX11_solution_56 ?_
        refine lv_iload_n hx hb dX11_solution_59 rfl (lv_at hl 1 rfl) ?_
        obtain ⟨r19, h20, hf⟩ := kb1_e hf
        refine k_gl (nW := 10) (ws' := [(q, .inr (10, [.ref q_now, .ref q_clearing, .ref q_residues, .ref q_lifting, .ref q_guessed, .ref q_walk, .ref q_history, .ref q_book, .ref q_draws, .ref q_firstImage, .ref q_secondImage])), (q_now, .inr (3, [.int v_now_n, .int v_now_primeNumber, .ref q_now_numbers])), (q_now_numbers, .inl (cI, 20, .inl v_now_numbers)), (q_clearing, .inr (1, [.int w7, .int w8, .int w9, .ref q_clearing_rows, .int v_clearing_width, .long w10, .ref q_clearing_leads])), (q_clearing_rows, .inl (cQ, 4, .inr (.inr (.inr (.inr (kg q_clearing_rows_r)))))), (q_clearing_rows_r 0, .inl (cJ, 5, .inr (.inl (w11 0)))), (q_clearing_rows_r 1, .inl (cJ, 5, .inr (.inl (w11 1)))), (q_clearing_rows_r 2, .inl (cJ, 5, .inr (.inl (w11 2)))), (q_clearing_rows_r 3, .inl (cJ, 5, .inr (.inl (w11 3)))), (q_clearing_leads, .inl (cI, 4, .inl w12))]) (wr := [(q, .inr (10, [.ref q_now, .ref q_clearing, .ref q_residues, .ref q_lifting, .ref q_guessed, .ref q_walk, .ref q_history, .ref q_book, .ref q_draws, .ref q_firstImage, .ref q_secondImage])), (q_now, .inr (3, [.int v_now_n, .int v_now_primeNumber, .ref q_now_numbers])), (q_now_numbers, .inl (cI, 20, .inl v_now_numbers))]) (k_runV (rest := [.long r17]) hat hP hD hS hl.1 (c_X1_solutionBelow q_clearing q_clearing_rows q_clearing_leads q_clearing_rows_r w7 w8 w9 v_clearing_width w10 w11 w12 F x1 r19 h20) [3, 4, 5, 6, 7, 8, 9] (by decide) rfl kw604 kw554 kw555 kw70 kw556 kdVX1_solutionBelow ⟨rfl, rfl⟩ (by rw [hR]; exact ⟨Nat.le_of_ble_eq_true rfl, Nat.le_of_ble_eq_true rfl⟩) ⟨Nat.zero_le _, Nat.zero_le _⟩ 3 1 rfl rfl rfl rfl (Nat.le_of_ble_eq_true rfl) dX11_solution_60) hat hP hD hS [3, 4, 5, 6, 7, 8, 9] rfl [0, 1, 2] rfl rfl rfl rfl rfl (by decide) (fun H locs hP hD hS => ?_)
        refine lv_iload_n hx hb dX11_solution_63 rfl (lv_at hl 2 rfl) ?_
        obtain ⟨r21, h22, hf⟩ := kb1_e hf
        refine k_gi (nW := 10) (ws' := [(q, .inr (10, [.ref q_now, .ref q_clearing, .ref q_residues, .ref q_lifting, .ref q_guessed, .ref q_walk, .ref q_history, .ref q_book, .ref q_draws, .ref q_firstImage, .ref q_secondImage])), (q_now, .inr (3, [.int v_now_n, .int v_now_primeNumber, .ref q_now_numbers])), (q_now_numbers, .inl (cI, 20, .inl v_now_numbers)), (q_clearing, .inr (1, [.int w7, .int w8, .int w9, .ref q_clearing_rows, .int v_clearing_width, .long w10, .ref q_clearing_leads])), (q_clearing_rows, .inl (cQ, 4, .inr (.inr (.inr (.inr (kg q_clearing_rows_r)))))), (q_clearing_rows_r 0, .inl (cJ, 5, .inr (.inl (w11 0)))), (q_clearing_rows_r 1, .inl (cJ, 5, .inr (.inl (w11 1)))), (q_clearing_rows_r 2, .inl (cJ, 5, .inr (.inl (w11 2)))), (q_clearing_rows_r 3, .inl (cJ, 5, .inr (.inl (w11 3)))), (q_clearing_leads, .inl (cI, 4, .inl w12))]) (wr := [(q, .inr (10, [.ref q_now, .ref q_clearing, .ref q_residues, .ref q_lifting, .ref q_guessed, .ref q_walk, .ref q_history, .ref q_book, .ref q_draws, .ref q_firstImage, .ref q_secondImage])), (q_now, .inr (3, [.int v_now_n, .int v_now_primeNumber, .ref q_now_numbers])), (q_now_numbers, .inl (cI, 20, .inl v_now_numbers)), (q_clearing, .inr (1, [.int w7, .int w8, .int w9, .ref q_clearing_rows, .int v_clearing_width, .long w10, .ref q_clearing_leads])), (q_clearing_rows, .inl (cQ, 4, .inr (.inr (.inr (.inr (kg q_clearing_rows_r)))))), (q_clearing_rows_r 0, .inl (cJ, 5, .inr (.inl (w11 0)))), (q_clearing_rows_r 1, .inl (cJ, 5, .inr (.inl (w11 1)))), (q_clearing_rows_r 2, .inl (cJ, 5, .inr (.inl (w11 2)))), (q_clearing_rows_r 3, .inl (cJ, 5, .inr (.inl (w11 3)))), (q_clearing_leads, .inl (cI, 4, .inl w12))]) (k_runS (rest := []) hat hP hD hS hl.1 (c_X11_shownPart r17 r19 x2 r21 h22) [] (by decide) rfl kw595 kw596 kw67 kw597 kdX11_shownPart ⟨rfl, rfl⟩ (by rw [hR]; exact ⟨Nat.le_of_ble_eq_true rfl, Nat.le_of_ble_eq_true rfl⟩) ⟨Nat.zero_le _, Nat.zero_le _⟩ rfl rfl (Nat.le_of_ble_eq_true rfl) dX11_solution_64) hat hP hD hS [] rfl [0, 1, 2, 3, 4, 5, 6, 7, 8, 9] rfl rfl rfl rfl rfl (by decide) (fun H locs hP hD hS => ?_)
        obtain ⟨rfl, rfl, rfl, rfl, rfl, rfl, rfl⟩ := ki7 hf
        rw [hQ]
        exact k_iret hat hP hS rfl dX11_solution_67
      · have hf := kp_e hf c16
        refine lv_iconst (v := -1) hx hb dX11_solution_45 (by decide) ?_
        obtain ⟨rfl, rfl, rfl, rfl, rfl, rfl, rfl⟩ := ki7 hf
        rw [hQ]
        exact k_iret hat hP hS rfl dX11_solution_46
    · have hf := kn_e hf c6
      refine lv_ldc hx hb hown (hts _ kw575) dX11_solution_21 ?_
      obtain ⟨rfl, rfl, rfl, rfl, rfl, rfl, rfl⟩ := ki7 hf
      rw [hQ]
      exact k_iret hat hP hS rfl dX11_solution_23
  · have hf := kp_e hf c3
    refine lv_ldc hx hb hown (hts _ kw584) dX11_solution_11 ?_
    obtain ⟨rfl, rfl, rfl, rfl, rfl, rfl, rfl⟩ := ki7 hf
    rw [hQ]
    exact k_iret hat hP hS rfl dX11_solution_13
set_option maxHeartbeats 4000000 in
set_option maxRecDepth 100000 in
theorem c_X1_vanishing {l : Launch} {D : va_G} {cI cJ cQ : ClassId} {tp : Nat} (q : Nat) (q_rows : Nat) (q_leads : Nat) (q_rows_r : Nat → Nat) (v_n : Int32) (v_rank : Int32) (v_exchanges : Int32) (v_width : Int32) (v_scale : Int64) (v_rows : (Nat → Nat → Int64)) (v_leads : (Nat → Int32)) (F : Nat) (x1 : Int32) (r0 : Int64) (hf : f_X1_vanishing F v_rank v_scale v_rows v_leads x1 = some r0) : kM (fun A => kQl D A [(q, .inr (1, [.int v_n, .int v_rank, .int v_exchanges, .ref q_rows, .int v_width, .long v_scale, .ref q_leads])), (q_rows, .inl (cQ, 4, .inr (.inr (.inr (.inr (kg q_rows_r)))))), (q_rows_r 0, .inl (cJ, 5, .inr (.inl (v_rows 0)))), (q_rows_r 1, .inl (cJ, 5, .inr (.inl (v_rows 1)))), (q_rows_r 2, .inl (cJ, 5, .inr (.inl (v_rows 2)))), (q_rows_r 3, .inl (cJ, 5, .inr (.inl (v_rows 3)))), (q_leads, .inl (cI, 4, .inl v_leads))] r0) (some .long) l yX1_vanishing cX1_vanishing 6 { frames := 3, cells := 0, slots := 0, locals := 94 } D cI cJ cQ tp [.ref q, .int x1] [(q, .inr (1, [.int v_n, .int v_rank, .int v_exchanges, .ref q_rows, .int v_width, .long v_scale, .ref q_leads])), (q_rows, .inl (cQ, 4, .inr (.inr (.inr (.inr (kg q_rows_r)))))), (q_rows_r 0, .inl (cJ, 5, .inr (.inl (v_rows 0)))), (q_rows_r 1, .inl (cJ, 5, .inr (.inl (v_rows 1)))), (q_rows_r 2, .inl (cJ, 5, .inr (.inl (v_rows 2)))), (q_rows_r 3, .inl (cJ, 5, .inr (.inl (v_rows 3)))), (q_leads, .inl (cI, 4, .inl v_leads))] := by
  refine kM_of (by decide +kernel) (Nat.le_of_ble_eq_true rfl) ?_
  intro p e s m args below meth c A ls R Q hR hQ hat hP hD hS hl
  obtain ⟨hx, hb, hr, hml, hown, hts, hT, hlk, hK, hA, hZ⟩ := id hat
  have hown : s.vm.findClass RX1 = some m.cls := hown
  have hl : lv_has ls 6 [(0, .ref q), (1, .int x1)] := hl
  have hL2 : ∀ (x1 : Int32) (v_n : Int32) (v_rank : Int32) (v_exchanges : Int32) (v_width : Int32) (v_scale : Int64) (v_rows : (Nat → Nat → Int64)) (v_leads : (Nat → Int32)) (fu : Nat) (x2 : Int32) (o0 : Int32), L_X1_vanishing_2 x1 v_rank v_leads fu x2 = some o0 → (∀ (H : Heap) (locs : List Loc) (ls : Array Slot), va_P D vwCl [(q, .inr (1, [.int v_n, .int v_rank, .int v_exchanges, .ref q_rows, .int v_width, .long v_scale, .ref q_leads])), (q_rows, .inl (cQ, 4, .inr (.inr (.inr (.inr (kg q_rows_r)))))), (q_rows_r 0, .inl (cJ, 5, .inr (.inl (v_rows 0)))), (q_rows_r 1, .inl (cJ, 5, .inr (.inl (v_rows 1)))), (q_rows_r 2, .inl (cJ, 5, .inr (.inl (v_rows 2)))), (q_rows_r 3, .inl (cJ, 5, .inr (.inl (v_rows 3)))), (q_leads, .inl (cI, 4, .inl v_leads))] H → va_D A [(q, .inr (1, [.int v_n, .int v_rank, .int v_exchanges, .ref q_rows, .int v_width, .long v_scale, .ref q_leads])), (q_rows, .inl (cQ, 4, .inr (.inr (.inr (.inr (kg q_rows_r)))))), (q_rows_r 0, .inl (cJ, 5, .inr (.inl (v_rows 0)))), (q_rows_r 1, .inl (cJ, 5, .inr (.inl (v_rows 1)))), (q_rows_r 2, .inl (cJ, 5, .inr (.inl (v_rows 2)))), (q_rows_r 3, .inl (cJ, 5, .inr (.inl (v_rows 3)))), (q_leads, .inl (cI, 4, .inl v_leads))] → va_S A s.heap H locs → lv_has ls 6 [(0, .ref q), (1, .int x1), (2, .int o0)] → W p l e R s m args below meth c H locs 0 0 Q (F0 m 26 ls [])) → ∀ (H : Heap) (locs : List Loc) (ls : Array Slot), va_P D vwCl [(q, .inr (1, [.int v_n, .int v_rank, .int v_exchanges, .ref q_rows, .int v_width, .long v_scale, .ref q_leads])), (q_rows, .inl (cQ, 4, .inr (.inr (.inr (.inr (kg q_rows_r)))))), (q_rows_r 0, .inl (cJ, 5, .inr (.inl (v_rows 0)))), (q_rows_r 1, .inl (cJ, 5, .inr (.inl (v_rows 1)))), (q_rows_r 2, .inl (cJ, 5, .inr (.inl (v_rows 2)))), (q_rows_r 3, .inl (cJ, 5, .inr (.inl (v_rows 3)))), (q_leads, .inl (cI, 4, .inl v_leads))] H → va_D A [(q, .inr (1, [.int v_n, .int v_rank, .int v_exchanges, .ref q_rows, .int v_width, .long v_scale, .ref q_leads])), (q_rows, .inl (cQ, 4, .inr (.inr (.inr (.inr (kg q_rows_r)))))), (q_rows_r 0, .inl (cJ, 5, .inr (.inl (v_rows 0)))), (q_rows_r 1, .inl (cJ, 5, .inr (.inl (v_rows 1)))), (q_rows_r 2, .inl (cJ, 5, .inr (.inl (v_rows 2)))), (q_rows_r 3, .inl (cJ, 5, .inr (.inl (v_rows 3)))), (q_leads, .inl (cI, 4, .inl v_leads))] → va_S A s.heap H locs → lv_has ls 6 [(0, .ref q), (1, .int x1), (2, .int x2)] → W p l e R s m args below meth c H locs 0 0 Q (F0 m 2 ls []) := by
    intro x1 v_n v_rank v_exchanges v_width v_scale v_rows v_leads fu
    induction fu with
    | zero =>
      intro x2 o0 hf
      cases hf
    | succ fu ih =>
      intro x2 o0 hf hk0 H locs ls hP hD hS hl
      rw [L_X1_vanishing_2] at hf
      refine lv_iload_n hx hb dX1_vanishing_2 rfl (lv_at hl 2 rfl) ?_
      refine lv_aload_n hx hb dX1_vanishing_3 rfl (lv_at hl 0 rfl) ?_
      refine va_get (D := D) (ci := 1) (v := .int v_rank) (C := RX1) (T := TX1) (N := 7) hx hb hts kinX1 hown hK hP 0 rfl rfl 1 (by decide) (hts _ kw142) (u_same (hts _ kw143)) rfl dX1_vanishing_4 ?_
      refine lv_icmp_ge (tgt := 26) hx hb dX1_vanishing_7 (by decide) (fun c1 => ?_) (fun c1 => ?_)
      · have hf := kp_e hf c1
        obtain rfl := ki1 hf
        exact hk0 _ _ _ hP hD hS hl
      · have hf := kn_e hf c1
        refine lv_aload_n hx hb dX1_vanishing_10 rfl (lv_at hl 0 rfl) ?_
        refine va_get (D := D) (ci := 1) (v := .ref q_leads) (C := RX1) (T := TX1) (N := 7) hx hb hts kinX1 hown hK hP 0 rfl rfl 6 (by decide) (hts _ kw133) (fun _ h9 => h9) rfl dX1_vanishing_11 ?_
        refine lv_iload_n hx hb dX1_vanishing_14 rfl (lv_at hl 2 rfl) ?_
        obtain ⟨c2, hf⟩ := kc_e hf
        refine va_iald hx hb hK hP 6 0 rfl rfl (kin_e c2) dX1_vanishing_15 ?_
        refine lv_iload_n hx hb dX1_vanishing_16 rfl (lv_at hl 2 rfl) ?_
        refine lv_icmp_ne (tgt := 26) hx hb dX1_vanishing_17 (by decide) (fun c3 => ?_) (fun c3 => ?_)
        · have hf := kn_e hf c3
          obtain rfl := ki1 hf
          exact hk0 _ _ _ hP hD hS hl
        · have hf := kp_e hf c3
          obtain ⟨t4, et4⟩ : ∃ z : Int32, z = (x2 + (1 : Int32)) := ⟨_, rfl⟩
          have hf := kl_e hf t4 et4
          refine lv_iinc (v := t4) (lv' := [(2, .int t4), (0, .ref q), (1, .int x1)]) hx hb dX1_vanishing_20 hl (k := 2) rfl (by rw [et4]; rfl) (by decide) rfl (fun ls hl => ?_)
          refine lv_goto (tgt := 2) hx hb dX1_vanishing_23 (by decide) ?_
          exact ih t4 o0 hf hk0 _ _ _ hP hD hS (lv_sub hl [1, 2, 0] rfl)
  have hL31 : ∀ (x1 : Int32) (x2 : Int32) (v_n : Int32) (v_rank : Int32) (v_exchanges : Int32) (v_width : Int32) (v_scale : Int64) (v_rows : (Nat → Nat → Int64)) (v_leads : (Nat → Int32)) (fu : Nat) (x3 : Int64) (x5 : Int32) (o0 : Int64), L_X1_vanishing_31 F x1 x2 v_rank v_scale v_rows fu x3 x5 = some o0 → (∀ (H : Heap) (locs : List Loc) (ls : Array Slot), va_P D vwCl [(q, .inr (1, [.int v_n, .int v_rank, .int v_exchanges, .ref q_rows, .int v_width, .long v_scale, .ref q_leads])), (q_rows, .inl (cQ, 4, .inr (.inr (.inr (.inr (kg q_rows_r)))))), (q_rows_r 0, .inl (cJ, 5, .inr (.inl (v_rows 0)))), (q_rows_r 1, .inl (cJ, 5, .inr (.inl (v_rows 1)))), (q_rows_r 2, .inl (cJ, 5, .inr (.inl (v_rows 2)))), (q_rows_r 3, .inl (cJ, 5, .inr (.inl (v_rows 3)))), (q_leads, .inl (cI, 4, .inl v_leads))] H → va_D A [(q, .inr (1, [.int v_n, .int v_rank, .int v_exchanges, .ref q_rows, .int v_width, .long v_scale, .ref q_leads])), (q_rows, .inl (cQ, 4, .inr (.inr (.inr (.inr (kg q_rows_r)))))), (q_rows_r 0, .inl (cJ, 5, .inr (.inl (v_rows 0)))), (q_rows_r 1, .inl (cJ, 5, .inr (.inl (v_rows 1)))), (q_rows_r 2, .inl (cJ, 5, .inr (.inl (v_rows 2)))), (q_rows_r 3, .inl (cJ, 5, .inr (.inl (v_rows 3)))), (q_leads, .inl (cI, 4, .inl v_leads))] → va_S A s.heap H locs → lv_has ls 6 [(0, .ref q), (1, .int x1), (2, .int x2), (3, .long o0)] → W p l e R s m args below meth c H locs 0 0 Q (F0 m 70 ls [])) → ∀ (H : Heap) (locs : List Loc) (ls : Array Slot), va_P D vwCl [(q, .inr (1, [.int v_n, .int v_rank, .int v_exchanges, .ref q_rows, .int v_width, .long v_scale, .ref q_leads])), (q_rows, .inl (cQ, 4, .inr (.inr (.inr (.inr (kg q_rows_r)))))), (q_rows_r 0, .inl (cJ, 5, .inr (.inl (v_rows 0)))), (q_rows_r 1, .inl (cJ, 5, .inr (.inl (v_rows 1)))), (q_rows_r 2, .inl (cJ, 5, .inr (.inl (v_rows 2)))), (q_rows_r 3, .inl (cJ, 5, .inr (.inl (v_rows 3)))), (q_leads, .inl (cI, 4, .inl v_leads))] H → va_D A [(q, .inr (1, [.int v_n, .int v_rank, .int v_exchanges, .ref q_rows, .int v_width, .long v_scale, .ref q_leads])), (q_rows, .inl (cQ, 4, .inr (.inr (.inr (.inr (kg q_rows_r)))))), (q_rows_r 0, .inl (cJ, 5, .inr (.inl (v_rows 0)))), (q_rows_r 1, .inl (cJ, 5, .inr (.inl (v_rows 1)))), (q_rows_r 2, .inl (cJ, 5, .inr (.inl (v_rows 2)))), (q_rows_r 3, .inl (cJ, 5, .inr (.inl (v_rows 3)))), (q_leads, .inl (cI, 4, .inl v_leads))] → va_S A s.heap H locs → lv_has ls 6 [(0, .ref q), (1, .int x1), (2, .int x2), (3, .long x3), (5, .int x5)] → W p l e R s m args below meth c H locs 0 0 Q (F0 m 31 ls []) := by
    intro x1 x2 v_n v_rank v_exchanges v_width v_scale v_rows v_leads fu
    induction fu with
    | zero =>
      intro x3 x5 o0 hf
      cases hf
    | succ fu ih =>
      intro x3 x5 o0 hf hk0 H locs ls hP hD hS hl
      rw [L_X1_vanishing_31] at hf
      refine lv_iload hx hb dX1_vanishing_31 (lv_at hl 4 rfl) ?_
      refine lv_aload_n hx hb dX1_vanishing_33 rfl (lv_at hl 0 rfl) ?_
      refine va_get (D := D) (ci := 1) (v := .int v_rank) (C := RX1) (T := TX1) (N := 7) hx hb hts kinX1 hown hK hP 0 rfl rfl 1 (by decide) (hts _ kw142) (u_same (hts _ kw143)) rfl dX1_vanishing_34 ?_
      refine lv_icmp_ge (tgt := 70) hx hb dX1_vanishing_37 (by decide) (fun c6 => ?_) (fun c6 => ?_)
      · have hf := kp_e hf c6
        obtain rfl := ki1 hf
        exact hk0 _ _ _ hP hD hS (lv_sub hl [0, 1, 2, 3] rfl)
      · have hf := kn_e hf c6
        refine lv_lload_n hx hb dX1_vanishing_40 rfl (lv_at hl 3 rfl) ?_
        refine lv_aload_n hx hb dX1_vanishing_41 rfl (lv_at hl 0 rfl) ?_
        refine lv_iload hx hb dX1_vanishing_42 (lv_at hl 4 rfl) ?_
        refine lv_iload_n hx hb dX1_vanishing_44 rfl (lv_at hl 2 rfl) ?_
        obtain ⟨r7, h8, hf⟩ := kb1_e hf
        refine k_gl (nW := 7) (ws' := [(q, .inr (1, [.int v_n, .int v_rank, .int v_exchanges, .ref q_rows, .int v_width, .long v_scale, .ref q_leads])), (q_rows, .inl (cQ, 4, .inr (.inr (.inr (.inr (kg q_rows_r)))))), (q_rows_r 0, .inl (cJ, 5, .inr (.inl (v_rows 0)))), (q_rows_r 1, .inl (cJ, 5, .inr (.inl (v_rows 1)))), (q_rows_r 2, .inl (cJ, 5, .inr (.inl (v_rows 2)))), (q_rows_r 3, .inl (cJ, 5, .inr (.inl (v_rows 3)))), (q_leads, .inl (cI, 4, .inl v_leads))]) (wr := [(q_leads, .inl (cI, 4, .inl v_leads))]) (k_runV (rest := [.long x3]) hat hP hD hS hl.1 (c_X1_below q q_rows q_leads q_rows_r v_n v_rank v_exchanges v_width v_scale v_rows F x5 x2 r7 h8) [0, 1, 2, 3, 4, 5] (by decide) rfl kw451 kw452 kw453 kw70 kw454 kdVX1_below ⟨rfl, rfl⟩ (by rw [hR]; exact ⟨Nat.le_of_ble_eq_true rfl, Nat.le_of_ble_eq_true rfl⟩) ⟨Nat.zero_le _, Nat.zero_le _⟩ 0 1 rfl rfl rfl rfl (Nat.le_of_ble_eq_true rfl) dX1_vanishing_45) hat hP hD hS [0, 1, 2, 3, 4, 5] rfl [6] rfl rfl rfl rfl rfl (by decide) (fun H locs hP hD hS => ?_)
        refine lv_lload_n hx hb dX1_vanishing_48 rfl (lv_at hl 3 rfl) ?_
        refine lv_aload_n hx hb dX1_vanishing_49 rfl (lv_at hl 0 rfl) ?_
        refine lv_iload hx hb dX1_vanishing_50 (lv_at hl 4 rfl) ?_
        refine lv_iload_n hx hb dX1_vanishing_52 rfl (lv_at hl 2 rfl) ?_
        obtain ⟨r9, h10, hf⟩ := kb1_e hf
        refine k_gl (nW := 7) (ws' := [(q, .inr (1, [.int v_n, .int v_rank, .int v_exchanges, .ref q_rows, .int v_width, .long v_scale, .ref q_leads])), (q_rows, .inl (cQ, 4, .inr (.inr (.inr (.inr (kg q_rows_r)))))), (q_rows_r 0, .inl (cJ, 5, .inr (.inl (v_rows 0)))), (q_rows_r 1, .inl (cJ, 5, .inr (.inl (v_rows 1)))), (q_rows_r 2, .inl (cJ, 5, .inr (.inl (v_rows 2)))), (q_rows_r 3, .inl (cJ, 5, .inr (.inl (v_rows 3)))), (q_leads, .inl (cI, 4, .inl v_leads))]) (wr := [(q_leads, .inl (cI, 4, .inl v_leads))]) (k_runV (rest := [.long x3, .long r7, .long x3]) hat hP hD hS hl.1 (c_X1_below q q_rows q_leads q_rows_r v_n v_rank v_exchanges v_width v_scale v_rows F x5 x2 r9 h10) [0, 1, 2, 3, 4, 5] (by decide) rfl kw451 kw452 kw453 kw70 kw454 kdVX1_below ⟨rfl, rfl⟩ (by rw [hR]; exact ⟨Nat.le_of_ble_eq_true rfl, Nat.le_of_ble_eq_true rfl⟩) ⟨Nat.zero_le _, Nat.zero_le _⟩ 0 1 rfl rfl rfl rfl (Nat.le_of_ble_eq_true rfl) dX1_vanishing_53) hat hP hD hS [0, 1, 2, 3, 4, 5] rfl [6] rfl rfl rfl rfl rfl (by decide) (fun H locs hP hD hS => ?_)
        obtain ⟨r11, h12, hf⟩ := kb1_e hf
        refine k_gl (nW := 7) (ws' := [(q, .inr (1, [.int v_n, .int v_rank, .int v_exchanges, .ref q_rows, .int v_width, .long v_scale, .ref q_leads])), (q_rows, .inl (cQ, 4, .inr (.inr (.inr (.inr (kg q_rows_r)))))), (q_rows_r 0, .inl (cJ, 5, .inr (.inl (v_rows 0)))), (q_rows_r 1, .inl (cJ, 5, .inr (.inl (v_rows 1)))), (q_rows_r 2, .inl (cJ, 5, .inr (.inl (v_rows 2)))), (q_rows_r 3, .inl (cJ, 5, .inr (.inl (v_rows 3)))), (q_leads, .inl (cI, 4, .inl v_leads))]) (wr := [(q, .inr (1, [.int v_n, .int v_rank, .int v_exchanges, .ref q_rows, .int v_width, .long v_scale, .ref q_leads])), (q_rows, .inl (cQ, 4, .inr (.inr (.inr (.inr (kg q_rows_r)))))), (q_rows_r 0, .inl (cJ, 5, .inr (.inl (v_rows 0)))), (q_rows_r 1, .inl (cJ, 5, .inr (.inl (v_rows 1)))), (q_rows_r 2, .inl (cJ, 5, .inr (.inl (v_rows 2)))), (q_rows_r 3, .inl (cJ, 5, .inr (.inl (v_rows 3)))), (q_leads, .inl (cI, 4, .inl v_leads))]) (k_runSN (rest := [.long r7, .long x3]) hat hP hD hS hl.1 (c_X11_gcd F x3 r9 r11 h12) [] (by decide) rfl kw458 kw459 kw67 kw460 kdX11_gcd ⟨rfl, rfl⟩ (by rw [hR]; exact ⟨Nat.le_of_ble_eq_true rfl, Nat.le_of_ble_eq_true rfl⟩) ⟨Nat.zero_le _, Nat.zero_le _⟩ rfl rfl (Nat.le_of_ble_eq_true rfl) dX1_vanishing_56) hat hP hD hS [] rfl [0, 1, 2, 3, 4, 5, 6] rfl rfl rfl rfl rfl (by decide) (fun H locs hP hD hS => ?_)
        obtain ⟨r13, h14, hf⟩ := kb1_e hf
        refine k_gl (nW := 7) (ws' := [(q, .inr (1, [.int v_n, .int v_rank, .int v_exchanges, .ref q_rows, .int v_width, .long v_scale, .ref q_leads])), (q_rows, .inl (cQ, 4, .inr (.inr (.inr (.inr (kg q_rows_r)))))), (q_rows_r 0, .inl (cJ, 5, .inr (.inl (v_rows 0)))), (q_rows_r 1, .inl (cJ, 5, .inr (.inl (v_rows 1)))), (q_rows_r 2, .inl (cJ, 5, .inr (.inl (v_rows 2)))), (q_rows_r 3, .inl (cJ, 5, .inr (.inl (v_rows 3)))), (q_leads, .inl (cI, 4, .inl v_leads))]) (wr := [(q, .inr (1, [.int v_n, .int v_rank, .int v_exchanges, .ref q_rows, .int v_width, .long v_scale, .ref q_leads])), (q_rows, .inl (cQ, 4, .inr (.inr (.inr (.inr (kg q_rows_r)))))), (q_rows_r 0, .inl (cJ, 5, .inr (.inl (v_rows 0)))), (q_rows_r 1, .inl (cJ, 5, .inr (.inl (v_rows 1)))), (q_rows_r 2, .inl (cJ, 5, .inr (.inl (v_rows 2)))), (q_rows_r 3, .inl (cJ, 5, .inr (.inl (v_rows 3)))), (q_leads, .inl (cI, 4, .inl v_leads))]) (k_runSN (rest := [.long x3]) hat hP hD hS hl.1 (c_X11_quotient r7 r11 r13 h14) [] (by decide) rfl kw407 kw408 kw67 kw409 kdX11_quotient ⟨rfl, rfl⟩ (by rw [hR]; exact ⟨Nat.le_of_ble_eq_true rfl, Nat.le_of_ble_eq_true rfl⟩) ⟨Nat.zero_le _, Nat.zero_le _⟩ rfl rfl (Nat.le_of_ble_eq_true rfl) dX1_vanishing_59) hat hP hD hS [] rfl [0, 1, 2, 3, 4, 5, 6] rfl rfl rfl rfl rfl (by decide) (fun H locs hP hD hS => ?_)
        refine lv_lmul hx hb dX1_vanishing_62 ?_
        refine lv_topl (fun t15 et15 => ?_)
        have hf := kl_e hf t15 et15
        refine lv_lstore_n (lv' := [(3, .long t15), (0, .ref q), (1, .int x1), (2, .int x2), (5, .int x5)]) hx hb dX1_vanishing_63 rfl hl (by decide) rfl (fun ls hl => ?_)
        obtain ⟨t16, et16⟩ : ∃ z : Int32, z = (x5 + (1 : Int32)) := ⟨_, rfl⟩
        have hf := kl_e hf t16 et16
        refine lv_iinc (v := t16) (lv' := [(5, .int t16), (3, .long t15), (0, .ref q), (1, .int x1), (2, .int x2)]) hx hb dX1_vanishing_64 hl (k := 4) rfl (by rw [et16]; rfl) (by decide) rfl (fun ls hl => ?_)
        refine lv_goto (tgt := 31) hx hb dX1_vanishing_67 (by decide) ?_
        exact ih t15 t16 o0 hf hk0 _ _ _ hP hD hS (lv_sub hl [2, 3, 4, 1, 0] rfl)
  unfold f_X1_vanishing at hf
  refine lv_iconst (v := 0) hx hb dX1_vanishing_0 (by decide) ?_
  refine lv_istore_n (lv' := [(2, .int (0 : Int32)), (0, .ref q), (1, .int x1)]) hx hb dX1_vanishing_1 rfl hl (by decide) rfl (fun ls hl => ?_)
  obtain ⟨y5, hu, hf⟩ := kb1_e hf
  refine hL2 x1 v_n v_rank v_exchanges v_width v_scale v_rows v_leads F (0 : Int32) y5 hu (fun H locs ls hP hD hS hl => ?_) _ _ _ hP hD hS (lv_sub hl [1, 2, 0] rfl)
  refine lv_lconst (v := 1) hx hb dX1_vanishing_26 (by decide) ?_
  refine lv_lstore_n (lv' := [(3, .long (1 : Int64)), (0, .ref q), (1, .int x1), (2, .int y5)]) hx hb dX1_vanishing_27 rfl hl (by decide) rfl (fun ls hl => ?_)
  refine lv_iconst (v := 0) hx hb dX1_vanishing_28 (by decide) ?_
  refine lv_istore (lv' := [(5, .int (0 : Int32)), (3, .long (1 : Int64)), (0, .ref q), (1, .int x1), (2, .int y5)]) hx hb dX1_vanishing_29 hl (by decide) rfl (fun ls hl => ?_)
  obtain ⟨y17, hu, hf⟩ := kb1_e hf
  refine hL31 x1 y5 v_n v_rank v_exchanges v_width v_scale v_rows v_leads F (1 : Int64) (0 : Int32) y17 hu (fun H locs ls hP hD hS hl => ?_) _ _ _ hP hD hS (lv_sub hl [2, 3, 4, 1, 0] rfl)
  refine lv_iload_n hx hb dX1_vanishing_70 rfl (lv_at hl 1 rfl) ?_
  refine lv_iload_n hx hb dX1_vanishing_71 rfl (lv_at hl 2 rfl) ?_
  refine lv_icmp_ne (tgt := 77) hx hb dX1_vanishing_72 (by decide) (fun c18 => ?_) (fun c18 => ?_)
  · have hf := kn_e hf c18
    refine lv_aload_n hx hb dX1_vanishing_77 rfl (lv_at hl 0 rfl) ?_
    refine lv_iload_n hx hb dX1_vanishing_78 rfl (lv_at hl 1 rfl) ?_
    obtain ⟨r19, h20, hf⟩ := kb1_e hf
    refine k_gi (nW := 7) (ws' := [(q, .inr (1, [.int v_n, .int v_rank, .int v_exchanges, .ref q_rows, .int v_width, .long v_scale, .ref q_leads])), (q_rows, .inl (cQ, 4, .inr (.inr (.inr (.inr (kg q_rows_r)))))), (q_rows_r 0, .inl (cJ, 5, .inr (.inl (v_rows 0)))), (q_rows_r 1, .inl (cJ, 5, .inr (.inl (v_rows 1)))), (q_rows_r 2, .inl (cJ, 5, .inr (.inl (v_rows 2)))), (q_rows_r 3, .inl (cJ, 5, .inr (.inl (v_rows 3)))), (q_leads, .inl (cI, 4, .inl v_leads))]) (wr := [(q_rows, .inl (cQ, 4, .inr (.inr (.inr (.inr (kg q_rows_r)))))), (q_rows_r 0, .inl (cJ, 5, .inr (.inl (v_rows 0)))), (q_rows_r 1, .inl (cJ, 5, .inr (.inl (v_rows 1)))), (q_rows_r 2, .inl (cJ, 5, .inr (.inl (v_rows 2)))), (q_rows_r 3, .inl (cJ, 5, .inr (.inl (v_rows 3))))]) (k_runV (rest := []) hat hP hD hS hl.1 (c_X1_rowLedBy q q_rows q_leads v_n v_rank v_exchanges v_width v_scale v_leads F x1 r19 h20) [0, 6] (by decide) rfl kw545 kw547 kw9 kw70 kw548 kdVX1_rowLedBy ⟨rfl, rfl⟩ (by rw [hR]; exact ⟨Nat.le_of_ble_eq_true rfl, Nat.le_of_ble_eq_true rfl⟩) ⟨Nat.zero_le _, Nat.zero_le _⟩ 0 1 rfl rfl rfl rfl (Nat.le_of_ble_eq_true rfl) dX1_vanishing_79) hat hP hD hS [0, 6] rfl [1, 2, 3, 4, 5] rfl rfl rfl rfl rfl (by decide) (fun H locs hP hD hS => ?_)
    refine lv_istore (lv' := [(5, .int r19), (0, .ref q), (1, .int x1), (2, .int y5), (3, .long y17)]) hx hb dX1_vanishing_82 hl (by decide) rfl (fun ls hl => ?_)
    refine lv_iload hx hb dX1_vanishing_84 (lv_at hl 0 rfl) ?_
    refine lv_iconst (v := -1) hx hb dX1_vanishing_86 (by decide) ?_
    refine lv_icmp_ne (tgt := 94) hx hb dX1_vanishing_87 (by decide) (fun c21 => ?_) (fun c21 => ?_)
    · have hf := kn_e hf c21
      refine lv_aload_n hx hb dX1_vanishing_94 rfl (lv_at hl 1 rfl) ?_
      refine lv_iload hx hb dX1_vanishing_95 (lv_at hl 0 rfl) ?_
      refine lv_iload_n hx hb dX1_vanishing_97 rfl (lv_at hl 3 rfl) ?_
      obtain ⟨r22, h23, hf⟩ := kb1_e hf
      refine k_gl (nW := 7) (ws' := [(q, .inr (1, [.int v_n, .int v_rank, .int v_exchanges, .ref q_rows, .int v_width, .long v_scale, .ref q_leads])), (q_rows, .inl (cQ, 4, .inr (.inr (.inr (.inr (kg q_rows_r)))))), (q_rows_r 0, .inl (cJ, 5, .inr (.inl (v_rows 0)))), (q_rows_r 1, .inl (cJ, 5, .inr (.inl (v_rows 1)))), (q_rows_r 2, .inl (cJ, 5, .inr (.inl (v_rows 2)))), (q_rows_r 3, .inl (cJ, 5, .inr (.inl (v_rows 3)))), (q_leads, .inl (cI, 4, .inl v_leads))]) (wr := [(q_leads, .inl (cI, 4, .inl v_leads))]) (k_runV (rest := []) hat hP hD hS hl.1 (c_X1_above q q_rows q_leads q_rows_r v_n v_rank v_exchanges v_width v_scale v_rows F r19 y5 r22 h23) [0, 1, 2, 3, 4, 5] (by decide) rfl kw549 kw550 kw551 kw70 kw552 kdVX1_above ⟨rfl, rfl⟩ (by rw [hR]; exact ⟨Nat.le_of_ble_eq_true rfl, Nat.le_of_ble_eq_true rfl⟩) ⟨Nat.zero_le _, Nat.zero_le _⟩ 0 1 rfl rfl rfl rfl (Nat.le_of_ble_eq_true rfl) dX1_vanishing_98) hat hP hD hS [0, 1, 2, 3, 4, 5] rfl [6] rfl rfl rfl rfl rfl (by decide) (fun H locs hP hD hS => ?_)
      refine lv_lneg hx hb dX1_vanishing_101 ?_
      refine lv_lload_n hx hb dX1_vanishing_102 rfl (lv_at hl 4 rfl) ?_
      refine lv_aload_n hx hb dX1_vanishing_103 rfl (lv_at hl 1 rfl) ?_
      refine lv_iload hx hb dX1_vanishing_104 (lv_at hl 0 rfl) ?_
      refine lv_iload_n hx hb dX1_vanishing_106 rfl (lv_at hl 3 rfl) ?_
      obtain ⟨r24, h25, hf⟩ := kb1_e hf
      refine k_gl (nW := 7) (ws' := [(q, .inr (1, [.int v_n, .int v_rank, .int v_exchanges, .ref q_rows, .int v_width, .long v_scale, .ref q_leads])), (q_rows, .inl (cQ, 4, .inr (.inr (.inr (.inr (kg q_rows_r)))))), (q_rows_r 0, .inl (cJ, 5, .inr (.inl (v_rows 0)))), (q_rows_r 1, .inl (cJ, 5, .inr (.inl (v_rows 1)))), (q_rows_r 2, .inl (cJ, 5, .inr (.inl (v_rows 2)))), (q_rows_r 3, .inl (cJ, 5, .inr (.inl (v_rows 3)))), (q_leads, .inl (cI, 4, .inl v_leads))]) (wr := [(q_leads, .inl (cI, 4, .inl v_leads))]) (k_runV (rest := [.long y17, .long (-r22)]) hat hP hD hS hl.1 (c_X1_below q q_rows q_leads q_rows_r v_n v_rank v_exchanges v_width v_scale v_rows F r19 y5 r24 h25) [0, 1, 2, 3, 4, 5] (by decide) rfl kw451 kw452 kw453 kw70 kw454 kdVX1_below ⟨rfl, rfl⟩ (by rw [hR]; exact ⟨Nat.le_of_ble_eq_true rfl, Nat.le_of_ble_eq_true rfl⟩) ⟨Nat.zero_le _, Nat.zero_le _⟩ 0 1 rfl rfl rfl rfl (Nat.le_of_ble_eq_true rfl) dX1_vanishing_107) hat hP hD hS [0, 1, 2, 3, 4, 5] rfl [6] rfl rfl rfl rfl rfl (by decide) (fun H locs hP hD hS => ?_)
      obtain ⟨r26, h27, hf⟩ := kb1_e hf
      refine k_gl (nW := 7) (ws' := [(q, .inr (1, [.int v_n, .int v_rank, .int v_exchanges, .ref q_rows, .int v_width, .long v_scale, .ref q_leads])), (q_rows, .inl (cQ, 4, .inr (.inr (.inr (.inr (kg q_rows_r)))))), (q_rows_r 0, .inl (cJ, 5, .inr (.inl (v_rows 0)))), (q_rows_r 1, .inl (cJ, 5, .inr (.inl (v_rows 1)))), (q_rows_r 2, .inl (cJ, 5, .inr (.inl (v_rows 2)))), (q_rows_r 3, .inl (cJ, 5, .inr (.inl (v_rows 3)))), (q_leads, .inl (cI, 4, .inl v_leads))]) (wr := [(q, .inr (1, [.int v_n, .int v_rank, .int v_exchanges, .ref q_rows, .int v_width, .long v_scale, .ref q_leads])), (q_rows, .inl (cQ, 4, .inr (.inr (.inr (.inr (kg q_rows_r)))))), (q_rows_r 0, .inl (cJ, 5, .inr (.inl (v_rows 0)))), (q_rows_r 1, .inl (cJ, 5, .inr (.inl (v_rows 1)))), (q_rows_r 2, .inl (cJ, 5, .inr (.inl (v_rows 2)))), (q_rows_r 3, .inl (cJ, 5, .inr (.inl (v_rows 3)))), (q_leads, .inl (cI, 4, .inl v_leads))]) (k_runSN (rest := [.long (-r22)]) hat hP hD hS hl.1 (c_X11_quotient y17 r24 r26 h27) [] (by decide) rfl kw407 kw408 kw67 kw409 kdX11_quotient ⟨rfl, rfl⟩ (by rw [hR]; exact ⟨Nat.le_of_ble_eq_true rfl, Nat.le_of_ble_eq_true rfl⟩) ⟨Nat.zero_le _, Nat.zero_le _⟩ rfl rfl (Nat.le_of_ble_eq_true rfl) dX1_vanishing_110) hat hP hD hS [] rfl [0, 1, 2, 3, 4, 5, 6] rfl rfl rfl rfl rfl (by decide) (fun H locs hP hD hS => ?_)
      refine lv_lmul hx hb dX1_vanishing_113 ?_
      obtain rfl := ki1 hf
      rw [hQ]
      exact k_lret hat hP hS rfl dX1_vanishing_114
    · have hf := kp_e hf c21
      refine lv_lconst (v := 0) hx hb dX1_vanishing_90 (by decide) ?_
      refine lv_goto (tgt := 114) hx hb dX1_vanishing_91 (by decide) ?_
      obtain rfl := ki1 hf
      rw [hQ]
      exact k_lret hat hP hS rfl dX1_vanishing_114
  · have hf := kp_e hf c18
    refine lv_lload_n hx hb dX1_vanishing_75 rfl (lv_at hl 3 rfl) ?_
    obtain rfl := ki1 hf
    rw [hQ]
    exact k_lret hat hP hS rfl dX1_vanishing_76
set_option maxHeartbeats 4000000 in
set_option maxRecDepth 100000 in
theorem c_X11_nothing {l : Launch} {D : va_G} {cI cJ cQ : ClassId} {tp : Nat} (q : Nat) (q_now : Nat) (q_clearing : Nat) (q_residues : Nat) (q_lifting : Nat) (q_guessed : Nat) (q_walk : Nat) (q_history : Nat) (q_book : Nat) (q_draws : Nat) (q_firstImage : Nat) (q_secondImage : Nat) (q_now_numbers : Nat) (q_clearing_rows : Nat) (q_clearing_leads : Nat) (q_clearing_rows_r : Nat → Nat) (v_now_n : Int32) (v_now_primeNumber : Int32) (v_now_numbers : (Nat → Int32)) (v_clearing_n : Int32) (v_clearing_rank : Int32) (v_clearing_exchanges : Int32) (v_clearing_width : Int32) (v_clearing_scale : Int64) (v_clearing_rows : (Nat → Nat → Int64)) (v_clearing_leads : (Nat → Int32)) (F : Nat) (x1 : Int32) (r0 : Int32) (o_v_clearing_n : Int32) (o_v_clearing_rank : Int32) (o_v_clearing_exchanges : Int32) (o_v_clearing_scale : Int64) (o_v_clearing_rows : (Nat → Nat → Int64)) (o_v_clearing_leads : (Nat → Int32)) (hf : f_X11_nothing F v_now_n v_now_numbers v_clearing_n v_clearing_rank v_clearing_exchanges v_clearing_width v_clearing_scale v_clearing_rows v_clearing_leads x1 = some (r0, o_v_clearing_n, o_v_clearing_rank, o_v_clearing_exchanges, o_v_clearing_scale, o_v_clearing_rows, o_v_clearing_leads)) : kM (fun A => kQi D A [(q, .inr (10, [.ref q_now, .ref q_clearing, .ref q_residues, .ref q_lifting, .ref q_guessed, .ref q_walk, .ref q_history, .ref q_book, .ref q_draws, .ref q_firstImage, .ref q_secondImage])), (q_now, .inr (3, [.int v_now_n, .int v_now_primeNumber, .ref q_now_numbers])), (q_now_numbers, .inl (cI, 20, .inl v_now_numbers)), (q_clearing, .inr (1, [.int o_v_clearing_n, .int o_v_clearing_rank, .int o_v_clearing_exchanges, .ref q_clearing_rows, .int v_clearing_width, .long o_v_clearing_scale, .ref q_clearing_leads])), (q_clearing_rows, .inl (cQ, 4, .inr (.inr (.inr (.inr (kg q_clearing_rows_r)))))), (q_clearing_rows_r 0, .inl (cJ, 5, .inr (.inl (o_v_clearing_rows 0)))), (q_clearing_rows_r 1, .inl (cJ, 5, .inr (.inl (o_v_clearing_rows 1)))), (q_clearing_rows_r 2, .inl (cJ, 5, .inr (.inl (o_v_clearing_rows 2)))), (q_clearing_rows_r 3, .inl (cJ, 5, .inr (.inl (o_v_clearing_rows 3)))), (q_clearing_leads, .inl (cI, 4, .inl o_v_clearing_leads))] r0) (some .int) l yX11_nothing cX11_nothing 2 { frames := 5, cells := 0, slots := 0, locals := 119 } D cI cJ cQ tp [.ref q, .int x1] [(q, .inr (10, [.ref q_now, .ref q_clearing, .ref q_residues, .ref q_lifting, .ref q_guessed, .ref q_walk, .ref q_history, .ref q_book, .ref q_draws, .ref q_firstImage, .ref q_secondImage])), (q_now, .inr (3, [.int v_now_n, .int v_now_primeNumber, .ref q_now_numbers])), (q_now_numbers, .inl (cI, 20, .inl v_now_numbers)), (q_clearing, .inr (1, [.int v_clearing_n, .int v_clearing_rank, .int v_clearing_exchanges, .ref q_clearing_rows, .int v_clearing_width, .long v_clearing_scale, .ref q_clearing_leads])), (q_clearing_rows, .inl (cQ, 4, .inr (.inr (.inr (.inr (kg q_clearing_rows_r)))))), (q_clearing_rows_r 0, .inl (cJ, 5, .inr (.inl (v_clearing_rows 0)))), (q_clearing_rows_r 1, .inl (cJ, 5, .inr (.inl (v_clearing_rows 1)))), (q_clearing_rows_r 2, .inl (cJ, 5, .inr (.inl (v_clearing_rows 2)))), (q_clearing_rows_r 3, .inl (cJ, 5, .inr (.inl (v_clearing_rows 3)))), (q_clearing_leads, .inl (cI, 4, .inl v_clearing_leads))] := by
  refine kM_of (by decide +kernel) (Nat.le_of_ble_eq_true rfl) ?_
  intro p e s m args below meth c A ls R Q hR hQ hat hP hD hS hl
  obtain ⟨hx, hb, hr, hml, hown, hts, hT, hlk, hK, hA, hZ⟩ := id hat
  have hown : s.vm.findClass RX11 = some m.cls := hown
  have hl : lv_has ls 2 [(0, .ref q), (1, .int x1)] := hl
  unfold f_X11_nothing at hf
  refine lv_aload_n hx hb dX11_nothing_0 rfl (lv_at hl 0 rfl) ?_
  refine va_get (D := D) (ci := 10) (v := .ref q_now) (C := RX11) (T := TX11) (N := 11) hx hb hts kinX11 hown hK hP 0 rfl rfl 0 (by decide) (hts _ kw327) (fun _ h9 => h9) rfl dX11_nothing_1 ?_
  refine lv_iload_n hx hb dX11_nothing_4 rfl (lv_at hl 1 rfl) ?_
  obtain ⟨r1, h2, hf⟩ := kb1_e hf
  refine k_gi (nW := 10) (ws' := [(q, .inr (10, [.ref q_now, .ref q_clearing, .ref q_residues, .ref q_lifting, .ref q_guessed, .ref q_walk, .ref q_history, .ref q_book, .ref q_draws, .ref q_firstImage, .ref q_secondImage])), (q_now, .inr (3, [.int v_now_n, .int v_now_primeNumber, .ref q_now_numbers])), (q_now_numbers, .inl (cI, 20, .inl v_now_numbers)), (q_clearing, .inr (1, [.int v_clearing_n, .int v_clearing_rank, .int v_clearing_exchanges, .ref q_clearing_rows, .int v_clearing_width, .long v_clearing_scale, .ref q_clearing_leads])), (q_clearing_rows, .inl (cQ, 4, .inr (.inr (.inr (.inr (kg q_clearing_rows_r)))))), (q_clearing_rows_r 0, .inl (cJ, 5, .inr (.inl (v_clearing_rows 0)))), (q_clearing_rows_r 1, .inl (cJ, 5, .inr (.inl (v_clearing_rows 1)))), (q_clearing_rows_r 2, .inl (cJ, 5, .inr (.inl (v_clearing_rows 2)))), (q_clearing_rows_r 3, .inl (cJ, 5, .inr (.inl (v_clearing_rows 3)))), (q_clearing_leads, .inl (cI, 4, .inl v_clearing_leads))]) (wr := [(q, .inr (10, [.ref q_now, .ref q_clearing, .ref q_residues, .ref q_lifting, .ref q_guessed, .ref q_walk, .ref q_history, .ref q_book, .ref q_draws, .ref q_firstImage, .ref q_secondImage])), (q_now_numbers, .inl (cI, 20, .inl v_now_numbers)), (q_clearing, .inr (1, [.int v_clearing_n, .int v_clearing_rank, .int v_clearing_exchanges, .ref q_clearing_rows, .int v_clearing_width, .long v_clearing_scale, .ref q_clearing_leads])), (q_clearing_rows, .inl (cQ, 4, .inr (.inr (.inr (.inr (kg q_clearing_rows_r)))))), (q_clearing_rows_r 0, .inl (cJ, 5, .inr (.inl (v_clearing_rows 0)))), (q_clearing_rows_r 1, .inl (cJ, 5, .inr (.inl (v_clearing_rows 1)))), (q_clearing_rows_r 2, .inl (cJ, 5, .inr (.inl (v_clearing_rows 2)))), (q_clearing_rows_r 3, .inl (cJ, 5, .inr (.inl (v_clearing_rows 3)))), (q_clearing_leads, .inl (cI, 4, .inl v_clearing_leads))]) (k_runV (rest := []) hat hP hD hS hl.1 (c_X3_has q_now q_now_numbers v_now_n v_now_primeNumber x1 r1 h2) [1] (by decide) rfl kw580 kw581 kw582 kw68 kw583 kdVX3_has ⟨rfl, rfl⟩ (by rw [hR]; exact ⟨Nat.le_of_ble_eq_true rfl, Nat.le_of_ble_eq_true rfl⟩) ⟨Nat.zero_le _, Nat.zero_le _⟩ 1 3 rfl rfl rfl rfl (Nat.le_of_ble_eq_true rfl) dX11_nothing_5) hat hP hD hS [1] rfl [0, 2, 3, 4, 5, 6, 7, 8, 9] rfl rfl rfl rfl rfl (by decide) (fun H locs hP hD hS => ?_)
  refine lv_if_ne (tgt := 14) hx hb dX11_nothing_8 (by decide) (fun c3 => ?_) (fun c3 => ?_)
  · have hf := kn_e hf c3
    refine lv_aload_n hx hb dX11_nothing_14 rfl (lv_at hl 0 rfl) ?_
    refine va_get (D := D) (ci := 10) (v := .ref q_clearing) (C := RX11) (T := TX11) (N := 11) hx hb hts kinX11 hown hK hP 0 rfl rfl 1 (by decide) (hts _ kw328) (fun _ h9 => h9) rfl dX11_nothing_15 ?_
    refine lv_aload_n hx hb dX11_nothing_18 rfl (lv_at hl 0 rfl) ?_
    refine va_get (D := D) (ci := 10) (v := .ref q_now) (C := RX11) (T := TX11) (N := 11) hx hb hts kinX11 hown hK hP 0 rfl rfl 0 (by decide) (hts _ kw327) (fun _ h9 => h9) rfl dX11_nothing_19 ?_
    obtain ⟨w4, w5, w6, w7, w8, w9, h10, hf⟩ := kb6_e hf
    refine k_gv (nW := 10) (ws' := [(q, .inr (10, [.ref q_now, .ref q_clearing, .ref q_residues, .ref q_lifting, .ref q_guessed, .ref q_walk, .ref q_history, .ref q_book, .ref q_draws, .ref q_firstImage, .ref q_secondImage])), (q_now, .inr (3, [.int v_now_n, .int v_now_primeNumber, .ref q_now_numbers])), (q_now_numbers, .inl (cI, 20, .inl v_now_numbers)), (q_clearing, .inr (1, [.int w4, .int w5, .int w6, .ref q_clearing_rows, .int v_clearing_width, .long w7, .ref q_clearing_leads])), (q_clearing_rows, .inl (cQ, 4, .inr (.inr (.inr (.inr (kg q_clearing_rows_r)))))), (q_clearing_rows_r 0, .inl (cJ, 5, .inr (.inl (w8 0)))), (q_clearing_rows_r 1, .inl (cJ, 5, .inr (.inl (w8 1)))), (q_clearing_rows_r 2, .inl (cJ, 5, .inr (.inl (w8 2)))), (q_clearing_rows_r 3, .inl (cJ, 5, .inr (.inl (w8 3)))), (q_clearing_leads, .inl (cI, 4, .inl w9))]) (wr := [(q, .inr (10, [.ref q_now, .ref q_clearing, .ref q_residues, .ref q_lifting, .ref q_guessed, .ref q_walk, .ref q_history, .ref q_book, .ref q_draws, .ref q_firstImage, .ref q_secondImage]))]) (k_runV (rest := []) hat hP hD hS hl.1 (c_X1_clear q_clearing q_now q_clearing_rows q_clearing_leads q_clearing_rows_r q_now_numbers v_clearing_n v_clearing_rank v_clearing_exchanges v_clearing_width v_clearing_scale v_clearing_rows v_clearing_leads v_now_n v_now_primeNumber v_now_numbers F w4 w5 w6 w7 w8 w9 h10) [3, 4, 5, 6, 7, 8, 9, 1, 2] (by decide) rfl kw375 kw376 kw377 kw70 kw378 kdVX1_clear ⟨rfl, rfl⟩ (by rw [hR]; exact ⟨Nat.le_of_ble_eq_true rfl, Nat.le_of_ble_eq_true rfl⟩) ⟨Nat.zero_le _, Nat.zero_le _⟩ 3 1 rfl rfl rfl rfl (Nat.le_of_ble_eq_true rfl) dX11_nothing_22) hat hP hD hS [3, 4, 5, 6, 7, 8, 9, 1, 2] rfl [0] rfl rfl rfl rfl rfl (by decide) (fun H locs hP hD hS => ?_)
    refine lv_aload_n hx hb dX11_nothing_25 rfl (lv_at hl 0 rfl) ?_
    refine va_get (D := D) (ci := 10) (v := .ref q_clearing) (C := RX11) (T := TX11) (N := 11) hx hb hts kinX11 hown hK hP 0 rfl rfl 1 (by decide) (hts _ kw328) (fun _ h9 => h9) rfl dX11_nothing_26 ?_
    refine va_get (D := D) (ci := 1) (v := .int w5) (C := RX1) (T := TX1) (N := 7) hx hb hts kinX1 hown hK hP 3 rfl rfl 1 (by decide) (hts _ kw144) (u_same (hts _ kw143)) rfl dX11_nothing_29 ?_
    refine lv_aload_n hx hb dX11_nothing_32 rfl (lv_at hl 0 rfl) ?_
    refine va_get (D := D) (ci := 10) (v := .ref q_now) (C := RX11) (T := TX11) (N := 11) hx hb hts kinX11 hown hK hP 0 rfl rfl 0 (by decide) (hts _ kw327) (fun _ h9 => h9) rfl dX11_nothing_33 ?_
    refine va_get (D := D) (ci := 3) (v := .int v_now_n) (C := RX3) (T := TX3) (N := 3) hx hb hts kinX3 hown hK hP 1 rfl rfl 0 (by decide) (hts _ kw107) (fun _ h9 => h9) rfl dX11_nothing_36 ?_
    refine lv_icmp_ne (tgt := 44) hx hb dX11_nothing_39 (by decide) (fun c11 => ?_) (fun c11 => ?_)
    · have hf := kn_e hf c11
      refine lv_aload_n hx hb dX11_nothing_44 rfl (lv_at hl 0 rfl) ?_
      refine va_get (D := D) (ci := 10) (v := .ref q_clearing) (C := RX11) (T := TX11) (N := 11) hx hb hts kinX11 hown hK hP 0 rfl rfl 1 (by decide) (hts _ kw328) (fun _ h9 => h9) rfl dX11_nothing_45 ?_
      refine lv_iload_n hx hb dX11_nothing_48 rfl (lv_at hl 1 rfl) ?_
      obtain ⟨r12, h13, hf⟩ := kb1_e hf
      refine k_gl (nW := 10) (ws' := [(q, .inr (10, [.ref q_now, .ref q_clearing, .ref q_residues, .ref q_lifting, .ref q_guessed, .ref q_walk, .ref q_history, .ref q_book, .ref q_draws, .ref q_firstImage, .ref q_secondImage])), (q_now, .inr (3, [.int v_now_n, .int v_now_primeNumber, .ref q_now_numbers])), (q_now_numbers, .inl (cI, 20, .inl v_now_numbers)), (q_clearing, .inr (1, [.int w4, .int w5, .int w6, .ref q_clearing_rows, .int v_clearing_width, .long w7, .ref q_clearing_leads])), (q_clearing_rows, .inl (cQ, 4, .inr (.inr (.inr (.inr (kg q_clearing_rows_r)))))), (q_clearing_rows_r 0, .inl (cJ, 5, .inr (.inl (w8 0)))), (q_clearing_rows_r 1, .inl (cJ, 5, .inr (.inl (w8 1)))), (q_clearing_rows_r 2, .inl (cJ, 5, .inr (.inl (w8 2)))), (q_clearing_rows_r 3, .inl (cJ, 5, .inr (.inl (w8 3)))), (q_clearing_leads, .inl (cI, 4, .inl w9))]) (wr := [(q, .inr (10, [.ref q_now, .ref q_clearing, .ref q_residues, .ref q_lifting, .ref q_guessed, .ref q_walk, .ref q_history, .ref q_book, .ref q_draws, .ref q_firstImage, .ref q_secondImage])), (q_now, .inr (3, [.int v_now_n, .int v_now_primeNumber, .ref q_now_numbers])), (q_now_numbers, .inl (cI, 20, .inl v_now_numbers))]) (k_runV (rest := []) hat hP hD hS hl.1 (c_X1_vanishing q_clearing q_clearing_rows q_clearing_leads q_clearing_rows_r w4 w5 w6 v_clearing_width w7 w8 w9 F x1 r12 h13) [3, 4, 5, 6, 7, 8, 9] (by decide) rfl kw609 kw610 kw611 kw70 kw612 kdVX1_vanishing ⟨rfl, rfl⟩ (by rw [hR]; exact ⟨Nat.le_of_ble_eq_true rfl, Nat.le_of_ble_eq_true rfl⟩) ⟨Nat.zero_le _, Nat.zero_le _⟩ 3 1 rfl rfl rfl rfl (Nat.le_of_ble_eq_true rfl) dX11_nothing_49) hat hP hD hS [3, 4, 5, 6, 7, 8, 9] rfl [0, 1, 2] rfl rfl rfl rfl rfl (by decide) (fun H locs hP hD hS => ?_)
      refine lv_l2i hx hb dX11_nothing_52 rfl ?_
      refine lv_ldc hx hb hown (hts _ kw424) dX11_nothing_53 ?_
      refine lv_iadd hx hb dX11_nothing_55 ?_
      obtain ⟨rfl, rfl, rfl, rfl, rfl, rfl, rfl⟩ := ki7 hf
      rw [hQ]
      exact k_iret hat hP hS rfl dX11_nothing_56
    · have hf := kp_e hf c11
      refine lv_iconst (v := -1) hx hb dX11_nothing_42 (by decide) ?_
      obtain ⟨rfl, rfl, rfl, rfl, rfl, rfl, rfl⟩ := ki7 hf
      rw [hQ]
      exact k_iret hat hP hS rfl dX11_nothing_43
  · have hf := kp_e hf c3
    refine lv_ldc hx hb hown (hts _ kw584) dX11_nothing_11 ?_
    obtain ⟨rfl, rfl, rfl, rfl, rfl, rfl, rfl⟩ := ki7 hf
    rw [hQ]
    exact k_iret hat hP hS rfl dX11_nothing_13
set_option maxHeartbeats 4000000 in
set_option maxRecDepth 100000 in
theorem c_X11_back {l : Launch} {D : va_G} {cI cJ cQ : ClassId} {tp : Nat} (q : Nat) (q_now : Nat) (q_clearing : Nat) (q_residues : Nat) (q_lifting : Nat) (q_guessed : Nat) (q_walk : Nat) (q_history : Nat) (q_book : Nat) (q_draws : Nat) (q_firstImage : Nat) (q_secondImage : Nat) (q_now_numbers : Nat) (q_residues_rows : Nat) (q_residues_rows_r : Nat → Nat) (v_now_n : Int32) (v_now_primeNumber : Int32) (v_now_numbers : (Nat → Int32)) (v_residues_n : Int32) (v_residues_rank : Int32) (v_residues_exchanges : Int32) (v_residues_width : Int32) (v_residues_p : Int32) (v_residues_rows : (Nat → Nat → Int64)) (F : Nat) (x1 : Int32) (x2 : Int32) (r0 : Int32) (o_v_residues_n : Int32) (o_v_residues_rank : Int32) (o_v_residues_exchanges : Int32) (o_v_residues_p : Int32) (o_v_residues_rows : (Nat → Nat → Int64)) (hf : f_X11_back F v_now_n v_now_primeNumber v_now_numbers v_residues_n v_residues_rank v_residues_exchanges v_residues_width v_residues_p v_residues_rows x1 x2 = some (r0, o_v_residues_n, o_v_residues_rank, o_v_residues_exchanges, o_v_residues_p, o_v_residues_rows)) : kM (fun A => kQi D A [(q, .inr (10, [.ref q_now, .ref q_clearing, .ref q_residues, .ref q_lifting, .ref q_guessed, .ref q_walk, .ref q_history, .ref q_book, .ref q_draws, .ref q_firstImage, .ref q_secondImage])), (q_now, .inr (3, [.int v_now_n, .int v_now_primeNumber, .ref q_now_numbers])), (q_now_numbers, .inl (cI, 20, .inl v_now_numbers)), (q_residues, .inr (8, [.int o_v_residues_n, .int o_v_residues_rank, .int o_v_residues_exchanges, .ref q_residues_rows, .int v_residues_width, .int o_v_residues_p])), (q_residues_rows, .inl (cQ, 4, .inr (.inr (.inr (.inr (kg q_residues_rows_r)))))), (q_residues_rows_r 0, .inl (cJ, 9, .inr (.inl (o_v_residues_rows 0)))), (q_residues_rows_r 1, .inl (cJ, 9, .inr (.inl (o_v_residues_rows 1)))), (q_residues_rows_r 2, .inl (cJ, 9, .inr (.inl (o_v_residues_rows 2)))), (q_residues_rows_r 3, .inl (cJ, 9, .inr (.inl (o_v_residues_rows 3))))] r0) (some .int) l yX11_back cX11_back 3 { frames := 6, cells := 0, slots := 0, locals := 137 } D cI cJ cQ tp [.ref q, .int x1, .int x2] [(q, .inr (10, [.ref q_now, .ref q_clearing, .ref q_residues, .ref q_lifting, .ref q_guessed, .ref q_walk, .ref q_history, .ref q_book, .ref q_draws, .ref q_firstImage, .ref q_secondImage])), (q_now, .inr (3, [.int v_now_n, .int v_now_primeNumber, .ref q_now_numbers])), (q_now_numbers, .inl (cI, 20, .inl v_now_numbers)), (q_residues, .inr (8, [.int v_residues_n, .int v_residues_rank, .int v_residues_exchanges, .ref q_residues_rows, .int v_residues_width, .int v_residues_p])), (q_residues_rows, .inl (cQ, 4, .inr (.inr (.inr (.inr (kg q_residues_rows_r)))))), (q_residues_rows_r 0, .inl (cJ, 9, .inr (.inl (v_residues_rows 0)))), (q_residues_rows_r 1, .inl (cJ, 9, .inr (.inl (v_residues_rows 1)))), (q_residues_rows_r 2, .inl (cJ, 9, .inr (.inl (v_residues_rows 2)))), (q_residues_rows_r 3, .inl (cJ, 9, .inr (.inl (v_residues_rows 3))))] := by
  refine kM_of (by decide +kernel) (Nat.le_of_ble_eq_true rfl) ?_
  intro p e s m args below meth c A ls R Q hR hQ hat hP hD hS hl
  obtain ⟨hx, hb, hr, hml, hown, hts, hT, hlk, hK, hA, hZ⟩ := id hat
  have hown : s.vm.findClass RX11 = some m.cls := hown
  have hl : lv_has ls 3 [(0, .ref q), (1, .int x1), (2, .int x2)] := hl
  unfold f_X11_back at hf
  refine lv_aload_n hx hb dX11_back_0 rfl (lv_at hl 0 rfl) ?_
  refine va_get (D := D) (ci := 10) (v := .ref q_now) (C := RX11) (T := TX11) (N := 11) hx hb hts kinX11 hown hK hP 0 rfl rfl 0 (by decide) (hts _ kw327) (fun _ h9 => h9) rfl dX11_back_1 ?_
  refine lv_iload_n hx hb dX11_back_4 rfl (lv_at hl 1 rfl) ?_
  obtain ⟨r1, h2, hf⟩ := kb1_e hf
  refine k_gi (nW := 9) (ws' := [(q, .inr (10, [.ref q_now, .ref q_clearing, .ref q_residues, .ref q_lifting, .ref q_guessed, .ref q_walk, .ref q_history, .ref q_book, .ref q_draws, .ref q_firstImage, .ref q_secondImage])), (q_now, .inr (3, [.int v_now_n, .int v_now_primeNumber, .ref q_now_numbers])), (q_now_numbers, .inl (cI, 20, .inl v_now_numbers)), (q_residues, .inr (8, [.int v_residues_n, .int v_residues_rank, .int v_residues_exchanges, .ref q_residues_rows, .int v_residues_width, .int v_residues_p])), (q_residues_rows, .inl (cQ, 4, .inr (.inr (.inr (.inr (kg q_residues_rows_r)))))), (q_residues_rows_r 0, .inl (cJ, 9, .inr (.inl (v_residues_rows 0)))), (q_residues_rows_r 1, .inl (cJ, 9, .inr (.inl (v_residues_rows 1)))), (q_residues_rows_r 2, .inl (cJ, 9, .inr (.inl (v_residues_rows 2)))), (q_residues_rows_r 3, .inl (cJ, 9, .inr (.inl (v_residues_rows 3))))]) (wr := [(q, .inr (10, [.ref q_now, .ref q_clearing, .ref q_residues, .ref q_lifting, .ref q_guessed, .ref q_walk, .ref q_history, .ref q_book, .ref q_draws, .ref q_firstImage, .ref q_secondImage])), (q_now_numbers, .inl (cI, 20, .inl v_now_numbers)), (q_residues, .inr (8, [.int v_residues_n, .int v_residues_rank, .int v_residues_exchanges, .ref q_residues_rows, .int v_residues_width, .int v_residues_p])), (q_residues_rows, .inl (cQ, 4, .inr (.inr (.inr (.inr (kg q_residues_rows_r)))))), (q_residues_rows_r 0, .inl (cJ, 9, .inr (.inl (v_residues_rows 0)))), (q_residues_rows_r 1, .inl (cJ, 9, .inr (.inl (v_residues_rows 1)))), (q_residues_rows_r 2, .inl (cJ, 9, .inr (.inl (v_residues_rows 2)))), (q_residues_rows_r 3, .inl (cJ, 9, .inr (.inl (v_residues_rows 3))))]) (k_runV (rest := []) hat hP hD hS hl.1 (c_X3_has q_now q_now_numbers v_now_n v_now_primeNumber x1 r1 h2) [1] (by decide) rfl kw580 kw581 kw582 kw68 kw583 kdVX3_has ⟨rfl, rfl⟩ (by rw [hR]; exact ⟨Nat.le_of_ble_eq_true rfl, Nat.le_of_ble_eq_true rfl⟩) ⟨Nat.zero_le _, Nat.zero_le _⟩ 1 3 rfl rfl rfl rfl (Nat.le_of_ble_eq_true rfl) dX11_back_5) hat hP hD hS [1] rfl [0, 2, 3, 4, 5, 6, 7, 8] rfl rfl rfl rfl rfl (by decide) (fun H locs hP hD hS => ?_)
  refine lv_if_eq (tgt := 22) hx hb dX11_back_8 (by decide) (fun c3 => ?_) (fun c3 => ?_)
  · have hf := kp_e hf c3
    refine lv_ldc hx hb hown (hts _ kw584) dX11_back_22 ?_
    obtain ⟨rfl, rfl, rfl, rfl, rfl, rfl⟩ := ki6 hf
    rw [hQ]
    exact k_iret hat hP hS rfl dX11_back_24
  · have hf := kn_e hf c3
    refine lv_aload_n hx hb dX11_back_11 rfl (lv_at hl 0 rfl) ?_
    refine va_get (D := D) (ci := 10) (v := .ref q_now) (C := RX11) (T := TX11) (N := 11) hx hb hts kinX11 hown hK hP 0 rfl rfl 0 (by decide) (hts _ kw327) (fun _ h9 => h9) rfl dX11_back_12 ?_
    refine lv_iload_n hx hb dX11_back_15 rfl (lv_at hl 2 rfl) ?_
    obtain ⟨r4, h5, hf⟩ := kb1_e hf
    refine k_gi (nW := 9) (ws' := [(q, .inr (10, [.ref q_now, .ref q_clearing, .ref q_residues, .ref q_lifting, .ref q_guessed, .ref q_walk, .ref q_history, .ref q_book, .ref q_draws, .ref q_firstImage, .ref q_secondImage])), (q_now, .inr (3, [.int v_now_n, .int v_now_primeNumber, .ref q_now_numbers])), (q_now_numbers, .inl (cI, 20, .inl v_now_numbers)), (q_residues, .inr (8, [.int v_residues_n, .int v_residues_rank, .int v_residues_exchanges, .ref q_residues_rows, .int v_residues_width, .int v_residues_p])), (q_residues_rows, .inl (cQ, 4, .inr (.inr (.inr (.inr (kg q_residues_rows_r)))))), (q_residues_rows_r 0, .inl (cJ, 9, .inr (.inl (v_residues_rows 0)))), (q_residues_rows_r 1, .inl (cJ, 9, .inr (.inl (v_residues_rows 1)))), (q_residues_rows_r 2, .inl (cJ, 9, .inr (.inl (v_residues_rows 2)))), (q_residues_rows_r 3, .inl (cJ, 9, .inr (.inl (v_residues_rows 3))))]) (wr := [(q, .inr (10, [.ref q_now, .ref q_clearing, .ref q_residues, .ref q_lifting, .ref q_guessed, .ref q_walk, .ref q_history, .ref q_book, .ref q_draws, .ref q_firstImage, .ref q_secondImage])), (q_now_numbers, .inl (cI, 20, .inl v_now_numbers)), (q_residues, .inr (8, [.int v_residues_n, .int v_residues_rank, .int v_residues_exchanges, .ref q_residues_rows, .int v_residues_width, .int v_residues_p])), (q_residues_rows, .inl (cQ, 4, .inr (.inr (.inr (.inr (kg q_residues_rows_r)))))), (q_residues_rows_r 0, .inl (cJ, 9, .inr (.inl (v_residues_rows 0)))), (q_residues_rows_r 1, .inl (cJ, 9, .inr (.inl (v_residues_rows 1)))), (q_residues_rows_r 2, .inl (cJ, 9, .inr (.inl (v_residues_rows 2)))), (q_residues_rows_r 3, .inl (cJ, 9, .inr (.inl (v_residues_rows 3))))]) (k_runV (rest := []) hat hP hD hS hl.1 (c_X3_has q_now q_now_numbers v_now_n v_now_primeNumber x2 r4 h5) [1] (by decide) rfl kw580 kw581 kw582 kw68 kw583 kdVX3_has ⟨rfl, rfl⟩ (by rw [hR]; exact ⟨Nat.le_of_ble_eq_true rfl, Nat.le_of_ble_eq_true rfl⟩) ⟨Nat.zero_le _, Nat.zero_le _⟩ 1 3 rfl rfl rfl rfl (Nat.le_of_ble_eq_true rfl) dX11_back_16) hat hP hD hS [1] rfl [0, 2, 3, 4, 5, 6, 7, 8] rfl rfl rfl rfl rfl (by decide) (fun H locs hP hD hS => ?_)
    refine lv_if_ne (tgt := 25) hx hb dX11_back_19 (by decide) (fun c6 => ?_) (fun c6 => ?_)
    · have hf := kn_e hf c6
      refine lv_aload_n hx hb dX11_back_25 rfl (lv_at hl 0 rfl) ?_
      obtain ⟨r7, w8, w9, w10, w11, w12, h13, hf⟩ := kb6_e hf
      refine k_gi (nW := 9) (ws' := [(q, .inr (10, [.ref q_now, .ref q_clearing, .ref q_residues, .ref q_lifting, .ref q_guessed, .ref q_walk, .ref q_history, .ref q_book, .ref q_draws, .ref q_firstImage, .ref q_secondImage])), (q_now, .inr (3, [.int v_now_n, .int v_now_primeNumber, .ref q_now_numbers])), (q_now_numbers, .inl (cI, 20, .inl v_now_numbers)), (q_residues, .inr (8, [.int w8, .int w9, .int w10, .ref q_residues_rows, .int v_residues_width, .int w11])), (q_residues_rows, .inl (cQ, 4, .inr (.inr (.inr (.inr (kg q_residues_rows_r)))))), (q_residues_rows_r 0, .inl (cJ, 9, .inr (.inl (w12 0)))), (q_residues_rows_r 1, .inl (cJ, 9, .inr (.inl (w12 1)))), (q_residues_rows_r 2, .inl (cJ, 9, .inr (.inl (w12 2)))), (q_residues_rows_r 3, .inl (cJ, 9, .inr (.inl (w12 3))))]) (wr := []) (k_runV (rest := []) hat hP hD hS hl.1 (c_X11_primeIsBad q q_now q_clearing q_residues q_lifting q_guessed q_walk q_history q_book q_draws q_firstImage q_secondImage q_now_numbers q_residues_rows q_residues_rows_r v_now_n v_now_primeNumber v_now_numbers v_residues_n v_residues_rank v_residues_exchanges v_residues_width v_residues_p v_residues_rows F r7 w8 w9 w10 w11 w12 h13) [0, 1, 2, 3, 4, 5, 6, 7, 8] (by decide) rfl kw471 kw473 kw5 kw67 kw474 kdVX11_primeIsBad ⟨rfl, rfl⟩ (by rw [hR]; exact ⟨Nat.le_of_ble_eq_true rfl, Nat.le_of_ble_eq_true rfl⟩) ⟨Nat.zero_le _, Nat.zero_le _⟩ 0 10 rfl rfl rfl rfl (Nat.le_of_ble_eq_true rfl) dX11_back_26) hat hP hD hS [0, 1, 2, 3, 4, 5, 6, 7, 8] rfl [] rfl rfl rfl rfl rfl (by decide) (fun H locs hP hD hS => ?_)
      refine lv_if_eq (tgt := 35) hx hb dX11_back_29 (by decide) (fun c14 => ?_) (fun c14 => ?_)
      · have hf := kp_e hf c14
        refine lv_aload_n hx hb dX11_back_35 rfl (lv_at hl 0 rfl) ?_
        refine va_get (D := D) (ci := 10) (v := .ref q_residues) (C := RX11) (T := TX11) (N := 11) hx hb hts kinX11 hown hK hP 0 rfl rfl 2 (by decide) (hts _ kw329) (fun _ h9 => h9) rfl dX11_back_36 ?_
        refine lv_iload_n hx hb dX11_back_39 rfl (lv_at hl 1 rfl) ?_
        refine lv_iload_n hx hb dX11_back_40 rfl (lv_at hl 2 rfl) ?_
        obtain ⟨r15, h16, hf⟩ := kb1_e hf
        refine k_gi (nW := 9) (ws' := [(q, .inr (10, [.ref q_now, .ref q_clearing, .ref q_residues, .ref q_lifting, .ref q_guessed, .ref q_walk, .ref q_history, .ref q_book, .ref q_draws, .ref q_firstImage, .ref q_secondImage])), (q_now, .inr (3, [.int v_now_n, .int v_now_primeNumber, .ref q_now_numbers])), (q_now_numbers, .inl (cI, 20, .inl v_now_numbers)), (q_residues, .inr (8, [.int w8, .int w9, .int w10, .ref q_residues_rows, .int v_residues_width, .int w11])), (q_residues_rows, .inl (cQ, 4, .inr (.inr (.inr (.inr (kg q_residues_rows_r)))))), (q_residues_rows_r 0, .inl (cJ, 9, .inr (.inl (w12 0)))), (q_residues_rows_r 1, .inl (cJ, 9, .inr (.inl (w12 1)))), (q_residues_rows_r 2, .inl (cJ, 9, .inr (.inl (w12 2)))), (q_residues_rows_r 3, .inl (cJ, 9, .inr (.inl (w12 3))))]) (wr := [(q, .inr (10, [.ref q_now, .ref q_clearing, .ref q_residues, .ref q_lifting, .ref q_guessed, .ref q_walk, .ref q_history, .ref q_book, .ref q_draws, .ref q_firstImage, .ref q_secondImage])), (q_now, .inr (3, [.int v_now_n, .int v_now_primeNumber, .ref q_now_numbers])), (q_now_numbers, .inl (cI, 20, .inl v_now_numbers))]) (k_runV (rest := []) hat hP hD hS hl.1 (c_X8_inverse q_residues q_residues_rows q_residues_rows_r w8 w9 w10 v_residues_width w11 w12 x1 x2 r15 h16) [3, 4, 5, 6, 7, 8] (by decide) rfl kw618 kw520 kw521 kw71 kw522 kdVX8_inverse ⟨rfl, rfl⟩ (by rw [hR]; exact ⟨Nat.le_of_ble_eq_true rfl, Nat.le_of_ble_eq_true rfl⟩) ⟨Nat.zero_le _, Nat.zero_le _⟩ 3 8 rfl rfl rfl rfl (Nat.le_of_ble_eq_true rfl) dX11_back_41) hat hP hD hS [3, 4, 5, 6, 7, 8] rfl [0, 1, 2] rfl rfl rfl rfl rfl (by decide) (fun H locs hP hD hS => ?_)
        obtain ⟨rfl, rfl, rfl, rfl, rfl, rfl⟩ := ki6 hf
        rw [hQ]
        exact k_iret hat hP hS rfl dX11_back_44
      · have hf := kn_e hf c14
        refine lv_ldc hx hb hown (hts _ kw617) dX11_back_32 ?_
        obtain ⟨rfl, rfl, rfl, rfl, rfl, rfl⟩ := ki6 hf
        rw [hQ]
        exact k_iret hat hP hS rfl dX11_back_34
    · have hf := kp_e hf c6
      refine lv_ldc hx hb hown (hts _ kw584) dX11_back_22 ?_
      obtain ⟨rfl, rfl, rfl, rfl, rfl, rfl⟩ := ki6 hf
      rw [hQ]
      exact k_iret hat hP hS rfl dX11_back_24
set_option maxHeartbeats 4000000 in
set_option maxRecDepth 100000 in
theorem c_X11_isNoDigit {l : Launch} {D : va_G} {cI cJ cQ : ClassId} {tp : Nat} (x0 : Int32) (r0 : Int32) (hf : f_X11_isNoDigit x0 = some r0) : kM (fun A => kQi D A [] r0) (some .boolean) l yX11_isNoDigit cX11_isNoDigit 1 { frames := 0, cells := 0, slots := 0, locals := 0 } D cI cJ cQ tp [.int x0] [] := by
  refine kM_of (by decide +kernel) (Nat.le_of_ble_eq_true rfl) ?_
  intro p e s m args below meth c A ls R Q hR hQ hat hP hD hS hl
  obtain ⟨hx, hb, hr, hml, hown, hts, hT, hlk, hK, hA, hZ⟩ := id hat
  have hown : s.vm.findClass RX11 = some m.cls := hown
  have hl : lv_has ls 1 [(0, .int x0)] := hl
  unfold f_X11_isNoDigit at hf
  refine lv_iload_n hx hb dX11_isNoDigit_0 rfl (lv_at hl 0 rfl) ?_
  refine lv_if_lt (tgt := 10) hx hb dX11_isNoDigit_1 (by decide) (fun c1 => ?_) (fun c1 => ?_)
  · have hf := kp_e hf c1
    refine lv_iconst (v := 1) hx hb dX11_isNoDigit_10 (by decide) ?_
    refine lv_goto (tgt := 15) hx hb dX11_isNoDigit_11 (by decide) ?_
    obtain rfl := ki1 hf
    rw [hQ]
    exact k_zret hat hP hS rfl (by decide) dX11_isNoDigit_15
  · have hf := kn_e hf c1
    refine lv_iload_n hx hb dX11_isNoDigit_4 rfl (lv_at hl 0 rfl) ?_
    refine lv_bipush (v := 100) hx hb dX11_isNoDigit_5 (by decide) ?_
    refine lv_icmp_lt (tgt := 14) hx hb dX11_isNoDigit_7 (by decide) (fun c2 => ?_) (fun c2 => ?_)
    · have hf := kp_e hf c2
      refine lv_iconst (v := 0) hx hb dX11_isNoDigit_14 (by decide) ?_
      obtain rfl := ki1 hf
      rw [hQ]
      exact k_zret hat hP hS rfl (by decide) dX11_isNoDigit_15
    · have hf := kn_e hf c2
      refine lv_iconst (v := 1) hx hb dX11_isNoDigit_10 (by decide) ?_
      refine lv_goto (tgt := 15) hx hb dX11_isNoDigit_11 (by decide) ?_
      obtain rfl := ki1 hf
      rw [hQ]
      exact k_zret hat hP hS rfl (by decide) dX11_isNoDigit_15
