set_option maxHeartbeats 4000000 in
set_option maxRecDepth 100000 in
theorem c_X11_toldOfTable {l : Launch} {D : va_G} {cI cJ cQ : ClassId} {tp : Nat} (q : Nat) (q_now : Nat) (q_clearing : Nat) (q_residues : Nat) (q_lifting : Nat) (q_guessed : Nat) (q_walk : Nat) (q_history : Nat) (q_book : Nat) (q_draws : Nat) (q_firstImage : Nat) (q_secondImage : Nat) (q_now_numbers : Nat) (q_clearing_rows : Nat) (q_clearing_leads : Nat) (q_clearing_rows_r : Nat → Nat) (v_now_n : Int32) (v_now_primeNumber : Int32) (v_now_numbers : (Nat → Int32)) (v_clearing_n : Int32) (v_clearing_rank : Int32) (v_clearing_exchanges : Int32) (v_clearing_width : Int32) (v_clearing_scale : Int64) (v_clearing_rows : (Nat → Nat → Int64)) (v_clearing_leads : (Nat → Int32)) (F : Nat) (x1 : Int32) (r0 : Int32) (o_v_clearing_n : Int32) (o_v_clearing_rank : Int32) (o_v_clearing_exchanges : Int32) (o_v_clearing_scale : Int64) (o_v_clearing_rows : (Nat → Nat → Int64)) (o_v_clearing_leads : (Nat → Int32)) (hf : f_X11_toldOfTable F v_now_n v_now_numbers v_clearing_n v_clearing_rank v_clearing_exchanges v_clearing_width v_clearing_scale v_clearing_rows v_clearing_leads x1 = some (r0, o_v_clearing_n, o_v_clearing_rank, o_v_clearing_exchanges, o_v_clearing_scale, o_v_clearing_rows, o_v_clearing_leads)) : kM (fun A => kQi D A [(q, .inr (10, [.ref q_now, .ref q_clearing, .ref q_residues, .ref q_lifting, .ref q_guessed, .ref q_walk, .ref q_history, .ref q_book, .ref q_draws, .ref q_firstImage, .ref q_secondImage])), (q_now, .inr (3, [.int v_now_n, .int v_now_primeNumber, .ref q_now_numbers])), (q_now_numbers, .inl (cI, 20, .inl v_now_numbers)), (q_clearing, .inr (1, [.int o_v_clearing_n, .int o_v_clearing_rank, .int o_v_clearing_exchanges, .ref q_clearing_rows, .int v_clearing_width, .long o_v_clearing_scale, .ref q_clearing_leads])), (q_clearing_rows, .inl (cQ, 4, .inr (.inr (.inr (.inr (kg q_clearing_rows_r)))))), (q_clearing_rows_r 0, .inl (cJ, 5, .inr (.inl (o_v_clearing_rows 0)))), (q_clearing_rows_r 1, .inl (cJ, 5, .inr (.inl (o_v_clearing_rows 1)))), (q_clearing_rows_r 2, .inl (cJ, 5, .inr (.inl (o_v_clearing_rows 2)))), (q_clearing_rows_r 3, .inl (cJ, 5, .inr (.inl (o_v_clearing_rows 3)))), (q_clearing_leads, .inl (cI, 4, .inl o_v_clearing_leads))] r0) (some .int) l yX11_toldOfTable cX11_toldOfTable 2 { frames := 5, cells := 0, slots := 0, locals := 136 } D cI cJ cQ tp [.ref q, .int x1] [(q, .inr (10, [.ref q_now, .ref q_clearing, .ref q_residues, .ref q_lifting, .ref q_guessed, .ref q_walk, .ref q_history, .ref q_book, .ref q_draws, .ref q_firstImage, .ref q_secondImage])), (q_now, .inr (3, [.int v_now_n, .int v_now_primeNumber, .ref q_now_numbers])), (q_now_numbers, .inl (cI, 20, .inl v_now_numbers)), (q_clearing, .inr (1, [.int v_clearing_n, .int v_clearing_rank, .int v_clearing_exchanges, .ref q_clearing_rows, .int v_clearing_width, .long v_clearing_scale, .ref q_clearing_leads])), (q_clearing_rows, .inl (cQ, 4, .inr (.inr (.inr (.inr (kg q_clearing_rows_r)))))), (q_clearing_rows_r 0, .inl (cJ, 5, .inr (.inl (v_clearing_rows 0)))), (q_clearing_rows_r 1, .inl (cJ, 5, .inr (.inl (v_clearing_rows 1)))), (q_clearing_rows_r 2, .inl (cJ, 5, .inr (.inl (v_clearing_rows 2)))), (q_clearing_rows_r 3, .inl (cJ, 5, .inr (.inl (v_clearing_rows 3)))), (q_clearing_leads, .inl (cI, 4, .inl v_clearing_leads))] := by
  refine kM_of (by decide +kernel) (Nat.le_of_ble_eq_true rfl) ?_
  intro p e s m args below meth c A ls R Q hR hQ hat hP hD hS hl
  obtain ⟨hx, hb, hr, hml, hown, hts, hT, hlk, hK, hA, hZ⟩ := id hat
  have hown : s.vm.findClass RX11 = some m.cls := hown
  have hl : lv_has ls 2 [(0, .ref q), (1, .int x1)] := hl
  unfold f_X11_toldOfTable at hf
  refine lv_aload_n hx hb dX11_toldOfTable_0 rfl (lv_at hl 0 rfl) ?_
  refine va_get (D := D) (ci := 10) (v := .ref q_clearing) (C := RX11) (T := TX11) (N := 11) hx hb hts kinX11 hown hK hP 0 rfl rfl 1 (by decide) (hts _ kw328) (fun _ h9 => h9) rfl dX11_toldOfTable_1 ?_
  refine lv_aload_n hx hb dX11_toldOfTable_4 rfl (lv_at hl 0 rfl) ?_
  refine va_get (D := D) (ci := 10) (v := .ref q_now) (C := RX11) (T := TX11) (N := 11) hx hb hts kinX11 hown hK hP 0 rfl rfl 0 (by decide) (hts _ kw327) (fun _ h9 => h9) rfl dX11_toldOfTable_5 ?_
  obtain ⟨w1, w2, w3, w4, w5, w6, h7, hf⟩ := kb6_e hf
  refine k_gv (nW := 10) (ws' := [(q, .inr (10, [.ref q_now, .ref q_clearing, .ref q_residues, .ref q_lifting, .ref q_guessed, .ref q_walk, .ref q_history, .ref q_book, .ref q_draws, .ref q_firstImage, .ref q_secondImage])), (q_now, .inr (3, [.int v_now_n, .int v_now_primeNumber, .ref q_now_numbers])), (q_now_numbers, .inl (cI, 20, .inl v_now_numbers)), (q_clearing, .inr (1, [.int w1, .int w2, .int w3, .ref q_clearing_rows, .int v_clearing_width, .long w4, .ref q_clearing_leads])), (q_clearing_rows, .inl (cQ, 4, .inr (.inr (.inr (.inr (kg q_clearing_rows_r)))))), (q_clearing_rows_r 0, .inl (cJ, 5, .inr (.inl (w5 0)))), (q_clearing_rows_r 1, .inl (cJ, 5, .inr (.inl (w5 1)))), (q_clearing_rows_r 2, .inl (cJ, 5, .inr (.inl (w5 2)))), (q_clearing_rows_r 3, .inl (cJ, 5, .inr (.inl (w5 3)))), (q_clearing_leads, .inl (cI, 4, .inl w6))]) (wr := [(q, .inr (10, [.ref q_now, .ref q_clearing, .ref q_residues, .ref q_lifting, .ref q_guessed, .ref q_walk, .ref q_history, .ref q_book, .ref q_draws, .ref q_firstImage, .ref q_secondImage]))]) (k_runV (rest := []) hat hP hD hS hl.1 (c_X1_clear q_clearing q_now q_clearing_rows q_clearing_leads q_clearing_rows_r q_now_numbers v_clearing_n v_clearing_rank v_clearing_exchanges v_clearing_width v_clearing_scale v_clearing_rows v_clearing_leads v_now_n v_now_primeNumber v_now_numbers F w1 w2 w3 w4 w5 w6 h7) [3, 4, 5, 6, 7, 8, 9, 1, 2] (by decide) rfl kw375 kw376 kw377 kw70 kw378 kdVX1_clear ⟨rfl, rfl⟩ (by rw [hR]; exact ⟨Nat.le_of_ble_eq_true rfl, Nat.le_of_ble_eq_true rfl⟩) ⟨Nat.zero_le _, Nat.zero_le _⟩ 3 1 rfl rfl rfl rfl (Nat.le_of_ble_eq_true rfl) dX11_toldOfTable_8) hat hP hD hS [3, 4, 5, 6, 7, 8, 9, 1, 2] rfl [0] rfl rfl rfl rfl rfl (by decide) (fun H locs hP hD hS => ?_)
  refine lv_iload_n hx hb dX11_toldOfTable_11 rfl (lv_at hl 1 rfl) ?_
  by_cases c8 : x1 = 2
  · have hf := kp_e hf c8
    refine lv_tableIn (tgt := 52) hx hb dX11_toldOfTable_12 (by rw [c8]; decide) (by rw [c8]; decide) (off := 40) (by rw [c8]; rfl) (by decide) ?_
    refine lv_aload_n hx hb dX11_toldOfTable_52 rfl (lv_at hl 0 rfl) ?_
    refine va_get (D := D) (ci := 10) (v := .ref q_clearing) (C := RX11) (T := TX11) (N := 11) hx hb hts kinX11 hown hK hP 0 rfl rfl 1 (by decide) (hts _ kw328) (fun _ h9 => h9) rfl dX11_toldOfTable_53 ?_
    obtain ⟨r9, h10, hf⟩ := kb1_e hf
    refine k_gl (nW := 10) (ws' := [(q, .inr (10, [.ref q_now, .ref q_clearing, .ref q_residues, .ref q_lifting, .ref q_guessed, .ref q_walk, .ref q_history, .ref q_book, .ref q_draws, .ref q_firstImage, .ref q_secondImage])), (q_now, .inr (3, [.int v_now_n, .int v_now_primeNumber, .ref q_now_numbers])), (q_now_numbers, .inl (cI, 20, .inl v_now_numbers)), (q_clearing, .inr (1, [.int w1, .int w2, .int w3, .ref q_clearing_rows, .int v_clearing_width, .long w4, .ref q_clearing_leads])), (q_clearing_rows, .inl (cQ, 4, .inr (.inr (.inr (.inr (kg q_clearing_rows_r)))))), (q_clearing_rows_r 0, .inl (cJ, 5, .inr (.inl (w5 0)))), (q_clearing_rows_r 1, .inl (cJ, 5, .inr (.inl (w5 1)))), (q_clearing_rows_r 2, .inl (cJ, 5, .inr (.inl (w5 2)))), (q_clearing_rows_r 3, .inl (cJ, 5, .inr (.inl (w5 3)))), (q_clearing_leads, .inl (cI, 4, .inl w6))]) (wr := [(q, .inr (10, [.ref q_now, .ref q_clearing, .ref q_residues, .ref q_lifting, .ref q_guessed, .ref q_walk, .ref q_history, .ref q_book, .ref q_draws, .ref q_firstImage, .ref q_secondImage])), (q_now, .inr (3, [.int v_now_n, .int v_now_primeNumber, .ref q_now_numbers])), (q_now_numbers, .inl (cI, 20, .inl v_now_numbers)), (q_clearing_rows, .inl (cQ, 4, .inr (.inr (.inr (.inr (kg q_clearing_rows_r)))))), (q_clearing_rows_r 0, .inl (cJ, 5, .inr (.inl (w5 0)))), (q_clearing_rows_r 1, .inl (cJ, 5, .inr (.inl (w5 1)))), (q_clearing_rows_r 2, .inl (cJ, 5, .inr (.inl (w5 2)))), (q_clearing_rows_r 3, .inl (cJ, 5, .inr (.inl (w5 3)))), (q_clearing_leads, .inl (cI, 4, .inl w6))]) (k_runV (rest := []) hat hP hD hS hl.1 (c_X1_determinant q_clearing q_clearing_rows q_clearing_leads w1 w2 w3 v_clearing_width w4 r9 h10) [3] (by decide) rfl kw420 kw421 kw422 kw70 kw423 kdVX1_determinant ⟨rfl, rfl⟩ (by rw [hR]; exact ⟨Nat.le_of_ble_eq_true rfl, Nat.le_of_ble_eq_true rfl⟩) ⟨Nat.zero_le _, Nat.zero_le _⟩ 3 1 rfl rfl rfl rfl (Nat.le_of_ble_eq_true rfl) dX11_toldOfTable_56) hat hP hD hS [3] rfl [0, 1, 2, 4, 5, 6, 7, 8, 9] rfl rfl rfl rfl rfl (by decide) (fun H locs hP hD hS => ?_)
    refine lv_l2i hx hb dX11_toldOfTable_59 rfl ?_
    refine lv_ldc hx hb hown (hts _ kw424) dX11_toldOfTable_60 ?_
    refine lv_iadd hx hb dX11_toldOfTable_62 ?_
    obtain ⟨rfl, rfl, rfl, rfl, rfl, rfl, rfl⟩ := ki7 hf
    rw [hQ]
    exact k_iret hat hP hS rfl dX11_toldOfTable_63
  · have hf := kn_e hf c8
    by_cases c11 : x1 = 3
    · have hf := kp_e hf c11
      refine lv_tableIn (tgt := 64) hx hb dX11_toldOfTable_12 (by rw [c11]; decide) (by rw [c11]; decide) (off := 52) (by rw [c11]; rfl) (by decide) ?_
      refine lv_aload_n hx hb dX11_toldOfTable_64 rfl (lv_at hl 0 rfl) ?_
      refine va_get (D := D) (ci := 10) (v := .ref q_clearing) (C := RX11) (T := TX11) (N := 11) hx hb hts kinX11 hown hK hP 0 rfl rfl 1 (by decide) (hts _ kw328) (fun _ h9 => h9) rfl dX11_toldOfTable_65 ?_
      refine va_get (D := D) (ci := 1) (v := .int w2) (C := RX1) (T := TX1) (N := 7) hx hb hts kinX1 hown hK hP 3 rfl rfl 1 (by decide) (hts _ kw144) (u_same (hts _ kw143)) rfl dX11_toldOfTable_68 ?_
      obtain ⟨rfl, rfl, rfl, rfl, rfl, rfl, rfl⟩ := ki7 hf
      rw [hQ]
      exact k_iret hat hP hS rfl dX11_toldOfTable_71
    · have hf := kn_e hf c11
      by_cases c12 : x1 = 4
      · have hf := kp_e hf c12
        refine lv_tableIn (tgt := 72) hx hb dX11_toldOfTable_12 (by rw [c12]; decide) (by rw [c12]; decide) (off := 60) (by rw [c12]; rfl) (by decide) ?_
        refine lv_aload_n hx hb dX11_toldOfTable_72 rfl (lv_at hl 0 rfl) ?_
        refine va_get (D := D) (ci := 10) (v := .ref q_clearing) (C := RX11) (T := TX11) (N := 11) hx hb hts kinX11 hown hK hP 0 rfl rfl 1 (by decide) (hts _ kw328) (fun _ h9 => h9) rfl dX11_toldOfTable_73 ?_
        obtain ⟨r13, h14, hf⟩ := kb1_e hf
        refine k_gi (nW := 10) (ws' := [(q, .inr (10, [.ref q_now, .ref q_clearing, .ref q_residues, .ref q_lifting, .ref q_guessed, .ref q_walk, .ref q_history, .ref q_book, .ref q_draws, .ref q_firstImage, .ref q_secondImage])), (q_now, .inr (3, [.int v_now_n, .int v_now_primeNumber, .ref q_now_numbers])), (q_now_numbers, .inl (cI, 20, .inl v_now_numbers)), (q_clearing, .inr (1, [.int w1, .int w2, .int w3, .ref q_clearing_rows, .int v_clearing_width, .long w4, .ref q_clearing_leads])), (q_clearing_rows, .inl (cQ, 4, .inr (.inr (.inr (.inr (kg q_clearing_rows_r)))))), (q_clearing_rows_r 0, .inl (cJ, 5, .inr (.inl (w5 0)))), (q_clearing_rows_r 1, .inl (cJ, 5, .inr (.inl (w5 1)))), (q_clearing_rows_r 2, .inl (cJ, 5, .inr (.inl (w5 2)))), (q_clearing_rows_r 3, .inl (cJ, 5, .inr (.inl (w5 3)))), (q_clearing_leads, .inl (cI, 4, .inl w6))]) (wr := [(q, .inr (10, [.ref q_now, .ref q_clearing, .ref q_residues, .ref q_lifting, .ref q_guessed, .ref q_walk, .ref q_history, .ref q_book, .ref q_draws, .ref q_firstImage, .ref q_secondImage])), (q_now, .inr (3, [.int v_now_n, .int v_now_primeNumber, .ref q_now_numbers])), (q_now_numbers, .inl (cI, 20, .inl v_now_numbers)), (q_clearing_leads, .inl (cI, 4, .inl w6))]) (k_runV (rest := []) hat hP hD hS hl.1 (c_X1_wideRank q_clearing q_clearing_rows q_clearing_leads q_clearing_rows_r w1 w2 w3 v_clearing_width w4 w5 F r13 h14) [3, 4, 5, 6, 7, 8] (by decide) rfl kw425 kw426 kw427 kw70 kw428 kdVX1_wideRank ⟨rfl, rfl⟩ (by rw [hR]; exact ⟨Nat.le_of_ble_eq_true rfl, Nat.le_of_ble_eq_true rfl⟩) ⟨Nat.zero_le _, Nat.zero_le _⟩ 3 1 rfl rfl rfl rfl (Nat.le_of_ble_eq_true rfl) dX11_toldOfTable_76) hat hP hD hS [3, 4, 5, 6, 7, 8] rfl [0, 1, 2, 9] rfl rfl rfl rfl rfl (by decide) (fun H locs hP hD hS => ?_)
        obtain ⟨rfl, rfl, rfl, rfl, rfl, rfl, rfl⟩ := ki7 hf
        rw [hQ]
        exact k_iret hat hP hS rfl dX11_toldOfTable_79
      · have hf := kn_e hf c12
        by_cases c15 : x1 = 5
        · have hf := kp_e hf c15
          refine lv_tableIn (tgt := 80) hx hb dX11_toldOfTable_12 (by rw [c15]; decide) (by rw [c15]; decide) (off := 68) (by rw [c15]; rfl) (by decide) ?_
          refine lv_aload_n hx hb dX11_toldOfTable_80 rfl (lv_at hl 0 rfl) ?_
          refine va_get (D := D) (ci := 10) (v := .ref q_clearing) (C := RX11) (T := TX11) (N := 11) hx hb hts kinX11 hown hK hP 0 rfl rfl 1 (by decide) (hts _ kw328) (fun _ h9 => h9) rfl dX11_toldOfTable_81 ?_
          obtain ⟨r16, h17, hf⟩ := kb1_e hf
          refine k_gi (nW := 10) (ws' := [(q, .inr (10, [.ref q_now, .ref q_clearing, .ref q_residues, .ref q_lifting, .ref q_guessed, .ref q_walk, .ref q_history, .ref q_book, .ref q_draws, .ref q_firstImage, .ref q_secondImage])), (q_now, .inr (3, [.int v_now_n, .int v_now_primeNumber, .ref q_now_numbers])), (q_now_numbers, .inl (cI, 20, .inl v_now_numbers)), (q_clearing, .inr (1, [.int w1, .int w2, .int w3, .ref q_clearing_rows, .int v_clearing_width, .long w4, .ref q_clearing_leads])), (q_clearing_rows, .inl (cQ, 4, .inr (.inr (.inr (.inr (kg q_clearing_rows_r)))))), (q_clearing_rows_r 0, .inl (cJ, 5, .inr (.inl (w5 0)))), (q_clearing_rows_r 1, .inl (cJ, 5, .inr (.inl (w5 1)))), (q_clearing_rows_r 2, .inl (cJ, 5, .inr (.inl (w5 2)))), (q_clearing_rows_r 3, .inl (cJ, 5, .inr (.inl (w5 3)))), (q_clearing_leads, .inl (cI, 4, .inl w6))]) (wr := [(q, .inr (10, [.ref q_now, .ref q_clearing, .ref q_residues, .ref q_lifting, .ref q_guessed, .ref q_walk, .ref q_history, .ref q_book, .ref q_draws, .ref q_firstImage, .ref q_secondImage])), (q_now, .inr (3, [.int v_now_n, .int v_now_primeNumber, .ref q_now_numbers])), (q_now_numbers, .inl (cI, 20, .inl v_now_numbers)), (q_clearing_leads, .inl (cI, 4, .inl w6))]) (k_runV (rest := []) hat hP hD hS hl.1 (c_X1_kind q_clearing q_clearing_rows q_clearing_leads q_clearing_rows_r w1 w2 w3 v_clearing_width w4 w5 F r16 h17) [3, 4, 5, 6, 7, 8] (by decide) rfl kw435 kw436 kw437 kw70 kw438 kdVX1_kind ⟨rfl, rfl⟩ (by rw [hR]; exact ⟨Nat.le_of_ble_eq_true rfl, Nat.le_of_ble_eq_true rfl⟩) ⟨Nat.zero_le _, Nat.zero_le _⟩ 3 1 rfl rfl rfl rfl (Nat.le_of_ble_eq_true rfl) dX11_toldOfTable_84) hat hP hD hS [3, 4, 5, 6, 7, 8] rfl [0, 1, 2, 9] rfl rfl rfl rfl rfl (by decide) (fun H locs hP hD hS => ?_)
          obtain ⟨rfl, rfl, rfl, rfl, rfl, rfl, rfl⟩ := ki7 hf
          rw [hQ]
          exact k_iret hat hP hS rfl dX11_toldOfTable_87
        · have hf := kn_e hf c15
          by_cases c18 : x1 = 6
          · have hf := kp_e hf c18
            refine lv_tableIn (tgt := 88) hx hb dX11_toldOfTable_12 (by rw [c18]; decide) (by rw [c18]; decide) (off := 76) (by rw [c18]; rfl) (by decide) ?_
            refine lv_aload_n hx hb dX11_toldOfTable_88 rfl (lv_at hl 0 rfl) ?_
            refine va_get (D := D) (ci := 10) (v := .ref q_clearing) (C := RX11) (T := TX11) (N := 11) hx hb hts kinX11 hown hK hP 0 rfl rfl 1 (by decide) (hts _ kw328) (fun _ h9 => h9) rfl dX11_toldOfTable_89 ?_
            obtain ⟨r19, h20, hf⟩ := kb1_e hf
            refine k_gi (nW := 10) (ws' := [(q, .inr (10, [.ref q_now, .ref q_clearing, .ref q_residues, .ref q_lifting, .ref q_guessed, .ref q_walk, .ref q_history, .ref q_book, .ref q_draws, .ref q_firstImage, .ref q_secondImage])), (q_now, .inr (3, [.int v_now_n, .int v_now_primeNumber, .ref q_now_numbers])), (q_now_numbers, .inl (cI, 20, .inl v_now_numbers)), (q_clearing, .inr (1, [.int w1, .int w2, .int w3, .ref q_clearing_rows, .int v_clearing_width, .long w4, .ref q_clearing_leads])), (q_clearing_rows, .inl (cQ, 4, .inr (.inr (.inr (.inr (kg q_clearing_rows_r)))))), (q_clearing_rows_r 0, .inl (cJ, 5, .inr (.inl (w5 0)))), (q_clearing_rows_r 1, .inl (cJ, 5, .inr (.inl (w5 1)))), (q_clearing_rows_r 2, .inl (cJ, 5, .inr (.inl (w5 2)))), (q_clearing_rows_r 3, .inl (cJ, 5, .inr (.inl (w5 3)))), (q_clearing_leads, .inl (cI, 4, .inl w6))]) (wr := [(q, .inr (10, [.ref q_now, .ref q_clearing, .ref q_residues, .ref q_lifting, .ref q_guessed, .ref q_walk, .ref q_history, .ref q_book, .ref q_draws, .ref q_firstImage, .ref q_secondImage])), (q_now, .inr (3, [.int v_now_n, .int v_now_primeNumber, .ref q_now_numbers])), (q_now_numbers, .inl (cI, 20, .inl v_now_numbers)), (q_clearing_rows, .inl (cQ, 4, .inr (.inr (.inr (.inr (kg q_clearing_rows_r)))))), (q_clearing_rows_r 0, .inl (cJ, 5, .inr (.inl (w5 0)))), (q_clearing_rows_r 1, .inl (cJ, 5, .inr (.inl (w5 1)))), (q_clearing_rows_r 2, .inl (cJ, 5, .inr (.inl (w5 2)))), (q_clearing_rows_r 3, .inl (cJ, 5, .inr (.inl (w5 3))))]) (k_runV (rest := []) hat hP hD hS hl.1 (c_X1_leading q_clearing q_clearing_rows q_clearing_leads w1 w2 w3 v_clearing_width w4 w6 F r19 h20) [3, 9] (by decide) rfl kw439 kw440 kw441 kw70 kw442 kdVX1_leading ⟨rfl, rfl⟩ (by rw [hR]; exact ⟨Nat.le_of_ble_eq_true rfl, Nat.le_of_ble_eq_true rfl⟩) ⟨Nat.zero_le _, Nat.zero_le _⟩ 3 1 rfl rfl rfl rfl (Nat.le_of_ble_eq_true rfl) dX11_toldOfTable_92) hat hP hD hS [3, 9] rfl [0, 1, 2, 4, 5, 6, 7, 8] rfl rfl rfl rfl rfl (by decide) (fun H locs hP hD hS => ?_)
            obtain ⟨rfl, rfl, rfl, rfl, rfl, rfl, rfl⟩ := ki7 hf
            rw [hQ]
            exact k_iret hat hP hS rfl dX11_toldOfTable_95
          · have hf := kn_e hf c18
            by_cases c21 : x1 = 7
            · have hf := kp_e hf c21
              refine lv_tableIn (tgt := 96) hx hb dX11_toldOfTable_12 (by rw [c21]; decide) (by rw [c21]; decide) (off := 84) (by rw [c21]; rfl) (by decide) ?_
              refine lv_aload_n hx hb dX11_toldOfTable_96 rfl (lv_at hl 0 rfl) ?_
              refine va_get (D := D) (ci := 10) (v := .ref q_clearing) (C := RX11) (T := TX11) (N := 11) hx hb hts kinX11 hown hK hP 0 rfl rfl 1 (by decide) (hts _ kw328) (fun _ h9 => h9) rfl dX11_toldOfTable_97 ?_
              obtain ⟨r22, h23, hf⟩ := kb1_e hf
              refine k_gi (nW := 10) (ws' := [(q, .inr (10, [.ref q_now, .ref q_clearing, .ref q_residues, .ref q_lifting, .ref q_guessed, .ref q_walk, .ref q_history, .ref q_book, .ref q_draws, .ref q_firstImage, .ref q_secondImage])), (q_now, .inr (3, [.int v_now_n, .int v_now_primeNumber, .ref q_now_numbers])), (q_now_numbers, .inl (cI, 20, .inl v_now_numbers)), (q_clearing, .inr (1, [.int w1, .int w2, .int w3, .ref q_clearing_rows, .int v_clearing_width, .long w4, .ref q_clearing_leads])), (q_clearing_rows, .inl (cQ, 4, .inr (.inr (.inr (.inr (kg q_clearing_rows_r)))))), (q_clearing_rows_r 0, .inl (cJ, 5, .inr (.inl (w5 0)))), (q_clearing_rows_r 1, .inl (cJ, 5, .inr (.inl (w5 1)))), (q_clearing_rows_r 2, .inl (cJ, 5, .inr (.inl (w5 2)))), (q_clearing_rows_r 3, .inl (cJ, 5, .inr (.inl (w5 3)))), (q_clearing_leads, .inl (cI, 4, .inl w6))]) (wr := [(q, .inr (10, [.ref q_now, .ref q_clearing, .ref q_residues, .ref q_lifting, .ref q_guessed, .ref q_walk, .ref q_history, .ref q_book, .ref q_draws, .ref q_firstImage, .ref q_secondImage])), (q_now, .inr (3, [.int v_now_n, .int v_now_primeNumber, .ref q_now_numbers])), (q_now_numbers, .inl (cI, 20, .inl v_now_numbers)), (q_clearing_leads, .inl (cI, 4, .inl w6))]) (k_runV (rest := []) hat hP hD hS hl.1 (c_X1_broken q_clearing q_clearing_rows q_clearing_leads q_clearing_rows_r w1 w2 w3 v_clearing_width w4 w5 F r22 h23) [3, 4, 5, 6, 7, 8] (by decide) rfl kw443 kw444 kw445 kw70 kw446 kdVX1_broken ⟨rfl, rfl⟩ (by rw [hR]; exact ⟨Nat.le_of_ble_eq_true rfl, Nat.le_of_ble_eq_true rfl⟩) ⟨Nat.zero_le _, Nat.zero_le _⟩ 3 1 rfl rfl rfl rfl (Nat.le_of_ble_eq_true rfl) dX11_toldOfTable_100) hat hP hD hS [3, 4, 5, 6, 7, 8] rfl [0, 1, 2, 9] rfl rfl rfl rfl rfl (by decide) (fun H locs hP hD hS => ?_)
              obtain ⟨rfl, rfl, rfl, rfl, rfl, rfl, rfl⟩ := ki7 hf
              rw [hQ]
              exact k_iret hat hP hS rfl dX11_toldOfTable_103
            · have hf := kn_e hf c21
              have c8_ : x1.toInt ≠ 2 := fun h9 => c8 (Int32.toInt_inj.mp (h9.trans (by decide)))
              have c11_ : x1.toInt ≠ 3 := fun h9 => c11 (Int32.toInt_inj.mp (h9.trans (by decide)))
              have c12_ : x1.toInt ≠ 4 := fun h9 => c12 (Int32.toInt_inj.mp (h9.trans (by decide)))
              have c15_ : x1.toInt ≠ 5 := fun h9 => c15 (Int32.toInt_inj.mp (h9.trans (by decide)))
              have c18_ : x1.toInt ≠ 6 := fun h9 => c18 (Int32.toInt_inj.mp (h9.trans (by decide)))
              have c21_ : x1.toInt ≠ 7 := fun h9 => c21 (Int32.toInt_inj.mp (h9.trans (by decide)))
              refine lv_tableOut (tgt := 104) hx hb dX11_toldOfTable_12 (by omega) (by decide) ?_
              refine lv_aload_n hx hb dX11_toldOfTable_104 rfl (lv_at hl 0 rfl) ?_
              refine va_get (D := D) (ci := 10) (v := .ref q_clearing) (C := RX11) (T := TX11) (N := 11) hx hb hts kinX11 hown hK hP 0 rfl rfl 1 (by decide) (hts _ kw328) (fun _ h9 => h9) rfl dX11_toldOfTable_105 ?_
              obtain ⟨r24, h25, hf⟩ := kb1_e hf
              refine k_gl (nW := 10) (ws' := [(q, .inr (10, [.ref q_now, .ref q_clearing, .ref q_residues, .ref q_lifting, .ref q_guessed, .ref q_walk, .ref q_history, .ref q_book, .ref q_draws, .ref q_firstImage, .ref q_secondImage])), (q_now, .inr (3, [.int v_now_n, .int v_now_primeNumber, .ref q_now_numbers])), (q_now_numbers, .inl (cI, 20, .inl v_now_numbers)), (q_clearing, .inr (1, [.int w1, .int w2, .int w3, .ref q_clearing_rows, .int v_clearing_width, .long w4, .ref q_clearing_leads])), (q_clearing_rows, .inl (cQ, 4, .inr (.inr (.inr (.inr (kg q_clearing_rows_r)))))), (q_clearing_rows_r 0, .inl (cJ, 5, .inr (.inl (w5 0)))), (q_clearing_rows_r 1, .inl (cJ, 5, .inr (.inl (w5 1)))), (q_clearing_rows_r 2, .inl (cJ, 5, .inr (.inl (w5 2)))), (q_clearing_rows_r 3, .inl (cJ, 5, .inr (.inl (w5 3)))), (q_clearing_leads, .inl (cI, 4, .inl w6))]) (wr := [(q, .inr (10, [.ref q_now, .ref q_clearing, .ref q_residues, .ref q_lifting, .ref q_guessed, .ref q_walk, .ref q_history, .ref q_book, .ref q_draws, .ref q_firstImage, .ref q_secondImage])), (q_now, .inr (3, [.int v_now_n, .int v_now_primeNumber, .ref q_now_numbers])), (q_now_numbers, .inl (cI, 20, .inl v_now_numbers)), (q_clearing_rows, .inl (cQ, 4, .inr (.inr (.inr (.inr (kg q_clearing_rows_r)))))), (q_clearing_rows_r 0, .inl (cJ, 5, .inr (.inl (w5 0)))), (q_clearing_rows_r 1, .inl (cJ, 5, .inr (.inl (w5 1)))), (q_clearing_rows_r 2, .inl (cJ, 5, .inr (.inl (w5 2)))), (q_clearing_rows_r 3, .inl (cJ, 5, .inr (.inl (w5 3)))), (q_clearing_leads, .inl (cI, 4, .inl w6))]) (k_runV (rest := []) hat hP hD hS hl.1 (c_X1_determinant q_clearing q_clearing_rows q_clearing_leads w1 w2 w3 v_clearing_width w4 r24 h25) [3] (by decide) rfl kw420 kw421 kw422 kw70 kw423 kdVX1_determinant ⟨rfl, rfl⟩ (by rw [hR]; exact ⟨Nat.le_of_ble_eq_true rfl, Nat.le_of_ble_eq_true rfl⟩) ⟨Nat.zero_le _, Nat.zero_le _⟩ 3 1 rfl rfl rfl rfl (Nat.le_of_ble_eq_true rfl) dX11_toldOfTable_108) hat hP hD hS [3] rfl [0, 1, 2, 4, 5, 6, 7, 8, 9] rfl rfl rfl rfl rfl (by decide) (fun H locs hP hD hS => ?_)
              obtain ⟨r26, h27, hf⟩ := kb1_e hf
              refine k_gi (nW := 10) (ws' := [(q, .inr (10, [.ref q_now, .ref q_clearing, .ref q_residues, .ref q_lifting, .ref q_guessed, .ref q_walk, .ref q_history, .ref q_book, .ref q_draws, .ref q_firstImage, .ref q_secondImage])), (q_now, .inr (3, [.int v_now_n, .int v_now_primeNumber, .ref q_now_numbers])), (q_now_numbers, .inl (cI, 20, .inl v_now_numbers)), (q_clearing, .inr (1, [.int w1, .int w2, .int w3, .ref q_clearing_rows, .int v_clearing_width, .long w4, .ref q_clearing_leads])), (q_clearing_rows, .inl (cQ, 4, .inr (.inr (.inr (.inr (kg q_clearing_rows_r)))))), (q_clearing_rows_r 0, .inl (cJ, 5, .inr (.inl (w5 0)))), (q_clearing_rows_r 1, .inl (cJ, 5, .inr (.inl (w5 1)))), (q_clearing_rows_r 2, .inl (cJ, 5, .inr (.inl (w5 2)))), (q_clearing_rows_r 3, .inl (cJ, 5, .inr (.inl (w5 3)))), (q_clearing_leads, .inl (cI, 4, .inl w6))]) (wr := [(q, .inr (10, [.ref q_now, .ref q_clearing, .ref q_residues, .ref q_lifting, .ref q_guessed, .ref q_walk, .ref q_history, .ref q_book, .ref q_draws, .ref q_firstImage, .ref q_secondImage])), (q_now, .inr (3, [.int v_now_n, .int v_now_primeNumber, .ref q_now_numbers])), (q_now_numbers, .inl (cI, 20, .inl v_now_numbers)), (q_clearing, .inr (1, [.int w1, .int w2, .int w3, .ref q_clearing_rows, .int v_clearing_width, .long w4, .ref q_clearing_leads])), (q_clearing_rows, .inl (cQ, 4, .inr (.inr (.inr (.inr (kg q_clearing_rows_r)))))), (q_clearing_rows_r 0, .inl (cJ, 5, .inr (.inl (w5 0)))), (q_clearing_rows_r 1, .inl (cJ, 5, .inr (.inl (w5 1)))), (q_clearing_rows_r 2, .inl (cJ, 5, .inr (.inl (w5 2)))), (q_clearing_rows_r 3, .inl (cJ, 5, .inr (.inl (w5 3)))), (q_clearing_leads, .inl (cI, 4, .inl w6))]) (k_runS (rest := []) hat hP hD hS hl.1 (c_X11_badPrimes F r24 r26 h27) [] (by decide) rfl kw462 kw463 kw67 kw464 kdX11_badPrimes ⟨rfl, rfl⟩ (by rw [hR]; exact ⟨Nat.le_of_ble_eq_true rfl, Nat.le_of_ble_eq_true rfl⟩) ⟨Nat.zero_le _, Nat.zero_le _⟩ rfl rfl (Nat.le_of_ble_eq_true rfl) dX11_toldOfTable_111) hat hP hD hS [] rfl [0, 1, 2, 3, 4, 5, 6, 7, 8, 9] rfl rfl rfl rfl rfl (by decide) (fun H locs hP hD hS => ?_)
              obtain ⟨rfl, rfl, rfl, rfl, rfl, rfl, rfl⟩ := ki7 hf
              rw [hQ]
              exact k_iret hat hP hS rfl dX11_toldOfTable_114
set_option maxHeartbeats 4000000 in
set_option maxRecDepth 100000 in
theorem c_X9_exchangeRows_R {l : Launch} {D : va_G} {cI cJ cQ : ClassId} {tp : Nat} (q : Nat) (q_rows : Nat) (q_rows_r : Nat → Nat) (v_n : Int32) (v_rank : Int32) (v_exchanges : Int32) (v_width : Int32) (v_p : Int32) (v_rows : (Nat → Nat → Int64)) (F : Nat) (x1 : Int32) (x2 : Int32) (o_v_rows : (Nat → Nat → Int64)) (hf : f_X9_exchangeRows_R F v_width v_rows x1 x2 = some o_v_rows) : kM (fun A => kQv D A [(q, .inr (8, [.int v_n, .int v_rank, .int v_exchanges, .ref q_rows, .int v_width, .int v_p])), (q_rows, .inl (cQ, 4, .inr (.inr (.inr (.inr (kg q_rows_r)))))), (q_rows_r 0, .inl (cJ, 9, .inr (.inl (o_v_rows 0)))), (q_rows_r 1, .inl (cJ, 9, .inr (.inl (o_v_rows 1)))), (q_rows_r 2, .inl (cJ, 9, .inr (.inl (o_v_rows 2)))), (q_rows_r 3, .inl (cJ, 9, .inr (.inl (o_v_rows 3))))]) none l yX9_exchangeRows cX9_exchangeRows 6 { frames := 0, cells := 0, slots := 0, locals := 0 } D cI cJ cQ tp [.ref q, .int x1, .int x2] [(q, .inr (8, [.int v_n, .int v_rank, .int v_exchanges, .ref q_rows, .int v_width, .int v_p])), (q_rows, .inl (cQ, 4, .inr (.inr (.inr (.inr (kg q_rows_r)))))), (q_rows_r 0, .inl (cJ, 9, .inr (.inl (v_rows 0)))), (q_rows_r 1, .inl (cJ, 9, .inr (.inl (v_rows 1)))), (q_rows_r 2, .inl (cJ, 9, .inr (.inl (v_rows 2)))), (q_rows_r 3, .inl (cJ, 9, .inr (.inl (v_rows 3))))] := by
  refine kM_of (by decide +kernel) (Nat.le_of_ble_eq_true rfl) ?_
  intro p e s m args below meth c A ls R Q hR hQ hat hP hD hS hl
  obtain ⟨hx, hb, hr, hml, hown, hts, hT, hlk, hK, hA, hZ⟩ := id hat
  have hown : s.vm.findClass RX9 = some m.cls := hown
  have hl : lv_has ls 6 [(0, .ref q), (1, .int x1), (2, .int x2)] := hl
  have hL2 : ∀ (x1 : Int32) (x2 : Int32) (v_n : Int32) (v_rank : Int32) (v_exchanges : Int32) (v_width : Int32) (v_p : Int32) (fu : Nat) (x3 : Int32) (v_rows : (Nat → Nat → Int64)) (o0 : (Nat → Nat → Int64)), L_X9_exchangeRows_R_2 x1 x2 v_width fu x3 v_rows = some o0 → (∀ (H : Heap) (locs : List Loc) (ls : Array Slot), va_P D vwCl [(q, .inr (8, [.int v_n, .int v_rank, .int v_exchanges, .ref q_rows, .int v_width, .int v_p])), (q_rows, .inl (cQ, 4, .inr (.inr (.inr (.inr (kg q_rows_r)))))), (q_rows_r 0, .inl (cJ, 9, .inr (.inl (o0 0)))), (q_rows_r 1, .inl (cJ, 9, .inr (.inl (o0 1)))), (q_rows_r 2, .inl (cJ, 9, .inr (.inl (o0 2)))), (q_rows_r 3, .inl (cJ, 9, .inr (.inl (o0 3))))] H → va_D A [(q, .inr (8, [.int v_n, .int v_rank, .int v_exchanges, .ref q_rows, .int v_width, .int v_p])), (q_rows, .inl (cQ, 4, .inr (.inr (.inr (.inr (kg q_rows_r)))))), (q_rows_r 0, .inl (cJ, 9, .inr (.inl (o0 0)))), (q_rows_r 1, .inl (cJ, 9, .inr (.inl (o0 1)))), (q_rows_r 2, .inl (cJ, 9, .inr (.inl (o0 2)))), (q_rows_r 3, .inl (cJ, 9, .inr (.inl (o0 3))))] → va_S A s.heap H locs → lv_has ls 6 [] → W p l e R s m args below meth c H locs 0 0 Q (F0 m 52 ls [])) → ∀ (H : Heap) (locs : List Loc) (ls : Array Slot), va_P D vwCl [(q, .inr (8, [.int v_n, .int v_rank, .int v_exchanges, .ref q_rows, .int v_width, .int v_p])), (q_rows, .inl (cQ, 4, .inr (.inr (.inr (.inr (kg q_rows_r)))))), (q_rows_r 0, .inl (cJ, 9, .inr (.inl (v_rows 0)))), (q_rows_r 1, .inl (cJ, 9, .inr (.inl (v_rows 1)))), (q_rows_r 2, .inl (cJ, 9, .inr (.inl (v_rows 2)))), (q_rows_r 3, .inl (cJ, 9, .inr (.inl (v_rows 3))))] H → va_D A [(q, .inr (8, [.int v_n, .int v_rank, .int v_exchanges, .ref q_rows, .int v_width, .int v_p])), (q_rows, .inl (cQ, 4, .inr (.inr (.inr (.inr (kg q_rows_r)))))), (q_rows_r 0, .inl (cJ, 9, .inr (.inl (v_rows 0)))), (q_rows_r 1, .inl (cJ, 9, .inr (.inl (v_rows 1)))), (q_rows_r 2, .inl (cJ, 9, .inr (.inl (v_rows 2)))), (q_rows_r 3, .inl (cJ, 9, .inr (.inl (v_rows 3))))] → va_S A s.heap H locs → lv_has ls 6 [(0, .ref q), (1, .int x1), (2, .int x2), (3, .int x3)] → W p l e R s m args below meth c H locs 0 0 Q (F0 m 2 ls []) := by
    intro x1 x2 v_n v_rank v_exchanges v_width v_p fu
    induction fu with
    | zero =>
      intro x3 v_rows o0 hf
      cases hf
    | succ fu ih =>
      intro x3 v_rows o0 hf hk0 H locs ls hP hD hS hl
      rw [L_X9_exchangeRows_R_2] at hf
      refine lv_iload_n hx hb dX9_exchangeRows_2 rfl (lv_at hl 3 rfl) ?_
      refine lv_aload_n hx hb dX9_exchangeRows_3 rfl (lv_at hl 0 rfl) ?_
      refine va_get (D := D) (ci := 8) (v := .int v_width) (C := RX8) (T := TX8) (N := 6) hx hb hts kinX8 hown hK hP 0 rfl rfl 4 (by decide) (hts _ kw154) (fun _ h9 => h9) rfl dX9_exchangeRows_4 ?_
      refine lv_icmp_ge (tgt := 52) hx hb dX9_exchangeRows_7 (by decide) (fun c1 => ?_) (fun c1 => ?_)
      · have hf := kp_e hf c1
        obtain rfl := ki1 hf
        exact hk0 _ _ _ hP hD hS (lv_sub hl [] rfl)
      · have hf := kn_e hf c1
        refine lv_aload_n hx hb dX9_exchangeRows_10 rfl (lv_at hl 0 rfl) ?_
        refine va_get (D := D) (ci := 8) (v := .ref q_rows) (C := RX8) (T := TX8) (N := 6) hx hb hts kinX8 hown hK hP 0 rfl rfl 3 (by decide) (hts _ kw149) (fun _ h9 => h9) rfl dX9_exchangeRows_11 ?_
        refine lv_iload_n hx hb dX9_exchangeRows_14 rfl (lv_at hl 1 rfl) ?_
        obtain ⟨c2, hf⟩ := kc_e hf
        refine k_gld hx hb hK hP 1 rfl c2 dX9_exchangeRows_15 ?_
        refine lv_iload_n hx hb dX9_exchangeRows_16 rfl (lv_at hl 3 rfl) ?_
        obtain ⟨c3, hf⟩ := kc_e hf
        refine k_rld hx hb hK hP 2 (fun k hk => (co_4 (P := fun k => ([(q, .inr (8, [.int v_n, .int v_rank, .int v_exchanges, .ref q_rows, .int v_width, .int v_p])), (q_rows, .inl (cQ, 4, .inr (.inr (.inr (.inr (kg q_rows_r)))))), (q_rows_r 0, .inl (cJ, 9, .inr (.inl (v_rows 0)))), (q_rows_r 1, .inl (cJ, 9, .inr (.inl (v_rows 1)))), (q_rows_r 2, .inl (cJ, 9, .inr (.inl (v_rows 2)))), (q_rows_r 3, .inl (cJ, 9, .inr (.inl (v_rows 3))))] : va_W)[2 + k]? = some (q_rows_r k, .inl (cJ, 9, .inr (.inl (v_rows k))))) rfl rfl rfl rfl) hk) (kin_nat c2) c3 dX9_exchangeRows_17 ?_
        refine lv_topl (fun t4 et4 => ?_)
        have hf := kl_e hf t4 et4
        refine lv_lstore (lv' := [(4, .long t4), (0, .ref q), (1, .int x1), (2, .int x2), (3, .int x3)]) hx hb dX9_exchangeRows_18 hl (by decide) rfl (fun ls hl => ?_)
        refine lv_aload_n hx hb dX9_exchangeRows_20 rfl (lv_at hl 1 rfl) ?_
        refine va_get (D := D) (ci := 8) (v := .ref q_rows) (C := RX8) (T := TX8) (N := 6) hx hb hts kinX8 hown hK hP 0 rfl rfl 3 (by decide) (hts _ kw149) (fun _ h9 => h9) rfl dX9_exchangeRows_21 ?_
        refine lv_iload_n hx hb dX9_exchangeRows_24 rfl (lv_at hl 2 rfl) ?_
        obtain ⟨c5, hf⟩ := kc_e hf
        refine k_gld hx hb hK hP 1 rfl c5 dX9_exchangeRows_25 ?_
        refine lv_iload_n hx hb dX9_exchangeRows_26 rfl (lv_at hl 4 rfl) ?_
        refine lv_aload_n hx hb dX9_exchangeRows_27 rfl (lv_at hl 1 rfl) ?_
        refine va_get (D := D) (ci := 8) (v := .ref q_rows) (C := RX8) (T := TX8) (N := 6) hx hb hts kinX8 hown hK hP 0 rfl rfl 3 (by decide) (hts _ kw149) (fun _ h9 => h9) rfl dX9_exchangeRows_28 ?_
        refine lv_iload_n hx hb dX9_exchangeRows_31 rfl (lv_at hl 3 rfl) ?_
        obtain ⟨c6, hf⟩ := kc_e hf
        refine k_gld hx hb hK hP 1 rfl c6 dX9_exchangeRows_32 ?_
        refine lv_iload_n hx hb dX9_exchangeRows_33 rfl (lv_at hl 4 rfl) ?_
        obtain ⟨c7, hf⟩ := kc_e hf
        refine k_rld hx hb hK hP 2 (fun k hk => (co_4 (P := fun k => ([(q, .inr (8, [.int v_n, .int v_rank, .int v_exchanges, .ref q_rows, .int v_width, .int v_p])), (q_rows, .inl (cQ, 4, .inr (.inr (.inr (.inr (kg q_rows_r)))))), (q_rows_r 0, .inl (cJ, 9, .inr (.inl (v_rows 0)))), (q_rows_r 1, .inl (cJ, 9, .inr (.inl (v_rows 1)))), (q_rows_r 2, .inl (cJ, 9, .inr (.inl (v_rows 2)))), (q_rows_r 3, .inl (cJ, 9, .inr (.inl (v_rows 3))))] : va_W)[2 + k]? = some (q_rows_r k, .inl (cJ, 9, .inr (.inl (v_rows k))))) rfl rfl rfl rfl) hk) (kin_nat c6) c7 dX9_exchangeRows_34 ?_
        obtain ⟨c8, hf⟩ := kc_e hf
        refine k_rst (ws' := fun M9 => [(q, .inr (8, [.int v_n, .int v_rank, .int v_exchanges, .ref q_rows, .int v_width, .int v_p])), (q_rows, .inl (cQ, 4, .inr (.inr (.inr (.inr (kg q_rows_r)))))), (q_rows_r 0, .inl (cJ, 9, .inr (.inl (M9 0)))), (q_rows_r 1, .inl (cJ, 9, .inr (.inl (M9 1)))), (q_rows_r 2, .inl (cJ, 9, .inr (.inl (M9 2)))), (q_rows_r 3, .inl (cJ, 9, .inr (.inl (M9 3))))]) hx hb hK hP hD hS 2 (fun k hk => (co_4 (P := fun k => ([(q, .inr (8, [.int v_n, .int v_rank, .int v_exchanges, .ref q_rows, .int v_width, .int v_p])), (q_rows, .inl (cQ, 4, .inr (.inr (.inr (.inr (kg q_rows_r)))))), (q_rows_r 0, .inl (cJ, 9, .inr (.inl (v_rows 0)))), (q_rows_r 1, .inl (cJ, 9, .inr (.inl (v_rows 1)))), (q_rows_r 2, .inl (cJ, 9, .inr (.inl (v_rows 2)))), (q_rows_r 3, .inl (cJ, 9, .inr (.inl (v_rows 3))))] : va_W)[2 + k]? = some (q_rows_r k, .inl (cJ, 9, .inr (.inl (v_rows k))))) rfl rfl rfl rfl) hk) (fun k hk => (co_4 (P := fun k => ∀ f : Nat → Int64, ([(q, .inr (8, [.int v_n, .int v_rank, .int v_exchanges, .ref q_rows, .int v_width, .int v_p])), (q_rows, .inl (cQ, 4, .inr (.inr (.inr (.inr (kg q_rows_r)))))), (q_rows_r 0, .inl (cJ, 9, .inr (.inl (v_rows 0)))), (q_rows_r 1, .inl (cJ, 9, .inr (.inl (v_rows 1)))), (q_rows_r 2, .inl (cJ, 9, .inr (.inl (v_rows 2)))), (q_rows_r 3, .inl (cJ, 9, .inr (.inl (v_rows 3))))] : va_W).set (2 + k) (q_rows_r k, .inl (cJ, 9, .inr (.inl f))) = (fun M9 : Nat → Nat → Int64 => ([(q, .inr (8, [.int v_n, .int v_rank, .int v_exchanges, .ref q_rows, .int v_width, .int v_p])), (q_rows, .inl (cQ, 4, .inr (.inr (.inr (.inr (kg q_rows_r)))))), (q_rows_r 0, .inl (cJ, 9, .inr (.inl (M9 0)))), (q_rows_r 1, .inl (cJ, 9, .inr (.inl (M9 1)))), (q_rows_r 2, .inl (cJ, 9, .inr (.inl (M9 2)))), (q_rows_r 3, .inl (cJ, 9, .inr (.inl (M9 3))))] : va_W)) (ku v_rows k f)) (fun _ => rfl) (fun _ => rfl) (fun _ => rfl) (fun _ => rfl)) hk) (kin_nat c5) c8 dX9_exchangeRows_35 (fun H locs hP hD hS => ?_)
        generalize ew9 : (ku v_rows (x1.toNatClampNeg) (vp_updL (v_rows (x1.toNatClampNeg)) x3.toNatClampNeg (v_rows x2.toNatClampNeg x3.toNatClampNeg))) = w9 at hP hD
        have hf := kl_e hf w9 ew9.symm
        have hP : va_P D vwCl [(q, .inr (8, [.int v_n, .int v_rank, .int v_exchanges, .ref q_rows, .int v_width, .int v_p])), (q_rows, .inl (cQ, 4, .inr (.inr (.inr (.inr (kg q_rows_r)))))), (q_rows_r 0, .inl (cJ, 9, .inr (.inl (w9 0)))), (q_rows_r 1, .inl (cJ, 9, .inr (.inl (w9 1)))), (q_rows_r 2, .inl (cJ, 9, .inr (.inl (w9 2)))), (q_rows_r 3, .inl (cJ, 9, .inr (.inl (w9 3))))] H := hP
        have hD : va_D A [(q, .inr (8, [.int v_n, .int v_rank, .int v_exchanges, .ref q_rows, .int v_width, .int v_p])), (q_rows, .inl (cQ, 4, .inr (.inr (.inr (.inr (kg q_rows_r)))))), (q_rows_r 0, .inl (cJ, 9, .inr (.inl (w9 0)))), (q_rows_r 1, .inl (cJ, 9, .inr (.inl (w9 1)))), (q_rows_r 2, .inl (cJ, 9, .inr (.inl (w9 2)))), (q_rows_r 3, .inl (cJ, 9, .inr (.inl (w9 3))))] := hD
        refine lv_aload_n hx hb dX9_exchangeRows_36 rfl (lv_at hl 1 rfl) ?_
        refine va_get (D := D) (ci := 8) (v := .ref q_rows) (C := RX8) (T := TX8) (N := 6) hx hb hts kinX8 hown hK hP 0 rfl rfl 3 (by decide) (hts _ kw149) (fun _ h9 => h9) rfl dX9_exchangeRows_37 ?_
        refine lv_iload_n hx hb dX9_exchangeRows_40 rfl (lv_at hl 3 rfl) ?_
        obtain ⟨c10, hf⟩ := kc_e hf
        refine k_gld hx hb hK hP 1 rfl c10 dX9_exchangeRows_41 ?_
        refine lv_iload_n hx hb dX9_exchangeRows_42 rfl (lv_at hl 4 rfl) ?_
        refine lv_lload hx hb dX9_exchangeRows_43 (lv_at hl 0 rfl) ?_
        obtain ⟨c11, hf⟩ := kc_e hf
        refine k_rst (ws' := fun M9 => [(q, .inr (8, [.int v_n, .int v_rank, .int v_exchanges, .ref q_rows, .int v_width, .int v_p])), (q_rows, .inl (cQ, 4, .inr (.inr (.inr (.inr (kg q_rows_r)))))), (q_rows_r 0, .inl (cJ, 9, .inr (.inl (M9 0)))), (q_rows_r 1, .inl (cJ, 9, .inr (.inl (M9 1)))), (q_rows_r 2, .inl (cJ, 9, .inr (.inl (M9 2)))), (q_rows_r 3, .inl (cJ, 9, .inr (.inl (M9 3))))]) hx hb hK hP hD hS 2 (fun k hk => (co_4 (P := fun k => ([(q, .inr (8, [.int v_n, .int v_rank, .int v_exchanges, .ref q_rows, .int v_width, .int v_p])), (q_rows, .inl (cQ, 4, .inr (.inr (.inr (.inr (kg q_rows_r)))))), (q_rows_r 0, .inl (cJ, 9, .inr (.inl (w9 0)))), (q_rows_r 1, .inl (cJ, 9, .inr (.inl (w9 1)))), (q_rows_r 2, .inl (cJ, 9, .inr (.inl (w9 2)))), (q_rows_r 3, .inl (cJ, 9, .inr (.inl (w9 3))))] : va_W)[2 + k]? = some (q_rows_r k, .inl (cJ, 9, .inr (.inl (w9 k))))) rfl rfl rfl rfl) hk) (fun k hk => (co_4 (P := fun k => ∀ f : Nat → Int64, ([(q, .inr (8, [.int v_n, .int v_rank, .int v_exchanges, .ref q_rows, .int v_width, .int v_p])), (q_rows, .inl (cQ, 4, .inr (.inr (.inr (.inr (kg q_rows_r)))))), (q_rows_r 0, .inl (cJ, 9, .inr (.inl (w9 0)))), (q_rows_r 1, .inl (cJ, 9, .inr (.inl (w9 1)))), (q_rows_r 2, .inl (cJ, 9, .inr (.inl (w9 2)))), (q_rows_r 3, .inl (cJ, 9, .inr (.inl (w9 3))))] : va_W).set (2 + k) (q_rows_r k, .inl (cJ, 9, .inr (.inl f))) = (fun M9 : Nat → Nat → Int64 => ([(q, .inr (8, [.int v_n, .int v_rank, .int v_exchanges, .ref q_rows, .int v_width, .int v_p])), (q_rows, .inl (cQ, 4, .inr (.inr (.inr (.inr (kg q_rows_r)))))), (q_rows_r 0, .inl (cJ, 9, .inr (.inl (M9 0)))), (q_rows_r 1, .inl (cJ, 9, .inr (.inl (M9 1)))), (q_rows_r 2, .inl (cJ, 9, .inr (.inl (M9 2)))), (q_rows_r 3, .inl (cJ, 9, .inr (.inl (M9 3))))] : va_W)) (ku w9 k f)) (fun _ => rfl) (fun _ => rfl) (fun _ => rfl) (fun _ => rfl)) hk) (kin_nat c10) c11 dX9_exchangeRows_45 (fun H locs hP hD hS => ?_)
        generalize ew12 : (ku w9 (x2.toNatClampNeg) (vp_updL (w9 (x2.toNatClampNeg)) x3.toNatClampNeg t4)) = w12 at hP hD
        have hf := kl_e hf w12 ew12.symm
        have hP : va_P D vwCl [(q, .inr (8, [.int v_n, .int v_rank, .int v_exchanges, .ref q_rows, .int v_width, .int v_p])), (q_rows, .inl (cQ, 4, .inr (.inr (.inr (.inr (kg q_rows_r)))))), (q_rows_r 0, .inl (cJ, 9, .inr (.inl (w12 0)))), (q_rows_r 1, .inl (cJ, 9, .inr (.inl (w12 1)))), (q_rows_r 2, .inl (cJ, 9, .inr (.inl (w12 2)))), (q_rows_r 3, .inl (cJ, 9, .inr (.inl (w12 3))))] H := hP
        have hD : va_D A [(q, .inr (8, [.int v_n, .int v_rank, .int v_exchanges, .ref q_rows, .int v_width, .int v_p])), (q_rows, .inl (cQ, 4, .inr (.inr (.inr (.inr (kg q_rows_r)))))), (q_rows_r 0, .inl (cJ, 9, .inr (.inl (w12 0)))), (q_rows_r 1, .inl (cJ, 9, .inr (.inl (w12 1)))), (q_rows_r 2, .inl (cJ, 9, .inr (.inl (w12 2)))), (q_rows_r 3, .inl (cJ, 9, .inr (.inl (w12 3))))] := hD
        obtain ⟨t13, et13⟩ : ∃ z : Int32, z = (x3 + (1 : Int32)) := ⟨_, rfl⟩
        have hf := kl_e hf t13 et13
        refine lv_iinc (v := t13) (lv' := [(3, .int t13), (4, .long t4), (0, .ref q), (1, .int x1), (2, .int x2)]) hx hb dX9_exchangeRows_46 hl (k := 4) rfl (by rw [et13]; rfl) (by decide) rfl (fun ls hl => ?_)
        refine lv_goto (tgt := 2) hx hb dX9_exchangeRows_49 (by decide) ?_
        exact ih t13 w12 o0 hf hk0 _ _ _ hP hD hS (lv_sub hl [2, 3, 4, 0] rfl)
  unfold f_X9_exchangeRows_R at hf
  refine lv_iconst (v := 0) hx hb dX9_exchangeRows_0 (by decide) ?_
  refine lv_istore_n (lv' := [(3, .int (0 : Int32)), (0, .ref q), (1, .int x1), (2, .int x2)]) hx hb dX9_exchangeRows_1 rfl hl (by decide) rfl (fun ls hl => ?_)
  obtain ⟨w14, hu, hf⟩ := kb1_e hf
  refine hL2 x1 x2 v_n v_rank v_exchanges v_width v_p F (0 : Int32) v_rows w14 hu (fun H locs ls hP hD hS hl => ?_) _ _ _ hP hD hS (lv_sub hl [1, 2, 3, 0] rfl)
  obtain rfl := ki1 hf
  rw [hQ]
  exact k_vret hat hP hS dX9_exchangeRows_52
set_option maxHeartbeats 4000000 in
set_option maxRecDepth 100000 in
theorem c_X9_raise_R {l : Launch} {D : va_G} {cI cJ cQ : ClassId} {tp : Nat} (q : Nat) (q_rows : Nat) (q_rows_r : Nat → Nat) (v_n : Int32) (v_rank : Int32) (v_exchanges : Int32) (v_width : Int32) (v_p : Int32) (v_rows : (Nat → Nat → Int64)) (F : Nat) (x1 : Int32) (r0 : Int32) (o_v_exchanges : Int32) (o_v_rows : (Nat → Nat → Int64)) (hf : f_X9_raise_R F v_n v_rank v_exchanges v_width v_rows x1 = some (r0, o_v_exchanges, o_v_rows)) : kM (fun A => kQi D A [(q, .inr (8, [.int v_n, .int v_rank, .int o_v_exchanges, .ref q_rows, .int v_width, .int v_p])), (q_rows, .inl (cQ, 4, .inr (.inr (.inr (.inr (kg q_rows_r)))))), (q_rows_r 0, .inl (cJ, 9, .inr (.inl (o_v_rows 0)))), (q_rows_r 1, .inl (cJ, 9, .inr (.inl (o_v_rows 1)))), (q_rows_r 2, .inl (cJ, 9, .inr (.inl (o_v_rows 2)))), (q_rows_r 3, .inl (cJ, 9, .inr (.inl (o_v_rows 3))))] r0) (some .boolean) l yX9_raise cX9_raise 3 { frames := 1, cells := 0, slots := 0, locals := 25 } D cI cJ cQ tp [.ref q, .int x1] [(q, .inr (8, [.int v_n, .int v_rank, .int v_exchanges, .ref q_rows, .int v_width, .int v_p])), (q_rows, .inl (cQ, 4, .inr (.inr (.inr (.inr (kg q_rows_r)))))), (q_rows_r 0, .inl (cJ, 9, .inr (.inl (v_rows 0)))), (q_rows_r 1, .inl (cJ, 9, .inr (.inl (v_rows 1)))), (q_rows_r 2, .inl (cJ, 9, .inr (.inl (v_rows 2)))), (q_rows_r 3, .inl (cJ, 9, .inr (.inl (v_rows 3))))] := by
  refine kM_of (by decide +kernel) (Nat.le_of_ble_eq_true rfl) ?_
  intro p e s m args below meth c A ls R Q hR hQ hat hP hD hS hl
  obtain ⟨hx, hb, hr, hml, hown, hts, hT, hlk, hK, hA, hZ⟩ := id hat
  have hown : s.vm.findClass RX9 = some m.cls := hown
  have hl : lv_has ls 3 [(0, .ref q), (1, .int x1)] := hl
  have hL5 : ∀ (x1 : Int32) (v_n : Int32) (v_rank : Int32) (v_exchanges : Int32) (v_width : Int32) (v_p : Int32) (v_rows : (Nat → Nat → Int64)) (fu : Nat) (x2 : Int32) (o0 : Int32), L_X9_raise_R_5 x1 v_n v_rows fu x2 = some o0 → (∀ (H : Heap) (locs : List Loc) (ls : Array Slot), va_P D vwCl [(q, .inr (8, [.int v_n, .int v_rank, .int v_exchanges, .ref q_rows, .int v_width, .int v_p])), (q_rows, .inl (cQ, 4, .inr (.inr (.inr (.inr (kg q_rows_r)))))), (q_rows_r 0, .inl (cJ, 9, .inr (.inl (v_rows 0)))), (q_rows_r 1, .inl (cJ, 9, .inr (.inl (v_rows 1)))), (q_rows_r 2, .inl (cJ, 9, .inr (.inl (v_rows 2)))), (q_rows_r 3, .inl (cJ, 9, .inr (.inl (v_rows 3))))] H → va_D A [(q, .inr (8, [.int v_n, .int v_rank, .int v_exchanges, .ref q_rows, .int v_width, .int v_p])), (q_rows, .inl (cQ, 4, .inr (.inr (.inr (.inr (kg q_rows_r)))))), (q_rows_r 0, .inl (cJ, 9, .inr (.inl (v_rows 0)))), (q_rows_r 1, .inl (cJ, 9, .inr (.inl (v_rows 1)))), (q_rows_r 2, .inl (cJ, 9, .inr (.inl (v_rows 2)))), (q_rows_r 3, .inl (cJ, 9, .inr (.inl (v_rows 3))))] → va_S A s.heap H locs → lv_has ls 3 [(0, .ref q), (2, .int o0)] → W p l e R s m args below meth c H locs 0 0 Q (F0 m 32 ls [])) → ∀ (H : Heap) (locs : List Loc) (ls : Array Slot), va_P D vwCl [(q, .inr (8, [.int v_n, .int v_rank, .int v_exchanges, .ref q_rows, .int v_width, .int v_p])), (q_rows, .inl (cQ, 4, .inr (.inr (.inr (.inr (kg q_rows_r)))))), (q_rows_r 0, .inl (cJ, 9, .inr (.inl (v_rows 0)))), (q_rows_r 1, .inl (cJ, 9, .inr (.inl (v_rows 1)))), (q_rows_r 2, .inl (cJ, 9, .inr (.inl (v_rows 2)))), (q_rows_r 3, .inl (cJ, 9, .inr (.inl (v_rows 3))))] H → va_D A [(q, .inr (8, [.int v_n, .int v_rank, .int v_exchanges, .ref q_rows, .int v_width, .int v_p])), (q_rows, .inl (cQ, 4, .inr (.inr (.inr (.inr (kg q_rows_r)))))), (q_rows_r 0, .inl (cJ, 9, .inr (.inl (v_rows 0)))), (q_rows_r 1, .inl (cJ, 9, .inr (.inl (v_rows 1)))), (q_rows_r 2, .inl (cJ, 9, .inr (.inl (v_rows 2)))), (q_rows_r 3, .inl (cJ, 9, .inr (.inl (v_rows 3))))] → va_S A s.heap H locs → lv_has ls 3 [(0, .ref q), (1, .int x1), (2, .int x2)] → W p l e R s m args below meth c H locs 0 0 Q (F0 m 5 ls []) := by
    intro x1 v_n v_rank v_exchanges v_width v_p v_rows fu
    induction fu with
    | zero =>
      intro x2 o0 hf
      cases hf
    | succ fu ih =>
      intro x2 o0 hf hk0 H locs ls hP hD hS hl
      rw [L_X9_raise_R_5] at hf
      refine lv_iload_n hx hb dX9_raise_5 rfl (lv_at hl 2 rfl) ?_
      refine lv_aload_n hx hb dX9_raise_6 rfl (lv_at hl 0 rfl) ?_
      refine va_get (D := D) (ci := 8) (v := .int v_n) (C := RX8) (T := TX8) (N := 6) hx hb hts kinX8 hown hK hP 0 rfl rfl 0 (by decide) (hts _ kw138) (fun _ h9 => h9) rfl dX9_raise_7 ?_
      refine lv_icmp_ge (tgt := 32) hx hb dX9_raise_10 (by decide) (fun c1 => ?_) (fun c1 => ?_)
      · have hf := kp_e hf c1
        obtain rfl := ki1 hf
        exact hk0 _ _ _ hP hD hS (lv_sub hl [0, 2] rfl)
      · have hf := kn_e hf c1
        refine lv_aload_n hx hb dX9_raise_13 rfl (lv_at hl 0 rfl) ?_
        refine va_get (D := D) (ci := 8) (v := .ref q_rows) (C := RX8) (T := TX8) (N := 6) hx hb hts kinX8 hown hK hP 0 rfl rfl 3 (by decide) (hts _ kw149) (fun _ h9 => h9) rfl dX9_raise_14 ?_
        refine lv_iload_n hx hb dX9_raise_17 rfl (lv_at hl 2 rfl) ?_
        obtain ⟨c2, hf⟩ := kc_e hf
        refine k_gld hx hb hK hP 1 rfl c2 dX9_raise_18 ?_
        refine lv_iload_n hx hb dX9_raise_19 rfl (lv_at hl 1 rfl) ?_
        obtain ⟨c3, hf⟩ := kc_e hf
        refine k_rld hx hb hK hP 2 (fun k hk => (co_4 (P := fun k => ([(q, .inr (8, [.int v_n, .int v_rank, .int v_exchanges, .ref q_rows, .int v_width, .int v_p])), (q_rows, .inl (cQ, 4, .inr (.inr (.inr (.inr (kg q_rows_r)))))), (q_rows_r 0, .inl (cJ, 9, .inr (.inl (v_rows 0)))), (q_rows_r 1, .inl (cJ, 9, .inr (.inl (v_rows 1)))), (q_rows_r 2, .inl (cJ, 9, .inr (.inl (v_rows 2)))), (q_rows_r 3, .inl (cJ, 9, .inr (.inl (v_rows 3))))] : va_W)[2 + k]? = some (q_rows_r k, .inl (cJ, 9, .inr (.inl (v_rows k))))) rfl rfl rfl rfl) hk) (kin_nat c2) c3 dX9_raise_20 ?_
        refine lv_lconst (v := 0) hx hb dX9_raise_21 (by decide) ?_
        refine k_lcmp_ne (tgt := 32) hx hb dX9_raise_22 dX9_raise_23 (by decide) (fun c4 => ?_) (fun c4 => ?_)
        · have hf := kn_e hf c4
          obtain rfl := ki1 hf
          exact hk0 _ _ _ hP hD hS (lv_sub hl [0, 2] rfl)
        · have hf := kp_e hf c4
          obtain ⟨t5, et5⟩ : ∃ z : Int32, z = (x2 + (1 : Int32)) := ⟨_, rfl⟩
          have hf := kl_e hf t5 et5
          refine lv_iinc (v := t5) (lv' := [(2, .int t5), (0, .ref q), (1, .int x1)]) hx hb dX9_raise_26 hl (k := 2) rfl (by rw [et5]; rfl) (by decide) rfl (fun ls hl => ?_)
          refine lv_goto (tgt := 5) hx hb dX9_raise_29 (by decide) ?_
          exact ih t5 o0 hf hk0 _ _ _ hP hD hS (lv_sub hl [1, 2, 0] rfl)
  unfold f_X9_raise_R at hf
  refine lv_aload_n hx hb dX9_raise_0 rfl (lv_at hl 0 rfl) ?_
  refine va_get (D := D) (ci := 8) (v := .int v_rank) (C := RX8) (T := TX8) (N := 6) hx hb hts kinX8 hown hK hP 0 rfl rfl 1 (by decide) (hts _ kw139) (fun _ h9 => h9) rfl dX9_raise_1 ?_
  refine lv_istore_n (lv' := [(2, .int v_rank), (0, .ref q), (1, .int x1)]) hx hb dX9_raise_4 rfl hl (by decide) rfl (fun ls hl => ?_)
  obtain ⟨y6, hu, hf⟩ := kb1_e hf
  refine hL5 x1 v_n v_rank v_exchanges v_width v_p v_rows F v_rank y6 hu (fun H locs ls hP hD hS hl => ?_) _ _ _ hP hD hS (lv_sub hl [1, 2, 0] rfl)
  refine lv_iload_n hx hb dX9_raise_32 rfl (lv_at hl 1 rfl) ?_
  refine lv_aload_n hx hb dX9_raise_33 rfl (lv_at hl 0 rfl) ?_
  refine va_get (D := D) (ci := 8) (v := .int v_n) (C := RX8) (T := TX8) (N := 6) hx hb hts kinX8 hown hK hP 0 rfl rfl 0 (by decide) (hts _ kw138) (fun _ h9 => h9) rfl dX9_raise_34 ?_
  refine lv_icmp_lt (tgt := 42) hx hb dX9_raise_37 (by decide) (fun c7 => ?_) (fun c7 => ?_)
  · have hf := kp_e hf c7
    refine lv_iload_n hx hb dX9_raise_42 rfl (lv_at hl 1 rfl) ?_
    refine lv_aload_n hx hb dX9_raise_43 rfl (lv_at hl 0 rfl) ?_
    refine va_get (D := D) (ci := 8) (v := .int v_rank) (C := RX8) (T := TX8) (N := 6) hx hb hts kinX8 hown hK hP 0 rfl rfl 1 (by decide) (hts _ kw139) (fun _ h9 => h9) rfl dX9_raise_44 ?_
    refine lv_icmp_le (tgt := 69) hx hb dX9_raise_47 (by decide) (fun c8 => ?_) (fun c8 => ?_)
    · have hf := kp_e hf c8
      refine lv_iconst (v := 1) hx hb dX9_raise_69 (by decide) ?_
      obtain ⟨rfl, rfl, rfl⟩ := ki3 hf
      rw [hQ]
      exact k_zret hat hP hS rfl (by decide) dX9_raise_70
    · have hf := kn_e hf c8
      refine lv_aload_n hx hb dX9_raise_50 rfl (lv_at hl 0 rfl) ?_
      refine lv_iload_n hx hb dX9_raise_51 rfl (lv_at hl 1 rfl) ?_
      refine lv_aload_n hx hb dX9_raise_52 rfl (lv_at hl 0 rfl) ?_
      refine va_get (D := D) (ci := 8) (v := .int v_rank) (C := RX8) (T := TX8) (N := 6) hx hb hts kinX8 hown hK hP 0 rfl rfl 1 (by decide) (hts _ kw139) (fun _ h9 => h9) rfl dX9_raise_53 ?_
      obtain ⟨w9, h10, hf⟩ := kb1_e hf
      refine k_gv (nW := 6) (ws' := [(q, .inr (8, [.int v_n, .int v_rank, .int v_exchanges, .ref q_rows, .int v_width, .int v_p])), (q_rows, .inl (cQ, 4, .inr (.inr (.inr (.inr (kg q_rows_r)))))), (q_rows_r 0, .inl (cJ, 9, .inr (.inl (w9 0)))), (q_rows_r 1, .inl (cJ, 9, .inr (.inl (w9 1)))), (q_rows_r 2, .inl (cJ, 9, .inr (.inl (w9 2)))), (q_rows_r 3, .inl (cJ, 9, .inr (.inl (w9 3))))]) (wr := []) (k_runU (rest := []) hat hP hD hS hl.1 (c_X9_exchangeRows_R q q_rows q_rows_r v_n v_rank v_exchanges v_width v_p v_rows F y6 v_rank w9 h10) [0, 1, 2, 3, 4, 5] (by decide) rfl (cu_X9_raise_X9_exchangeRows_X8 hat (by rw [hR]; exact ⟨Nat.le_of_ble_eq_true rfl, Nat.le_of_ble_eq_true rfl⟩)) ⟨Nat.zero_le _, Nat.zero_le _⟩ 0 8 rfl rfl rfl rfl (Nat.le_of_ble_eq_true rfl) dX9_raise_56) hat hP hD hS [0, 1, 2, 3, 4, 5] rfl [] rfl rfl rfl rfl rfl (by decide) (fun H locs hP hD hS => ?_)
      refine lv_aload_n hx hb dX9_raise_59 rfl (lv_at hl 0 rfl) ?_
      refine lv_dup hx hb dX9_raise_60 rfl ?_
      refine va_get (D := D) (ci := 8) (v := .int v_exchanges) (C := RX8) (T := TX8) (N := 6) hx hb hts kinX8 hown hK hP 0 rfl rfl 2 (by decide) (hts _ kw146) (fun _ h9 => h9) rfl dX9_raise_61 ?_
      refine lv_iconst (v := 1) hx hb dX9_raise_64 (by decide) ?_
      refine lv_iadd hx hb dX9_raise_65 ?_
      refine lv_topi (fun t11 et11 => ?_)
      have hf := kl_e hf t11 et11
      refine va_put (D := D) (ci := 8) (v := .int t11) (ty := .int) (C := RX8) (T := TX8) (N := 6) hx hb hts kinX8 tyX8 tyX8_ok nmX8 hown hK hP hD hS 0 rfl rfl 2 (by decide) (hts _ kw146) (fun _ h9 => h9) rfl (by decide +kernel) rfl rfl (Nat.le_of_ble_eq_true rfl) dX9_raise_66 (fun H locs hP hD hS => ?_)
      have hP : va_P D vwCl [(q, .inr (8, [.int v_n, .int v_rank, .int t11, .ref q_rows, .int v_width, .int v_p])), (q_rows, .inl (cQ, 4, .inr (.inr (.inr (.inr (kg q_rows_r)))))), (q_rows_r 0, .inl (cJ, 9, .inr (.inl (w9 0)))), (q_rows_r 1, .inl (cJ, 9, .inr (.inl (w9 1)))), (q_rows_r 2, .inl (cJ, 9, .inr (.inl (w9 2)))), (q_rows_r 3, .inl (cJ, 9, .inr (.inl (w9 3))))] H := hP
      have hD : va_D A [(q, .inr (8, [.int v_n, .int v_rank, .int t11, .ref q_rows, .int v_width, .int v_p])), (q_rows, .inl (cQ, 4, .inr (.inr (.inr (.inr (kg q_rows_r)))))), (q_rows_r 0, .inl (cJ, 9, .inr (.inl (w9 0)))), (q_rows_r 1, .inl (cJ, 9, .inr (.inl (w9 1)))), (q_rows_r 2, .inl (cJ, 9, .inr (.inl (w9 2)))), (q_rows_r 3, .inl (cJ, 9, .inr (.inl (w9 3))))] := hD
      refine lv_iconst (v := 1) hx hb dX9_raise_69 (by decide) ?_
      obtain ⟨rfl, rfl, rfl⟩ := ki3 hf
      rw [hQ]
      exact k_zret hat hP hS rfl (by decide) dX9_raise_70
  · have hf := kn_e hf c7
    refine lv_iconst (v := 0) hx hb dX9_raise_40 (by decide) ?_
    obtain ⟨rfl, rfl, rfl⟩ := ki3 hf
    rw [hQ]
    exact k_zret hat hP hS rfl (by decide) dX9_raise_41
set_option maxHeartbeats 4000000 in
set_option maxRecDepth 100000 in
theorem c_X8_oneOver {l : Launch} {D : va_G} {cI cJ cQ : ClassId} {tp : Nat} (q : Nat) (q_rows : Nat) (v_n : Int32) (v_rank : Int32) (v_exchanges : Int32) (v_width : Int32) (v_p : Int32) (F : Nat) (x1 : Int64) (r0 : Int32) (hf : f_X8_oneOver F v_p x1 = some r0) : kM (fun A => kQi D A [(q, .inr (8, [.int v_n, .int v_rank, .int v_exchanges, .ref q_rows, .int v_width, .int v_p]))] r0) (some .int) l yX8_oneOver cX8_oneOver 4 { frames := 1, cells := 0, slots := 0, locals := 24 } D cI cJ cQ tp [.ref q, .long x1] [(q, .inr (8, [.int v_n, .int v_rank, .int v_exchanges, .ref q_rows, .int v_width, .int v_p]))] := by
  refine kM_of (by decide +kernel) (Nat.le_of_ble_eq_true rfl) ?_
  intro p e s m args below meth c A ls R Q hR hQ hat hP hD hS hl
  obtain ⟨hx, hb, hr, hml, hown, hts, hT, hlk, hK, hA, hZ⟩ := id hat
  have hown : s.vm.findClass RX8 = some m.cls := hown
  have hl : lv_has ls 4 [(0, .ref q), (1, .long x1)] := hl
  have hL2 : ∀ (x1 : Int64) (v_n : Int32) (v_rank : Int32) (v_exchanges : Int32) (v_width : Int32) (v_p : Int32) (fu : Nat) (x3 : Int32) (u : Int32 ⊕ Unit), L_X8_oneOver_2 x1 v_p fu x3 = some u → (∀ (o0 : Int32), u = .inl o0 → ∀ (H : Heap) (locs : List Loc) (ls : Array Slot), va_P D vwCl [(q, .inr (8, [.int v_n, .int v_rank, .int v_exchanges, .ref q_rows, .int v_width, .int v_p]))] H → va_D A [(q, .inr (8, [.int v_n, .int v_rank, .int v_exchanges, .ref q_rows, .int v_width, .int v_p]))] → va_S A s.heap H locs → lv_has ls 4 [(3, .int o0)] → W p l e R s m args below meth c H locs 0 0 Q (F0 m 25 ls [])) → (u = .inr () → ∀ (H : Heap) (locs : List Loc) (ls : Array Slot), va_P D vwCl [(q, .inr (8, [.int v_n, .int v_rank, .int v_exchanges, .ref q_rows, .int v_width, .int v_p]))] H → va_D A [(q, .inr (8, [.int v_n, .int v_rank, .int v_exchanges, .ref q_rows, .int v_width, .int v_p]))] → va_S A s.heap H locs → lv_has ls 4 [] → W p l e R s m args below meth c H locs 0 0 Q (F0 m 33 ls [])) → ∀ (H : Heap) (locs : List Loc) (ls : Array Slot), va_P D vwCl [(q, .inr (8, [.int v_n, .int v_rank, .int v_exchanges, .ref q_rows, .int v_width, .int v_p]))] H → va_D A [(q, .inr (8, [.int v_n, .int v_rank, .int v_exchanges, .ref q_rows, .int v_width, .int v_p]))] → va_S A s.heap H locs → lv_has ls 4 [(0, .ref q), (1, .long x1), (3, .int x3)] → W p l e R s m args below meth c H locs 0 0 Q (F0 m 2 ls []) := by
    intro x1 v_n v_rank v_exchanges v_width v_p fu
    induction fu with
    | zero =>
      intro x3 u hf
      cases hf
    | succ fu ih =>
      intro x3 u hf hk0 hk1 H locs ls hP hD hS hl
      rw [L_X8_oneOver_2] at hf
      refine lv_iload_n hx hb dX8_oneOver_2 rfl (lv_at hl 2 rfl) ?_
      refine lv_aload_n hx hb dX8_oneOver_3 rfl (lv_at hl 0 rfl) ?_
      refine va_get (D := D) (ci := 8) (v := .int v_p) (C := RX8) (T := TX8) (N := 6) hx hb hts kinX8 hown hK hP 0 rfl rfl 5 (by decide) (hts _ kw177) (fun _ h9 => h9) rfl dX8_oneOver_4 ?_
      refine lv_icmp_ge (tgt := 33) hx hb dX8_oneOver_7 (by decide) (fun c1 => ?_) (fun c1 => ?_)
      · have hf := kp_e hf c1
        exact hk1  (Option.some.inj hf).symm _ _ _ hP hD hS (lv_sub hl [] rfl)
      · have hf := kn_e hf c1
        refine lv_lload_n hx hb dX8_oneOver_10 rfl (lv_at hl 1 rfl) ?_
        refine lv_iload_n hx hb dX8_oneOver_11 rfl (lv_at hl 2 rfl) ?_
        refine lv_i2l hx hb dX8_oneOver_12 rfl ?_
        refine lv_lmul hx hb dX8_oneOver_13 ?_
        refine lv_aload_n hx hb dX8_oneOver_14 rfl (lv_at hl 0 rfl) ?_
        refine va_get (D := D) (ci := 8) (v := .int v_p) (C := RX8) (T := TX8) (N := 6) hx hb hts kinX8 hown hK hP 0 rfl rfl 5 (by decide) (hts _ kw177) (fun _ h9 => h9) rfl dX8_oneOver_15 ?_
        obtain ⟨r2, h3, hf⟩ := kb1_e hf
        refine k_gi (nW := 1) (ws' := [(q, .inr (8, [.int v_n, .int v_rank, .int v_exchanges, .ref q_rows, .int v_width, .int v_p]))]) (wr := [(q, .inr (8, [.int v_n, .int v_rank, .int v_exchanges, .ref q_rows, .int v_width, .int v_p]))]) (k_runSN (rest := []) hat hP hD hS hl.1 (c_X11_leftOver (x1 * (x3.toInt64)) v_p r2 h3) [] (by decide) rfl kw417 kw418 kw67 kw419 kdX11_leftOver ⟨rfl, rfl⟩ (by rw [hR]; exact ⟨Nat.le_of_ble_eq_true rfl, Nat.le_of_ble_eq_true rfl⟩) ⟨Nat.zero_le _, Nat.zero_le _⟩ rfl rfl (Nat.le_of_ble_eq_true rfl) dX8_oneOver_18) hat hP hD hS [] rfl [0] rfl rfl rfl rfl rfl (by decide) (fun H locs hP hD hS => ?_)
        refine lv_iconst (v := 1) hx hb dX8_oneOver_21 (by decide) ?_
        refine lv_icmp_ne (tgt := 27) hx hb dX8_oneOver_22 (by decide) (fun c4 => ?_) (fun c4 => ?_)
        · have hf := kn_e hf c4
          obtain ⟨t5, et5⟩ : ∃ z : Int32, z = (x3 + (1 : Int32)) := ⟨_, rfl⟩
          have hf := kl_e hf t5 et5
          refine lv_iinc (v := t5) (lv' := [(3, .int t5), (0, .ref q), (1, .long x1)]) hx hb dX8_oneOver_27 hl (k := 2) rfl (by rw [et5]; rfl) (by decide) rfl (fun ls hl => ?_)
          refine lv_goto (tgt := 2) hx hb dX8_oneOver_30 (by decide) ?_
          exact ih t5 u hf hk0 hk1 _ _ _ hP hD hS (lv_sub hl [1, 2, 0] rfl)
        · have hf := kp_e hf c4
          exact hk0 _ (Option.some.inj hf).symm _ _ _ hP hD hS (lv_sub hl [2] rfl)
  unfold f_X8_oneOver at hf
  refine lv_iconst (v := 1) hx hb dX8_oneOver_0 (by decide) ?_
  refine lv_istore_n (lv' := [(3, .int (1 : Int32)), (0, .ref q), (1, .long x1)]) hx hb dX8_oneOver_1 rfl hl (by decide) rfl (fun ls hl => ?_)
  obtain ⟨u7, hu, hf0, hf1⟩ := ks_e hf
  refine hL2 x1 v_n v_rank v_exchanges v_width v_p F (1 : Int32) u7 hu (fun y6 hu2 H locs ls hP hD hS hl => ?_) (fun hu2 H locs ls hP hD hS hl => ?_) _ _ _ hP hD hS (lv_sub hl [1, 2, 0] rfl)
  · have hf := kf1_e (hf0 _ hu2)
    refine lv_iload_n hx hb dX8_oneOver_25 rfl (lv_at hl 0 rfl) ?_
    obtain rfl := ki1 hf
    rw [hQ]
    exact k_iret hat hP hS rfl dX8_oneOver_26
  · have hf := hf1 _ hu2
    refine lv_iconst (v := 0) hx hb dX8_oneOver_33 (by decide) ?_
    obtain rfl := ki1 hf
    rw [hQ]
    exact k_iret hat hP hS rfl dX8_oneOver_34
set_option maxHeartbeats 4000000 in
set_option maxRecDepth 100000 in
theorem c_X8_clearColumn {l : Launch} {D : va_G} {cI cJ cQ : ClassId} {tp : Nat} (q : Nat) (q_rows : Nat) (q_rows_r : Nat → Nat) (v_n : Int32) (v_rank : Int32) (v_exchanges : Int32) (v_width : Int32) (v_p : Int32) (v_rows : (Nat → Nat → Int64)) (F : Nat) (x1 : Int32) (o_v_rows : (Nat → Nat → Int64)) (hf : f_X8_clearColumn F v_n v_rank v_p v_rows x1 = some o_v_rows) : kM (fun A => kQv D A [(q, .inr (8, [.int v_n, .int v_rank, .int v_exchanges, .ref q_rows, .int v_width, .int v_p])), (q_rows, .inl (cQ, 4, .inr (.inr (.inr (.inr (kg q_rows_r)))))), (q_rows_r 0, .inl (cJ, 9, .inr (.inl (o_v_rows 0)))), (q_rows_r 1, .inl (cJ, 9, .inr (.inl (o_v_rows 1)))), (q_rows_r 2, .inl (cJ, 9, .inr (.inl (o_v_rows 2)))), (q_rows_r 3, .inl (cJ, 9, .inr (.inl (o_v_rows 3))))]) none l yX8_clearColumn cX8_clearColumn 7 { frames := 2, cells := 0, slots := 0, locals := 47 } D cI cJ cQ tp [.ref q, .int x1] [(q, .inr (8, [.int v_n, .int v_rank, .int v_exchanges, .ref q_rows, .int v_width, .int v_p])), (q_rows, .inl (cQ, 4, .inr (.inr (.inr (.inr (kg q_rows_r)))))), (q_rows_r 0, .inl (cJ, 9, .inr (.inl (v_rows 0)))), (q_rows_r 1, .inl (cJ, 9, .inr (.inl (v_rows 1)))), (q_rows_r 2, .inl (cJ, 9, .inr (.inl (v_rows 2)))), (q_rows_r 3, .inl (cJ, 9, .inr (.inl (v_rows 3))))] := by
  refine kM_of (by decide +kernel) (Nat.le_of_ble_eq_true rfl) ?_
  intro p e s m args below meth c A ls R Q hR hQ hat hP hD hS hl
  obtain ⟨hx, hb, hr, hml, hown, hts, hT, hlk, hK, hA, hZ⟩ := id hat
  have hown : s.vm.findClass RX8 = some m.cls := hown
  have hl : lv_has ls 7 [(0, .ref q), (1, .int x1)] := hl
  have hL18 : ∀ (x1 : Int32) (x2 : Int32) (v_n : Int32) (v_rank : Int32) (v_exchanges : Int32) (v_width : Int32) (v_p : Int32) (fu : Nat) (x3 : Int32) (v_rows : (Nat → Nat → Int64)) (o0 : (Nat → Nat → Int64)), L_X8_clearColumn_18 x1 x2 v_rank v_p fu x3 v_rows = some o0 → (∀ (H : Heap) (locs : List Loc) (ls : Array Slot), va_P D vwCl [(q, .inr (8, [.int v_n, .int v_rank, .int v_exchanges, .ref q_rows, .int v_width, .int v_p])), (q_rows, .inl (cQ, 4, .inr (.inr (.inr (.inr (kg q_rows_r)))))), (q_rows_r 0, .inl (cJ, 9, .inr (.inl (o0 0)))), (q_rows_r 1, .inl (cJ, 9, .inr (.inl (o0 1)))), (q_rows_r 2, .inl (cJ, 9, .inr (.inl (o0 2)))), (q_rows_r 3, .inl (cJ, 9, .inr (.inl (o0 3))))] H → va_D A [(q, .inr (8, [.int v_n, .int v_rank, .int v_exchanges, .ref q_rows, .int v_width, .int v_p])), (q_rows, .inl (cQ, 4, .inr (.inr (.inr (.inr (kg q_rows_r)))))), (q_rows_r 0, .inl (cJ, 9, .inr (.inl (o0 0)))), (q_rows_r 1, .inl (cJ, 9, .inr (.inl (o0 1)))), (q_rows_r 2, .inl (cJ, 9, .inr (.inl (o0 2)))), (q_rows_r 3, .inl (cJ, 9, .inr (.inl (o0 3))))] → va_S A s.heap H locs → lv_has ls 7 [(0, .ref q), (1, .int x1)] → W p l e R s m args below meth c H locs 0 0 Q (F0 m 63 ls [])) → ∀ (H : Heap) (locs : List Loc) (ls : Array Slot), va_P D vwCl [(q, .inr (8, [.int v_n, .int v_rank, .int v_exchanges, .ref q_rows, .int v_width, .int v_p])), (q_rows, .inl (cQ, 4, .inr (.inr (.inr (.inr (kg q_rows_r)))))), (q_rows_r 0, .inl (cJ, 9, .inr (.inl (v_rows 0)))), (q_rows_r 1, .inl (cJ, 9, .inr (.inl (v_rows 1)))), (q_rows_r 2, .inl (cJ, 9, .inr (.inl (v_rows 2)))), (q_rows_r 3, .inl (cJ, 9, .inr (.inl (v_rows 3))))] H → va_D A [(q, .inr (8, [.int v_n, .int v_rank, .int v_exchanges, .ref q_rows, .int v_width, .int v_p])), (q_rows, .inl (cQ, 4, .inr (.inr (.inr (.inr (kg q_rows_r)))))), (q_rows_r 0, .inl (cJ, 9, .inr (.inl (v_rows 0)))), (q_rows_r 1, .inl (cJ, 9, .inr (.inl (v_rows 1)))), (q_rows_r 2, .inl (cJ, 9, .inr (.inl (v_rows 2)))), (q_rows_r 3, .inl (cJ, 9, .inr (.inl (v_rows 3))))] → va_S A s.heap H locs → lv_has ls 7 [(0, .ref q), (1, .int x1), (2, .int x2), (3, .int x3)] → W p l e R s m args below meth c H locs 0 0 Q (F0 m 18 ls []) := by
    intro x1 x2 v_n v_rank v_exchanges v_width v_p fu
    induction fu with
    | zero =>
      intro x3 v_rows o0 hf
      cases hf
    | succ fu ih =>
      intro x3 v_rows o0 hf hk0 H locs ls hP hD hS hl
      rw [L_X8_clearColumn_18] at hf
      refine lv_iload_n hx hb dX8_clearColumn_18 rfl (lv_at hl 3 rfl) ?_
      refine lv_bipush (v := 9) hx hb dX8_clearColumn_19 (by decide) ?_
      refine lv_icmp_ge (tgt := 63) hx hb dX8_clearColumn_21 (by decide) (fun c5 => ?_) (fun c5 => ?_)
      · have hf := kp_e hf c5
        obtain rfl := ki1 hf
        exact hk0 _ _ _ hP hD hS (lv_sub hl [0, 1] rfl)
      · have hf := kn_e hf c5
        refine lv_aload_n hx hb dX8_clearColumn_24 rfl (lv_at hl 0 rfl) ?_
        refine va_get (D := D) (ci := 8) (v := .ref q_rows) (C := RX8) (T := TX8) (N := 6) hx hb hts kinX8 hown hK hP 0 rfl rfl 3 (by decide) (hts _ kw152) (u_same (hts _ kw153)) rfl dX8_clearColumn_25 ?_
        refine lv_aload_n hx hb dX8_clearColumn_28 rfl (lv_at hl 0 rfl) ?_
        refine va_get (D := D) (ci := 8) (v := .int v_rank) (C := RX8) (T := TX8) (N := 6) hx hb hts kinX8 hown hK hP 0 rfl rfl 1 (by decide) (hts _ kw140) (u_same (hts _ kw141)) rfl dX8_clearColumn_29 ?_
        obtain ⟨c6, hf⟩ := kc_e hf
        refine k_gld hx hb hK hP 1 rfl c6 dX8_clearColumn_32 ?_
        refine lv_iload_n hx hb dX8_clearColumn_33 rfl (lv_at hl 3 rfl) ?_
        refine lv_aload_n hx hb dX8_clearColumn_34 rfl (lv_at hl 0 rfl) ?_
        refine va_get (D := D) (ci := 8) (v := .ref q_rows) (C := RX8) (T := TX8) (N := 6) hx hb hts kinX8 hown hK hP 0 rfl rfl 3 (by decide) (hts _ kw152) (u_same (hts _ kw153)) rfl dX8_clearColumn_35 ?_
        refine lv_aload_n hx hb dX8_clearColumn_38 rfl (lv_at hl 0 rfl) ?_
        refine va_get (D := D) (ci := 8) (v := .int v_rank) (C := RX8) (T := TX8) (N := 6) hx hb hts kinX8 hown hK hP 0 rfl rfl 1 (by decide) (hts _ kw140) (u_same (hts _ kw141)) rfl dX8_clearColumn_39 ?_
        obtain ⟨c7, hf⟩ := kc_e hf
        refine k_gld hx hb hK hP 1 rfl c7 dX8_clearColumn_42 ?_
        refine lv_iload_n hx hb dX8_clearColumn_43 rfl (lv_at hl 3 rfl) ?_
        obtain ⟨c8, hf⟩ := kc_e hf
        refine k_rld hx hb hK hP 2 (fun k hk => (co_4 (P := fun k => ([(q, .inr (8, [.int v_n, .int v_rank, .int v_exchanges, .ref q_rows, .int v_width, .int v_p])), (q_rows, .inl (cQ, 4, .inr (.inr (.inr (.inr (kg q_rows_r)))))), (q_rows_r 0, .inl (cJ, 9, .inr (.inl (v_rows 0)))), (q_rows_r 1, .inl (cJ, 9, .inr (.inl (v_rows 1)))), (q_rows_r 2, .inl (cJ, 9, .inr (.inl (v_rows 2)))), (q_rows_r 3, .inl (cJ, 9, .inr (.inl (v_rows 3))))] : va_W)[2 + k]? = some (q_rows_r k, .inl (cJ, 9, .inr (.inl (v_rows k))))) rfl rfl rfl rfl) hk) (kin_nat c7) c8 dX8_clearColumn_44 ?_
        refine lv_iload_n hx hb dX8_clearColumn_45 rfl (lv_at hl 2 rfl) ?_
        refine lv_i2l hx hb dX8_clearColumn_46 rfl ?_
        refine lv_lmul hx hb dX8_clearColumn_47 ?_
        refine lv_aload_n hx hb dX8_clearColumn_48 rfl (lv_at hl 0 rfl) ?_
        refine va_get (D := D) (ci := 8) (v := .int v_p) (C := RX8) (T := TX8) (N := 6) hx hb hts kinX8 hown hK hP 0 rfl rfl 5 (by decide) (hts _ kw177) (fun _ h9 => h9) rfl dX8_clearColumn_49 ?_
        obtain ⟨r9, h10, hf⟩ := kb1_e hf
        refine k_gi (nW := 6) (ws' := [(q, .inr (8, [.int v_n, .int v_rank, .int v_exchanges, .ref q_rows, .int v_width, .int v_p])), (q_rows, .inl (cQ, 4, .inr (.inr (.inr (.inr (kg q_rows_r)))))), (q_rows_r 0, .inl (cJ, 9, .inr (.inl (v_rows 0)))), (q_rows_r 1, .inl (cJ, 9, .inr (.inl (v_rows 1)))), (q_rows_r 2, .inl (cJ, 9, .inr (.inl (v_rows 2)))), (q_rows_r 3, .inl (cJ, 9, .inr (.inl (v_rows 3))))]) (wr := [(q, .inr (8, [.int v_n, .int v_rank, .int v_exchanges, .ref q_rows, .int v_width, .int v_p])), (q_rows, .inl (cQ, 4, .inr (.inr (.inr (.inr (kg q_rows_r)))))), (q_rows_r 0, .inl (cJ, 9, .inr (.inl (v_rows 0)))), (q_rows_r 1, .inl (cJ, 9, .inr (.inl (v_rows 1)))), (q_rows_r 2, .inl (cJ, 9, .inr (.inl (v_rows 2)))), (q_rows_r 3, .inl (cJ, 9, .inr (.inl (v_rows 3))))]) (k_runSN (rest := [.int x3, .ref (q_rows_r v_rank.toNatClampNeg)]) hat hP hD hS hl.1 (c_X11_leftOver ((v_rows v_rank.toNatClampNeg x3.toNatClampNeg) * (x2.toInt64)) v_p r9 h10) [] (by decide) rfl kw417 kw418 kw67 kw419 kdX11_leftOver ⟨rfl, rfl⟩ (by rw [hR]; exact ⟨Nat.le_of_ble_eq_true rfl, Nat.le_of_ble_eq_true rfl⟩) ⟨Nat.zero_le _, Nat.zero_le _⟩ rfl rfl (Nat.le_of_ble_eq_true rfl) dX8_clearColumn_52) hat hP hD hS [] rfl [0, 1, 2, 3, 4, 5] rfl rfl rfl rfl rfl (by decide) (fun H locs hP hD hS => ?_)
        refine lv_i2l hx hb dX8_clearColumn_55 rfl ?_
        obtain ⟨c11, hf⟩ := kc_e hf
        refine k_rst (ws' := fun M9 => [(q, .inr (8, [.int v_n, .int v_rank, .int v_exchanges, .ref q_rows, .int v_width, .int v_p])), (q_rows, .inl (cQ, 4, .inr (.inr (.inr (.inr (kg q_rows_r)))))), (q_rows_r 0, .inl (cJ, 9, .inr (.inl (M9 0)))), (q_rows_r 1, .inl (cJ, 9, .inr (.inl (M9 1)))), (q_rows_r 2, .inl (cJ, 9, .inr (.inl (M9 2)))), (q_rows_r 3, .inl (cJ, 9, .inr (.inl (M9 3))))]) hx hb hK hP hD hS 2 (fun k hk => (co_4 (P := fun k => ([(q, .inr (8, [.int v_n, .int v_rank, .int v_exchanges, .ref q_rows, .int v_width, .int v_p])), (q_rows, .inl (cQ, 4, .inr (.inr (.inr (.inr (kg q_rows_r)))))), (q_rows_r 0, .inl (cJ, 9, .inr (.inl (v_rows 0)))), (q_rows_r 1, .inl (cJ, 9, .inr (.inl (v_rows 1)))), (q_rows_r 2, .inl (cJ, 9, .inr (.inl (v_rows 2)))), (q_rows_r 3, .inl (cJ, 9, .inr (.inl (v_rows 3))))] : va_W)[2 + k]? = some (q_rows_r k, .inl (cJ, 9, .inr (.inl (v_rows k))))) rfl rfl rfl rfl) hk) (fun k hk => (co_4 (P := fun k => ∀ f : Nat → Int64, ([(q, .inr (8, [.int v_n, .int v_rank, .int v_exchanges, .ref q_rows, .int v_width, .int v_p])), (q_rows, .inl (cQ, 4, .inr (.inr (.inr (.inr (kg q_rows_r)))))), (q_rows_r 0, .inl (cJ, 9, .inr (.inl (v_rows 0)))), (q_rows_r 1, .inl (cJ, 9, .inr (.inl (v_rows 1)))), (q_rows_r 2, .inl (cJ, 9, .inr (.inl (v_rows 2)))), (q_rows_r 3, .inl (cJ, 9, .inr (.inl (v_rows 3))))] : va_W).set (2 + k) (q_rows_r k, .inl (cJ, 9, .inr (.inl f))) = (fun M9 : Nat → Nat → Int64 => ([(q, .inr (8, [.int v_n, .int v_rank, .int v_exchanges, .ref q_rows, .int v_width, .int v_p])), (q_rows, .inl (cQ, 4, .inr (.inr (.inr (.inr (kg q_rows_r)))))), (q_rows_r 0, .inl (cJ, 9, .inr (.inl (M9 0)))), (q_rows_r 1, .inl (cJ, 9, .inr (.inl (M9 1)))), (q_rows_r 2, .inl (cJ, 9, .inr (.inl (M9 2)))), (q_rows_r 3, .inl (cJ, 9, .inr (.inl (M9 3))))] : va_W)) (ku v_rows k f)) (fun _ => rfl) (fun _ => rfl) (fun _ => rfl) (fun _ => rfl)) hk) (kin_nat c6) c11 dX8_clearColumn_56 (fun H locs hP hD hS => ?_)
        generalize ew12 : (ku v_rows (v_rank.toNatClampNeg) (vp_updL (v_rows (v_rank.toNatClampNeg)) x3.toNatClampNeg (r9.toInt64))) = w12 at hP hD
        have hf := kl_e hf w12 ew12.symm
        have hP : va_P D vwCl [(q, .inr (8, [.int v_n, .int v_rank, .int v_exchanges, .ref q_rows, .int v_width, .int v_p])), (q_rows, .inl (cQ, 4, .inr (.inr (.inr (.inr (kg q_rows_r)))))), (q_rows_r 0, .inl (cJ, 9, .inr (.inl (w12 0)))), (q_rows_r 1, .inl (cJ, 9, .inr (.inl (w12 1)))), (q_rows_r 2, .inl (cJ, 9, .inr (.inl (w12 2)))), (q_rows_r 3, .inl (cJ, 9, .inr (.inl (w12 3))))] H := hP
        have hD : va_D A [(q, .inr (8, [.int v_n, .int v_rank, .int v_exchanges, .ref q_rows, .int v_width, .int v_p])), (q_rows, .inl (cQ, 4, .inr (.inr (.inr (.inr (kg q_rows_r)))))), (q_rows_r 0, .inl (cJ, 9, .inr (.inl (w12 0)))), (q_rows_r 1, .inl (cJ, 9, .inr (.inl (w12 1)))), (q_rows_r 2, .inl (cJ, 9, .inr (.inl (w12 2)))), (q_rows_r 3, .inl (cJ, 9, .inr (.inl (w12 3))))] := hD
        obtain ⟨t13, et13⟩ : ∃ z : Int32, z = (x3 + (1 : Int32)) := ⟨_, rfl⟩
        have hf := kl_e hf t13 et13
        refine lv_iinc (v := t13) (lv' := [(3, .int t13), (0, .ref q), (1, .int x1), (2, .int x2)]) hx hb dX8_clearColumn_57 hl (k := 3) rfl (by rw [et13]; rfl) (by decide) rfl (fun ls hl => ?_)
        refine lv_goto (tgt := 18) hx hb dX8_clearColumn_60 (by decide) ?_
        exact ih t13 w12 o0 hf hk0 _ _ _ hP hD hS (lv_sub hl [1, 2, 3, 0] rfl)
  have hL98 : ∀ (x1 : Int32) (x3 : Int32) (x4 : Int64) (v_n : Int32) (v_rank : Int32) (v_exchanges : Int32) (v_width : Int32) (v_p : Int32) (fu : Nat) (x6 : Int32) (v_rows : (Nat → Nat → Int64)) (o0 : (Nat → Nat → Int64)), L_X8_clearColumn_98 x1 x3 x4 v_rank v_p fu x6 v_rows = some o0 → (∀ (H : Heap) (locs : List Loc) (ls : Array Slot), va_P D vwCl [(q, .inr (8, [.int v_n, .int v_rank, .int v_exchanges, .ref q_rows, .int v_width, .int v_p])), (q_rows, .inl (cQ, 4, .inr (.inr (.inr (.inr (kg q_rows_r)))))), (q_rows_r 0, .inl (cJ, 9, .inr (.inl (o0 0)))), (q_rows_r 1, .inl (cJ, 9, .inr (.inl (o0 1)))), (q_rows_r 2, .inl (cJ, 9, .inr (.inl (o0 2)))), (q_rows_r 3, .inl (cJ, 9, .inr (.inl (o0 3))))] H → va_D A [(q, .inr (8, [.int v_n, .int v_rank, .int v_exchanges, .ref q_rows, .int v_width, .int v_p])), (q_rows, .inl (cQ, 4, .inr (.inr (.inr (.inr (kg q_rows_r)))))), (q_rows_r 0, .inl (cJ, 9, .inr (.inl (o0 0)))), (q_rows_r 1, .inl (cJ, 9, .inr (.inl (o0 1)))), (q_rows_r 2, .inl (cJ, 9, .inr (.inl (o0 2)))), (q_rows_r 3, .inl (cJ, 9, .inr (.inl (o0 3))))] → va_S A s.heap H locs → lv_has ls 7 [(0, .ref q), (1, .int x1), (3, .int x3)] → W p l e R s m args below meth c H locs 0 0 Q (F0 m 153 ls [])) → ∀ (H : Heap) (locs : List Loc) (ls : Array Slot), va_P D vwCl [(q, .inr (8, [.int v_n, .int v_rank, .int v_exchanges, .ref q_rows, .int v_width, .int v_p])), (q_rows, .inl (cQ, 4, .inr (.inr (.inr (.inr (kg q_rows_r)))))), (q_rows_r 0, .inl (cJ, 9, .inr (.inl (v_rows 0)))), (q_rows_r 1, .inl (cJ, 9, .inr (.inl (v_rows 1)))), (q_rows_r 2, .inl (cJ, 9, .inr (.inl (v_rows 2)))), (q_rows_r 3, .inl (cJ, 9, .inr (.inl (v_rows 3))))] H → va_D A [(q, .inr (8, [.int v_n, .int v_rank, .int v_exchanges, .ref q_rows, .int v_width, .int v_p])), (q_rows, .inl (cQ, 4, .inr (.inr (.inr (.inr (kg q_rows_r)))))), (q_rows_r 0, .inl (cJ, 9, .inr (.inl (v_rows 0)))), (q_rows_r 1, .inl (cJ, 9, .inr (.inl (v_rows 1)))), (q_rows_r 2, .inl (cJ, 9, .inr (.inl (v_rows 2)))), (q_rows_r 3, .inl (cJ, 9, .inr (.inl (v_rows 3))))] → va_S A s.heap H locs → lv_has ls 7 [(0, .ref q), (1, .int x1), (3, .int x3), (4, .long x4), (6, .int x6)] → W p l e R s m args below meth c H locs 0 0 Q (F0 m 98 ls []) := by
    intro x1 x3 x4 v_n v_rank v_exchanges v_width v_p fu
    induction fu with
    | zero =>
      intro x6 v_rows o0 hf
      cases hf
    | succ fu ih =>
      intro x6 v_rows o0 hf hk0 H locs ls hP hD hS hl
      rw [L_X8_clearColumn_98] at hf
      refine lv_iload hx hb dX8_clearColumn_98 (lv_at hl 4 rfl) ?_
      refine lv_bipush (v := 9) hx hb dX8_clearColumn_100 (by decide) ?_
      refine lv_icmp_ge (tgt := 153) hx hb dX8_clearColumn_102 (by decide) (fun c20 => ?_) (fun c20 => ?_)
      · have hf := kp_e hf c20
        obtain rfl := ki1 hf
        exact hk0 _ _ _ hP hD hS (lv_sub hl [0, 1, 2] rfl)
      · have hf := kn_e hf c20
        refine lv_aload_n hx hb dX8_clearColumn_105 rfl (lv_at hl 0 rfl) ?_
        refine va_get (D := D) (ci := 8) (v := .ref q_rows) (C := RX8) (T := TX8) (N := 6) hx hb hts kinX8 hown hK hP 0 rfl rfl 3 (by decide) (hts _ kw152) (u_same (hts _ kw153)) rfl dX8_clearColumn_106 ?_
        refine lv_iload_n hx hb dX8_clearColumn_109 rfl (lv_at hl 2 rfl) ?_
        obtain ⟨c21, hf⟩ := kc_e hf
        refine k_gld hx hb hK hP 1 rfl c21 dX8_clearColumn_110 ?_
        refine lv_iload hx hb dX8_clearColumn_111 (lv_at hl 4 rfl) ?_
        refine lv_aload_n hx hb dX8_clearColumn_113 rfl (lv_at hl 0 rfl) ?_
        refine va_get (D := D) (ci := 8) (v := .ref q_rows) (C := RX8) (T := TX8) (N := 6) hx hb hts kinX8 hown hK hP 0 rfl rfl 3 (by decide) (hts _ kw152) (u_same (hts _ kw153)) rfl dX8_clearColumn_114 ?_
        refine lv_iload_n hx hb dX8_clearColumn_117 rfl (lv_at hl 2 rfl) ?_
        obtain ⟨c22, hf⟩ := kc_e hf
        refine k_gld hx hb hK hP 1 rfl c22 dX8_clearColumn_118 ?_
        refine lv_iload hx hb dX8_clearColumn_119 (lv_at hl 4 rfl) ?_
        obtain ⟨c23, hf⟩ := kc_e hf
        refine k_rld hx hb hK hP 2 (fun k hk => (co_4 (P := fun k => ([(q, .inr (8, [.int v_n, .int v_rank, .int v_exchanges, .ref q_rows, .int v_width, .int v_p])), (q_rows, .inl (cQ, 4, .inr (.inr (.inr (.inr (kg q_rows_r)))))), (q_rows_r 0, .inl (cJ, 9, .inr (.inl (v_rows 0)))), (q_rows_r 1, .inl (cJ, 9, .inr (.inl (v_rows 1)))), (q_rows_r 2, .inl (cJ, 9, .inr (.inl (v_rows 2)))), (q_rows_r 3, .inl (cJ, 9, .inr (.inl (v_rows 3))))] : va_W)[2 + k]? = some (q_rows_r k, .inl (cJ, 9, .inr (.inl (v_rows k))))) rfl rfl rfl rfl) hk) (kin_nat c22) c23 dX8_clearColumn_121 ?_
        refine lv_lload hx hb dX8_clearColumn_122 (lv_at hl 3 rfl) ?_
        refine lv_aload_n hx hb dX8_clearColumn_124 rfl (lv_at hl 0 rfl) ?_
        refine va_get (D := D) (ci := 8) (v := .ref q_rows) (C := RX8) (T := TX8) (N := 6) hx hb hts kinX8 hown hK hP 0 rfl rfl 3 (by decide) (hts _ kw152) (u_same (hts _ kw153)) rfl dX8_clearColumn_125 ?_
        refine lv_aload_n hx hb dX8_clearColumn_128 rfl (lv_at hl 0 rfl) ?_
        refine va_get (D := D) (ci := 8) (v := .int v_rank) (C := RX8) (T := TX8) (N := 6) hx hb hts kinX8 hown hK hP 0 rfl rfl 1 (by decide) (hts _ kw140) (u_same (hts _ kw141)) rfl dX8_clearColumn_129 ?_
        obtain ⟨c24, hf⟩ := kc_e hf
        refine k_gld hx hb hK hP 1 rfl c24 dX8_clearColumn_132 ?_
        refine lv_iload hx hb dX8_clearColumn_133 (lv_at hl 4 rfl) ?_
        obtain ⟨c25, hf⟩ := kc_e hf
        refine k_rld hx hb hK hP 2 (fun k hk => (co_4 (P := fun k => ([(q, .inr (8, [.int v_n, .int v_rank, .int v_exchanges, .ref q_rows, .int v_width, .int v_p])), (q_rows, .inl (cQ, 4, .inr (.inr (.inr (.inr (kg q_rows_r)))))), (q_rows_r 0, .inl (cJ, 9, .inr (.inl (v_rows 0)))), (q_rows_r 1, .inl (cJ, 9, .inr (.inl (v_rows 1)))), (q_rows_r 2, .inl (cJ, 9, .inr (.inl (v_rows 2)))), (q_rows_r 3, .inl (cJ, 9, .inr (.inl (v_rows 3))))] : va_W)[2 + k]? = some (q_rows_r k, .inl (cJ, 9, .inr (.inl (v_rows k))))) rfl rfl rfl rfl) hk) (kin_nat c24) c25 dX8_clearColumn_135 ?_
        refine lv_lmul hx hb dX8_clearColumn_136 ?_
        refine lv_lsub hx hb dX8_clearColumn_137 ?_
        refine lv_aload_n hx hb dX8_clearColumn_138 rfl (lv_at hl 0 rfl) ?_
        refine va_get (D := D) (ci := 8) (v := .int v_p) (C := RX8) (T := TX8) (N := 6) hx hb hts kinX8 hown hK hP 0 rfl rfl 5 (by decide) (hts _ kw177) (fun _ h9 => h9) rfl dX8_clearColumn_139 ?_
        obtain ⟨r26, h27, hf⟩ := kb1_e hf
        refine k_gi (nW := 6) (ws' := [(q, .inr (8, [.int v_n, .int v_rank, .int v_exchanges, .ref q_rows, .int v_width, .int v_p])), (q_rows, .inl (cQ, 4, .inr (.inr (.inr (.inr (kg q_rows_r)))))), (q_rows_r 0, .inl (cJ, 9, .inr (.inl (v_rows 0)))), (q_rows_r 1, .inl (cJ, 9, .inr (.inl (v_rows 1)))), (q_rows_r 2, .inl (cJ, 9, .inr (.inl (v_rows 2)))), (q_rows_r 3, .inl (cJ, 9, .inr (.inl (v_rows 3))))]) (wr := [(q, .inr (8, [.int v_n, .int v_rank, .int v_exchanges, .ref q_rows, .int v_width, .int v_p])), (q_rows, .inl (cQ, 4, .inr (.inr (.inr (.inr (kg q_rows_r)))))), (q_rows_r 0, .inl (cJ, 9, .inr (.inl (v_rows 0)))), (q_rows_r 1, .inl (cJ, 9, .inr (.inl (v_rows 1)))), (q_rows_r 2, .inl (cJ, 9, .inr (.inl (v_rows 2)))), (q_rows_r 3, .inl (cJ, 9, .inr (.inl (v_rows 3))))]) (k_runSN (rest := [.int x6, .ref (q_rows_r x3.toNatClampNeg)]) hat hP hD hS hl.1 (c_X11_leftOver ((v_rows x3.toNatClampNeg x6.toNatClampNeg) - (x4 * (v_rows v_rank.toNatClampNeg x6.toNatClampNeg))) v_p r26 h27) [] (by decide) rfl kw417 kw418 kw67 kw419 kdX11_leftOver ⟨rfl, rfl⟩ (by rw [hR]; exact ⟨Nat.le_of_ble_eq_true rfl, Nat.le_of_ble_eq_true rfl⟩) ⟨Nat.zero_le _, Nat.zero_le _⟩ rfl rfl (Nat.le_of_ble_eq_true rfl) dX8_clearColumn_142) hat hP hD hS [] rfl [0, 1, 2, 3, 4, 5] rfl rfl rfl rfl rfl (by decide) (fun H locs hP hD hS => ?_)
        refine lv_i2l hx hb dX8_clearColumn_145 rfl ?_
        obtain ⟨c28, hf⟩ := kc_e hf
        refine k_rst (ws' := fun M9 => [(q, .inr (8, [.int v_n, .int v_rank, .int v_exchanges, .ref q_rows, .int v_width, .int v_p])), (q_rows, .inl (cQ, 4, .inr (.inr (.inr (.inr (kg q_rows_r)))))), (q_rows_r 0, .inl (cJ, 9, .inr (.inl (M9 0)))), (q_rows_r 1, .inl (cJ, 9, .inr (.inl (M9 1)))), (q_rows_r 2, .inl (cJ, 9, .inr (.inl (M9 2)))), (q_rows_r 3, .inl (cJ, 9, .inr (.inl (M9 3))))]) hx hb hK hP hD hS 2 (fun k hk => (co_4 (P := fun k => ([(q, .inr (8, [.int v_n, .int v_rank, .int v_exchanges, .ref q_rows, .int v_width, .int v_p])), (q_rows, .inl (cQ, 4, .inr (.inr (.inr (.inr (kg q_rows_r)))))), (q_rows_r 0, .inl (cJ, 9, .inr (.inl (v_rows 0)))), (q_rows_r 1, .inl (cJ, 9, .inr (.inl (v_rows 1)))), (q_rows_r 2, .inl (cJ, 9, .inr (.inl (v_rows 2)))), (q_rows_r 3, .inl (cJ, 9, .inr (.inl (v_rows 3))))] : va_W)[2 + k]? = some (q_rows_r k, .inl (cJ, 9, .inr (.inl (v_rows k))))) rfl rfl rfl rfl) hk) (fun k hk => (co_4 (P := fun k => ∀ f : Nat → Int64, ([(q, .inr (8, [.int v_n, .int v_rank, .int v_exchanges, .ref q_rows, .int v_width, .int v_p])), (q_rows, .inl (cQ, 4, .inr (.inr (.inr (.inr (kg q_rows_r)))))), (q_rows_r 0, .inl (cJ, 9, .inr (.inl (v_rows 0)))), (q_rows_r 1, .inl (cJ, 9, .inr (.inl (v_rows 1)))), (q_rows_r 2, .inl (cJ, 9, .inr (.inl (v_rows 2)))), (q_rows_r 3, .inl (cJ, 9, .inr (.inl (v_rows 3))))] : va_W).set (2 + k) (q_rows_r k, .inl (cJ, 9, .inr (.inl f))) = (fun M9 : Nat → Nat → Int64 => ([(q, .inr (8, [.int v_n, .int v_rank, .int v_exchanges, .ref q_rows, .int v_width, .int v_p])), (q_rows, .inl (cQ, 4, .inr (.inr (.inr (.inr (kg q_rows_r)))))), (q_rows_r 0, .inl (cJ, 9, .inr (.inl (M9 0)))), (q_rows_r 1, .inl (cJ, 9, .inr (.inl (M9 1)))), (q_rows_r 2, .inl (cJ, 9, .inr (.inl (M9 2)))), (q_rows_r 3, .inl (cJ, 9, .inr (.inl (M9 3))))] : va_W)) (ku v_rows k f)) (fun _ => rfl) (fun _ => rfl) (fun _ => rfl) (fun _ => rfl)) hk) (kin_nat c21) c28 dX8_clearColumn_146 (fun H locs hP hD hS => ?_)
        generalize ew29 : (ku v_rows (x3.toNatClampNeg) (vp_updL (v_rows (x3.toNatClampNeg)) x6.toNatClampNeg (r26.toInt64))) = w29 at hP hD
        have hf := kl_e hf w29 ew29.symm
        have hP : va_P D vwCl [(q, .inr (8, [.int v_n, .int v_rank, .int v_exchanges, .ref q_rows, .int v_width, .int v_p])), (q_rows, .inl (cQ, 4, .inr (.inr (.inr (.inr (kg q_rows_r)))))), (q_rows_r 0, .inl (cJ, 9, .inr (.inl (w29 0)))), (q_rows_r 1, .inl (cJ, 9, .inr (.inl (w29 1)))), (q_rows_r 2, .inl (cJ, 9, .inr (.inl (w29 2)))), (q_rows_r 3, .inl (cJ, 9, .inr (.inl (w29 3))))] H := hP
        have hD : va_D A [(q, .inr (8, [.int v_n, .int v_rank, .int v_exchanges, .ref q_rows, .int v_width, .int v_p])), (q_rows, .inl (cQ, 4, .inr (.inr (.inr (.inr (kg q_rows_r)))))), (q_rows_r 0, .inl (cJ, 9, .inr (.inl (w29 0)))), (q_rows_r 1, .inl (cJ, 9, .inr (.inl (w29 1)))), (q_rows_r 2, .inl (cJ, 9, .inr (.inl (w29 2)))), (q_rows_r 3, .inl (cJ, 9, .inr (.inl (w29 3))))] := hD
        obtain ⟨t30, et30⟩ : ∃ z : Int32, z = (x6 + (1 : Int32)) := ⟨_, rfl⟩
        have hf := kl_e hf t30 et30
        refine lv_iinc (v := t30) (lv' := [(6, .int t30), (0, .ref q), (1, .int x1), (3, .int x3), (4, .long x4)]) hx hb dX8_clearColumn_147 hl (k := 4) rfl (by rw [et30]; rfl) (by decide) rfl (fun ls hl => ?_)
        refine lv_goto (tgt := 98) hx hb dX8_clearColumn_150 (by decide) ?_
        exact ih t30 w29 o0 hf hk0 _ _ _ hP hD hS (lv_sub hl [1, 2, 3, 4, 0] rfl)
  have hL65 : ∀ (x1 : Int32) (v_n : Int32) (v_rank : Int32) (v_exchanges : Int32) (v_width : Int32) (v_p : Int32) (fu : Nat) (x3 : Int32) (v_rows : (Nat → Nat → Int64)) (o0 : (Nat → Nat → Int64)), L_X8_clearColumn_65 F x1 v_n v_rank v_p fu x3 v_rows = some o0 → (∀ (H : Heap) (locs : List Loc) (ls : Array Slot), va_P D vwCl [(q, .inr (8, [.int v_n, .int v_rank, .int v_exchanges, .ref q_rows, .int v_width, .int v_p])), (q_rows, .inl (cQ, 4, .inr (.inr (.inr (.inr (kg q_rows_r)))))), (q_rows_r 0, .inl (cJ, 9, .inr (.inl (o0 0)))), (q_rows_r 1, .inl (cJ, 9, .inr (.inl (o0 1)))), (q_rows_r 2, .inl (cJ, 9, .inr (.inl (o0 2)))), (q_rows_r 3, .inl (cJ, 9, .inr (.inl (o0 3))))] H → va_D A [(q, .inr (8, [.int v_n, .int v_rank, .int v_exchanges, .ref q_rows, .int v_width, .int v_p])), (q_rows, .inl (cQ, 4, .inr (.inr (.inr (.inr (kg q_rows_r)))))), (q_rows_r 0, .inl (cJ, 9, .inr (.inl (o0 0)))), (q_rows_r 1, .inl (cJ, 9, .inr (.inl (o0 1)))), (q_rows_r 2, .inl (cJ, 9, .inr (.inl (o0 2)))), (q_rows_r 3, .inl (cJ, 9, .inr (.inl (o0 3))))] → va_S A s.heap H locs → lv_has ls 7 [] → W p l e R s m args below meth c H locs 0 0 Q (F0 m 159 ls [])) → ∀ (H : Heap) (locs : List Loc) (ls : Array Slot), va_P D vwCl [(q, .inr (8, [.int v_n, .int v_rank, .int v_exchanges, .ref q_rows, .int v_width, .int v_p])), (q_rows, .inl (cQ, 4, .inr (.inr (.inr (.inr (kg q_rows_r)))))), (q_rows_r 0, .inl (cJ, 9, .inr (.inl (v_rows 0)))), (q_rows_r 1, .inl (cJ, 9, .inr (.inl (v_rows 1)))), (q_rows_r 2, .inl (cJ, 9, .inr (.inl (v_rows 2)))), (q_rows_r 3, .inl (cJ, 9, .inr (.inl (v_rows 3))))] H → va_D A [(q, .inr (8, [.int v_n, .int v_rank, .int v_exchanges, .ref q_rows, .int v_width, .int v_p])), (q_rows, .inl (cQ, 4, .inr (.inr (.inr (.inr (kg q_rows_r)))))), (q_rows_r 0, .inl (cJ, 9, .inr (.inl (v_rows 0)))), (q_rows_r 1, .inl (cJ, 9, .inr (.inl (v_rows 1)))), (q_rows_r 2, .inl (cJ, 9, .inr (.inl (v_rows 2)))), (q_rows_r 3, .inl (cJ, 9, .inr (.inl (v_rows 3))))] → va_S A s.heap H locs → lv_has ls 7 [(0, .ref q), (1, .int x1), (3, .int x3)] → W p l e R s m args below meth c H locs 0 0 Q (F0 m 65 ls []) := by
    intro x1 v_n v_rank v_exchanges v_width v_p fu
    induction fu with
    | zero =>
      intro x3 v_rows o0 hf
      cases hf
    | succ fu ih =>
      intro x3 v_rows o0 hf hk0 H locs ls hP hD hS hl
      rw [L_X8_clearColumn_65] at hf
      refine lv_iload_n hx hb dX8_clearColumn_65 rfl (lv_at hl 2 rfl) ?_
      refine lv_aload_n hx hb dX8_clearColumn_66 rfl (lv_at hl 0 rfl) ?_
      refine va_get (D := D) (ci := 8) (v := .int v_n) (C := RX8) (T := TX8) (N := 6) hx hb hts kinX8 hown hK hP 0 rfl rfl 0 (by decide) (hts _ kw136) (u_same (hts _ kw137)) rfl dX8_clearColumn_67 ?_
      refine lv_icmp_ge (tgt := 159) hx hb dX8_clearColumn_70 (by decide) (fun c15 => ?_) (fun c15 => ?_)
      · have hf := kp_e hf c15
        obtain rfl := ki1 hf
        exact hk0 _ _ _ hP hD hS (lv_sub hl [] rfl)
      · have hf := kn_e hf c15
        refine lv_iload_n hx hb dX8_clearColumn_73 rfl (lv_at hl 2 rfl) ?_
        refine lv_aload_n hx hb dX8_clearColumn_74 rfl (lv_at hl 0 rfl) ?_
        refine va_get (D := D) (ci := 8) (v := .int v_rank) (C := RX8) (T := TX8) (N := 6) hx hb hts kinX8 hown hK hP 0 rfl rfl 1 (by decide) (hts _ kw140) (u_same (hts _ kw141)) rfl dX8_clearColumn_75 ?_
        refine lv_icmp_ne (tgt := 85) hx hb dX8_clearColumn_78 (by decide) (fun c16 => ?_) (fun c16 => ?_)
        · have hf := kn_e hf c16
          refine lv_aload_n hx hb dX8_clearColumn_85 rfl (lv_at hl 0 rfl) ?_
          refine va_get (D := D) (ci := 8) (v := .ref q_rows) (C := RX8) (T := TX8) (N := 6) hx hb hts kinX8 hown hK hP 0 rfl rfl 3 (by decide) (hts _ kw152) (u_same (hts _ kw153)) rfl dX8_clearColumn_86 ?_
          refine lv_iload_n hx hb dX8_clearColumn_89 rfl (lv_at hl 2 rfl) ?_
          obtain ⟨c17, hf⟩ := kc_e hf
          refine k_gld hx hb hK hP 1 rfl c17 dX8_clearColumn_90 ?_
          refine lv_iload_n hx hb dX8_clearColumn_91 rfl (lv_at hl 1 rfl) ?_
          obtain ⟨c18, hf⟩ := kc_e hf
          refine k_rld hx hb hK hP 2 (fun k hk => (co_4 (P := fun k => ([(q, .inr (8, [.int v_n, .int v_rank, .int v_exchanges, .ref q_rows, .int v_width, .int v_p])), (q_rows, .inl (cQ, 4, .inr (.inr (.inr (.inr (kg q_rows_r)))))), (q_rows_r 0, .inl (cJ, 9, .inr (.inl (v_rows 0)))), (q_rows_r 1, .inl (cJ, 9, .inr (.inl (v_rows 1)))), (q_rows_r 2, .inl (cJ, 9, .inr (.inl (v_rows 2)))), (q_rows_r 3, .inl (cJ, 9, .inr (.inl (v_rows 3))))] : va_W)[2 + k]? = some (q_rows_r k, .inl (cJ, 9, .inr (.inl (v_rows k))))) rfl rfl rfl rfl) hk) (kin_nat c17) c18 dX8_clearColumn_92 ?_
          refine lv_topl (fun t19 et19 => ?_)
          have hf := kl_e hf t19 et19
          refine lv_lstore (lv' := [(4, .long t19), (0, .ref q), (1, .int x1), (3, .int x3)]) hx hb dX8_clearColumn_93 hl (by decide) rfl (fun ls hl => ?_)
          refine lv_iconst (v := 0) hx hb dX8_clearColumn_95 (by decide) ?_
          refine lv_istore (lv' := [(6, .int (0 : Int32)), (4, .long t19), (0, .ref q), (1, .int x1), (3, .int x3)]) hx hb dX8_clearColumn_96 hl (by decide) rfl (fun ls hl => ?_)
          obtain ⟨w31, hu, hf⟩ := kb1_e hf
          refine hL98 x1 x3 t19 v_n v_rank v_exchanges v_width v_p F (0 : Int32) v_rows w31 hu (fun H locs ls hP hD hS hl => ?_) _ _ _ hP hD hS (lv_sub hl [2, 3, 4, 1, 0] rfl)
          obtain ⟨t32, et32⟩ : ∃ z : Int32, z = (x3 + (1 : Int32)) := ⟨_, rfl⟩
          have hf := kl_e hf t32 et32
          refine lv_iinc (v := t32) (lv' := [(3, .int t32), (0, .ref q), (1, .int x1)]) hx hb dX8_clearColumn_153 hl (k := 2) rfl (by rw [et32]; rfl) (by decide) rfl (fun ls hl => ?_)
          refine lv_goto (tgt := 65) hx hb dX8_clearColumn_156 (by decide) ?_
          exact ih t32 w31 o0 hf hk0 _ _ _ hP hD hS (lv_sub hl [1, 2, 0] rfl)
        · have hf := kp_e hf c16
          refine lv_lconst (v := 0) hx hb dX8_clearColumn_81 (by decide) ?_
          refine lv_goto (tgt := 93) hx hb dX8_clearColumn_82 (by decide) ?_
          refine lv_lstore (lv' := [(4, .long (0 : Int64)), (0, .ref q), (1, .int x1), (3, .int x3)]) hx hb dX8_clearColumn_93 hl (by decide) rfl (fun ls hl => ?_)
          refine lv_iconst (v := 0) hx hb dX8_clearColumn_95 (by decide) ?_
          refine lv_istore (lv' := [(6, .int (0 : Int32)), (4, .long (0 : Int64)), (0, .ref q), (1, .int x1), (3, .int x3)]) hx hb dX8_clearColumn_96 hl (by decide) rfl (fun ls hl => ?_)
          obtain ⟨w33, hu, hf⟩ := kb1_e hf
          refine hL98 x1 x3 (0 : Int64) v_n v_rank v_exchanges v_width v_p F (0 : Int32) v_rows w33 hu (fun H locs ls hP hD hS hl => ?_) _ _ _ hP hD hS (lv_sub hl [2, 3, 4, 1, 0] rfl)
          obtain ⟨t34, et34⟩ : ∃ z : Int32, z = (x3 + (1 : Int32)) := ⟨_, rfl⟩
          have hf := kl_e hf t34 et34
          refine lv_iinc (v := t34) (lv' := [(3, .int t34), (0, .ref q), (1, .int x1)]) hx hb dX8_clearColumn_153 hl (k := 2) rfl (by rw [et34]; rfl) (by decide) rfl (fun ls hl => ?_)
          refine lv_goto (tgt := 65) hx hb dX8_clearColumn_156 (by decide) ?_
          exact ih t34 w33 o0 hf hk0 _ _ _ hP hD hS (lv_sub hl [1, 2, 0] rfl)
  unfold f_X8_clearColumn at hf
  refine lv_aload_n hx hb dX8_clearColumn_0 rfl (lv_at hl 0 rfl) ?_
  refine lv_aload_n hx hb dX8_clearColumn_1 rfl (lv_at hl 0 rfl) ?_
  refine va_get (D := D) (ci := 8) (v := .ref q_rows) (C := RX8) (T := TX8) (N := 6) hx hb hts kinX8 hown hK hP 0 rfl rfl 3 (by decide) (hts _ kw152) (u_same (hts _ kw153)) rfl dX8_clearColumn_2 ?_
  refine lv_aload_n hx hb dX8_clearColumn_5 rfl (lv_at hl 0 rfl) ?_
  refine va_get (D := D) (ci := 8) (v := .int v_rank) (C := RX8) (T := TX8) (N := 6) hx hb hts kinX8 hown hK hP 0 rfl rfl 1 (by decide) (hts _ kw140) (u_same (hts _ kw141)) rfl dX8_clearColumn_6 ?_
  obtain ⟨c1, hf⟩ := kc_e hf
  refine k_gld hx hb hK hP 1 rfl c1 dX8_clearColumn_9 ?_
  refine lv_iload_n hx hb dX8_clearColumn_10 rfl (lv_at hl 1 rfl) ?_
  obtain ⟨c2, hf⟩ := kc_e hf
  refine k_rld hx hb hK hP 2 (fun k hk => (co_4 (P := fun k => ([(q, .inr (8, [.int v_n, .int v_rank, .int v_exchanges, .ref q_rows, .int v_width, .int v_p])), (q_rows, .inl (cQ, 4, .inr (.inr (.inr (.inr (kg q_rows_r)))))), (q_rows_r 0, .inl (cJ, 9, .inr (.inl (v_rows 0)))), (q_rows_r 1, .inl (cJ, 9, .inr (.inl (v_rows 1)))), (q_rows_r 2, .inl (cJ, 9, .inr (.inl (v_rows 2)))), (q_rows_r 3, .inl (cJ, 9, .inr (.inl (v_rows 3))))] : va_W)[2 + k]? = some (q_rows_r k, .inl (cJ, 9, .inr (.inl (v_rows k))))) rfl rfl rfl rfl) hk) (kin_nat c1) c2 dX8_clearColumn_11 ?_
  obtain ⟨r3, h4, hf⟩ := kb1_e hf
  refine k_gi (nW := 6) (ws' := [(q, .inr (8, [.int v_n, .int v_rank, .int v_exchanges, .ref q_rows, .int v_width, .int v_p])), (q_rows, .inl (cQ, 4, .inr (.inr (.inr (.inr (kg q_rows_r)))))), (q_rows_r 0, .inl (cJ, 9, .inr (.inl (v_rows 0)))), (q_rows_r 1, .inl (cJ, 9, .inr (.inl (v_rows 1)))), (q_rows_r 2, .inl (cJ, 9, .inr (.inl (v_rows 2)))), (q_rows_r 3, .inl (cJ, 9, .inr (.inl (v_rows 3))))]) (wr := [(q_rows, .inl (cQ, 4, .inr (.inr (.inr (.inr (kg q_rows_r)))))), (q_rows_r 0, .inl (cJ, 9, .inr (.inl (v_rows 0)))), (q_rows_r 1, .inl (cJ, 9, .inr (.inl (v_rows 1)))), (q_rows_r 2, .inl (cJ, 9, .inr (.inl (v_rows 2)))), (q_rows_r 3, .inl (cJ, 9, .inr (.inl (v_rows 3))))]) (k_runV (rest := []) hat hP hD hS hl.1 (c_X8_oneOver q q_rows v_n v_rank v_exchanges v_width v_p F (v_rows v_rank.toNatClampNeg x1.toNatClampNeg) r3 h4) [0] (by decide) rfl kw413 kw415 kw2 kw71 kw416 kdVX8_oneOver ⟨rfl, rfl⟩ (by rw [hR]; exact ⟨Nat.le_of_ble_eq_true rfl, Nat.le_of_ble_eq_true rfl⟩) ⟨Nat.zero_le _, Nat.zero_le _⟩ 0 8 rfl rfl rfl rfl (Nat.le_of_ble_eq_true rfl) dX8_clearColumn_12) hat hP hD hS [0] rfl [1, 2, 3, 4, 5] rfl rfl rfl rfl rfl (by decide) (fun H locs hP hD hS => ?_)
  refine lv_istore_n (lv' := [(2, .int r3), (0, .ref q), (1, .int x1)]) hx hb dX8_clearColumn_15 rfl hl (by decide) rfl (fun ls hl => ?_)
  refine lv_iconst (v := 0) hx hb dX8_clearColumn_16 (by decide) ?_
  refine lv_istore_n (lv' := [(3, .int (0 : Int32)), (2, .int r3), (0, .ref q), (1, .int x1)]) hx hb dX8_clearColumn_17 rfl hl (by decide) rfl (fun ls hl => ?_)
  obtain ⟨w14, hu, hf⟩ := kb1_e hf
  refine hL18 x1 r3 v_n v_rank v_exchanges v_width v_p F (0 : Int32) v_rows w14 hu (fun H locs ls hP hD hS hl => ?_) _ _ _ hP hD hS (lv_sub hl [2, 3, 1, 0] rfl)
  refine lv_iconst (v := 0) hx hb dX8_clearColumn_63 (by decide) ?_
  refine lv_istore_n (lv' := [(3, .int (0 : Int32)), (0, .ref q), (1, .int x1)]) hx hb dX8_clearColumn_64 rfl hl (by decide) rfl (fun ls hl => ?_)
  obtain ⟨w35, hu, hf⟩ := kb1_e hf
  refine hL65 x1 v_n v_rank v_exchanges v_width v_p F (0 : Int32) w14 w35 hu (fun H locs ls hP hD hS hl => ?_) _ _ _ hP hD hS (lv_sub hl [1, 2, 0] rfl)
  obtain rfl := ki1 hf
  rw [hQ]
  exact k_vret hat hP hS dX8_clearColumn_159
set_option maxHeartbeats 4000000 in
set_option maxRecDepth 100000 in
theorem c_X9_clearColumns_R {l : Launch} {D : va_G} {cI cJ cQ : ClassId} {tp : Nat} (q : Nat) (q_rows : Nat) (q_rows_r : Nat → Nat) (v_n : Int32) (v_rank : Int32) (v_exchanges : Int32) (v_width : Int32) (v_p : Int32) (v_rows : (Nat → Nat → Int64)) (F : Nat) (o_v_rank : Int32) (o_v_exchanges : Int32) (o_v_rows : (Nat → Nat → Int64)) (hf : f_X9_clearColumns_R F v_n v_rank v_exchanges v_width v_p v_rows = some (o_v_rank, o_v_exchanges, o_v_rows)) : kM (fun A => kQv D A [(q, .inr (8, [.int v_n, .int o_v_rank, .int o_v_exchanges, .ref q_rows, .int v_width, .int v_p])), (q_rows, .inl (cQ, 4, .inr (.inr (.inr (.inr (kg q_rows_r)))))), (q_rows_r 0, .inl (cJ, 9, .inr (.inl (o_v_rows 0)))), (q_rows_r 1, .inl (cJ, 9, .inr (.inl (o_v_rows 1)))), (q_rows_r 2, .inl (cJ, 9, .inr (.inl (o_v_rows 2)))), (q_rows_r 3, .inl (cJ, 9, .inr (.inl (o_v_rows 3))))]) none l yX9_clearColumns cX9_clearColumns 2 { frames := 3, cells := 0, slots := 0, locals := 73 } D cI cJ cQ tp [.ref q] [(q, .inr (8, [.int v_n, .int v_rank, .int v_exchanges, .ref q_rows, .int v_width, .int v_p])), (q_rows, .inl (cQ, 4, .inr (.inr (.inr (.inr (kg q_rows_r)))))), (q_rows_r 0, .inl (cJ, 9, .inr (.inl (v_rows 0)))), (q_rows_r 1, .inl (cJ, 9, .inr (.inl (v_rows 1)))), (q_rows_r 2, .inl (cJ, 9, .inr (.inl (v_rows 2)))), (q_rows_r 3, .inl (cJ, 9, .inr (.inl (v_rows 3))))] := by
  refine kM_of (by decide +kernel) (Nat.le_of_ble_eq_true rfl) ?_
  intro p e s m args below meth c A ls R Q hR hQ hat hP hD hS hl
  obtain ⟨hx, hb, hr, hml, hown, hts, hT, hlk, hK, hA, hZ⟩ := id hat
  have hown : s.vm.findClass RX9 = some m.cls := hown
  have hl : lv_has ls 2 [(0, .ref q)] := hl
  have hL12 : ∀ (v_n : Int32) (v_width : Int32) (v_p : Int32) (fu : Nat) (x1 : Int32) (v_rank : Int32) (v_exchanges : Int32) (v_rows : (Nat → Nat → Int64)) (o0 : Int32) (o1 : Int32) (o2 : (Nat → Nat → Int64)), L_X9_clearColumns_R_12 F v_n v_width v_p fu x1 v_rank v_exchanges v_rows = some (o0, o1, o2) → (∀ (H : Heap) (locs : List Loc) (ls : Array Slot), va_P D vwCl [(q, .inr (8, [.int v_n, .int o0, .int o1, .ref q_rows, .int v_width, .int v_p])), (q_rows, .inl (cQ, 4, .inr (.inr (.inr (.inr (kg q_rows_r)))))), (q_rows_r 0, .inl (cJ, 9, .inr (.inl (o2 0)))), (q_rows_r 1, .inl (cJ, 9, .inr (.inl (o2 1)))), (q_rows_r 2, .inl (cJ, 9, .inr (.inl (o2 2)))), (q_rows_r 3, .inl (cJ, 9, .inr (.inl (o2 3))))] H → va_D A [(q, .inr (8, [.int v_n, .int o0, .int o1, .ref q_rows, .int v_width, .int v_p])), (q_rows, .inl (cQ, 4, .inr (.inr (.inr (.inr (kg q_rows_r)))))), (q_rows_r 0, .inl (cJ, 9, .inr (.inl (o2 0)))), (q_rows_r 1, .inl (cJ, 9, .inr (.inl (o2 1)))), (q_rows_r 2, .inl (cJ, 9, .inr (.inl (o2 2)))), (q_rows_r 3, .inl (cJ, 9, .inr (.inl (o2 3))))] → va_S A s.heap H locs → lv_has ls 2 [] → W p l e R s m args below meth c H locs 0 0 Q (F0 m 49 ls [])) → ∀ (H : Heap) (locs : List Loc) (ls : Array Slot), va_P D vwCl [(q, .inr (8, [.int v_n, .int v_rank, .int v_exchanges, .ref q_rows, .int v_width, .int v_p])), (q_rows, .inl (cQ, 4, .inr (.inr (.inr (.inr (kg q_rows_r)))))), (q_rows_r 0, .inl (cJ, 9, .inr (.inl (v_rows 0)))), (q_rows_r 1, .inl (cJ, 9, .inr (.inl (v_rows 1)))), (q_rows_r 2, .inl (cJ, 9, .inr (.inl (v_rows 2)))), (q_rows_r 3, .inl (cJ, 9, .inr (.inl (v_rows 3))))] H → va_D A [(q, .inr (8, [.int v_n, .int v_rank, .int v_exchanges, .ref q_rows, .int v_width, .int v_p])), (q_rows, .inl (cQ, 4, .inr (.inr (.inr (.inr (kg q_rows_r)))))), (q_rows_r 0, .inl (cJ, 9, .inr (.inl (v_rows 0)))), (q_rows_r 1, .inl (cJ, 9, .inr (.inl (v_rows 1)))), (q_rows_r 2, .inl (cJ, 9, .inr (.inl (v_rows 2)))), (q_rows_r 3, .inl (cJ, 9, .inr (.inl (v_rows 3))))] → va_S A s.heap H locs → lv_has ls 2 [(0, .ref q), (1, .int x1)] → W p l e R s m args below meth c H locs 0 0 Q (F0 m 12 ls []) := by
    intro v_n v_width v_p fu
    induction fu with
    | zero =>
      intro x1 v_rank v_exchanges v_rows o0 o1 o2 hf
      cases hf
    | succ fu ih =>
      intro x1 v_rank v_exchanges v_rows o0 o1 o2 hf hk0 H locs ls hP hD hS hl
      rw [L_X9_clearColumns_R_12] at hf
      refine lv_iload_n hx hb dX9_clearColumns_12 rfl (lv_at hl 1 rfl) ?_
      refine lv_aload_n hx hb dX9_clearColumns_13 rfl (lv_at hl 0 rfl) ?_
      refine va_get (D := D) (ci := 8) (v := .int v_n) (C := RX8) (T := TX8) (N := 6) hx hb hts kinX8 hown hK hP 0 rfl rfl 0 (by decide) (hts _ kw138) (fun _ h9 => h9) rfl dX9_clearColumns_14 ?_
      refine lv_icmp_ge (tgt := 49) hx hb dX9_clearColumns_17 (by decide) (fun c1 => ?_) (fun c1 => ?_)
      · have hf := kp_e hf c1
        obtain ⟨rfl, rfl, rfl⟩ := ki3 hf
        exact hk0 _ _ _ hP hD hS (lv_sub hl [] rfl)
      · have hf := kn_e hf c1
        refine lv_aload_n hx hb dX9_clearColumns_20 rfl (lv_at hl 0 rfl) ?_
        refine lv_iload_n hx hb dX9_clearColumns_21 rfl (lv_at hl 1 rfl) ?_
        obtain ⟨r2, w3, w4, h5, hf⟩ := kb3_e hf
        refine k_gi (nW := 6) (ws' := [(q, .inr (8, [.int v_n, .int v_rank, .int w3, .ref q_rows, .int v_width, .int v_p])), (q_rows, .inl (cQ, 4, .inr (.inr (.inr (.inr (kg q_rows_r)))))), (q_rows_r 0, .inl (cJ, 9, .inr (.inl (w4 0)))), (q_rows_r 1, .inl (cJ, 9, .inr (.inl (w4 1)))), (q_rows_r 2, .inl (cJ, 9, .inr (.inl (w4 2)))), (q_rows_r 3, .inl (cJ, 9, .inr (.inl (w4 3))))]) (wr := []) (k_runU (rest := []) hat hP hD hS hl.1 (c_X9_raise_R q q_rows q_rows_r v_n v_rank v_exchanges v_width v_p v_rows F x1 r2 w3 w4 h5) [0, 1, 2, 3, 4, 5] (by decide) rfl (cu_X9_clearColumns_X9_raise_X8 hat (by rw [hR]; exact ⟨Nat.le_of_ble_eq_true rfl, Nat.le_of_ble_eq_true rfl⟩)) ⟨Nat.zero_le _, Nat.zero_le _⟩ 0 8 rfl rfl rfl rfl (Nat.le_of_ble_eq_true rfl) dX9_clearColumns_22) hat hP hD hS [0, 1, 2, 3, 4, 5] rfl [] rfl rfl rfl rfl rfl (by decide) (fun H locs hP hD hS => ?_)
        refine lv_if_eq (tgt := 43) hx hb dX9_clearColumns_25 (by decide) (fun c6 => ?_) (fun c6 => ?_)
        · have hf := kp_e hf c6
          obtain ⟨t7, et7⟩ : ∃ z : Int32, z = (x1 + (1 : Int32)) := ⟨_, rfl⟩
          have hf := kl_e hf t7 et7
          refine lv_iinc (v := t7) (lv' := [(1, .int t7), (0, .ref q)]) hx hb dX9_clearColumns_43 hl (k := 1) rfl (by rw [et7]; rfl) (by decide) rfl (fun ls hl => ?_)
          refine lv_goto (tgt := 12) hx hb dX9_clearColumns_46 (by decide) ?_
          exact ih t7 v_rank w3 w4 o0 o1 o2 hf hk0 _ _ _ hP hD hS (lv_sub hl [1, 0] rfl)
        · have hf := kn_e hf c6
          refine lv_aload_n hx hb dX9_clearColumns_28 rfl (lv_at hl 0 rfl) ?_
          refine lv_iload_n hx hb dX9_clearColumns_29 rfl (lv_at hl 1 rfl) ?_
          obtain ⟨w8, h9, hf⟩ := kb1_e hf
          refine k_gv (nW := 6) (ws' := [(q, .inr (8, [.int v_n, .int v_rank, .int w3, .ref q_rows, .int v_width, .int v_p])), (q_rows, .inl (cQ, 4, .inr (.inr (.inr (.inr (kg q_rows_r)))))), (q_rows_r 0, .inl (cJ, 9, .inr (.inl (w8 0)))), (q_rows_r 1, .inl (cJ, 9, .inr (.inl (w8 1)))), (q_rows_r 2, .inl (cJ, 9, .inr (.inl (w8 2)))), (q_rows_r 3, .inl (cJ, 9, .inr (.inl (w8 3))))]) (wr := []) (k_runU (rest := []) hat hP hD hS hl.1 (c_X8_clearColumn q q_rows q_rows_r v_n v_rank w3 v_width v_p w4 F x1 w8 h9) [0, 1, 2, 3, 4, 5] (by decide) rfl (cu_X9_clearColumns_X8_clearColumn_X8 hat (by rw [hR]; exact ⟨Nat.le_of_ble_eq_true rfl, Nat.le_of_ble_eq_true rfl⟩)) ⟨Nat.zero_le _, Nat.zero_le _⟩ 0 8 rfl rfl rfl rfl (Nat.le_of_ble_eq_true rfl) dX9_clearColumns_30) hat hP hD hS [0, 1, 2, 3, 4, 5] rfl [] rfl rfl rfl rfl rfl (by decide) (fun H locs hP hD hS => ?_)
          refine lv_aload_n hx hb dX9_clearColumns_33 rfl (lv_at hl 0 rfl) ?_
          refine lv_dup hx hb dX9_clearColumns_34 rfl ?_
          refine va_get (D := D) (ci := 8) (v := .int v_rank) (C := RX8) (T := TX8) (N := 6) hx hb hts kinX8 hown hK hP 0 rfl rfl 1 (by decide) (hts _ kw139) (fun _ h9 => h9) rfl dX9_clearColumns_35 ?_
          refine lv_iconst (v := 1) hx hb dX9_clearColumns_38 (by decide) ?_
          refine lv_iadd hx hb dX9_clearColumns_39 ?_
          refine lv_topi (fun t10 et10 => ?_)
          have hf := kl_e hf t10 et10
          refine va_put (D := D) (ci := 8) (v := .int t10) (ty := .int) (C := RX8) (T := TX8) (N := 6) hx hb hts kinX8 tyX8 tyX8_ok nmX8 hown hK hP hD hS 0 rfl rfl 1 (by decide) (hts _ kw139) (fun _ h9 => h9) rfl (by decide +kernel) rfl rfl (Nat.le_of_ble_eq_true rfl) dX9_clearColumns_40 (fun H locs hP hD hS => ?_)
          have hP : va_P D vwCl [(q, .inr (8, [.int v_n, .int t10, .int w3, .ref q_rows, .int v_width, .int v_p])), (q_rows, .inl (cQ, 4, .inr (.inr (.inr (.inr (kg q_rows_r)))))), (q_rows_r 0, .inl (cJ, 9, .inr (.inl (w8 0)))), (q_rows_r 1, .inl (cJ, 9, .inr (.inl (w8 1)))), (q_rows_r 2, .inl (cJ, 9, .inr (.inl (w8 2)))), (q_rows_r 3, .inl (cJ, 9, .inr (.inl (w8 3))))] H := hP
          have hD : va_D A [(q, .inr (8, [.int v_n, .int t10, .int w3, .ref q_rows, .int v_width, .int v_p])), (q_rows, .inl (cQ, 4, .inr (.inr (.inr (.inr (kg q_rows_r)))))), (q_rows_r 0, .inl (cJ, 9, .inr (.inl (w8 0)))), (q_rows_r 1, .inl (cJ, 9, .inr (.inl (w8 1)))), (q_rows_r 2, .inl (cJ, 9, .inr (.inl (w8 2)))), (q_rows_r 3, .inl (cJ, 9, .inr (.inl (w8 3))))] := hD
          obtain ⟨t11, et11⟩ : ∃ z : Int32, z = (x1 + (1 : Int32)) := ⟨_, rfl⟩
          have hf := kl_e hf t11 et11
          refine lv_iinc (v := t11) (lv' := [(1, .int t11), (0, .ref q)]) hx hb dX9_clearColumns_43 hl (k := 1) rfl (by rw [et11]; rfl) (by decide) rfl (fun ls hl => ?_)
          refine lv_goto (tgt := 12) hx hb dX9_clearColumns_46 (by decide) ?_
          exact ih t11 t10 w3 w8 o0 o1 o2 hf hk0 _ _ _ hP hD hS (lv_sub hl [1, 0] rfl)
  unfold f_X9_clearColumns_R at hf
  refine lv_aload_n hx hb dX9_clearColumns_0 rfl (lv_at hl 0 rfl) ?_
  refine lv_iconst (v := 0) hx hb dX9_clearColumns_1 (by decide) ?_
  refine va_put (D := D) (ci := 8) (v := .int (0 : Int32)) (ty := .int) (C := RX8) (T := TX8) (N := 6) hx hb hts kinX8 tyX8 tyX8_ok nmX8 hown hK hP hD hS 0 rfl rfl 1 (by decide) (hts _ kw139) (fun _ h9 => h9) rfl (by decide +kernel) rfl rfl (Nat.le_of_ble_eq_true rfl) dX9_clearColumns_2 (fun H locs hP hD hS => ?_)
  have hP : va_P D vwCl [(q, .inr (8, [.int v_n, .int (0 : Int32), .int v_exchanges, .ref q_rows, .int v_width, .int v_p])), (q_rows, .inl (cQ, 4, .inr (.inr (.inr (.inr (kg q_rows_r)))))), (q_rows_r 0, .inl (cJ, 9, .inr (.inl (v_rows 0)))), (q_rows_r 1, .inl (cJ, 9, .inr (.inl (v_rows 1)))), (q_rows_r 2, .inl (cJ, 9, .inr (.inl (v_rows 2)))), (q_rows_r 3, .inl (cJ, 9, .inr (.inl (v_rows 3))))] H := hP
  have hD : va_D A [(q, .inr (8, [.int v_n, .int (0 : Int32), .int v_exchanges, .ref q_rows, .int v_width, .int v_p])), (q_rows, .inl (cQ, 4, .inr (.inr (.inr (.inr (kg q_rows_r)))))), (q_rows_r 0, .inl (cJ, 9, .inr (.inl (v_rows 0)))), (q_rows_r 1, .inl (cJ, 9, .inr (.inl (v_rows 1)))), (q_rows_r 2, .inl (cJ, 9, .inr (.inl (v_rows 2)))), (q_rows_r 3, .inl (cJ, 9, .inr (.inl (v_rows 3))))] := hD
  refine lv_aload_n hx hb dX9_clearColumns_5 rfl (lv_at hl 0 rfl) ?_
  refine lv_iconst (v := 0) hx hb dX9_clearColumns_6 (by decide) ?_
  refine va_put (D := D) (ci := 8) (v := .int (0 : Int32)) (ty := .int) (C := RX8) (T := TX8) (N := 6) hx hb hts kinX8 tyX8 tyX8_ok nmX8 hown hK hP hD hS 0 rfl rfl 2 (by decide) (hts _ kw146) (fun _ h9 => h9) rfl (by decide +kernel) rfl rfl (Nat.le_of_ble_eq_true rfl) dX9_clearColumns_7 (fun H locs hP hD hS => ?_)
  have hP : va_P D vwCl [(q, .inr (8, [.int v_n, .int (0 : Int32), .int (0 : Int32), .ref q_rows, .int v_width, .int v_p])), (q_rows, .inl (cQ, 4, .inr (.inr (.inr (.inr (kg q_rows_r)))))), (q_rows_r 0, .inl (cJ, 9, .inr (.inl (v_rows 0)))), (q_rows_r 1, .inl (cJ, 9, .inr (.inl (v_rows 1)))), (q_rows_r 2, .inl (cJ, 9, .inr (.inl (v_rows 2)))), (q_rows_r 3, .inl (cJ, 9, .inr (.inl (v_rows 3))))] H := hP
  have hD : va_D A [(q, .inr (8, [.int v_n, .int (0 : Int32), .int (0 : Int32), .ref q_rows, .int v_width, .int v_p])), (q_rows, .inl (cQ, 4, .inr (.inr (.inr (.inr (kg q_rows_r)))))), (q_rows_r 0, .inl (cJ, 9, .inr (.inl (v_rows 0)))), (q_rows_r 1, .inl (cJ, 9, .inr (.inl (v_rows 1)))), (q_rows_r 2, .inl (cJ, 9, .inr (.inl (v_rows 2)))), (q_rows_r 3, .inl (cJ, 9, .inr (.inl (v_rows 3))))] := hD
  refine lv_iconst (v := 0) hx hb dX9_clearColumns_10 (by decide) ?_
  refine lv_istore_n (lv' := [(1, .int (0 : Int32)), (0, .ref q)]) hx hb dX9_clearColumns_11 rfl hl (by decide) rfl (fun ls hl => ?_)
  obtain ⟨w12, w13, w14, hu, hf⟩ := kb3_e hf
  refine hL12 v_n v_width v_p F (0 : Int32) (0 : Int32) (0 : Int32) v_rows w12 w13 w14 hu (fun H locs ls hP hD hS hl => ?_) _ _ _ hP hD hS (lv_sub hl [1, 0] rfl)
  obtain ⟨rfl, rfl, rfl⟩ := ki3 hf
  rw [hQ]
  exact k_vret hat hP hS dX9_clearColumns_49
