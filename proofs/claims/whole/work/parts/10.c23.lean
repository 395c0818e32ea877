set_option maxHeartbeats 4000000 in
set_option maxRecDepth 100000 in
theorem c_X11_drift {l : Launch} {D : va_G} {cI cJ cQ : ClassId} {tp : Nat} (q : Nat) (q_now : Nat) (q_clearing : Nat) (q_residues : Nat) (q_lifting : Nat) (q_guessed : Nat) (q_walk : Nat) (q_history : Nat) (q_book : Nat) (q_draws : Nat) (q_firstImage : Nat) (q_secondImage : Nat) (q_now_numbers : Nat) (q_clearing_rows : Nat) (q_clearing_leads : Nat) (q_clearing_rows_r : Nat → Nat) (q_history_store : Nat) (v_now_n : Int32) (v_now_primeNumber : Int32) (v_now_numbers : (Nat → Int32)) (v_clearing_n : Int32) (v_clearing_rank : Int32) (v_clearing_exchanges : Int32) (v_clearing_width : Int32) (v_clearing_scale : Int64) (v_clearing_rows : (Nat → Nat → Int64)) (v_clearing_leads : (Nat → Int32)) (v_history_count : Int32) (v_history_next : Int32) (v_history_store : (Nat → Int32)) (v_draws_state : Int64) (F : Nat) (x1 : Int32) (r0 : Int32) (o_v_now_numbers : (Nat → Int32)) (o_v_clearing_n : Int32) (o_v_clearing_rank : Int32) (o_v_clearing_exchanges : Int32) (o_v_clearing_scale : Int64) (o_v_clearing_rows : (Nat → Nat → Int64)) (o_v_clearing_leads : (Nat → Int32)) (o_v_history_count : Int32) (o_v_history_next : Int32) (o_v_history_store : (Nat → Int32)) (o_v_draws_state : Int64) (hf : f_X11_drift F v_now_n v_now_primeNumber v_now_numbers v_clearing_n v_clearing_rank v_clearing_exchanges v_clearing_width v_clearing_scale v_clearing_rows v_clearing_leads v_history_count v_history_next v_history_store v_draws_state x1 = some (r0, o_v_now_numbers, o_v_clearing_n, o_v_clearing_rank, o_v_clearing_exchanges, o_v_clearing_scale, o_v_clearing_rows, o_v_clearing_leads, o_v_history_count, o_v_history_next, o_v_history_store, o_v_draws_state)) : kM (fun A => kQi D A [(q, .inr (10, [.ref q_now, .ref q_clearing, .ref q_residues, .ref q_lifting, .ref q_guessed, .ref q_walk, .ref q_history, .ref q_book, .ref q_draws, .ref q_firstImage, .ref q_secondImage])), (q_now, .inr (3, [.int v_now_n, .int v_now_primeNumber, .ref q_now_numbers])), (q_now_numbers, .inl (cI, 20, .inl o_v_now_numbers)), (q_clearing, .inr (1, [.int o_v_clearing_n, .int o_v_clearing_rank, .int o_v_clearing_exchanges, .ref q_clearing_rows, .int v_clearing_width, .long o_v_clearing_scale, .ref q_clearing_leads])), (q_clearing_rows, .inl (cQ, 4, .inr (.inr (.inr (.inr (kg q_clearing_rows_r)))))), (q_clearing_rows_r 0, .inl (cJ, 5, .inr (.inl (o_v_clearing_rows 0)))), (q_clearing_rows_r 1, .inl (cJ, 5, .inr (.inl (o_v_clearing_rows 1)))), (q_clearing_rows_r 2, .inl (cJ, 5, .inr (.inl (o_v_clearing_rows 2)))), (q_clearing_rows_r 3, .inl (cJ, 5, .inr (.inl (o_v_clearing_rows 3)))), (q_clearing_leads, .inl (cI, 4, .inl o_v_clearing_leads)), (q_history, .inr (5, [.int o_v_history_count, .int o_v_history_next, .ref q_history_store])), (q_history_store, .inl (cI, 352, .inl o_v_history_store)), (q_draws, .inr (2, [.long o_v_draws_state]))] r0) (some .int) l yX11_drift cX11_drift 3 { frames := 6, cells := 0, slots := 0, locals := 136 } D cI cJ cQ tp [.ref q, .int x1] [(q, .inr (10, [.ref q_now, .ref q_clearing, .ref q_residues, .ref q_lifting, .ref q_guessed, .ref q_walk, .ref q_history, .ref q_book, .ref q_draws, .ref q_firstImage, .ref q_secondImage])), (q_now, .inr (3, [.int v_now_n, .int v_now_primeNumber, .ref q_now_numbers])), (q_now_numbers, .inl (cI, 20, .inl v_now_numbers)), (q_clearing, .inr (1, [.int v_clearing_n, .int v_clearing_rank, .int v_clearing_exchanges, .ref q_clearing_rows, .int v_clearing_width, .long v_clearing_scale, .ref q_clearing_leads])), (q_clearing_rows, .inl (cQ, 4, .inr (.inr (.inr (.inr (kg q_clearing_rows_r)))))), (q_clearing_rows_r 0, .inl (cJ, 5, .inr (.inl (v_clearing_rows 0)))), (q_clearing_rows_r 1, .inl (cJ, 5, .inr (.inl (v_clearing_rows 1)))), (q_clearing_rows_r 2, .inl (cJ, 5, .inr (.inl (v_clearing_rows 2)))), (q_clearing_rows_r 3, .inl (cJ, 5, .inr (.inl (v_clearing_rows 3)))), (q_clearing_leads, .inl (cI, 4, .inl v_clearing_leads)), (q_history, .inr (5, [.int v_history_count, .int v_history_next, .ref q_history_store])), (q_history_store, .inl (cI, 352, .inl v_history_store)), (q_draws, .inr (2, [.long v_draws_state]))] := by
  refine kM_of (by decide +kernel) (Nat.le_of_ble_eq_true rfl) ?_
  intro p e s m args below meth c A ls R Q hR hQ hat hP hD hS hl
  obtain ⟨hx, hb, hr, hml, hown, hts, hT, hlk, hK, hA, hZ⟩ := id hat
  have hown : s.vm.findClass RX11 = some m.cls := hown
  have hl : lv_has ls 3 [(0, .ref q), (1, .int x1)] := hl
  have hL16 : ∀ (x1 : Int32) (v_now_n : Int32) (v_now_primeNumber : Int32) (v_clearing_n : Int32) (v_clearing_rank : Int32) (v_clearing_exchanges : Int32) (v_clearing_width : Int32) (v_clearing_scale : Int64) (v_clearing_rows : (Nat → Nat → Int64)) (v_clearing_leads : (Nat → Int32)) (fu : Nat) (x2 : Int32) (v_now_numbers : (Nat → Int32)) (v_history_count : Int32) (v_history_next : Int32) (v_history_store : (Nat → Int32)) (v_draws_state : Int64) (o0 : (Nat → Int32)) (o1 : Int32) (o2 : Int32) (o3 : (Nat → Int32)) (o4 : Int64), L_X11_drift_16 x1 v_now_n v_now_primeNumber fu x2 v_now_numbers v_history_count v_history_next v_history_store v_draws_state = some (o0, o1, o2, o3, o4) → (∀ (H : Heap) (locs : List Loc) (ls : Array Slot), va_P D vwCl [(q, .inr (10, [.ref q_now, .ref q_clearing, .ref q_residues, .ref q_lifting, .ref q_guessed, .ref q_walk, .ref q_history, .ref q_book, .ref q_draws, .ref q_firstImage, .ref q_secondImage])), (q_now, .inr (3, [.int v_now_n, .int v_now_primeNumber, .ref q_now_numbers])), (q_now_numbers, .inl (cI, 20, .inl o0)), (q_clearing, .inr (1, [.int v_clearing_n, .int v_clearing_rank, .int v_clearing_exchanges, .ref q_clearing_rows, .int v_clearing_width, .long v_clearing_scale, .ref q_clearing_leads])), (q_clearing_rows, .inl (cQ, 4, .inr (.inr (.inr (.inr (kg q_clearing_rows_r)))))), (q_clearing_rows_r 0, .inl (cJ, 5, .inr (.inl (v_clearing_rows 0)))), (q_clearing_rows_r 1, .inl (cJ, 5, .inr (.inl (v_clearing_rows 1)))), (q_clearing_rows_r 2, .inl (cJ, 5, .inr (.inl (v_clearing_rows 2)))), (q_clearing_rows_r 3, .inl (cJ, 5, .inr (.inl (v_clearing_rows 3)))), (q_clearing_leads, .inl (cI, 4, .inl v_clearing_leads)), (q_history, .inr (5, [.int o1, .int o2, .ref q_history_store])), (q_history_store, .inl (cI, 352, .inl o3)), (q_draws, .inr (2, [.long o4]))] H → va_D A [(q, .inr (10, [.ref q_now, .ref q_clearing, .ref q_residues, .ref q_lifting, .ref q_guessed, .ref q_walk, .ref q_history, .ref q_book, .ref q_draws, .ref q_firstImage, .ref q_secondImage])), (q_now, .inr (3, [.int v_now_n, .int v_now_primeNumber, .ref q_now_numbers])), (q_now_numbers, .inl (cI, 20, .inl o0)), (q_clearing, .inr (1, [.int v_clearing_n, .int v_clearing_rank, .int v_clearing_exchanges, .ref q_clearing_rows, .int v_clearing_width, .long v_clearing_scale, .ref q_clearing_leads])), (q_clearing_rows, .inl (cQ, 4, .inr (.inr (.inr (.inr (kg q_clearing_rows_r)))))), (q_clearing_rows_r 0, .inl (cJ, 5, .inr (.inl (v_clearing_rows 0)))), (q_clearing_rows_r 1, .inl (cJ, 5, .inr (.inl (v_clearing_rows 1)))), (q_clearing_rows_r 2, .inl (cJ, 5, .inr (.inl (v_clearing_rows 2)))), (q_clearing_rows_r 3, .inl (cJ, 5, .inr (.inl (v_clearing_rows 3)))), (q_clearing_leads, .inl (cI, 4, .inl v_clearing_leads)), (q_history, .inr (5, [.int o1, .int o2, .ref q_history_store])), (q_history_store, .inl (cI, 352, .inl o3)), (q_draws, .inr (2, [.long o4]))] → va_S A s.heap H locs → lv_has ls 3 [(0, .ref q)] → W p l e R s m args below meth c H locs 0 0 Q (F0 m 31 ls [])) → ∀ (H : Heap) (locs : List Loc) (ls : Array Slot), va_P D vwCl [(q, .inr (10, [.ref q_now, .ref q_clearing, .ref q_residues, .ref q_lifting, .ref q_guessed, .ref q_walk, .ref q_history, .ref q_book, .ref q_draws, .ref q_firstImage, .ref q_secondImage])), (q_now, .inr (3, [.int v_now_n, .int v_now_primeNumber, .ref q_now_numbers])), (q_now_numbers, .inl (cI, 20, .inl v_now_numbers)), (q_clearing, .inr (1, [.int v_clearing_n, .int v_clearing_rank, .int v_clearing_exchanges, .ref q_clearing_rows, .int v_clearing_width, .long v_clearing_scale, .ref q_clearing_leads])), (q_clearing_rows, .inl (cQ, 4, .inr (.inr (.inr (.inr (kg q_clearing_rows_r)))))), (q_clearing_rows_r 0, .inl (cJ, 5, .inr (.inl (v_clearing_rows 0)))), (q_clearing_rows_r 1, .inl (cJ, 5, .inr (.inl (v_clearing_rows 1)))), (q_clearing_rows_r 2, .inl (cJ, 5, .inr (.inl (v_clearing_rows 2)))), (q_clearing_rows_r 3, .inl (cJ, 5, .inr (.inl (v_clearing_rows 3)))), (q_clearing_leads, .inl (cI, 4, .inl v_clearing_leads)), (q_history, .inr (5, [.int v_history_count, .int v_history_next, .ref q_history_store])), (q_history_store, .inl (cI, 352, .inl v_history_store)), (q_draws, .inr (2, [.long v_draws_state]))] H → va_D A [(q, .inr (10, [.ref q_now, .ref q_clearing, .ref q_residues, .ref q_lifting, .ref q_guessed, .ref q_walk, .ref q_history, .ref q_book, .ref q_draws, .ref q_firstImage, .ref q_secondImage])), (q_now, .inr (3, [.int v_now_n, .int v_now_primeNumber, .ref q_now_numbers])), (q_now_numbers, .inl (cI, 20, .inl v_now_numbers)), (q_clearing, .inr (1, [.int v_clearing_n, .int v_clearing_rank, .int v_clearing_exchanges, .ref q_clearing_rows, .int v_clearing_width, .long v_clearing_scale, .ref q_clearing_leads])), (q_clearing_rows, .inl (cQ, 4, .inr (.inr (.inr (.inr (kg q_clearing_rows_r)))))), (q_clearing_rows_r 0, .inl (cJ, 5, .inr (.inl (v_clearing_rows 0)))), (q_clearing_rows_r 1, .inl (cJ, 5, .inr (.inl (v_clearing_rows 1)))), (q_clearing_rows_r 2, .inl (cJ, 5, .inr (.inl (v_clearing_rows 2)))), (q_clearing_rows_r 3, .inl (cJ, 5, .inr (.inl (v_clearing_rows 3)))), (q_clearing_leads, .inl (cI, 4, .inl v_clearing_leads)), (q_history, .inr (5, [.int v_history_count, .int v_history_next, .ref q_history_store])), (q_history_store, .inl (cI, 352, .inl v_history_store)), (q_draws, .inr (2, [.long v_draws_state]))] → va_S A s.heap H locs → lv_has ls 3 [(0, .ref q), (1, .int x1), (2, .int x2)] → W p l e R s m args below meth c H locs 0 0 Q (F0 m 16 ls []) := by
    intro x1 v_now_n v_now_primeNumber v_clearing_n v_clearing_rank v_clearing_exchanges v_clearing_width v_clearing_scale v_clearing_rows v_clearing_leads fu
    induction fu with
    | zero =>
      intro x2 v_now_numbers v_history_count v_history_next v_history_store v_draws_state o0 o1 o2 o3 o4 hf
      cases hf
    | succ fu ih =>
      intro x2 v_now_numbers v_history_count v_history_next v_history_store v_draws_state o0 o1 o2 o3 o4 hf hk0 H locs ls hP hD hS hl
      rw [L_X11_drift_16] at hf
      refine lv_iload_n hx hb dX11_drift_16 rfl (lv_at hl 2 rfl) ?_
      refine lv_iload_n hx hb dX11_drift_17 rfl (lv_at hl 1 rfl) ?_
      refine lv_icmp_ge (tgt := 31) hx hb dX11_drift_18 (by decide) (fun c3 => ?_) (fun c3 => ?_)
      · have hf := kp_e hf c3
        obtain ⟨rfl, rfl, rfl, rfl, rfl⟩ := ki5 hf
        exact hk0 _ _ _ hP hD hS (lv_sub hl [0] rfl)
      · have hf := kn_e hf c3
        refine lv_aload_n hx hb dX11_drift_21 rfl (lv_at hl 0 rfl) ?_
        obtain ⟨w4, w5, w6, w7, w8, h9, hf⟩ := kb5_e hf
        refine k_gv (nW := 13) (ws' := [(q, .inr (10, [.ref q_now, .ref q_clearing, .ref q_residues, .ref q_lifting, .ref q_guessed, .ref q_walk, .ref q_history, .ref q_book, .ref q_draws, .ref q_firstImage, .ref q_secondImage])), (q_now, .inr (3, [.int v_now_n, .int v_now_primeNumber, .ref q_now_numbers])), (q_now_numbers, .inl (cI, 20, .inl w4)), (q_clearing, .inr (1, [.int v_clearing_n, .int v_clearing_rank, .int v_clearing_exchanges, .ref q_clearing_rows, .int v_clearing_width, .long v_clearing_scale, .ref q_clearing_leads])), (q_clearing_rows, .inl (cQ, 4, .inr (.inr (.inr (.inr (kg q_clearing_rows_r)))))), (q_clearing_rows_r 0, .inl (cJ, 5, .inr (.inl (v_clearing_rows 0)))), (q_clearing_rows_r 1, .inl (cJ, 5, .inr (.inl (v_clearing_rows 1)))), (q_clearing_rows_r 2, .inl (cJ, 5, .inr (.inl (v_clearing_rows 2)))), (q_clearing_rows_r 3, .inl (cJ, 5, .inr (.inl (v_clearing_rows 3)))), (q_clearing_leads, .inl (cI, 4, .inl v_clearing_leads)), (q_history, .inr (5, [.int w5, .int w6, .ref q_history_store])), (q_history_store, .inl (cI, 352, .inl w7)), (q_draws, .inr (2, [.long w8]))]) (wr := [(q_clearing, .inr (1, [.int v_clearing_n, .int v_clearing_rank, .int v_clearing_exchanges, .ref q_clearing_rows, .int v_clearing_width, .long v_clearing_scale, .ref q_clearing_leads])), (q_clearing_rows, .inl (cQ, 4, .inr (.inr (.inr (.inr (kg q_clearing_rows_r)))))), (q_clearing_rows_r 0, .inl (cJ, 5, .inr (.inl (v_clearing_rows 0)))), (q_clearing_rows_r 1, .inl (cJ, 5, .inr (.inl (v_clearing_rows 1)))), (q_clearing_rows_r 2, .inl (cJ, 5, .inr (.inl (v_clearing_rows 2)))), (q_clearing_rows_r 3, .inl (cJ, 5, .inr (.inl (v_clearing_rows 3)))), (q_clearing_leads, .inl (cI, 4, .inl v_clearing_leads))]) (k_runV (rest := []) hat hP hD hS hl.1 (c_X11_changeByDraws q q_now q_clearing q_residues q_lifting q_guessed q_walk q_history q_book q_draws q_firstImage q_secondImage q_now_numbers q_history_store v_now_n v_now_primeNumber v_now_numbers v_history_count v_history_next v_history_store v_draws_state w4 w5 w6 w7 w8 h9) [0, 1, 2, 10, 11, 12] (by decide) rfl kw765 kw767 kw16 kw67 kw768 kdVX11_changeByDraws ⟨rfl, rfl⟩ (by rw [hR]; exact ⟨Nat.le_of_ble_eq_true rfl, Nat.le_of_ble_eq_true rfl⟩) ⟨Nat.zero_le _, Nat.zero_le _⟩ 0 10 rfl rfl rfl rfl (Nat.le_of_ble_eq_true rfl) dX11_drift_22) hat hP hD hS [0, 1, 2, 10, 11, 12] rfl [3, 4, 5, 6, 7, 8, 9] rfl rfl rfl rfl rfl (by decide) (fun H locs hP hD hS => ?_)
        obtain ⟨t10, et10⟩ : ∃ z : Int32, z = (x2 + (1 : Int32)) := ⟨_, rfl⟩
        have hf := kl_e hf t10 et10
        refine lv_iinc (v := t10) (lv' := [(2, .int t10), (0, .ref q), (1, .int x1)]) hx hb dX11_drift_25 hl (k := 2) rfl (by rw [et10]; rfl) (by decide) rfl (fun ls hl => ?_)
        refine lv_goto (tgt := 16) hx hb dX11_drift_28 (by decide) ?_
        exact ih t10 w4 w5 w6 w7 w8 o0 o1 o2 o3 o4 hf hk0 _ _ _ hP hD hS (lv_sub hl [1, 2, 0] rfl)
  unfold f_X11_drift at hf
  refine lv_iload_n hx hb dX11_drift_0 rfl (lv_at hl 1 rfl) ?_
  refine lv_iconst (v := 1) hx hb dX11_drift_1 (by decide) ?_
  refine lv_icmp_lt (tgt := 11) hx hb dX11_drift_2 (by decide) (fun c1 => ?_) (fun c1 => ?_)
  · have hf := kp_e hf c1
    refine lv_ldc hx hb hown (hts _ kw575) dX11_drift_11 ?_
    obtain ⟨rfl, rfl, rfl, rfl, rfl, rfl, rfl, rfl, rfl, rfl, rfl, rfl⟩ := ki12 hf
    rw [hQ]
    exact k_iret hat hP hS rfl dX11_drift_13
  · have hf := kn_e hf c1
    refine lv_iload_n hx hb dX11_drift_5 rfl (lv_at hl 1 rfl) ?_
    refine lv_bipush (v := 12) hx hb dX11_drift_6 (by decide) ?_
    refine lv_icmp_le (tgt := 14) hx hb dX11_drift_8 (by decide) (fun c2 => ?_) (fun c2 => ?_)
    · have hf := kp_e hf c2
      refine lv_iconst (v := 0) hx hb dX11_drift_14 (by decide) ?_
      refine lv_istore_n (lv' := [(2, .int (0 : Int32)), (0, .ref q), (1, .int x1)]) hx hb dX11_drift_15 rfl hl (by decide) rfl (fun ls hl => ?_)
      obtain ⟨w11, w12, w13, w14, w15, hu, hf⟩ := kb5_e hf
      refine hL16 x1 v_now_n v_now_primeNumber v_clearing_n v_clearing_rank v_clearing_exchanges v_clearing_width v_clearing_scale v_clearing_rows v_clearing_leads F (0 : Int32) v_now_numbers v_history_count v_history_next v_history_store v_draws_state w11 w12 w13 w14 w15 hu (fun H locs ls hP hD hS hl => ?_) _ _ _ hP hD hS (lv_sub hl [1, 2, 0] rfl)
      refine lv_aload_n hx hb dX11_drift_31 rfl (lv_at hl 0 rfl) ?_
      obtain ⟨r16, w17, w18, w19, w20, w21, w22, h23, hf⟩ := kb7_e hf
      refine k_gi (nW := 13) (ws' := [(q, .inr (10, [.ref q_now, .ref q_clearing, .ref q_residues, .ref q_lifting, .ref q_guessed, .ref q_walk, .ref q_history, .ref q_book, .ref q_draws, .ref q_firstImage, .ref q_secondImage])), (q_now, .inr (3, [.int v_now_n, .int v_now_primeNumber, .ref q_now_numbers])), (q_now_numbers, .inl (cI, 20, .inl w11)), (q_clearing, .inr (1, [.int w17, .int w18, .int w19, .ref q_clearing_rows, .int v_clearing_width, .long w20, .ref q_clearing_leads])), (q_clearing_rows, .inl (cQ, 4, .inr (.inr (.inr (.inr (kg q_clearing_rows_r)))))), (q_clearing_rows_r 0, .inl (cJ, 5, .inr (.inl (w21 0)))), (q_clearing_rows_r 1, .inl (cJ, 5, .inr (.inl (w21 1)))), (q_clearing_rows_r 2, .inl (cJ, 5, .inr (.inl (w21 2)))), (q_clearing_rows_r 3, .inl (cJ, 5, .inr (.inl (w21 3)))), (q_clearing_leads, .inl (cI, 4, .inl w22)), (q_history, .inr (5, [.int w12, .int w13, .ref q_history_store])), (q_history_store, .inl (cI, 352, .inl w14)), (q_draws, .inr (2, [.long w15]))]) (wr := [(q_history, .inr (5, [.int w12, .int w13, .ref q_history_store])), (q_history_store, .inl (cI, 352, .inl w14)), (q_draws, .inr (2, [.long w15]))]) (k_runV (rest := []) hat hP hD hS hl.1 (c_X11_rank q q_now q_clearing q_residues q_lifting q_guessed q_walk q_history q_book q_draws q_firstImage q_secondImage q_now_numbers q_clearing_rows q_clearing_leads q_clearing_rows_r v_now_n v_now_primeNumber w11 v_clearing_n v_clearing_rank v_clearing_exchanges v_clearing_width v_clearing_scale v_clearing_rows v_clearing_leads F r16 w17 w18 w19 w20 w21 w22 h23) [0, 1, 2, 3, 4, 5, 6, 7, 8, 9] (by decide) rfl kw753 kw755 kw15 kw67 kw756 kdVX11_rank ⟨rfl, rfl⟩ (by rw [hR]; exact ⟨Nat.le_of_ble_eq_true rfl, Nat.le_of_ble_eq_true rfl⟩) ⟨Nat.zero_le _, Nat.zero_le _⟩ 0 10 rfl rfl rfl rfl (Nat.le_of_ble_eq_true rfl) dX11_drift_32) hat hP hD hS [0, 1, 2, 3, 4, 5, 6, 7, 8, 9] rfl [10, 11, 12] rfl rfl rfl rfl rfl (by decide) (fun H locs hP hD hS => ?_)
      obtain ⟨rfl, rfl, rfl, rfl, rfl, rfl, rfl, rfl, rfl, rfl, rfl, rfl⟩ := ki12 hf
      rw [hQ]
      exact k_iret hat hP hS rfl dX11_drift_35
    · have hf := kn_e hf c2
      refine lv_ldc hx hb hown (hts _ kw575) dX11_drift_11 ?_
      obtain ⟨rfl, rfl, rfl, rfl, rfl, rfl, rfl, rfl, rfl, rfl, rfl, rfl⟩ := ki12 hf
      rw [hQ]
      exact k_iret hat hP hS rfl dX11_drift_13
set_option maxHeartbeats 4000000 in
set_option maxRecDepth 100000 in
theorem c_J9_floorMod_7cf53 {l : Launch} {D : va_G} {cI cJ cQ : ClassId} {tp : Nat} (x0 : Int32) (x1 : Int32) (r0 : Int32) (hf : f_J9_floorMod_7cf53 x0 x1 = some r0) : kM (fun A => kQi D A [] r0) (some .int) l yJ9_floorMod_7cf53 cJ9_floorMod_7cf53 3 { frames := 0, cells := 0, slots := 0, locals := 0 } D cI cJ cQ tp [.int x0, .int x1] [] := by
  refine kM_of (by decide +kernel) (Nat.le_of_ble_eq_true rfl) ?_
  intro p e s m args below meth c A ls R Q hR hQ hat hP hD hS hl
  obtain ⟨hx, hb, hr, hml, hown, hts, hT, hlk, hK, hA, hZ⟩ := id hat
  have hown : s.vm.findClass RJ9 = some m.cls := hown
  have hl : lv_has ls 3 [(0, .int x0), (1, .int x1)] := hl
  unfold f_J9_floorMod_7cf53 at hf
  refine lv_iload_n hx hb dJ9_floorMod_7cf53_0 rfl (lv_at hl 0 rfl) ?_
  refine lv_iload_n hx hb dJ9_floorMod_7cf53_1 rfl (lv_at hl 1 rfl) ?_
  obtain ⟨c1, hf⟩ := kc_e hf
  refine lv_irem hx hb dJ9_floorMod_7cf53_2 c1 ?_
  refine lv_topi (fun t2 et2 => ?_)
  have hf := kl_e hf t2 et2
  refine lv_istore_n (lv' := [(2, .int t2), (0, .int x0), (1, .int x1)]) hx hb dJ9_floorMod_7cf53_3 rfl hl (by decide) rfl (fun ls hl => ?_)
  refine lv_iload_n hx hb dJ9_floorMod_7cf53_4 rfl (lv_at hl 1 rfl) ?_
  refine lv_iload_n hx hb dJ9_floorMod_7cf53_5 rfl (lv_at hl 2 rfl) ?_
  refine lv_ixor hx hb dJ9_floorMod_7cf53_6 ?_
  refine lv_if_ge (tgt := 18) hx hb dJ9_floorMod_7cf53_7 (by decide) (fun c3 => ?_) (fun c3 => ?_)
  · have hf := kp_e hf c3
    refine lv_iload_n hx hb dJ9_floorMod_7cf53_18 rfl (lv_at hl 0 rfl) ?_
    obtain rfl := ki1 hf
    rw [hQ]
    exact k_iret hat hP hS rfl dJ9_floorMod_7cf53_19
  · have hf := kn_e hf c3
    refine lv_iload_n hx hb dJ9_floorMod_7cf53_10 rfl (lv_at hl 0 rfl) ?_
    refine lv_if_eq (tgt := 18) hx hb dJ9_floorMod_7cf53_11 (by decide) (fun c4 => ?_) (fun c4 => ?_)
    · have hf := kp_e hf c4
      refine lv_iload_n hx hb dJ9_floorMod_7cf53_18 rfl (lv_at hl 0 rfl) ?_
      obtain rfl := ki1 hf
      rw [hQ]
      exact k_iret hat hP hS rfl dJ9_floorMod_7cf53_19
    · have hf := kn_e hf c4
      refine lv_iload_n hx hb dJ9_floorMod_7cf53_14 rfl (lv_at hl 0 rfl) ?_
      refine lv_iload_n hx hb dJ9_floorMod_7cf53_15 rfl (lv_at hl 2 rfl) ?_
      refine lv_iadd hx hb dJ9_floorMod_7cf53_16 ?_
      obtain rfl := ki1 hf
      rw [hQ]
      exact k_iret hat hP hS rfl dJ9_floorMod_7cf53_17
set_option maxHeartbeats 4000000 in
set_option maxRecDepth 100000 in
theorem c_X3_readFrom {l : Launch} {D : va_G} {cI cJ cQ : ClassId} {tp : Nat} (q : Nat) (qa1 : Nat) (q_numbers : Nat) (na1 : Nat) (v_n : Int32) (v_primeNumber : Int32) (v_numbers : (Nat → Int32)) (va1 : (Nat → Int32)) (x2 : Int32) (o_v_n : Int32) (o_v_primeNumber : Int32) (o_v_numbers : (Nat → Int32)) (hf : f_X3_readFrom na1 v_n v_primeNumber v_numbers va1 x2 = some (o_v_n, o_v_primeNumber, o_v_numbers)) : kM (fun A => kQv D A [(q, .inr (3, [.int o_v_n, .int o_v_primeNumber, .ref q_numbers])), (q_numbers, .inl (cI, 20, .inl o_v_numbers)), (qa1, .inl (cI, na1, .inl va1))]) none l yX3_readFrom cX3_readFrom 3 { frames := 1, cells := 0, slots := 0, locals := 40 } D cI cJ cQ tp [.ref q, .ref qa1, .int x2] [(q, .inr (3, [.int v_n, .int v_primeNumber, .ref q_numbers])), (q_numbers, .inl (cI, 20, .inl v_numbers)), (qa1, .inl (cI, na1, .inl va1))] := by
  refine kM_of (by decide +kernel) (Nat.le_of_ble_eq_true rfl) ?_
  intro p e s m args below meth c A ls R Q hR hQ hat hP hD hS hl
  obtain ⟨hx, hb, hr, hml, hown, hts, hT, hlk, hK, hA, hZ⟩ := id hat
  have hown : s.vm.findClass RX3 = some m.cls := hown
  have hl : lv_has ls 3 [(0, .ref q), (1, .ref qa1), (2, .int x2)] := hl
  unfold f_X3_readFrom at hf
  refine lv_aload_n hx hb dX3_readFrom_0 rfl (lv_at hl 0 rfl) ?_
  refine lv_aload_n hx hb dX3_readFrom_1 rfl (lv_at hl 1 rfl) ?_
  refine lv_iload_n hx hb dX3_readFrom_2 rfl (lv_at hl 2 rfl) ?_
  obtain ⟨c1, hf⟩ := kc_e hf
  refine va_iald hx hb hK hP 2 0 rfl rfl (kin_e c1) dX3_readFrom_3 ?_
  refine lv_topi (fun t2 et2 => ?_)
  have hf := kl_e hf t2 et2
  refine va_put (D := D) (ci := 3) (v := .int t2) (ty := .int) (C := RX3) (T := TX3) (N := 3) hx hb hts kinX3 tyX3 tyX3_ok nmX3 hown hK hP hD hS 0 rfl rfl 0 (by decide) (hts _ kw104) (fun _ h9 => h9) rfl (by decide +kernel) rfl rfl (Nat.le_of_ble_eq_true rfl) dX3_readFrom_4 (fun H locs hP hD hS => ?_)
  have hP : va_P D vwCl [(q, .inr (3, [.int t2, .int v_primeNumber, .ref q_numbers])), (q_numbers, .inl (cI, 20, .inl v_numbers)), (qa1, .inl (cI, na1, .inl va1))] H := hP
  have hD : va_D A [(q, .inr (3, [.int t2, .int v_primeNumber, .ref q_numbers])), (q_numbers, .inl (cI, 20, .inl v_numbers)), (qa1, .inl (cI, na1, .inl va1))] := hD
  refine lv_aload_n hx hb dX3_readFrom_7 rfl (lv_at hl 0 rfl) ?_
  refine lv_aload_n hx hb dX3_readFrom_8 rfl (lv_at hl 1 rfl) ?_
  refine lv_iload_n hx hb dX3_readFrom_9 rfl (lv_at hl 2 rfl) ?_
  refine lv_iconst (v := 1) hx hb dX3_readFrom_10 (by decide) ?_
  refine lv_iadd hx hb dX3_readFrom_11 ?_
  obtain ⟨c3, hf⟩ := kc_e hf
  refine va_iald hx hb hK hP 2 0 rfl rfl (kin_e c3) dX3_readFrom_12 ?_
  refine lv_topi (fun t4 et4 => ?_)
  have hf := kl_e hf t4 et4
  refine va_put (D := D) (ci := 3) (v := .int t4) (ty := .int) (C := RX3) (T := TX3) (N := 3) hx hb hts kinX3 tyX3 tyX3_ok nmX3 hown hK hP hD hS 0 rfl rfl 1 (by decide) (hts _ kw110) (fun _ h9 => h9) rfl (by decide +kernel) rfl rfl (Nat.le_of_ble_eq_true rfl) dX3_readFrom_13 (fun H locs hP hD hS => ?_)
  have hP : va_P D vwCl [(q, .inr (3, [.int t2, .int t4, .ref q_numbers])), (q_numbers, .inl (cI, 20, .inl v_numbers)), (qa1, .inl (cI, na1, .inl va1))] H := hP
  have hD : va_D A [(q, .inr (3, [.int t2, .int t4, .ref q_numbers])), (q_numbers, .inl (cI, 20, .inl v_numbers)), (qa1, .inl (cI, na1, .inl va1))] := hD
  refine lv_aload_n hx hb dX3_readFrom_16 rfl (lv_at hl 1 rfl) ?_
  refine lv_iload_n hx hb dX3_readFrom_17 rfl (lv_at hl 2 rfl) ?_
  refine lv_iconst (v := 2) hx hb dX3_readFrom_18 (by decide) ?_
  refine lv_iadd hx hb dX3_readFrom_19 ?_
  refine lv_aload_n hx hb dX3_readFrom_20 rfl (lv_at hl 0 rfl) ?_
  refine va_get (D := D) (ci := 3) (v := .ref q_numbers) (C := RX3) (T := TX3) (N := 3) hx hb hts kinX3 hown hK hP 0 rfl rfl 2 (by decide) (hts _ kw112) (fun _ h9 => h9) rfl dX3_readFrom_21 ?_
  refine lv_iconst (v := 0) hx hb dX3_readFrom_24 (by decide) ?_
  refine lv_aload_n hx hb dX3_readFrom_25 rfl (lv_at hl 0 rfl) ?_
  refine va_get (D := D) (ci := 3) (v := .ref q_numbers) (C := RX3) (T := TX3) (N := 3) hx hb hts kinX3 hown hK hP 0 rfl rfl 2 (by decide) (hts _ kw112) (fun _ h9 => h9) rfl dX3_readFrom_26 ?_
  refine va_alen hx hb hK hP 1 0 rfl rfl (v := 20) rfl dX3_readFrom_29 ?_
  obtain ⟨c5, hf⟩ := kc_e hf
  refine va_copyi hx hb (hml.trans hl.1.symm) hown (hts _ kw697) (hts _ kw699) (hts _ kw698) (hts _ kw81) hK hP hD hS 2 1 0 0 rfl rfl rfl rfl rfl c5.1 c5.2.1 c5.2.2.1 c5.2.2.2.1 c5.2.2.2.2 (fun _ _ => rfl) (by rw [hR]; exact Nat.le_of_ble_eq_true rfl) (by rw [hR]; exact Nat.le_of_ble_eq_true rfl) dX3_readFrom_30 (fun H locs hP hD hS => ?_)
  generalize ew6 : (va_cpy va1 v_numbers (x2 + (2 : Int32)).toNatClampNeg (0 : Int32).toNatClampNeg (20 : Int32).toNatClampNeg) = w6 at hP hD
  have hf := kl_e hf w6 ew6.symm
  have hP : va_P D vwCl [(q, .inr (3, [.int t2, .int t4, .ref q_numbers])), (q_numbers, .inl (cI, 20, .inl w6)), (qa1, .inl (cI, na1, .inl va1))] H := hP
  have hD : va_D A [(q, .inr (3, [.int t2, .int t4, .ref q_numbers])), (q_numbers, .inl (cI, 20, .inl w6)), (qa1, .inl (cI, na1, .inl va1))] := hD
  obtain ⟨rfl, rfl, rfl⟩ := ki3 hf
  rw [hQ]
  exact k_vret hat hP hS dX3_readFrom_33
set_option maxHeartbeats 4000000 in
set_option maxRecDepth 100000 in
theorem c_X5_bringBack {l : Launch} {D : va_G} {cI cJ cQ : ClassId} {tp : Nat} (q : Nat) (qa1 : Nat) (q_store : Nat) (qa1_numbers : Nat) (v_count : Int32) (v_next : Int32) (v_store : (Nat → Int32)) (va1_n : Int32) (va1_primeNumber : Int32) (va1_numbers : (Nat → Int32)) (x2 : Int32) (o_v_count : Int32) (o_v_next : Int32) (o_va1_n : Int32) (o_va1_primeNumber : Int32) (o_va1_numbers : (Nat → Int32)) (hf : f_X5_bringBack v_count v_next v_store va1_n va1_primeNumber va1_numbers x2 = some (o_v_count, o_v_next, o_va1_n, o_va1_primeNumber, o_va1_numbers)) : kM (fun A => kQv D A [(q, .inr (5, [.int o_v_count, .int o_v_next, .ref q_store])), (q_store, .inl (cI, 352, .inl v_store)), (qa1, .inr (3, [.int o_va1_n, .int o_va1_primeNumber, .ref qa1_numbers])), (qa1_numbers, .inl (cI, 20, .inl o_va1_numbers))]) none l yX5_bringBack cX5_bringBack 3 { frames := 2, cells := 0, slots := 0, locals := 62 } D cI cJ cQ tp [.ref q, .ref qa1, .int x2] [(q, .inr (5, [.int v_count, .int v_next, .ref q_store])), (q_store, .inl (cI, 352, .inl v_store)), (qa1, .inr (3, [.int va1_n, .int va1_primeNumber, .ref qa1_numbers])), (qa1_numbers, .inl (cI, 20, .inl va1_numbers))] := by
  refine kM_of (by decide +kernel) (Nat.le_of_ble_eq_true rfl) ?_
  intro p e s m args below meth c A ls R Q hR hQ hat hP hD hS hl
  obtain ⟨hx, hb, hr, hml, hown, hts, hT, hlk, hK, hA, hZ⟩ := id hat
  have hown : s.vm.findClass RX5 = some m.cls := hown
  have hl : lv_has ls 3 [(0, .ref q), (1, .ref qa1), (2, .int x2)] := hl
  unfold f_X5_bringBack at hf
  refine lv_aload_n hx hb dX5_bringBack_0 rfl (lv_at hl 0 rfl) ?_
  refine lv_aload_n hx hb dX5_bringBack_1 rfl (lv_at hl 0 rfl) ?_
  refine va_get (D := D) (ci := 5) (v := .int v_next) (C := RX5) (T := TX5) (N := 3) hx hb hts kinX5 hown hK hP 0 rfl rfl 1 (by decide) (hts _ kw269) (fun _ h9 => h9) rfl dX5_bringBack_2 ?_
  refine lv_iload_n hx hb dX5_bringBack_5 rfl (lv_at hl 2 rfl) ?_
  refine lv_isub hx hb dX5_bringBack_6 ?_
  refine lv_bipush (v := 16) hx hb dX5_bringBack_7 (by decide) ?_
  obtain ⟨r1, h2, hf⟩ := kb1_e hf
  refine k_gi (nW := 4) (ws' := [(q, .inr (5, [.int v_count, .int v_next, .ref q_store])), (q_store, .inl (cI, 352, .inl v_store)), (qa1, .inr (3, [.int va1_n, .int va1_primeNumber, .ref qa1_numbers])), (qa1_numbers, .inl (cI, 20, .inl va1_numbers))]) (wr := [(q, .inr (5, [.int v_count, .int v_next, .ref q_store])), (q_store, .inl (cI, 352, .inl v_store)), (qa1, .inr (3, [.int va1_n, .int va1_primeNumber, .ref qa1_numbers])), (qa1_numbers, .inl (cI, 20, .inl va1_numbers))]) (k_runS (rest := [.ref q]) hat hP hD hS hl.1 (c_J9_floorMod_7cf53 (v_next - x2) (16 : Int32) r1 h2) [] (by decide) rfl kw786 kw787 kw80 kw788 kdJ9_floorMod_7cf53 ⟨rfl, rfl⟩ (by rw [hR]; exact ⟨Nat.le_of_ble_eq_true rfl, Nat.le_of_ble_eq_true rfl⟩) ⟨Nat.zero_le _, Nat.zero_le _⟩ rfl rfl (Nat.le_of_ble_eq_true rfl) dX5_bringBack_9) hat hP hD hS [] rfl [0, 1, 2, 3] rfl rfl rfl rfl rfl (by decide) (fun H locs hP hD hS => ?_)
  refine va_put (D := D) (ci := 5) (v := .int r1) (ty := .int) (C := RX5) (T := TX5) (N := 3) hx hb hts kinX5 tyX5 tyX5_ok nmX5 hown hK hP hD hS 0 rfl rfl 1 (by decide) (hts _ kw269) (fun _ h9 => h9) rfl (by decide +kernel) rfl rfl (Nat.le_of_ble_eq_true rfl) dX5_bringBack_12 (fun H locs hP hD hS => ?_)
  have hP : va_P D vwCl [(q, .inr (5, [.int v_count, .int r1, .ref q_store])), (q_store, .inl (cI, 352, .inl v_store)), (qa1, .inr (3, [.int va1_n, .int va1_primeNumber, .ref qa1_numbers])), (qa1_numbers, .inl (cI, 20, .inl va1_numbers))] H := hP
  have hD : va_D A [(q, .inr (5, [.int v_count, .int r1, .ref q_store])), (q_store, .inl (cI, 352, .inl v_store)), (qa1, .inr (3, [.int va1_n, .int va1_primeNumber, .ref qa1_numbers])), (qa1_numbers, .inl (cI, 20, .inl va1_numbers))] := hD
  refine lv_aload_n hx hb dX5_bringBack_15 rfl (lv_at hl 0 rfl) ?_
  refine lv_dup hx hb dX5_bringBack_16 rfl ?_
  refine va_get (D := D) (ci := 5) (v := .int v_count) (C := RX5) (T := TX5) (N := 3) hx hb hts kinX5 hown hK hP 0 rfl rfl 0 (by decide) (hts _ kw267) (fun _ h9 => h9) rfl dX5_bringBack_17 ?_
  refine lv_iload_n hx hb dX5_bringBack_20 rfl (lv_at hl 2 rfl) ?_
  refine lv_isub hx hb dX5_bringBack_21 ?_
  refine lv_topi (fun t3 et3 => ?_)
  have hf := kl_e hf t3 et3
  refine va_put (D := D) (ci := 5) (v := .int t3) (ty := .int) (C := RX5) (T := TX5) (N := 3) hx hb hts kinX5 tyX5 tyX5_ok nmX5 hown hK hP hD hS 0 rfl rfl 0 (by decide) (hts _ kw267) (fun _ h9 => h9) rfl (by decide +kernel) rfl rfl (Nat.le_of_ble_eq_true rfl) dX5_bringBack_22 (fun H locs hP hD hS => ?_)
  have hP : va_P D vwCl [(q, .inr (5, [.int t3, .int r1, .ref q_store])), (q_store, .inl (cI, 352, .inl v_store)), (qa1, .inr (3, [.int va1_n, .int va1_primeNumber, .ref qa1_numbers])), (qa1_numbers, .inl (cI, 20, .inl va1_numbers))] H := hP
  have hD : va_D A [(q, .inr (5, [.int t3, .int r1, .ref q_store])), (q_store, .inl (cI, 352, .inl v_store)), (qa1, .inr (3, [.int va1_n, .int va1_primeNumber, .ref qa1_numbers])), (qa1_numbers, .inl (cI, 20, .inl va1_numbers))] := hD
  refine lv_aload_n hx hb dX5_bringBack_25 rfl (lv_at hl 1 rfl) ?_
  refine lv_aload_n hx hb dX5_bringBack_26 rfl (lv_at hl 0 rfl) ?_
  refine va_get (D := D) (ci := 5) (v := .ref q_store) (C := RX5) (T := TX5) (N := 3) hx hb hts kinX5 hown hK hP 0 rfl rfl 2 (by decide) (hts _ kw270) (fun _ h9 => h9) rfl dX5_bringBack_27 ?_
  refine lv_aload_n hx hb dX5_bringBack_30 rfl (lv_at hl 0 rfl) ?_
  refine va_get (D := D) (ci := 5) (v := .int r1) (C := RX5) (T := TX5) (N := 3) hx hb hts kinX5 hown hK hP 0 rfl rfl 1 (by decide) (hts _ kw269) (fun _ h9 => h9) rfl dX5_bringBack_31 ?_
  refine lv_bipush (v := 22) hx hb dX5_bringBack_34 (by decide) ?_
  refine lv_imul hx hb dX5_bringBack_36 ?_
  obtain ⟨w4, w5, w6, h7, hf⟩ := kb3_e hf
  refine k_gv (nW := 4) (ws' := [(q, .inr (5, [.int t3, .int r1, .ref q_store])), (q_store, .inl (cI, 352, .inl v_store)), (qa1, .inr (3, [.int w4, .int w5, .ref qa1_numbers])), (qa1_numbers, .inl (cI, 20, .inl w6))]) (wr := [(q, .inr (5, [.int t3, .int r1, .ref q_store]))]) (k_runV (rest := []) hat hP hD hS hl.1 (c_X3_readFrom qa1 q_store qa1_numbers 352 va1_n va1_primeNumber va1_numbers v_store (r1 * (22 : Int32)) w4 w5 w6 h7) [2, 3, 1] (by decide) rfl kw789 kw790 kw791 kw68 kw792 kdVX3_readFrom ⟨rfl, rfl⟩ (by rw [hR]; exact ⟨Nat.le_of_ble_eq_true rfl, Nat.le_of_ble_eq_true rfl⟩) ⟨Nat.zero_le _, Nat.zero_le _⟩ 2 3 rfl rfl rfl rfl (Nat.le_of_ble_eq_true rfl) dX5_bringBack_37) hat hP hD hS [2, 3, 1] rfl [0] rfl rfl rfl rfl rfl (by decide) (fun H locs hP hD hS => ?_)
  obtain ⟨rfl, rfl, rfl, rfl, rfl⟩ := ki5 hf
  rw [hQ]
  exact k_vret hat hP hS dX5_bringBack_40
set_option maxHeartbeats 4000000 in
set_option maxRecDepth 100000 in
theorem c_X11_undo {l : Launch} {D : va_G} {cI cJ cQ : ClassId} {tp : Nat} (q : Nat) (q_now : Nat) (q_clearing : Nat) (q_residues : Nat) (q_lifting : Nat) (q_guessed : Nat) (q_walk : Nat) (q_history : Nat) (q_book : Nat) (q_draws : Nat) (q_firstImage : Nat) (q_secondImage : Nat) (q_now_numbers : Nat) (q_history_store : Nat) (v_now_n : Int32) (v_now_primeNumber : Int32) (v_now_numbers : (Nat → Int32)) (v_history_count : Int32) (v_history_next : Int32) (v_history_store : (Nat → Int32)) (x1 : Int32) (r0 : Int32) (o_v_now_n : Int32) (o_v_now_primeNumber : Int32) (o_v_now_numbers : (Nat → Int32)) (o_v_history_count : Int32) (o_v_history_next : Int32) (hf : f_X11_undo v_now_n v_now_primeNumber v_now_numbers v_history_count v_history_next v_history_store x1 = some (r0, o_v_now_n, o_v_now_primeNumber, o_v_now_numbers, o_v_history_count, o_v_history_next)) : kM (fun A => kQi D A [(q, .inr (10, [.ref q_now, .ref q_clearing, .ref q_residues, .ref q_lifting, .ref q_guessed, .ref q_walk, .ref q_history, .ref q_book, .ref q_draws, .ref q_firstImage, .ref q_secondImage])), (q_now, .inr (3, [.int o_v_now_n, .int o_v_now_primeNumber, .ref q_now_numbers])), (q_now_numbers, .inl (cI, 20, .inl o_v_now_numbers)), (q_history, .inr (5, [.int o_v_history_count, .int o_v_history_next, .ref q_history_store])), (q_history_store, .inl (cI, 352, .inl v_history_store))] r0) (some .int) l yX11_undo cX11_undo 2 { frames := 3, cells := 0, slots := 0, locals := 84 } D cI cJ cQ tp [.ref q, .int x1] [(q, .inr (10, [.ref q_now, .ref q_clearing, .ref q_residues, .ref q_lifting, .ref q_guessed, .ref q_walk, .ref q_history, .ref q_book, .ref q_draws, .ref q_firstImage, .ref q_secondImage])), (q_now, .inr (3, [.int v_now_n, .int v_now_primeNumber, .ref q_now_numbers])), (q_now_numbers, .inl (cI, 20, .inl v_now_numbers)), (q_history, .inr (5, [.int v_history_count, .int v_history_next, .ref q_history_store])), (q_history_store, .inl (cI, 352, .inl v_history_store))] := by
  refine kM_of (by decide +kernel) (Nat.le_of_ble_eq_true rfl) ?_
  intro p e s m args below meth c A ls R Q hR hQ hat hP hD hS hl
  obtain ⟨hx, hb, hr, hml, hown, hts, hT, hlk, hK, hA, hZ⟩ := id hat
  have hown : s.vm.findClass RX11 = some m.cls := hown
  have hl : lv_has ls 2 [(0, .ref q), (1, .int x1)] := hl
  unfold f_X11_undo at hf
  refine lv_iload_n hx hb dX11_undo_0 rfl (lv_at hl 1 rfl) ?_
  refine lv_iconst (v := 1) hx hb dX11_undo_1 (by decide) ?_
  refine lv_icmp_lt (tgt := 11) hx hb dX11_undo_2 (by decide) (fun c1 => ?_) (fun c1 => ?_)
  · have hf := kp_e hf c1
    refine lv_ldc hx hb hown (hts _ kw575) dX11_undo_11 ?_
    obtain ⟨rfl, rfl, rfl, rfl, rfl, rfl⟩ := ki6 hf
    rw [hQ]
    exact k_iret hat hP hS rfl dX11_undo_13
  · have hf := kn_e hf c1
    refine lv_iload_n hx hb dX11_undo_5 rfl (lv_at hl 1 rfl) ?_
    refine lv_bipush (v := 16) hx hb dX11_undo_6 (by decide) ?_
    refine lv_icmp_le (tgt := 14) hx hb dX11_undo_8 (by decide) (fun c2 => ?_) (fun c2 => ?_)
    · have hf := kp_e hf c2
      refine lv_iload_n hx hb dX11_undo_14 rfl (lv_at hl 1 rfl) ?_
      refine lv_aload_n hx hb dX11_undo_15 rfl (lv_at hl 0 rfl) ?_
      refine va_get (D := D) (ci := 10) (v := .ref q_history) (C := RX11) (T := TX11) (N := 11) hx hb hts kinX11 hown hK hP 0 rfl rfl 6 (by decide) (hts _ kw333) (fun _ h9 => h9) rfl dX11_undo_16 ?_
      refine va_get (D := D) (ci := 5) (v := .int v_history_count) (C := RX5) (T := TX5) (N := 3) hx hb hts kinX5 hown hK hP 3 rfl rfl 0 (by decide) (hts _ kw268) (fun _ h9 => h9) rfl dX11_undo_19 ?_
      refine lv_icmp_le (tgt := 28) hx hb dX11_undo_22 (by decide) (fun c3 => ?_) (fun c3 => ?_)
      · have hf := kp_e hf c3
        refine lv_aload_n hx hb dX11_undo_28 rfl (lv_at hl 0 rfl) ?_
        refine va_get (D := D) (ci := 10) (v := .ref q_history) (C := RX11) (T := TX11) (N := 11) hx hb hts kinX11 hown hK hP 0 rfl rfl 6 (by decide) (hts _ kw333) (fun _ h9 => h9) rfl dX11_undo_29 ?_
        refine lv_aload_n hx hb dX11_undo_32 rfl (lv_at hl 0 rfl) ?_
        refine va_get (D := D) (ci := 10) (v := .ref q_now) (C := RX11) (T := TX11) (N := 11) hx hb hts kinX11 hown hK hP 0 rfl rfl 0 (by decide) (hts _ kw327) (fun _ h9 => h9) rfl dX11_undo_33 ?_
        refine lv_iload_n hx hb dX11_undo_36 rfl (lv_at hl 1 rfl) ?_
        obtain ⟨w4, w5, w6, w7, w8, h9, hf⟩ := kb5_e hf
        refine k_gv (nW := 5) (ws' := [(q, .inr (10, [.ref q_now, .ref q_clearing, .ref q_residues, .ref q_lifting, .ref q_guessed, .ref q_walk, .ref q_history, .ref q_book, .ref q_draws, .ref q_firstImage, .ref q_secondImage])), (q_now, .inr (3, [.int w6, .int w7, .ref q_now_numbers])), (q_now_numbers, .inl (cI, 20, .inl w8)), (q_history, .inr (5, [.int w4, .int w5, .ref q_history_store])), (q_history_store, .inl (cI, 352, .inl v_history_store))]) (wr := [(q, .inr (10, [.ref q_now, .ref q_clearing, .ref q_residues, .ref q_lifting, .ref q_guessed, .ref q_walk, .ref q_history, .ref q_book, .ref q_draws, .ref q_firstImage, .ref q_secondImage]))]) (k_runV (rest := []) hat hP hD hS hl.1 (c_X5_bringBack q_history q_now q_history_store q_now_numbers v_history_count v_history_next v_history_store v_now_n v_now_primeNumber v_now_numbers x1 w4 w5 w6 w7 w8 h9) [3, 4, 1, 2] (by decide) rfl kw782 kw783 kw784 kw75 kw785 kdVX5_bringBack ⟨rfl, rfl⟩ (by rw [hR]; exact ⟨Nat.le_of_ble_eq_true rfl, Nat.le_of_ble_eq_true rfl⟩) ⟨Nat.zero_le _, Nat.zero_le _⟩ 3 5 rfl rfl rfl rfl (Nat.le_of_ble_eq_true rfl) dX11_undo_37) hat hP hD hS [3, 4, 1, 2] rfl [0] rfl rfl rfl rfl rfl (by decide) (fun H locs hP hD hS => ?_)
        refine lv_aload_n hx hb dX11_undo_40 rfl (lv_at hl 0 rfl) ?_
        refine va_get (D := D) (ci := 10) (v := .ref q_history) (C := RX11) (T := TX11) (N := 11) hx hb hts kinX11 hown hK hP 0 rfl rfl 6 (by decide) (hts _ kw333) (fun _ h9 => h9) rfl dX11_undo_41 ?_
        refine va_get (D := D) (ci := 5) (v := .int w4) (C := RX5) (T := TX5) (N := 3) hx hb hts kinX5 hown hK hP 3 rfl rfl 0 (by decide) (hts _ kw268) (fun _ h9 => h9) rfl dX11_undo_44 ?_
        obtain ⟨rfl, rfl, rfl, rfl, rfl, rfl⟩ := ki6 hf
        rw [hQ]
        exact k_iret hat hP hS rfl dX11_undo_47
      · have hf := kn_e hf c3
        refine lv_ldc hx hb hown (hts _ kw617) dX11_undo_25 ?_
        obtain ⟨rfl, rfl, rfl, rfl, rfl, rfl⟩ := ki6 hf
        rw [hQ]
        exact k_iret hat hP hS rfl dX11_undo_27
    · have hf := kn_e hf c2
      refine lv_ldc hx hb hown (hts _ kw575) dX11_undo_11 ?_
      obtain ⟨rfl, rfl, rfl, rfl, rfl, rfl⟩ := ki6 hf
      rw [hQ]
      exact k_iret hat hP hS rfl dX11_undo_13
set_option maxHeartbeats 4000000 in
set_option maxRecDepth 100000 in
theorem c_X0_append {l : Launch} {D : va_G} {cI cJ cQ : ClassId} {tp : Nat} (q : Nat) (q_unknowns : Nat) (q_places : Nat) (q_values : Nat) (v_count : Int32) (v_unknowns : (Nat → Int32)) (v_places : (Nat → Int32)) (v_values : (Nat → Int32)) (x1 : Int32) (x2 : Int32) (x3 : Int32) (o_v_count : Int32) (o_v_unknowns : (Nat → Int32)) (o_v_places : (Nat → Int32)) (o_v_values : (Nat → Int32)) (hf : f_X0_append v_count v_unknowns v_places v_values x1 x2 x3 = some (o_v_count, o_v_unknowns, o_v_places, o_v_values)) : kM (fun A => kQv D A [(q, .inr (0, [.int o_v_count, .ref q_unknowns, .ref q_places, .ref q_values])), (q_unknowns, .inl (cI, 20, .inl o_v_unknowns)), (q_places, .inl (cI, 20, .inl o_v_places)), (q_values, .inl (cI, 20, .inl o_v_values))]) none l yX0_append cX0_append 4 { frames := 0, cells := 0, slots := 0, locals := 0 } D cI cJ cQ tp [.ref q, .int x1, .int x2, .int x3] [(q, .inr (0, [.int v_count, .ref q_unknowns, .ref q_places, .ref q_values])), (q_unknowns, .inl (cI, 20, .inl v_unknowns)), (q_places, .inl (cI, 20, .inl v_places)), (q_values, .inl (cI, 20, .inl v_values))] := by
  refine kM_of (by decide +kernel) (Nat.le_of_ble_eq_true rfl) ?_
  intro p e s m args below meth c A ls R Q hR hQ hat hP hD hS hl
  obtain ⟨hx, hb, hr, hml, hown, hts, hT, hlk, hK, hA, hZ⟩ := id hat
  have hown : s.vm.findClass RX0 = some m.cls := hown
  have hl : lv_has ls 4 [(0, .ref q), (1, .int x1), (2, .int x2), (3, .int x3)] := hl
  unfold f_X0_append at hf
  refine lv_aload_n hx hb dX0_append_0 rfl (lv_at hl 0 rfl) ?_
  refine va_get (D := D) (ci := 0) (v := .ref q_unknowns) (C := RX0) (T := TX0) (N := 4) hx hb hts kinX0 hown hK hP 0 rfl rfl 1 (by decide) (hts _ kw286) (fun _ h9 => h9) rfl dX0_append_1 ?_
  refine lv_aload_n hx hb dX0_append_4 rfl (lv_at hl 0 rfl) ?_
  refine va_get (D := D) (ci := 0) (v := .int v_count) (C := RX0) (T := TX0) (N := 4) hx hb hts kinX0 hown hK hP 0 rfl rfl 0 (by decide) (hts _ kw284) (fun _ h9 => h9) rfl dX0_append_5 ?_
  refine lv_iload_n hx hb dX0_append_8 rfl (lv_at hl 1 rfl) ?_
  obtain ⟨c1, hf⟩ := kc_e hf
  refine va_iast hx hb hK hP hD hS 1 0 rfl rfl (kin_e c1) dX0_append_9 (fun H locs hP hD hS => ?_)
  generalize ew2 : (upd v_unknowns v_count.toNatClampNeg x1) = w2 at hP hD
  have hf := kl_e hf w2 ew2.symm
  have hP : va_P D vwCl [(q, .inr (0, [.int v_count, .ref q_unknowns, .ref q_places, .ref q_values])), (q_unknowns, .inl (cI, 20, .inl w2)), (q_places, .inl (cI, 20, .inl v_places)), (q_values, .inl (cI, 20, .inl v_values))] H := hP
  have hD : va_D A [(q, .inr (0, [.int v_count, .ref q_unknowns, .ref q_places, .ref q_values])), (q_unknowns, .inl (cI, 20, .inl w2)), (q_places, .inl (cI, 20, .inl v_places)), (q_values, .inl (cI, 20, .inl v_values))] := hD
  refine lv_aload_n hx hb dX0_append_10 rfl (lv_at hl 0 rfl) ?_
  refine va_get (D := D) (ci := 0) (v := .ref q_places) (C := RX0) (T := TX0) (N := 4) hx hb hts kinX0 hown hK hP 0 rfl rfl 2 (by decide) (hts _ kw287) (fun _ h9 => h9) rfl dX0_append_11 ?_
  refine lv_aload_n hx hb dX0_append_14 rfl (lv_at hl 0 rfl) ?_
  refine va_get (D := D) (ci := 0) (v := .int v_count) (C := RX0) (T := TX0) (N := 4) hx hb hts kinX0 hown hK hP 0 rfl rfl 0 (by decide) (hts _ kw284) (fun _ h9 => h9) rfl dX0_append_15 ?_
  refine lv_iload_n hx hb dX0_append_18 rfl (lv_at hl 2 rfl) ?_
  obtain ⟨c3, hf⟩ := kc_e hf
  refine va_iast hx hb hK hP hD hS 2 0 rfl rfl (kin_e c3) dX0_append_19 (fun H locs hP hD hS => ?_)
  generalize ew4 : (upd v_places v_count.toNatClampNeg x2) = w4 at hP hD
  have hf := kl_e hf w4 ew4.symm
  have hP : va_P D vwCl [(q, .inr (0, [.int v_count, .ref q_unknowns, .ref q_places, .ref q_values])), (q_unknowns, .inl (cI, 20, .inl w2)), (q_places, .inl (cI, 20, .inl w4)), (q_values, .inl (cI, 20, .inl v_values))] H := hP
  have hD : va_D A [(q, .inr (0, [.int v_count, .ref q_unknowns, .ref q_places, .ref q_values])), (q_unknowns, .inl (cI, 20, .inl w2)), (q_places, .inl (cI, 20, .inl w4)), (q_values, .inl (cI, 20, .inl v_values))] := hD
  refine lv_aload_n hx hb dX0_append_20 rfl (lv_at hl 0 rfl) ?_
  refine va_get (D := D) (ci := 0) (v := .ref q_values) (C := RX0) (T := TX0) (N := 4) hx hb hts kinX0 hown hK hP 0 rfl rfl 3 (by decide) (hts _ kw288) (fun _ h9 => h9) rfl dX0_append_21 ?_
  refine lv_aload_n hx hb dX0_append_24 rfl (lv_at hl 0 rfl) ?_
  refine va_get (D := D) (ci := 0) (v := .int v_count) (C := RX0) (T := TX0) (N := 4) hx hb hts kinX0 hown hK hP 0 rfl rfl 0 (by decide) (hts _ kw284) (fun _ h9 => h9) rfl dX0_append_25 ?_
  refine lv_iload_n hx hb dX0_append_28 rfl (lv_at hl 3 rfl) ?_
  obtain ⟨c5, hf⟩ := kc_e hf
  refine va_iast hx hb hK hP hD hS 3 0 rfl rfl (kin_e c5) dX0_append_29 (fun H locs hP hD hS => ?_)
  generalize ew6 : (upd v_values v_count.toNatClampNeg x3) = w6 at hP hD
  have hf := kl_e hf w6 ew6.symm
  have hP : va_P D vwCl [(q, .inr (0, [.int v_count, .ref q_unknowns, .ref q_places, .ref q_values])), (q_unknowns, .inl (cI, 20, .inl w2)), (q_places, .inl (cI, 20, .inl w4)), (q_values, .inl (cI, 20, .inl w6))] H := hP
  have hD : va_D A [(q, .inr (0, [.int v_count, .ref q_unknowns, .ref q_places, .ref q_values])), (q_unknowns, .inl (cI, 20, .inl w2)), (q_places, .inl (cI, 20, .inl w4)), (q_values, .inl (cI, 20, .inl w6))] := hD
  refine lv_aload_n hx hb dX0_append_30 rfl (lv_at hl 0 rfl) ?_
  refine lv_dup hx hb dX0_append_31 rfl ?_
  refine va_get (D := D) (ci := 0) (v := .int v_count) (C := RX0) (T := TX0) (N := 4) hx hb hts kinX0 hown hK hP 0 rfl rfl 0 (by decide) (hts _ kw284) (fun _ h9 => h9) rfl dX0_append_32 ?_
  refine lv_iconst (v := 1) hx hb dX0_append_35 (by decide) ?_
  refine lv_iadd hx hb dX0_append_36 ?_
  refine lv_topi (fun t7 et7 => ?_)
  have hf := kl_e hf t7 et7
  refine va_put (D := D) (ci := 0) (v := .int t7) (ty := .int) (C := RX0) (T := TX0) (N := 4) hx hb hts kinX0 tyX0 tyX0_ok nmX0 hown hK hP hD hS 0 rfl rfl 0 (by decide) (hts _ kw284) (fun _ h9 => h9) rfl (by decide +kernel) rfl rfl (Nat.le_of_ble_eq_true rfl) dX0_append_37 (fun H locs hP hD hS => ?_)
  have hP : va_P D vwCl [(q, .inr (0, [.int t7, .ref q_unknowns, .ref q_places, .ref q_values])), (q_unknowns, .inl (cI, 20, .inl w2)), (q_places, .inl (cI, 20, .inl w4)), (q_values, .inl (cI, 20, .inl w6))] H := hP
  have hD : va_D A [(q, .inr (0, [.int t7, .ref q_unknowns, .ref q_places, .ref q_values])), (q_unknowns, .inl (cI, 20, .inl w2)), (q_places, .inl (cI, 20, .inl w4)), (q_values, .inl (cI, 20, .inl w6))] := hD
  obtain ⟨rfl, rfl, rfl, rfl⟩ := ki4 hf
  rw [hQ]
  exact k_vret hat hP hS dX0_append_40
set_option maxHeartbeats 4000000 in
set_option maxRecDepth 100000 in
theorem c_X11_write {l : Launch} {D : va_G} {cI cJ cQ : ClassId} {tp : Nat} (q : Nat) (q_now : Nat) (q_clearing : Nat) (q_residues : Nat) (q_lifting : Nat) (q_guessed : Nat) (q_walk : Nat) (q_history : Nat) (q_book : Nat) (q_draws : Nat) (q_firstImage : Nat) (q_secondImage : Nat) (q_now_numbers : Nat) (q_book_unknowns : Nat) (q_book_places : Nat) (q_book_values : Nat) (v_now_n : Int32) (v_now_primeNumber : Int32) (v_book_count : Int32) (v_book_unknowns : (Nat → Int32)) (v_book_places : (Nat → Int32)) (v_book_values : (Nat → Int32)) (x1 : Int32) (x2 : Int32) (x3 : Int32) (r0 : Int32) (o_v_book_count : Int32) (o_v_book_unknowns : (Nat → Int32)) (o_v_book_places : (Nat → Int32)) (o_v_book_values : (Nat → Int32)) (hf : f_X11_write v_now_n v_book_count v_book_unknowns v_book_places v_book_values x1 x2 x3 = some (r0, o_v_book_count, o_v_book_unknowns, o_v_book_places, o_v_book_values)) : kM (fun A => kQi D A [(q, .inr (10, [.ref q_now, .ref q_clearing, .ref q_residues, .ref q_lifting, .ref q_guessed, .ref q_walk, .ref q_history, .ref q_book, .ref q_draws, .ref q_firstImage, .ref q_secondImage])), (q_now, .inr (3, [.int v_now_n, .int v_now_primeNumber, .ref q_now_numbers])), (q_book, .inr (0, [.int o_v_book_count, .ref q_book_unknowns, .ref q_book_places, .ref q_book_values])), (q_book_unknowns, .inl (cI, 20, .inl o_v_book_unknowns)), (q_book_places, .inl (cI, 20, .inl o_v_book_places)), (q_book_values, .inl (cI, 20, .inl o_v_book_values))] r0) (some .int) l yX11_write cX11_write 4 { frames := 1, cells := 0, slots := 0, locals := 23 } D cI cJ cQ tp [.ref q, .int x1, .int x2, .int x3] [(q, .inr (10, [.ref q_now, .ref q_clearing, .ref q_residues, .ref q_lifting, .ref q_guessed, .ref q_walk, .ref q_history, .ref q_book, .ref q_draws, .ref q_firstImage, .ref q_secondImage])), (q_now, .inr (3, [.int v_now_n, .int v_now_primeNumber, .ref q_now_numbers])), (q_book, .inr (0, [.int v_book_count, .ref q_book_unknowns, .ref q_book_places, .ref q_book_values])), (q_book_unknowns, .inl (cI, 20, .inl v_book_unknowns)), (q_book_places, .inl (cI, 20, .inl v_book_places)), (q_book_values, .inl (cI, 20, .inl v_book_values))] := by
  refine kM_of (by decide +kernel) (Nat.le_of_ble_eq_true rfl) ?_
  intro p e s m args below meth c A ls R Q hR hQ hat hP hD hS hl
  obtain ⟨hx, hb, hr, hml, hown, hts, hT, hlk, hK, hA, hZ⟩ := id hat
  have hown : s.vm.findClass RX11 = some m.cls := hown
  have hl : lv_has ls 4 [(0, .ref q), (1, .int x1), (2, .int x2), (3, .int x3)] := hl
  unfold f_X11_write at hf
  refine lv_aload_n hx hb dX11_write_0 rfl (lv_at hl 0 rfl) ?_
  refine va_get (D := D) (ci := 10) (v := .ref q_now) (C := RX11) (T := TX11) (N := 11) hx hb hts kinX11 hown hK hP 0 rfl rfl 0 (by decide) (hts _ kw327) (fun _ h9 => h9) rfl dX11_write_1 ?_
  refine lv_iload_n hx hb dX11_write_4 rfl (lv_at hl 1 rfl) ?_
  obtain ⟨r1, h2, hf⟩ := kb1_e hf
  refine k_gi (nW := 6) (ws' := [(q, .inr (10, [.ref q_now, .ref q_clearing, .ref q_residues, .ref q_lifting, .ref q_guessed, .ref q_walk, .ref q_history, .ref q_book, .ref q_draws, .ref q_firstImage, .ref q_secondImage])), (q_now, .inr (3, [.int v_now_n, .int v_now_primeNumber, .ref q_now_numbers])), (q_book, .inr (0, [.int v_book_count, .ref q_book_unknowns, .ref q_book_places, .ref q_book_values])), (q_book_unknowns, .inl (cI, 20, .inl v_book_unknowns)), (q_book_places, .inl (cI, 20, .inl v_book_places)), (q_book_values, .inl (cI, 20, .inl v_book_values))]) (wr := [(q, .inr (10, [.ref q_now, .ref q_clearing, .ref q_residues, .ref q_lifting, .ref q_guessed, .ref q_walk, .ref q_history, .ref q_book, .ref q_draws, .ref q_firstImage, .ref q_secondImage])), (q_book, .inr (0, [.int v_book_count, .ref q_book_unknowns, .ref q_book_places, .ref q_book_values])), (q_book_unknowns, .inl (cI, 20, .inl v_book_unknowns)), (q_book_places, .inl (cI, 20, .inl v_book_places)), (q_book_values, .inl (cI, 20, .inl v_book_values))]) (k_runV (rest := []) hat hP hD hS hl.1 (c_X3_has q_now q_now_numbers v_now_n v_now_primeNumber x1 r1 h2) [1] (by decide) rfl kw580 kw581 kw582 kw68 kw583 kdVX3_has ⟨rfl, rfl⟩ (by rw [hR]; exact ⟨Nat.le_of_ble_eq_true rfl, Nat.le_of_ble_eq_true rfl⟩) ⟨Nat.zero_le _, Nat.zero_le _⟩ 1 3 rfl rfl rfl rfl (Nat.le_of_ble_eq_true rfl) dX11_write_5) hat hP hD hS [1] rfl [0, 2, 3, 4, 5] rfl rfl rfl rfl rfl (by decide) (fun H locs hP hD hS => ?_)
  refine lv_if_ne (tgt := 14) hx hb dX11_write_8 (by decide) (fun c3 => ?_) (fun c3 => ?_)
  · have hf := kn_e hf c3
    refine lv_iload_n hx hb dX11_write_14 rfl (lv_at hl 2 rfl) ?_
    obtain ⟨r4, h5, hf⟩ := kb1_e hf
    refine k_gi (nW := 6) (ws' := [(q, .inr (10, [.ref q_now, .ref q_clearing, .ref q_residues, .ref q_lifting, .ref q_guessed, .ref q_walk, .ref q_history, .ref q_book, .ref q_draws, .ref q_firstImage, .ref q_secondImage])), (q_now, .inr (3, [.int v_now_n, .int v_now_primeNumber, .ref q_now_numbers])), (q_book, .inr (0, [.int v_book_count, .ref q_book_unknowns, .ref q_book_places, .ref q_book_values])), (q_book_unknowns, .inl (cI, 20, .inl v_book_unknowns)), (q_book_places, .inl (cI, 20, .inl v_book_places)), (q_book_values, .inl (cI, 20, .inl v_book_values))]) (wr := [(q, .inr (10, [.ref q_now, .ref q_clearing, .ref q_residues, .ref q_lifting, .ref q_guessed, .ref q_walk, .ref q_history, .ref q_book, .ref q_draws, .ref q_firstImage, .ref q_secondImage])), (q_now, .inr (3, [.int v_now_n, .int v_now_primeNumber, .ref q_now_numbers])), (q_book, .inr (0, [.int v_book_count, .ref q_book_unknowns, .ref q_book_places, .ref q_book_values])), (q_book_unknowns, .inl (cI, 20, .inl v_book_unknowns)), (q_book_places, .inl (cI, 20, .inl v_book_places)), (q_book_values, .inl (cI, 20, .inl v_book_values))]) (k_runS (rest := []) hat hP hD hS hl.1 (c_X11_isNoDigit x2 r4 h5) [] (by decide) rfl kw623 kw624 kw67 kw625 kdX11_isNoDigit ⟨rfl, rfl⟩ (by rw [hR]; exact ⟨Nat.le_of_ble_eq_true rfl, Nat.le_of_ble_eq_true rfl⟩) ⟨Nat.zero_le _, Nat.zero_le _⟩ rfl rfl (Nat.le_of_ble_eq_true rfl) dX11_write_15) hat hP hD hS [] rfl [0, 1, 2, 3, 4, 5] rfl rfl rfl rfl rfl (by decide) (fun H locs hP hD hS => ?_)
    refine lv_if_eq (tgt := 24) hx hb dX11_write_18 (by decide) (fun c6 => ?_) (fun c6 => ?_)
    · have hf := kp_e hf c6
      refine lv_aload_n hx hb dX11_write_24 rfl (lv_at hl 0 rfl) ?_
      refine va_get (D := D) (ci := 10) (v := .ref q_book) (C := RX11) (T := TX11) (N := 11) hx hb hts kinX11 hown hK hP 0 rfl rfl 7 (by decide) (hts _ kw334) (fun _ h9 => h9) rfl dX11_write_25 ?_
      refine va_get (D := D) (ci := 0) (v := .int v_book_count) (C := RX0) (T := TX0) (N := 4) hx hb hts kinX0 hown hK hP 2 rfl rfl 0 (by decide) (hts _ kw285) (fun _ h9 => h9) rfl dX11_write_28 ?_
      refine lv_bipush (v := 20) hx hb dX11_write_31 (by decide) ?_
      refine lv_icmp_lt (tgt := 39) hx hb dX11_write_33 (by decide) (fun c7 => ?_) (fun c7 => ?_)
      · have hf := kp_e hf c7
        refine lv_aload_n hx hb dX11_write_39 rfl (lv_at hl 0 rfl) ?_
        refine va_get (D := D) (ci := 10) (v := .ref q_book) (C := RX11) (T := TX11) (N := 11) hx hb hts kinX11 hown hK hP 0 rfl rfl 7 (by decide) (hts _ kw334) (fun _ h9 => h9) rfl dX11_write_40 ?_
        refine lv_iload_n hx hb dX11_write_43 rfl (lv_at hl 1 rfl) ?_
        refine lv_iload_n hx hb dX11_write_44 rfl (lv_at hl 2 rfl) ?_
        refine lv_iload_n hx hb dX11_write_45 rfl (lv_at hl 3 rfl) ?_
        obtain ⟨w8, w9, w10, w11, h12, hf⟩ := kb4_e hf
        refine k_gv (nW := 6) (ws' := [(q, .inr (10, [.ref q_now, .ref q_clearing, .ref q_residues, .ref q_lifting, .ref q_guessed, .ref q_walk, .ref q_history, .ref q_book, .ref q_draws, .ref q_firstImage, .ref q_secondImage])), (q_now, .inr (3, [.int v_now_n, .int v_now_primeNumber, .ref q_now_numbers])), (q_book, .inr (0, [.int w8, .ref q_book_unknowns, .ref q_book_places, .ref q_book_values])), (q_book_unknowns, .inl (cI, 20, .inl w9)), (q_book_places, .inl (cI, 20, .inl w10)), (q_book_values, .inl (cI, 20, .inl w11))]) (wr := [(q, .inr (10, [.ref q_now, .ref q_clearing, .ref q_residues, .ref q_lifting, .ref q_guessed, .ref q_walk, .ref q_history, .ref q_book, .ref q_draws, .ref q_firstImage, .ref q_secondImage])), (q_now, .inr (3, [.int v_now_n, .int v_now_primeNumber, .ref q_now_numbers]))]) (k_runV (rest := []) hat hP hD hS hl.1 (c_X0_append q_book q_book_unknowns q_book_places q_book_values v_book_count v_book_unknowns v_book_places v_book_values x1 x2 x3 w8 w9 w10 w11 h12) [2, 3, 4, 5] (by decide) rfl kw797 kw798 kw799 kw76 kw800 kdVX0_append ⟨rfl, rfl⟩ (by rw [hR]; exact ⟨Nat.le_of_ble_eq_true rfl, Nat.le_of_ble_eq_true rfl⟩) ⟨Nat.zero_le _, Nat.zero_le _⟩ 2 0 rfl rfl rfl rfl (Nat.le_of_ble_eq_true rfl) dX11_write_46) hat hP hD hS [2, 3, 4, 5] rfl [0, 1] rfl rfl rfl rfl rfl (by decide) (fun H locs hP hD hS => ?_)
        refine lv_aload_n hx hb dX11_write_49 rfl (lv_at hl 0 rfl) ?_
        refine va_get (D := D) (ci := 10) (v := .ref q_book) (C := RX11) (T := TX11) (N := 11) hx hb hts kinX11 hown hK hP 0 rfl rfl 7 (by decide) (hts _ kw334) (fun _ h9 => h9) rfl dX11_write_50 ?_
        refine va_get (D := D) (ci := 0) (v := .int w8) (C := RX0) (T := TX0) (N := 4) hx hb hts kinX0 hown hK hP 2 rfl rfl 0 (by decide) (hts _ kw285) (fun _ h9 => h9) rfl dX11_write_53 ?_
        obtain ⟨rfl, rfl, rfl, rfl, rfl⟩ := ki5 hf
        rw [hQ]
        exact k_iret hat hP hS rfl dX11_write_56
      · have hf := kn_e hf c7
        refine lv_ldc hx hb hown (hts _ kw740) dX11_write_36 ?_
        obtain ⟨rfl, rfl, rfl, rfl, rfl⟩ := ki5 hf
        rw [hQ]
        exact k_iret hat hP hS rfl dX11_write_38
    · have hf := kn_e hf c6
      refine lv_ldc hx hb hown (hts _ kw575) dX11_write_21 ?_
      obtain ⟨rfl, rfl, rfl, rfl, rfl⟩ := ki5 hf
      rw [hQ]
      exact k_iret hat hP hS rfl dX11_write_23
  · have hf := kp_e hf c3
    refine lv_ldc hx hb hown (hts _ kw584) dX11_write_11 ?_
    obtain ⟨rfl, rfl, rfl, rfl, rfl⟩ := ki5 hf
    rw [hQ]
    exact k_iret hat hP hS rfl dX11_write_13
set_option maxHeartbeats 4000000 in
set_option maxRecDepth 100000 in
theorem c_X11_tear {l : Launch} {D : va_G} {cI cJ cQ : ClassId} {tp : Nat} (q : Nat) (q_now : Nat) (q_clearing : Nat) (q_residues : Nat) (q_lifting : Nat) (q_guessed : Nat) (q_walk : Nat) (q_history : Nat) (q_book : Nat) (q_draws : Nat) (q_firstImage : Nat) (q_secondImage : Nat) (q_book_unknowns : Nat) (q_book_places : Nat) (q_book_values : Nat) (v_book_count : Int32) (r0 : Int32) (o_v_book_count : Int32) (hf : f_X11_tear v_book_count = some (r0, o_v_book_count)) : kM (fun A => kQi D A [(q, .inr (10, [.ref q_now, .ref q_clearing, .ref q_residues, .ref q_lifting, .ref q_guessed, .ref q_walk, .ref q_history, .ref q_book, .ref q_draws, .ref q_firstImage, .ref q_secondImage])), (q_book, .inr (0, [.int o_v_book_count, .ref q_book_unknowns, .ref q_book_places, .ref q_book_values]))] r0) (some .int) l yX11_tear cX11_tear 2 { frames := 0, cells := 0, slots := 0, locals := 0 } D cI cJ cQ tp [.ref q] [(q, .inr (10, [.ref q_now, .ref q_clearing, .ref q_residues, .ref q_lifting, .ref q_guessed, .ref q_walk, .ref q_history, .ref q_book, .ref q_draws, .ref q_firstImage, .ref q_secondImage])), (q_book, .inr (0, [.int v_book_count, .ref q_book_unknowns, .ref q_book_places, .ref q_book_values]))] := by
  refine kM_of (by decide +kernel) (Nat.le_of_ble_eq_true rfl) ?_
  intro p e s m args below meth c A ls R Q hR hQ hat hP hD hS hl
  obtain ⟨hx, hb, hr, hml, hown, hts, hT, hlk, hK, hA, hZ⟩ := id hat
  have hown : s.vm.findClass RX11 = some m.cls := hown
  have hl : lv_has ls 2 [(0, .ref q)] := hl
  unfold f_X11_tear at hf
  refine lv_aload_n hx hb dX11_tear_0 rfl (lv_at hl 0 rfl) ?_
  refine va_get (D := D) (ci := 10) (v := .ref q_book) (C := RX11) (T := TX11) (N := 11) hx hb hts kinX11 hown hK hP 0 rfl rfl 7 (by decide) (hts _ kw334) (fun _ h9 => h9) rfl dX11_tear_1 ?_
  refine va_get (D := D) (ci := 0) (v := .int v_book_count) (C := RX0) (T := TX0) (N := 4) hx hb hts kinX0 hown hK hP 1 rfl rfl 0 (by decide) (hts _ kw285) (fun _ h9 => h9) rfl dX11_tear_4 ?_
  refine lv_istore_n (lv' := [(1, .int v_book_count), (0, .ref q)]) hx hb dX11_tear_7 rfl hl (by decide) rfl (fun ls hl => ?_)
  refine lv_aload_n hx hb dX11_tear_8 rfl (lv_at hl 1 rfl) ?_
  refine va_get (D := D) (ci := 10) (v := .ref q_book) (C := RX11) (T := TX11) (N := 11) hx hb hts kinX11 hown hK hP 0 rfl rfl 7 (by decide) (hts _ kw334) (fun _ h9 => h9) rfl dX11_tear_9 ?_
  refine lv_iconst (v := 0) hx hb dX11_tear_12 (by decide) ?_
  refine va_put (D := D) (ci := 0) (v := .int (0 : Int32)) (ty := .int) (C := RX0) (T := TX0) (N := 4) hx hb hts kinX0 tyX0 tyX0_ok nmX0 hown hK hP hD hS 1 rfl rfl 0 (by decide) (hts _ kw285) (fun _ h9 => h9) rfl (by decide +kernel) rfl rfl (Nat.le_of_ble_eq_true rfl) dX11_tear_13 (fun H locs hP hD hS => ?_)
  have hP : va_P D vwCl [(q, .inr (10, [.ref q_now, .ref q_clearing, .ref q_residues, .ref q_lifting, .ref q_guessed, .ref q_walk, .ref q_history, .ref q_book, .ref q_draws, .ref q_firstImage, .ref q_secondImage])), (q_book, .inr (0, [.int (0 : Int32), .ref q_book_unknowns, .ref q_book_places, .ref q_book_values]))] H := hP
  have hD : va_D A [(q, .inr (10, [.ref q_now, .ref q_clearing, .ref q_residues, .ref q_lifting, .ref q_guessed, .ref q_walk, .ref q_history, .ref q_book, .ref q_draws, .ref q_firstImage, .ref q_secondImage])), (q_book, .inr (0, [.int (0 : Int32), .ref q_book_unknowns, .ref q_book_places, .ref q_book_values]))] := hD
  refine lv_iload_n hx hb dX11_tear_16 rfl (lv_at hl 0 rfl) ?_
  obtain ⟨rfl, rfl⟩ := ki2 hf
  rw [hQ]
  exact k_iret hat hP hS rfl dX11_tear_17
set_option maxHeartbeats 4000000 in
set_option maxRecDepth 100000 in
theorem c_X11_seed {l : Launch} {D : va_G} {cI cJ cQ : ClassId} {tp : Nat} (q : Nat) (q_now : Nat) (q_clearing : Nat) (q_residues : Nat) (q_lifting : Nat) (q_guessed : Nat) (q_walk : Nat) (q_history : Nat) (q_book : Nat) (q_draws : Nat) (q_firstImage : Nat) (q_secondImage : Nat) (v_draws_state : Int64) (x1 : Int32) (r0 : Int32) (o_v_draws_state : Int64) (hf : f_X11_seed v_draws_state x1 = some (r0, o_v_draws_state)) : kM (fun A => kQi D A [(q, .inr (10, [.ref q_now, .ref q_clearing, .ref q_residues, .ref q_lifting, .ref q_guessed, .ref q_walk, .ref q_history, .ref q_book, .ref q_draws, .ref q_firstImage, .ref q_secondImage])), (q_draws, .inr (2, [.long o_v_draws_state]))] r0) (some .int) l yX11_seed cX11_seed 3 { frames := 0, cells := 0, slots := 0, locals := 0 } D cI cJ cQ tp [.ref q, .int x1] [(q, .inr (10, [.ref q_now, .ref q_clearing, .ref q_residues, .ref q_lifting, .ref q_guessed, .ref q_walk, .ref q_history, .ref q_book, .ref q_draws, .ref q_firstImage, .ref q_secondImage])), (q_draws, .inr (2, [.long v_draws_state]))] := by
  refine kM_of (by decide +kernel) (Nat.le_of_ble_eq_true rfl) ?_
  intro p e s m args below meth c A ls R Q hR hQ hat hP hD hS hl
  obtain ⟨hx, hb, hr, hml, hown, hts, hT, hlk, hK, hA, hZ⟩ := id hat
  have hown : s.vm.findClass RX11 = some m.cls := hown
  have hl : lv_has ls 3 [(0, .ref q), (1, .int x1)] := hl
  unfold f_X11_seed at hf
  refine lv_iload_n hx hb dX11_seed_0 rfl (lv_at hl 1 rfl) ?_
  refine lv_if_ge (tgt := 7) hx hb dX11_seed_1 (by decide) (fun c1 => ?_) (fun c1 => ?_)
  · have hf := kp_e hf c1
    refine lv_aload_n hx hb dX11_seed_7 rfl (lv_at hl 0 rfl) ?_
    refine va_get (D := D) (ci := 10) (v := .ref q_draws) (C := RX11) (T := TX11) (N := 11) hx hb hts kinX11 hown hK hP 0 rfl rfl 8 (by decide) (hts _ kw335) (fun _ h9 => h9) rfl dX11_seed_8 ?_
    refine va_get (D := D) (ci := 2) (v := .long v_draws_state) (C := RX2) (T := TX2) (N := 1) hx hb hts kinX2 hown hK hP 1 rfl rfl 0 (by decide) (hts _ kw306) (fun _ h9 => h9) rfl dX11_seed_11 ?_
    refine lv_l2i hx hb dX11_seed_14 rfl ?_
    refine lv_topi (fun t2 et2 => ?_)
    have hf := kl_e hf t2 et2
    refine lv_istore_n (lv' := [(2, .int t2), (0, .ref q), (1, .int x1)]) hx hb dX11_seed_15 rfl hl (by decide) rfl (fun ls hl => ?_)
    refine lv_aload_n hx hb dX11_seed_16 rfl (lv_at hl 1 rfl) ?_
    refine va_get (D := D) (ci := 10) (v := .ref q_draws) (C := RX11) (T := TX11) (N := 11) hx hb hts kinX11 hown hK hP 0 rfl rfl 8 (by decide) (hts _ kw335) (fun _ h9 => h9) rfl dX11_seed_17 ?_
    refine lv_iload_n hx hb dX11_seed_20 rfl (lv_at hl 2 rfl) ?_
    refine lv_i2l hx hb dX11_seed_21 rfl ?_
    refine lv_topl (fun t3 et3 => ?_)
    have hf := kl_e hf t3 et3
    refine va_put (D := D) (ci := 2) (v := .long t3) (ty := .long) (C := RX2) (T := TX2) (N := 1) hx hb hts kinX2 tyX2 tyX2_ok nmX2 hown hK hP hD hS 1 rfl rfl 0 (by decide) (hts _ kw306) (fun _ h9 => h9) rfl (by decide +kernel) rfl rfl (Nat.le_of_ble_eq_true rfl) dX11_seed_22 (fun H locs hP hD hS => ?_)
    have hP : va_P D vwCl [(q, .inr (10, [.ref q_now, .ref q_clearing, .ref q_residues, .ref q_lifting, .ref q_guessed, .ref q_walk, .ref q_history, .ref q_book, .ref q_draws, .ref q_firstImage, .ref q_secondImage])), (q_draws, .inr (2, [.long t3]))] H := hP
    have hD : va_D A [(q, .inr (10, [.ref q_now, .ref q_clearing, .ref q_residues, .ref q_lifting, .ref q_guessed, .ref q_walk, .ref q_history, .ref q_book, .ref q_draws, .ref q_firstImage, .ref q_secondImage])), (q_draws, .inr (2, [.long t3]))] := hD
    refine lv_iload_n hx hb dX11_seed_25 rfl (lv_at hl 0 rfl) ?_
    obtain ⟨rfl, rfl⟩ := ki2 hf
    rw [hQ]
    exact k_iret hat hP hS rfl dX11_seed_26
  · have hf := kn_e hf c1
    refine lv_ldc hx hb hown (hts _ kw575) dX11_seed_4 ?_
    obtain ⟨rfl, rfl⟩ := ki2 hf
    rw [hQ]
    exact k_iret hat hP hS rfl dX11_seed_6
set_option maxHeartbeats 4000000 in
set_option maxRecDepth 100000 in
theorem c_X11_isNoImage {l : Launch} {D : va_G} {cI cJ cQ : ClassId} {tp : Nat} (x0 : Int32) (r0 : Int32) (hf : f_X11_isNoImage x0 = some r0) : kM (fun A => kQi D A [] r0) (some .boolean) l yX11_isNoImage cX11_isNoImage 1 { frames := 0, cells := 0, slots := 0, locals := 0 } D cI cJ cQ tp [.int x0] [] := by
  refine kM_of (by decide +kernel) (Nat.le_of_ble_eq_true rfl) ?_
  intro p e s m args below meth c A ls R Q hR hQ hat hP hD hS hl
  obtain ⟨hx, hb, hr, hml, hown, hts, hT, hlk, hK, hA, hZ⟩ := id hat
  have hown : s.vm.findClass RX11 = some m.cls := hown
  have hl : lv_has ls 1 [(0, .int x0)] := hl
  unfold f_X11_isNoImage at hf
  refine lv_iload_n hx hb dX11_isNoImage_0 rfl (lv_at hl 0 rfl) ?_
  refine lv_if_eq (tgt := 13) hx hb dX11_isNoImage_1 (by decide) (fun c1 => ?_) (fun c1 => ?_)
  · have hf := kp_e hf c1
    refine lv_iconst (v := 0) hx hb dX11_isNoImage_13 (by decide) ?_
    obtain rfl := ki1 hf
    rw [hQ]
    exact k_zret hat hP hS rfl (by decide) dX11_isNoImage_14
  · have hf := kn_e hf c1
    refine lv_iload_n hx hb dX11_isNoImage_4 rfl (lv_at hl 0 rfl) ?_
    refine lv_iconst (v := 1) hx hb dX11_isNoImage_5 (by decide) ?_
    refine lv_icmp_eq (tgt := 13) hx hb dX11_isNoImage_6 (by decide) (fun c2 => ?_) (fun c2 => ?_)
    · have hf := kp_e hf c2
      refine lv_iconst (v := 0) hx hb dX11_isNoImage_13 (by decide) ?_
      obtain rfl := ki1 hf
      rw [hQ]
      exact k_zret hat hP hS rfl (by decide) dX11_isNoImage_14
    · have hf := kn_e hf c2
      refine lv_iconst (v := 1) hx hb dX11_isNoImage_9 (by decide) ?_
      refine lv_goto (tgt := 14) hx hb dX11_isNoImage_10 (by decide) ?_
      obtain rfl := ki1 hf
      rw [hQ]
      exact k_zret hat hP hS rfl (by decide) dX11_isNoImage_14
set_option maxHeartbeats 4000000 in
set_option maxRecDepth 100000 in
theorem c_X6_take {l : Launch} {D : va_G} {cI cJ cQ : ClassId} {tp : Nat} (q : Nat) (qa1 : Nat) (qa2 : Nat) (q_store : Nat) (qa1_numbers : Nat) (v_taken : Int32) (v_seed : Int64) (v_store : (Nat → Int32)) (va1_n : Int32) (va1_primeNumber : Int32) (va1_numbers : (Nat → Int32)) (va2_state : Int64) (o_v_taken : Int32) (o_v_seed : Int64) (o_v_store : (Nat → Int32)) (hf : f_X6_take v_taken v_seed v_store va1_n va1_primeNumber va1_numbers va2_state = some (o_v_taken, o_v_seed, o_v_store)) : kM (fun A => kQv D A [(q, .inr (6, [.int o_v_taken, .long o_v_seed, .ref q_store])), (q_store, .inl (cI, 22, .inl o_v_store)), (qa1, .inr (3, [.int va1_n, .int va1_primeNumber, .ref qa1_numbers])), (qa1_numbers, .inl (cI, 20, .inl va1_numbers)), (qa2, .inr (2, [.long va2_state]))]) none l yX6_take cX6_take 3 { frames := 2, cells := 0, slots := 0, locals := 62 } D cI cJ cQ tp [.ref q, .ref qa1, .ref qa2] [(q, .inr (6, [.int v_taken, .long v_seed, .ref q_store])), (q_store, .inl (cI, 22, .inl v_store)), (qa1, .inr (3, [.int va1_n, .int va1_primeNumber, .ref qa1_numbers])), (qa1_numbers, .inl (cI, 20, .inl va1_numbers)), (qa2, .inr (2, [.long va2_state]))] := by
  refine kM_of (by decide +kernel) (Nat.le_of_ble_eq_true rfl) ?_
  intro p e s m args below meth c A ls R Q hR hQ hat hP hD hS hl
  obtain ⟨hx, hb, hr, hml, hown, hts, hT, hlk, hK, hA, hZ⟩ := id hat
  have hown : s.vm.findClass RX6 = some m.cls := hown
  have hl : lv_has ls 3 [(0, .ref q), (1, .ref qa1), (2, .ref qa2)] := hl
  unfold f_X6_take at hf
  refine lv_aload_n hx hb dX6_take_0 rfl (lv_at hl 1 rfl) ?_
  refine lv_aload_n hx hb dX6_take_1 rfl (lv_at hl 0 rfl) ?_
  refine va_get (D := D) (ci := 6) (v := .ref q_store) (C := RX6) (T := TX6) (N := 3) hx hb hts kinX6 hown hK hP 0 rfl rfl 2 (by decide) (hts _ kw319) (fun _ h9 => h9) rfl dX6_take_2 ?_
  refine lv_iconst (v := 0) hx hb dX6_take_5 (by decide) ?_
  obtain ⟨w1, h2, hf⟩ := kb1_e hf
  refine k_gv (nW := 5) (ws' := [(q, .inr (6, [.int v_taken, .long v_seed, .ref q_store])), (q_store, .inl (cI, 22, .inl w1)), (qa1, .inr (3, [.int va1_n, .int va1_primeNumber, .ref qa1_numbers])), (qa1_numbers, .inl (cI, 20, .inl va1_numbers)), (qa2, .inr (2, [.long va2_state]))]) (wr := [(q, .inr (6, [.int v_taken, .long v_seed, .ref q_store])), (qa2, .inr (2, [.long va2_state]))]) (k_runV (rest := []) hat hP hD hS hl.1 (c_X3_writeTo qa1 q_store qa1_numbers 22 va1_n va1_primeNumber va1_numbers v_store (0 : Int32) w1 h2) [2, 3, 1] (by decide) rfl kw824 kw694 kw695 kw68 kw696 kdVX3_writeTo ⟨rfl, rfl⟩ (by rw [hR]; exact ⟨Nat.le_of_ble_eq_true rfl, Nat.le_of_ble_eq_true rfl⟩) ⟨Nat.zero_le _, Nat.zero_le _⟩ 2 3 rfl rfl rfl rfl (Nat.le_of_ble_eq_true rfl) dX6_take_6) hat hP hD hS [2, 3, 1] rfl [0, 4] rfl rfl rfl rfl rfl (by decide) (fun H locs hP hD hS => ?_)
  refine lv_aload_n hx hb dX6_take_9 rfl (lv_at hl 0 rfl) ?_
  refine lv_aload_n hx hb dX6_take_10 rfl (lv_at hl 2 rfl) ?_
  refine va_get (D := D) (ci := 2) (v := .long va2_state) (C := RX2) (T := TX2) (N := 1) hx hb hts kinX2 hown hK hP 4 rfl rfl 0 (by decide) (hts _ kw305) (fun _ h9 => h9) rfl dX6_take_11 ?_
  refine va_put (D := D) (ci := 6) (v := .long va2_state) (ty := .long) (C := RX6) (T := TX6) (N := 3) hx hb hts kinX6 tyX6 tyX6_ok nmX6 hown hK hP hD hS 0 rfl rfl 1 (by decide) (hts _ kw318) (fun _ h9 => h9) rfl (by decide +kernel) rfl rfl (Nat.le_of_ble_eq_true rfl) dX6_take_14 (fun H locs hP hD hS => ?_)
  have hP : va_P D vwCl [(q, .inr (6, [.int v_taken, .long va2_state, .ref q_store])), (q_store, .inl (cI, 22, .inl w1)), (qa1, .inr (3, [.int va1_n, .int va1_primeNumber, .ref qa1_numbers])), (qa1_numbers, .inl (cI, 20, .inl va1_numbers)), (qa2, .inr (2, [.long va2_state]))] H := hP
  have hD : va_D A [(q, .inr (6, [.int v_taken, .long va2_state, .ref q_store])), (q_store, .inl (cI, 22, .inl w1)), (qa1, .inr (3, [.int va1_n, .int va1_primeNumber, .ref qa1_numbers])), (qa1_numbers, .inl (cI, 20, .inl va1_numbers)), (qa2, .inr (2, [.long va2_state]))] := hD
  refine lv_aload_n hx hb dX6_take_17 rfl (lv_at hl 0 rfl) ?_
  refine lv_iconst (v := 1) hx hb dX6_take_18 (by decide) ?_
  refine va_put (D := D) (ci := 6) (v := .int (1 : Int32)) (ty := .boolean) (C := RX6) (T := TX6) (N := 3) hx hb hts kinX6 tyX6 tyX6_ok nmX6 hown hK hP hD hS 0 rfl rfl 0 (by decide) (hts _ kw316) (fun _ h9 => h9) rfl (by decide +kernel) rfl rfl (Nat.le_of_ble_eq_true rfl) dX6_take_19 (fun H locs hP hD hS => ?_)
  have hP : va_P D vwCl [(q, .inr (6, [.int (1 : Int32), .long va2_state, .ref q_store])), (q_store, .inl (cI, 22, .inl w1)), (qa1, .inr (3, [.int va1_n, .int va1_primeNumber, .ref qa1_numbers])), (qa1_numbers, .inl (cI, 20, .inl va1_numbers)), (qa2, .inr (2, [.long va2_state]))] H := hP
  have hD : va_D A [(q, .inr (6, [.int (1 : Int32), .long va2_state, .ref q_store])), (q_store, .inl (cI, 22, .inl w1)), (qa1, .inr (3, [.int va1_n, .int va1_primeNumber, .ref qa1_numbers])), (qa1_numbers, .inl (cI, 20, .inl va1_numbers)), (qa2, .inr (2, [.long va2_state]))] := hD
  obtain ⟨rfl, rfl, rfl⟩ := ki3 hf
  rw [hQ]
  exact k_vret hat hP hS dX6_take_22
set_option maxHeartbeats 4000000 in
set_option maxRecDepth 100000 in
theorem c_X11_keep {l : Launch} {D : va_G} {cI cJ cQ : ClassId} {tp : Nat} (q : Nat) (q_now : Nat) (q_clearing : Nat) (q_residues : Nat) (q_lifting : Nat) (q_guessed : Nat) (q_walk : Nat) (q_history : Nat) (q_book : Nat) (q_draws : Nat) (q_firstImage : Nat) (q_secondImage : Nat) (q_now_numbers : Nat) (q_history_store : Nat) (q_firstImage_store : Nat) (q_secondImage_store : Nat) (v_now_n : Int32) (v_now_primeNumber : Int32) (v_now_numbers : (Nat → Int32)) (v_history_count : Int32) (v_history_next : Int32) (v_draws_state : Int64) (v_firstImage_taken : Int32) (v_firstImage_seed : Int64) (v_firstImage_store : (Nat → Int32)) (v_secondImage_taken : Int32) (v_secondImage_seed : Int64) (v_secondImage_store : (Nat → Int32)) (x1 : Int32) (r0 : Int32) (o_v_history_count : Int32) (o_v_firstImage_taken : Int32) (o_v_firstImage_seed : Int64) (o_v_firstImage_store : (Nat → Int32)) (o_v_secondImage_taken : Int32) (o_v_secondImage_seed : Int64) (o_v_secondImage_store : (Nat → Int32)) (hf : f_X11_keep v_now_n v_now_primeNumber v_now_numbers v_history_count v_draws_state v_firstImage_taken v_firstImage_seed v_firstImage_store v_secondImage_taken v_secondImage_seed v_secondImage_store x1 = some (r0, o_v_history_count, o_v_firstImage_taken, o_v_firstImage_seed, o_v_firstImage_store, o_v_secondImage_taken, o_v_secondImage_seed, o_v_secondImage_store)) : kM (fun A => kQi D A [(q, .inr (10, [.ref q_now, .ref q_clearing, .ref q_residues, .ref q_lifting, .ref q_guessed, .ref q_walk, .ref q_history, .ref q_book, .ref q_draws, .ref q_firstImage, .ref q_secondImage])), (q_now, .inr (3, [.int v_now_n, .int v_now_primeNumber, .ref q_now_numbers])), (q_now_numbers, .inl (cI, 20, .inl v_now_numbers)), (q_history, .inr (5, [.int o_v_history_count, .int v_history_next, .ref q_history_store])), (q_draws, .inr (2, [.long v_draws_state])), (q_firstImage, .inr (6, [.int o_v_firstImage_taken, .long o_v_firstImage_seed, .ref q_firstImage_store])), (q_firstImage_store, .inl (cI, 22, .inl o_v_firstImage_store)), (q_secondImage, .inr (6, [.int o_v_secondImage_taken, .long o_v_secondImage_seed, .ref q_secondImage_store])), (q_secondImage_store, .inl (cI, 22, .inl o_v_secondImage_store))] r0) (some .int) l yX11_keep cX11_keep 2 { frames := 3, cells := 0, slots := 0, locals := 84 } D cI cJ cQ tp [.ref q, .int x1] [(q, .inr (10, [.ref q_now, .ref q_clearing, .ref q_residues, .ref q_lifting, .ref q_guessed, .ref q_walk, .ref q_history, .ref q_book, .ref q_draws, .ref q_firstImage, .ref q_secondImage])), (q_now, .inr (3, [.int v_now_n, .int v_now_primeNumber, .ref q_now_numbers])), (q_now_numbers, .inl (cI, 20, .inl v_now_numbers)), (q_history, .inr (5, [.int v_history_count, .int v_history_next, .ref q_history_store])), (q_draws, .inr (2, [.long v_draws_state])), (q_firstImage, .inr (6, [.int v_firstImage_taken, .long v_firstImage_seed, .ref q_firstImage_store])), (q_firstImage_store, .inl (cI, 22, .inl v_firstImage_store)), (q_secondImage, .inr (6, [.int v_secondImage_taken, .long v_secondImage_seed, .ref q_secondImage_store])), (q_secondImage_store, .inl (cI, 22, .inl v_secondImage_store))] := by
  refine kM_of (by decide +kernel) (Nat.le_of_ble_eq_true rfl) ?_
  intro p e s m args below meth c A ls R Q hR hQ hat hP hD hS hl
  obtain ⟨hx, hb, hr, hml, hown, hts, hT, hlk, hK, hA, hZ⟩ := id hat
  have hown : s.vm.findClass RX11 = some m.cls := hown
  have hl : lv_has ls 2 [(0, .ref q), (1, .int x1)] := hl
  unfold f_X11_keep at hf
  refine lv_iload_n hx hb dX11_keep_0 rfl (lv_at hl 1 rfl) ?_
  obtain ⟨r1, h2, hf⟩ := kb1_e hf
  refine k_gi (nW := 9) (ws' := [(q, .inr (10, [.ref q_now, .ref q_clearing, .ref q_residues, .ref q_lifting, .ref q_guessed, .ref q_walk, .ref q_history, .ref q_book, .ref q_draws, .ref q_firstImage, .ref q_secondImage])), (q_now, .inr (3, [.int v_now_n, .int v_now_primeNumber, .ref q_now_numbers])), (q_now_numbers, .inl (cI, 20, .inl v_now_numbers)), (q_history, .inr (5, [.int v_history_count, .int v_history_next, .ref q_history_store])), (q_draws, .inr (2, [.long v_draws_state])), (q_firstImage, .inr (6, [.int v_firstImage_taken, .long v_firstImage_seed, .ref q_firstImage_store])), (q_firstImage_store, .inl (cI, 22, .inl v_firstImage_store)), (q_secondImage, .inr (6, [.int v_secondImage_taken, .long v_secondImage_seed, .ref q_secondImage_store])), (q_secondImage_store, .inl (cI, 22, .inl v_secondImage_store))]) (wr := [(q, .inr (10, [.ref q_now, .ref q_clearing, .ref q_residues, .ref q_lifting, .ref q_guessed, .ref q_walk, .ref q_history, .ref q_book, .ref q_draws, .ref q_firstImage, .ref q_secondImage])), (q_now, .inr (3, [.int v_now_n, .int v_now_primeNumber, .ref q_now_numbers])), (q_now_numbers, .inl (cI, 20, .inl v_now_numbers)), (q_history, .inr (5, [.int v_history_count, .int v_history_next, .ref q_history_store])), (q_draws, .inr (2, [.long v_draws_state])), (q_firstImage, .inr (6, [.int v_firstImage_taken, .long v_firstImage_seed, .ref q_firstImage_store])), (q_firstImage_store, .inl (cI, 22, .inl v_firstImage_store)), (q_secondImage, .inr (6, [.int v_secondImage_taken, .long v_secondImage_seed, .ref q_secondImage_store])), (q_secondImage_store, .inl (cI, 22, .inl v_secondImage_store))]) (k_runS (rest := []) hat hP hD hS hl.1 (c_X11_isNoImage x1 r1 h2) [] (by decide) rfl kw813 kw814 kw67 kw815 kdX11_isNoImage ⟨rfl, rfl⟩ (by rw [hR]; exact ⟨Nat.le_of_ble_eq_true rfl, Nat.le_of_ble_eq_true rfl⟩) ⟨Nat.zero_le _, Nat.zero_le _⟩ rfl rfl (Nat.le_of_ble_eq_true rfl) dX11_keep_1) hat hP hD hS [] rfl [0, 1, 2, 3, 4, 5, 6, 7, 8] rfl rfl rfl rfl rfl (by decide) (fun H locs hP hD hS => ?_)
  refine lv_if_eq (tgt := 10) hx hb dX11_keep_4 (by decide) (fun c3 => ?_) (fun c3 => ?_)
  · have hf := kp_e hf c3
    refine lv_aload_n hx hb dX11_keep_10 rfl (lv_at hl 0 rfl) ?_
    refine lv_iload_n hx hb dX11_keep_11 rfl (lv_at hl 1 rfl) ?_
    by_cases c4 : x1 = 0
    · have hf := kp_e hf c4
      refine k_gr (nW := 9) (ws' := [(q, .inr (10, [.ref q_now, .ref q_clearing, .ref q_residues, .ref q_lifting, .ref q_guessed, .ref q_walk, .ref q_history, .ref q_book, .ref q_draws, .ref q_firstImage, .ref q_secondImage])), (q_now, .inr (3, [.int v_now_n, .int v_now_primeNumber, .ref q_now_numbers])), (q_now_numbers, .inl (cI, 20, .inl v_now_numbers)), (q_history, .inr (5, [.int v_history_count, .int v_history_next, .ref q_history_store])), (q_draws, .inr (2, [.long v_draws_state])), (q_firstImage, .inr (6, [.int v_firstImage_taken, .long v_firstImage_seed, .ref q_firstImage_store])), (q_firstImage_store, .inl (cI, 22, .inl v_firstImage_store)), (q_secondImage, .inr (6, [.int v_secondImage_taken, .long v_secondImage_seed, .ref q_secondImage_store])), (q_secondImage_store, .inl (cI, 22, .inl v_secondImage_store))]) (wr := [(q_now, .inr (3, [.int v_now_n, .int v_now_primeNumber, .ref q_now_numbers])), (q_now_numbers, .inl (cI, 20, .inl v_now_numbers)), (q_history, .inr (5, [.int v_history_count, .int v_history_next, .ref q_history_store])), (q_draws, .inr (2, [.long v_draws_state])), (q_firstImage, .inr (6, [.int v_firstImage_taken, .long v_firstImage_seed, .ref q_firstImage_store])), (q_firstImage_store, .inl (cI, 22, .inl v_firstImage_store)), (q_secondImage, .inr (6, [.int v_secondImage_taken, .long v_secondImage_seed, .ref q_secondImage_store])), (q_secondImage_store, .inl (cI, 22, .inl v_secondImage_store))]) (k_runV (rest := []) hat hP hD hS hl.1 (c_X11_imageOf_0 q q_now q_clearing q_residues q_lifting q_guessed q_walk q_history q_book q_draws q_firstImage q_secondImage x1 c4) [0] (by decide) rfl kw816 kw818 kw17 kw67 kw819 kdVX11_imageOf ⟨rfl, rfl⟩ (by rw [hR]; exact ⟨Nat.le_of_ble_eq_true rfl, Nat.le_of_ble_eq_true rfl⟩) ⟨Nat.zero_le _, Nat.zero_le _⟩ 0 10 rfl rfl rfl rfl (Nat.le_of_ble_eq_true rfl) dX11_keep_12) hat hP hD hS [0] rfl [1, 2, 3, 4, 5, 6, 7, 8] rfl rfl rfl rfl rfl (by decide) (fun H locs hP hD hS => ?_)
      refine lv_aload_n hx hb dX11_keep_15 rfl (lv_at hl 0 rfl) ?_
      refine va_get (D := D) (ci := 10) (v := .ref q_now) (C := RX11) (T := TX11) (N := 11) hx hb hts kinX11 hown hK hP 0 rfl rfl 0 (by decide) (hts _ kw327) (fun _ h9 => h9) rfl dX11_keep_16 ?_
      refine lv_aload_n hx hb dX11_keep_19 rfl (lv_at hl 0 rfl) ?_
      refine va_get (D := D) (ci := 10) (v := .ref q_draws) (C := RX11) (T := TX11) (N := 11) hx hb hts kinX11 hown hK hP 0 rfl rfl 8 (by decide) (hts _ kw335) (fun _ h9 => h9) rfl dX11_keep_20 ?_
      obtain ⟨w5, w6, w7, h8, hf⟩ := kb3_e hf
      refine k_gv (nW := 9) (ws' := [(q, .inr (10, [.ref q_now, .ref q_clearing, .ref q_residues, .ref q_lifting, .ref q_guessed, .ref q_walk, .ref q_history, .ref q_book, .ref q_draws, .ref q_firstImage, .ref q_secondImage])), (q_now, .inr (3, [.int v_now_n, .int v_now_primeNumber, .ref q_now_numbers])), (q_now_numbers, .inl (cI, 20, .inl v_now_numbers)), (q_history, .inr (5, [.int v_history_count, .int v_history_next, .ref q_history_store])), (q_draws, .inr (2, [.long v_draws_state])), (q_firstImage, .inr (6, [.int w5, .long w6, .ref q_firstImage_store])), (q_firstImage_store, .inl (cI, 22, .inl w7)), (q_secondImage, .inr (6, [.int v_secondImage_taken, .long v_secondImage_seed, .ref q_secondImage_store])), (q_secondImage_store, .inl (cI, 22, .inl v_secondImage_store))]) (wr := [(q, .inr (10, [.ref q_now, .ref q_clearing, .ref q_residues, .ref q_lifting, .ref q_guessed, .ref q_walk, .ref q_history, .ref q_book, .ref q_draws, .ref q_firstImage, .ref q_secondImage])), (q_history, .inr (5, [.int v_history_count, .int v_history_next, .ref q_history_store])), (q_secondImage, .inr (6, [.int v_secondImage_taken, .long v_secondImage_seed, .ref q_secondImage_store])), (q_secondImage_store, .inl (cI, 22, .inl v_secondImage_store))]) (k_runV (rest := []) hat hP hD hS hl.1 (c_X6_take q_firstImage q_now q_draws q_firstImage_store q_now_numbers v_firstImage_taken v_firstImage_seed v_firstImage_store v_now_n v_now_primeNumber v_now_numbers v_draws_state w5 w6 w7 h8) [5, 6, 1, 2, 4] (by decide) rfl kw820 kw821 kw822 kw78 kw823 kdVX6_take ⟨rfl, rfl⟩ (by rw [hR]; exact ⟨Nat.le_of_ble_eq_true rfl, Nat.le_of_ble_eq_true rfl⟩) ⟨Nat.zero_le _, Nat.zero_le _⟩ 5 6 rfl rfl rfl rfl (Nat.le_of_ble_eq_true rfl) dX11_keep_23) hat hP hD hS [5, 6, 1, 2, 4] rfl [0, 3, 7, 8] rfl rfl rfl rfl rfl (by decide) (fun H locs hP hD hS => ?_)
      refine lv_aload_n hx hb dX11_keep_26 rfl (lv_at hl 0 rfl) ?_
      refine va_get (D := D) (ci := 10) (v := .ref q_history) (C := RX11) (T := TX11) (N := 11) hx hb hts kinX11 hown hK hP 0 rfl rfl 6 (by decide) (hts _ kw333) (fun _ h9 => h9) rfl dX11_keep_27 ?_
      refine lv_iconst (v := 0) hx hb dX11_keep_30 (by decide) ?_
      refine va_put (D := D) (ci := 5) (v := .int (0 : Int32)) (ty := .int) (C := RX5) (T := TX5) (N := 3) hx hb hts kinX5 tyX5 tyX5_ok nmX5 hown hK hP hD hS 3 rfl rfl 0 (by decide) (hts _ kw268) (fun _ h9 => h9) rfl (by decide +kernel) rfl rfl (Nat.le_of_ble_eq_true rfl) dX11_keep_31 (fun H locs hP hD hS => ?_)
      have hP : va_P D vwCl [(q, .inr (10, [.ref q_now, .ref q_clearing, .ref q_residues, .ref q_lifting, .ref q_guessed, .ref q_walk, .ref q_history, .ref q_book, .ref q_draws, .ref q_firstImage, .ref q_secondImage])), (q_now, .inr (3, [.int v_now_n, .int v_now_primeNumber, .ref q_now_numbers])), (q_now_numbers, .inl (cI, 20, .inl v_now_numbers)), (q_history, .inr (5, [.int (0 : Int32), .int v_history_next, .ref q_history_store])), (q_draws, .inr (2, [.long v_draws_state])), (q_firstImage, .inr (6, [.int w5, .long w6, .ref q_firstImage_store])), (q_firstImage_store, .inl (cI, 22, .inl w7)), (q_secondImage, .inr (6, [.int v_secondImage_taken, .long v_secondImage_seed, .ref q_secondImage_store])), (q_secondImage_store, .inl (cI, 22, .inl v_secondImage_store))] H := hP
      have hD : va_D A [(q, .inr (10, [.ref q_now, .ref q_clearing, .ref q_residues, .ref q_lifting, .ref q_guessed, .ref q_walk, .ref q_history, .ref q_book, .ref q_draws, .ref q_firstImage, .ref q_secondImage])), (q_now, .inr (3, [.int v_now_n, .int v_now_primeNumber, .ref q_now_numbers])), (q_now_numbers, .inl (cI, 20, .inl v_now_numbers)), (q_history, .inr (5, [.int (0 : Int32), .int v_history_next, .ref q_history_store])), (q_draws, .inr (2, [.long v_draws_state])), (q_firstImage, .inr (6, [.int w5, .long w6, .ref q_firstImage_store])), (q_firstImage_store, .inl (cI, 22, .inl w7)), (q_secondImage, .inr (6, [.int v_secondImage_taken, .long v_secondImage_seed, .ref q_secondImage_store])), (q_secondImage_store, .inl (cI, 22, .inl v_secondImage_store))] := hD
      refine lv_iconst (v := 1) hx hb dX11_keep_34 (by decide) ?_
      obtain ⟨rfl, rfl, rfl, rfl, rfl, rfl, rfl, rfl⟩ := ki8 hf
      rw [hQ]
      exact k_iret hat hP hS rfl dX11_keep_35
    · have hf := kn_e hf c4
      refine k_gr (nW := 9) (ws' := [(q, .inr (10, [.ref q_now, .ref q_clearing, .ref q_residues, .ref q_lifting, .ref q_guessed, .ref q_walk, .ref q_history, .ref q_book, .ref q_draws, .ref q_firstImage, .ref q_secondImage])), (q_now, .inr (3, [.int v_now_n, .int v_now_primeNumber, .ref q_now_numbers])), (q_now_numbers, .inl (cI, 20, .inl v_now_numbers)), (q_history, .inr (5, [.int v_history_count, .int v_history_next, .ref q_history_store])), (q_draws, .inr (2, [.long v_draws_state])), (q_firstImage, .inr (6, [.int v_firstImage_taken, .long v_firstImage_seed, .ref q_firstImage_store])), (q_firstImage_store, .inl (cI, 22, .inl v_firstImage_store)), (q_secondImage, .inr (6, [.int v_secondImage_taken, .long v_secondImage_seed, .ref q_secondImage_store])), (q_secondImage_store, .inl (cI, 22, .inl v_secondImage_store))]) (wr := [(q_now, .inr (3, [.int v_now_n, .int v_now_primeNumber, .ref q_now_numbers])), (q_now_numbers, .inl (cI, 20, .inl v_now_numbers)), (q_history, .inr (5, [.int v_history_count, .int v_history_next, .ref q_history_store])), (q_draws, .inr (2, [.long v_draws_state])), (q_firstImage, .inr (6, [.int v_firstImage_taken, .long v_firstImage_seed, .ref q_firstImage_store])), (q_firstImage_store, .inl (cI, 22, .inl v_firstImage_store)), (q_secondImage, .inr (6, [.int v_secondImage_taken, .long v_secondImage_seed, .ref q_secondImage_store])), (q_secondImage_store, .inl (cI, 22, .inl v_secondImage_store))]) (k_runV (rest := []) hat hP hD hS hl.1 (c_X11_imageOf_1 q q_now q_clearing q_residues q_lifting q_guessed q_walk q_history q_book q_draws q_firstImage q_secondImage x1 c4) [0] (by decide) rfl kw816 kw818 kw17 kw67 kw819 kdVX11_imageOf ⟨rfl, rfl⟩ (by rw [hR]; exact ⟨Nat.le_of_ble_eq_true rfl, Nat.le_of_ble_eq_true rfl⟩) ⟨Nat.zero_le _, Nat.zero_le _⟩ 0 10 rfl rfl rfl rfl (Nat.le_of_ble_eq_true rfl) dX11_keep_12) hat hP hD hS [0] rfl [1, 2, 3, 4, 5, 6, 7, 8] rfl rfl rfl rfl rfl (by decide) (fun H locs hP hD hS => ?_)
      refine lv_aload_n hx hb dX11_keep_15 rfl (lv_at hl 0 rfl) ?_
      refine va_get (D := D) (ci := 10) (v := .ref q_now) (C := RX11) (T := TX11) (N := 11) hx hb hts kinX11 hown hK hP 0 rfl rfl 0 (by decide) (hts _ kw327) (fun _ h9 => h9) rfl dX11_keep_16 ?_
      refine lv_aload_n hx hb dX11_keep_19 rfl (lv_at hl 0 rfl) ?_
      refine va_get (D := D) (ci := 10) (v := .ref q_draws) (C := RX11) (T := TX11) (N := 11) hx hb hts kinX11 hown hK hP 0 rfl rfl 8 (by decide) (hts _ kw335) (fun _ h9 => h9) rfl dX11_keep_20 ?_
      obtain ⟨w9, w10, w11, h12, hf⟩ := kb3_e hf
      refine k_gv (nW := 9) (ws' := [(q, .inr (10, [.ref q_now, .ref q_clearing, .ref q_residues, .ref q_lifting, .ref q_guessed, .ref q_walk, .ref q_history, .ref q_book, .ref q_draws, .ref q_firstImage, .ref q_secondImage])), (q_now, .inr (3, [.int v_now_n, .int v_now_primeNumber, .ref q_now_numbers])), (q_now_numbers, .inl (cI, 20, .inl v_now_numbers)), (q_history, .inr (5, [.int v_history_count, .int v_history_next, .ref q_history_store])), (q_draws, .inr (2, [.long v_draws_state])), (q_firstImage, .inr (6, [.int v_firstImage_taken, .long v_firstImage_seed, .ref q_firstImage_store])), (q_firstImage_store, .inl (cI, 22, .inl v_firstImage_store)), (q_secondImage, .inr (6, [.int w9, .long w10, .ref q_secondImage_store])), (q_secondImage_store, .inl (cI, 22, .inl w11))]) (wr := [(q, .inr (10, [.ref q_now, .ref q_clearing, .ref q_residues, .ref q_lifting, .ref q_guessed, .ref q_walk, .ref q_history, .ref q_book, .ref q_draws, .ref q_firstImage, .ref q_secondImage])), (q_history, .inr (5, [.int v_history_count, .int v_history_next, .ref q_history_store])), (q_firstImage, .inr (6, [.int v_firstImage_taken, .long v_firstImage_seed, .ref q_firstImage_store])), (q_firstImage_store, .inl (cI, 22, .inl v_firstImage_store))]) (k_runV (rest := []) hat hP hD hS hl.1 (c_X6_take q_secondImage q_now q_draws q_secondImage_store q_now_numbers v_secondImage_taken v_secondImage_seed v_secondImage_store v_now_n v_now_primeNumber v_now_numbers v_draws_state w9 w10 w11 h12) [7, 8, 1, 2, 4] (by decide) rfl kw820 kw821 kw822 kw78 kw823 kdVX6_take ⟨rfl, rfl⟩ (by rw [hR]; exact ⟨Nat.le_of_ble_eq_true rfl, Nat.le_of_ble_eq_true rfl⟩) ⟨Nat.zero_le _, Nat.zero_le _⟩ 7 6 rfl rfl rfl rfl (Nat.le_of_ble_eq_true rfl) dX11_keep_23) hat hP hD hS [7, 8, 1, 2, 4] rfl [0, 3, 5, 6] rfl rfl rfl rfl rfl (by decide) (fun H locs hP hD hS => ?_)
      refine lv_aload_n hx hb dX11_keep_26 rfl (lv_at hl 0 rfl) ?_
      refine va_get (D := D) (ci := 10) (v := .ref q_history) (C := RX11) (T := TX11) (N := 11) hx hb hts kinX11 hown hK hP 0 rfl rfl 6 (by decide) (hts _ kw333) (fun _ h9 => h9) rfl dX11_keep_27 ?_
      refine lv_iconst (v := 0) hx hb dX11_keep_30 (by decide) ?_
      refine va_put (D := D) (ci := 5) (v := .int (0 : Int32)) (ty := .int) (C := RX5) (T := TX5) (N := 3) hx hb hts kinX5 tyX5 tyX5_ok nmX5 hown hK hP hD hS 3 rfl rfl 0 (by decide) (hts _ kw268) (fun _ h9 => h9) rfl (by decide +kernel) rfl rfl (Nat.le_of_ble_eq_true rfl) dX11_keep_31 (fun H locs hP hD hS => ?_)
      have hP : va_P D vwCl [(q, .inr (10, [.ref q_now, .ref q_clearing, .ref q_residues, .ref q_lifting, .ref q_guessed, .ref q_walk, .ref q_history, .ref q_book, .ref q_draws, .ref q_firstImage, .ref q_secondImage])), (q_now, .inr (3, [.int v_now_n, .int v_now_primeNumber, .ref q_now_numbers])), (q_now_numbers, .inl (cI, 20, .inl v_now_numbers)), (q_history, .inr (5, [.int (0 : Int32), .int v_history_next, .ref q_history_store])), (q_draws, .inr (2, [.long v_draws_state])), (q_firstImage, .inr (6, [.int v_firstImage_taken, .long v_firstImage_seed, .ref q_firstImage_store])), (q_firstImage_store, .inl (cI, 22, .inl v_firstImage_store)), (q_secondImage, .inr (6, [.int w9, .long w10, .ref q_secondImage_store])), (q_secondImage_store, .inl (cI, 22, .inl w11))] H := hP
      have hD : va_D A [(q, .inr (10, [.ref q_now, .ref q_clearing, .ref q_residues, .ref q_lifting, .ref q_guessed, .ref q_walk, .ref q_history, .ref q_book, .ref q_draws, .ref q_firstImage, .ref q_secondImage])), (q_now, .inr (3, [.int v_now_n, .int v_now_primeNumber, .ref q_now_numbers])), (q_now_numbers, .inl (cI, 20, .inl v_now_numbers)), (q_history, .inr (5, [.int (0 : Int32), .int v_history_next, .ref q_history_store])), (q_draws, .inr (2, [.long v_draws_state])), (q_firstImage, .inr (6, [.int v_firstImage_taken, .long v_firstImage_seed, .ref q_firstImage_store])), (q_firstImage_store, .inl (cI, 22, .inl v_firstImage_store)), (q_secondImage, .inr (6, [.int w9, .long w10, .ref q_secondImage_store])), (q_secondImage_store, .inl (cI, 22, .inl w11))] := hD
      refine lv_iconst (v := 1) hx hb dX11_keep_34 (by decide) ?_
      obtain ⟨rfl, rfl, rfl, rfl, rfl, rfl, rfl, rfl⟩ := ki8 hf
      rw [hQ]
      exact k_iret hat hP hS rfl dX11_keep_35
  · have hf := kn_e hf c3
    refine lv_ldc hx hb hown (hts _ kw584) dX11_keep_7 ?_
    obtain ⟨rfl, rfl, rfl, rfl, rfl, rfl, rfl, rfl⟩ := ki8 hf
    rw [hQ]
    exact k_iret hat hP hS rfl dX11_keep_9
set_option maxHeartbeats 4000000 in
set_option maxRecDepth 100000 in
theorem c_X6_give {l : Launch} {D : va_G} {cI cJ cQ : ClassId} {tp : Nat} (q : Nat) (qa1 : Nat) (qa2 : Nat) (q_store : Nat) (qa1_numbers : Nat) (v_taken : Int32) (v_seed : Int64) (v_store : (Nat → Int32)) (va1_n : Int32) (va1_primeNumber : Int32) (va1_numbers : (Nat → Int32)) (va2_state : Int64) (o_va1_n : Int32) (o_va1_primeNumber : Int32) (o_va1_numbers : (Nat → Int32)) (o_va2_state : Int64) (hf : f_X6_give v_seed v_store va1_n va1_primeNumber va1_numbers va2_state = some (o_va1_n, o_va1_primeNumber, o_va1_numbers, o_va2_state)) : kM (fun A => kQv D A [(q, .inr (6, [.int v_taken, .long v_seed, .ref q_store])), (q_store, .inl (cI, 22, .inl v_store)), (qa1, .inr (3, [.int o_va1_n, .int o_va1_primeNumber, .ref qa1_numbers])), (qa1_numbers, .inl (cI, 20, .inl o_va1_numbers)), (qa2, .inr (2, [.long o_va2_state]))]) none l yX6_give cX6_give 3 { frames := 2, cells := 0, slots := 0, locals := 62 } D cI cJ cQ tp [.ref q, .ref qa1, .ref qa2] [(q, .inr (6, [.int v_taken, .long v_seed, .ref q_store])), (q_store, .inl (cI, 22, .inl v_store)), (qa1, .inr (3, [.int va1_n, .int va1_primeNumber, .ref qa1_numbers])), (qa1_numbers, .inl (cI, 20, .inl va1_numbers)), (qa2, .inr (2, [.long va2_state]))] := by
  refine kM_of (by decide +kernel) (Nat.le_of_ble_eq_true rfl) ?_
  intro p e s m args below meth c A ls R Q hR hQ hat hP hD hS hl
  obtain ⟨hx, hb, hr, hml, hown, hts, hT, hlk, hK, hA, hZ⟩ := id hat
  have hown : s.vm.findClass RX6 = some m.cls := hown
  have hl : lv_has ls 3 [(0, .ref q), (1, .ref qa1), (2, .ref qa2)] := hl
  unfold f_X6_give at hf
  refine lv_aload_n hx hb dX6_give_0 rfl (lv_at hl 1 rfl) ?_
  refine lv_aload_n hx hb dX6_give_1 rfl (lv_at hl 0 rfl) ?_
  refine va_get (D := D) (ci := 6) (v := .ref q_store) (C := RX6) (T := TX6) (N := 3) hx hb hts kinX6 hown hK hP 0 rfl rfl 2 (by decide) (hts _ kw319) (fun _ h9 => h9) rfl dX6_give_2 ?_
  refine lv_iconst (v := 0) hx hb dX6_give_5 (by decide) ?_
  obtain ⟨w1, w2, w3, h4, hf⟩ := kb3_e hf
  refine k_gv (nW := 5) (ws' := [(q, .inr (6, [.int v_taken, .long v_seed, .ref q_store])), (q_store, .inl (cI, 22, .inl v_store)), (qa1, .inr (3, [.int w1, .int w2, .ref qa1_numbers])), (qa1_numbers, .inl (cI, 20, .inl w3)), (qa2, .inr (2, [.long va2_state]))]) (wr := [(q, .inr (6, [.int v_taken, .long v_seed, .ref q_store])), (qa2, .inr (2, [.long va2_state]))]) (k_runV (rest := []) hat hP hD hS hl.1 (c_X3_readFrom qa1 q_store qa1_numbers 22 va1_n va1_primeNumber va1_numbers v_store (0 : Int32) w1 w2 w3 h4) [2, 3, 1] (by decide) rfl kw833 kw790 kw791 kw68 kw792 kdVX3_readFrom ⟨rfl, rfl⟩ (by rw [hR]; exact ⟨Nat.le_of_ble_eq_true rfl, Nat.le_of_ble_eq_true rfl⟩) ⟨Nat.zero_le _, Nat.zero_le _⟩ 2 3 rfl rfl rfl rfl (Nat.le_of_ble_eq_true rfl) dX6_give_6) hat hP hD hS [2, 3, 1] rfl [0, 4] rfl rfl rfl rfl rfl (by decide) (fun H locs hP hD hS => ?_)
  refine lv_aload_n hx hb dX6_give_9 rfl (lv_at hl 2 rfl) ?_
  refine lv_aload_n hx hb dX6_give_10 rfl (lv_at hl 0 rfl) ?_
  refine va_get (D := D) (ci := 6) (v := .long v_seed) (C := RX6) (T := TX6) (N := 3) hx hb hts kinX6 hown hK hP 0 rfl rfl 1 (by decide) (hts _ kw318) (fun _ h9 => h9) rfl dX6_give_11 ?_
  refine va_put (D := D) (ci := 2) (v := .long v_seed) (ty := .long) (C := RX2) (T := TX2) (N := 1) hx hb hts kinX2 tyX2 tyX2_ok nmX2 hown hK hP hD hS 4 rfl rfl 0 (by decide) (hts _ kw305) (fun _ h9 => h9) rfl (by decide +kernel) rfl rfl (Nat.le_of_ble_eq_true rfl) dX6_give_14 (fun H locs hP hD hS => ?_)
  have hP : va_P D vwCl [(q, .inr (6, [.int v_taken, .long v_seed, .ref q_store])), (q_store, .inl (cI, 22, .inl v_store)), (qa1, .inr (3, [.int w1, .int w2, .ref qa1_numbers])), (qa1_numbers, .inl (cI, 20, .inl w3)), (qa2, .inr (2, [.long v_seed]))] H := hP
  have hD : va_D A [(q, .inr (6, [.int v_taken, .long v_seed, .ref q_store])), (q_store, .inl (cI, 22, .inl v_store)), (qa1, .inr (3, [.int w1, .int w2, .ref qa1_numbers])), (qa1_numbers, .inl (cI, 20, .inl w3)), (qa2, .inr (2, [.long v_seed]))] := hD
  obtain ⟨rfl, rfl, rfl, rfl⟩ := ki4 hf
  rw [hQ]
  exact k_vret hat hP hS dX6_give_17
