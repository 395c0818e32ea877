set_option maxHeartbeats 4000000 in
set_option maxRecDepth 100000 in
theorem c_X3_exchange {l : Launch} {D : va_G} {cI cJ cQ : ClassId} {tp : Nat} (q : Nat) (q_numbers : Nat) (v_n : Int32) (v_primeNumber : Int32) (v_numbers : (Nat → Int32)) (F : Nat) (x1 : Int32) (x2 : Int32) (o_v_numbers : (Nat → Int32)) (hf : f_X3_exchange F v_numbers x1 x2 = some o_v_numbers) : kM (fun A => kQv D A [(q, .inr (3, [.int v_n, .int v_primeNumber, .ref q_numbers])), (q_numbers, .inl (cI, 20, .inl o_v_numbers))]) none l yX3_exchange cX3_exchange 5 { frames := 1, cells := 0, slots := 0, locals := 23 } D cI cJ cQ tp [.ref q, .int x1, .int x2] [(q, .inr (3, [.int v_n, .int v_primeNumber, .ref q_numbers])), (q_numbers, .inl (cI, 20, .inl v_numbers))] := by
  refine kM_of (by decide +kernel) (Nat.le_of_ble_eq_true rfl) ?_
  intro p e s m args below meth c A ls R Q hR hQ hat hP hD hS hl
  obtain ⟨hx, hb, hr, hml, hown, hts, hT, hlk, hK, hA, hZ⟩ := id hat
  have hown : s.vm.findClass RX3 = some m.cls := hown
  have hl : lv_has ls 5 [(0, .ref q), (1, .int x1), (2, .int x2)] := hl
  have hL2 : ∀ (x1 : Int32) (x2 : Int32) (v_n : Int32) (v_primeNumber : Int32) (fu : Nat) (x3 : Int32) (v_numbers : (Nat → Int32)) (o0 : (Nat → Int32)), L_X3_exchange_2 x1 x2 fu x3 v_numbers = some o0 → (∀ (H : Heap) (locs : List Loc) (ls : Array Slot), va_P D vwCl [(q, .inr (3, [.int v_n, .int v_primeNumber, .ref q_numbers])), (q_numbers, .inl (cI, 20, .inl o0))] H → va_D A [(q, .inr (3, [.int v_n, .int v_primeNumber, .ref q_numbers])), (q_numbers, .inl (cI, 20, .inl o0))] → va_S A s.heap H locs → lv_has ls 5 [] → W p l e R s m args below meth c H locs 0 0 Q (F0 m 41 ls [])) → ∀ (H : Heap) (locs : List Loc) (ls : Array Slot), va_P D vwCl [(q, .inr (3, [.int v_n, .int v_primeNumber, .ref q_numbers])), (q_numbers, .inl (cI, 20, .inl v_numbers))] H → va_D A [(q, .inr (3, [.int v_n, .int v_primeNumber, .ref q_numbers])), (q_numbers, .inl (cI, 20, .inl v_numbers))] → va_S A s.heap H locs → lv_has ls 5 [(0, .ref q), (1, .int x1), (2, .int x2), (3, .int x3)] → W p l e R s m args below meth c H locs 0 0 Q (F0 m 2 ls []) := by
    intro x1 x2 v_n v_primeNumber fu
    induction fu with
    | zero =>
      intro x3 v_numbers o0 hf
      cases hf
    | succ fu ih =>
      intro x3 v_numbers o0 hf hk0 H locs ls hP hD hS hl
      rw [L_X3_exchange_2] at hf
      refine lv_iload_n hx hb dX3_exchange_2 rfl (lv_at hl 3 rfl) ?_
      refine lv_iconst (v := 5) hx hb dX3_exchange_3 (by decide) ?_
      refine lv_icmp_ge (tgt := 41) hx hb dX3_exchange_4 (by decide) (fun c1 => ?_) (fun c1 => ?_)
      · have hf := kp_e hf c1
        obtain rfl := ki1 hf
        exact hk0 _ _ _ hP hD hS (lv_sub hl [] rfl)
      · have hf := kn_e hf c1
        refine lv_aload_n hx hb dX3_exchange_7 rfl (lv_at hl 0 rfl) ?_
        refine lv_iload_n hx hb dX3_exchange_8 rfl (lv_at hl 1 rfl) ?_
        refine lv_iload_n hx hb dX3_exchange_9 rfl (lv_at hl 3 rfl) ?_
        obtain ⟨r2, h3, hf⟩ := kb1_e hf
        refine k_gi (nW := 2) (ws' := [(q, .inr (3, [.int v_n, .int v_primeNumber, .ref q_numbers])), (q_numbers, .inl (cI, 20, .inl v_numbers))]) (wr := []) (k_runV (rest := []) hat hP hD hS hl.1 (c_X3_number q q_numbers v_n v_primeNumber v_numbers x1 x3 r2 h3) [0, 1] (by decide) rfl kw504 kw380 kw381 kw68 kw382 kdVX3_number ⟨rfl, rfl⟩ (by rw [hR]; exact ⟨Nat.le_of_ble_eq_true rfl, Nat.le_of_ble_eq_true rfl⟩) ⟨Nat.zero_le _, Nat.zero_le _⟩ 0 3 rfl rfl rfl rfl (Nat.le_of_ble_eq_true rfl) dX3_exchange_10) hat hP hD hS [0, 1] rfl [] rfl rfl rfl rfl rfl (by decide) (fun H locs hP hD hS => ?_)
        refine lv_istore (lv' := [(4, .int r2), (0, .ref q), (1, .int x1), (2, .int x2), (3, .int x3)]) hx hb dX3_exchange_13 hl (by decide) rfl (fun ls hl => ?_)
        refine lv_aload_n hx hb dX3_exchange_15 rfl (lv_at hl 1 rfl) ?_
        refine lv_iload_n hx hb dX3_exchange_16 rfl (lv_at hl 2 rfl) ?_
        refine lv_iload_n hx hb dX3_exchange_17 rfl (lv_at hl 4 rfl) ?_
        refine lv_aload_n hx hb dX3_exchange_18 rfl (lv_at hl 1 rfl) ?_
        refine lv_iload_n hx hb dX3_exchange_19 rfl (lv_at hl 3 rfl) ?_
        refine lv_iload_n hx hb dX3_exchange_20 rfl (lv_at hl 4 rfl) ?_
        obtain ⟨r4, h5, hf⟩ := kb1_e hf
        refine k_gi (nW := 2) (ws' := [(q, .inr (3, [.int v_n, .int v_primeNumber, .ref q_numbers])), (q_numbers, .inl (cI, 20, .inl v_numbers))]) (wr := []) (k_runV (rest := [.int x3, .int x1, .ref q]) hat hP hD hS hl.1 (c_X3_number q q_numbers v_n v_primeNumber v_numbers x2 x3 r4 h5) [0, 1] (by decide) rfl kw504 kw380 kw381 kw68 kw382 kdVX3_number ⟨rfl, rfl⟩ (by rw [hR]; exact ⟨Nat.le_of_ble_eq_true rfl, Nat.le_of_ble_eq_true rfl⟩) ⟨Nat.zero_le _, Nat.zero_le _⟩ 0 3 rfl rfl rfl rfl (Nat.le_of_ble_eq_true rfl) dX3_exchange_21) hat hP hD hS [0, 1] rfl [] rfl rfl rfl rfl rfl (by decide) (fun H locs hP hD hS => ?_)
        obtain ⟨w6, h7, hf⟩ := kb1_e hf
        refine k_gv (nW := 2) (ws' := [(q, .inr (3, [.int v_n, .int v_primeNumber, .ref q_numbers])), (q_numbers, .inl (cI, 20, .inl w6))]) (wr := []) (k_runV (rest := []) hat hP hD hS hl.1 (c_X3_set q q_numbers v_n v_primeNumber v_numbers x1 x3 r4 w6 h7) [0, 1] (by decide) rfl kw100 kw101 kw102 kw68 kw103 kdVX3_set ⟨rfl, rfl⟩ (by rw [hR]; exact ⟨Nat.le_of_ble_eq_true rfl, Nat.le_of_ble_eq_true rfl⟩) ⟨Nat.zero_le _, Nat.zero_le _⟩ 0 3 rfl rfl rfl rfl (Nat.le_of_ble_eq_true rfl) dX3_exchange_24) hat hP hD hS [0, 1] rfl [] rfl rfl rfl rfl rfl (by decide) (fun H locs hP hD hS => ?_)
        refine lv_aload_n hx hb dX3_exchange_27 rfl (lv_at hl 1 rfl) ?_
        refine lv_iload_n hx hb dX3_exchange_28 rfl (lv_at hl 3 rfl) ?_
        refine lv_iload_n hx hb dX3_exchange_29 rfl (lv_at hl 4 rfl) ?_
        refine lv_iload hx hb dX3_exchange_30 (lv_at hl 0 rfl) ?_
        obtain ⟨w8, h9, hf⟩ := kb1_e hf
        refine k_gv (nW := 2) (ws' := [(q, .inr (3, [.int v_n, .int v_primeNumber, .ref q_numbers])), (q_numbers, .inl (cI, 20, .inl w8))]) (wr := []) (k_runV (rest := []) hat hP hD hS hl.1 (c_X3_set q q_numbers v_n v_primeNumber w6 x2 x3 r2 w8 h9) [0, 1] (by decide) rfl kw100 kw101 kw102 kw68 kw103 kdVX3_set ⟨rfl, rfl⟩ (by rw [hR]; exact ⟨Nat.le_of_ble_eq_true rfl, Nat.le_of_ble_eq_true rfl⟩) ⟨Nat.zero_le _, Nat.zero_le _⟩ 0 3 rfl rfl rfl rfl (Nat.le_of_ble_eq_true rfl) dX3_exchange_32) hat hP hD hS [0, 1] rfl [] rfl rfl rfl rfl rfl (by decide) (fun H locs hP hD hS => ?_)
        obtain ⟨t10, et10⟩ : ∃ z : Int32, z = (x3 + (1 : Int32)) := ⟨_, rfl⟩
        have hf := kl_e hf t10 et10
        refine lv_iinc (v := t10) (lv' := [(3, .int t10), (4, .int r2), (0, .ref q), (1, .int x1), (2, .int x2)]) hx hb dX3_exchange_35 hl (k := 4) rfl (by rw [et10]; rfl) (by decide) rfl (fun ls hl => ?_)
        refine lv_goto (tgt := 2) hx hb dX3_exchange_38 (by decide) ?_
        exact ih t10 w8 o0 hf hk0 _ _ _ hP hD hS (lv_sub hl [2, 3, 4, 0] rfl)
  unfold f_X3_exchange at hf
  refine lv_iconst (v := 0) hx hb dX3_exchange_0 (by decide) ?_
  refine lv_istore_n (lv' := [(3, .int (0 : Int32)), (0, .ref q), (1, .int x1), (2, .int x2)]) hx hb dX3_exchange_1 rfl hl (by decide) rfl (fun ls hl => ?_)
  obtain ⟨w11, hu, hf⟩ := kb1_e hf
  refine hL2 x1 x2 v_n v_primeNumber F (0 : Int32) v_numbers w11 hu (fun H locs ls hP hD hS hl => ?_) _ _ _ hP hD hS (lv_sub hl [1, 2, 3, 0] rfl)
  obtain rfl := ki1 hf
  rw [hQ]
  exact k_vret hat hP hS dX3_exchange_41
set_option maxHeartbeats 4000000 in
set_option maxRecDepth 100000 in
theorem c_X11_swap {l : Launch} {D : va_G} {cI cJ cQ : ClassId} {tp : Nat} (q : Nat) (q_now : Nat) (q_clearing : Nat) (q_residues : Nat) (q_lifting : Nat) (q_guessed : Nat) (q_walk : Nat) (q_history : Nat) (q_book : Nat) (q_draws : Nat) (q_firstImage : Nat) (q_secondImage : Nat) (q_now_numbers : Nat) (q_history_store : Nat) (v_now_n : Int32) (v_now_primeNumber : Int32) (v_now_numbers : (Nat → Int32)) (v_history_count : Int32) (v_history_next : Int32) (v_history_store : (Nat → Int32)) (F : Nat) (x1 : Int32) (x2 : Int32) (r0 : Int32) (o_v_now_numbers : (Nat → Int32)) (o_v_history_count : Int32) (o_v_history_next : Int32) (o_v_history_store : (Nat → Int32)) (hf : f_X11_swap F v_now_n v_now_primeNumber v_now_numbers v_history_count v_history_next v_history_store x1 x2 = some (r0, o_v_now_numbers, o_v_history_count, o_v_history_next, o_v_history_store)) : kM (fun A => kQi D A [(q, .inr (10, [.ref q_now, .ref q_clearing, .ref q_residues, .ref q_lifting, .ref q_guessed, .ref q_walk, .ref q_history, .ref q_book, .ref q_draws, .ref q_firstImage, .ref q_secondImage])), (q_now, .inr (3, [.int v_now_n, .int v_now_primeNumber, .ref q_now_numbers])), (q_now_numbers, .inl (cI, 20, .inl o_v_now_numbers)), (q_history, .inr (5, [.int o_v_history_count, .int o_v_history_next, .ref q_history_store])), (q_history_store, .inl (cI, 352, .inl o_v_history_store))] r0) (some .int) l yX11_swap cX11_swap 3 { frames := 3, cells := 0, slots := 0, locals := 83 } D cI cJ cQ tp [.ref q, .int x1, .int x2] [(q, .inr (10, [.ref q_now, .ref q_clearing, .ref q_residues, .ref q_lifting, .ref q_guessed, .ref q_walk, .ref q_history, .ref q_book, .ref q_draws, .ref q_firstImage, .ref q_secondImage])), (q_now, .inr (3, [.int v_now_n, .int v_now_primeNumber, .ref q_now_numbers])), (q_now_numbers, .inl (cI, 20, .inl v_now_numbers)), (q_history, .inr (5, [.int v_history_count, .int v_history_next, .ref q_history_store])), (q_history_store, .inl (cI, 352, .inl v_history_store))] := by
  refine kM_of (by decide +kernel) (Nat.le_of_ble_eq_true rfl) ?_
  intro p e s m args below meth c A ls R Q hR hQ hat hP hD hS hl
  obtain ⟨hx, hb, hr, hml, hown, hts, hT, hlk, hK, hA, hZ⟩ := id hat
  have hown : s.vm.findClass RX11 = some m.cls := hown
  have hl : lv_has ls 3 [(0, .ref q), (1, .int x1), (2, .int x2)] := hl
  unfold f_X11_swap at hf
  refine lv_aload_n hx hb dX11_swap_0 rfl (lv_at hl 0 rfl) ?_
  refine lv_iload_n hx hb dX11_swap_1 rfl (lv_at hl 1 rfl) ?_
  refine lv_iload_n hx hb dX11_swap_2 rfl (lv_at hl 2 rfl) ?_
  obtain ⟨r1, h2, hf⟩ := kb1_e hf
  refine k_gi (nW := 5) (ws' := [(q, .inr (10, [.ref q_now, .ref q_clearing, .ref q_residues, .ref q_lifting, .ref q_guessed, .ref q_walk, .ref q_history, .ref q_book, .ref q_draws, .ref q_firstImage, .ref q_secondImage])), (q_now, .inr (3, [.int v_now_n, .int v_now_primeNumber, .ref q_now_numbers])), (q_now_numbers, .inl (cI, 20, .inl v_now_numbers)), (q_history, .inr (5, [.int v_history_count, .int v_history_next, .ref q_history_store])), (q_history_store, .inl (cI, 352, .inl v_history_store))]) (wr := [(q_now_numbers, .inl (cI, 20, .inl v_now_numbers)), (q_history, .inr (5, [.int v_history_count, .int v_history_next, .ref q_history_store])), (q_history_store, .inl (cI, 352, .inl v_history_store))]) (k_runV (rest := []) hat hP hD hS hl.1 (c_X11_areNotTwoRows q q_now q_clearing q_residues q_lifting q_guessed q_walk q_history q_book q_draws q_firstImage q_secondImage q_now_numbers v_now_n v_now_primeNumber x1 x2 r1 h2) [0, 1] (by decide) rfl kw721 kw723 kw14 kw67 kw724 kdVX11_areNotTwoRows ⟨rfl, rfl⟩ (by rw [hR]; exact ⟨Nat.le_of_ble_eq_true rfl, Nat.le_of_ble_eq_true rfl⟩) ⟨Nat.zero_le _, Nat.zero_le _⟩ 0 10 rfl rfl rfl rfl (Nat.le_of_ble_eq_true rfl) dX11_swap_3) hat hP hD hS [0, 1] rfl [2, 3, 4] rfl rfl rfl rfl rfl (by decide) (fun H locs hP hD hS => ?_)
  refine lv_if_eq (tgt := 12) hx hb dX11_swap_6 (by decide) (fun c3 => ?_) (fun c3 => ?_)
  · have hf := kp_e hf c3
    refine lv_aload_n hx hb dX11_swap_12 rfl (lv_at hl 0 rfl) ?_
    refine va_get (D := D) (ci := 10) (v := .ref q_history) (C := RX11) (T := TX11) (N := 11) hx hb hts kinX11 hown hK hP 0 rfl rfl 6 (by decide) (hts _ kw333) (fun _ h9 => h9) rfl dX11_swap_13 ?_
    refine lv_aload_n hx hb dX11_swap_16 rfl (lv_at hl 0 rfl) ?_
    refine va_get (D := D) (ci := 10) (v := .ref q_now) (C := RX11) (T := TX11) (N := 11) hx hb hts kinX11 hown hK hP 0 rfl rfl 0 (by decide) (hts _ kw327) (fun _ h9 => h9) rfl dX11_swap_17 ?_
    obtain ⟨w4, w5, w6, h7, hf⟩ := kb3_e hf
    refine k_gv (nW := 5) (ws' := [(q, .inr (10, [.ref q_now, .ref q_clearing, .ref q_residues, .ref q_lifting, .ref q_guessed, .ref q_walk, .ref q_history, .ref q_book, .ref q_draws, .ref q_firstImage, .ref q_secondImage])), (q_now, .inr (3, [.int v_now_n, .int v_now_primeNumber, .ref q_now_numbers])), (q_now_numbers, .inl (cI, 20, .inl v_now_numbers)), (q_history, .inr (5, [.int w4, .int w5, .ref q_history_store])), (q_history_store, .inl (cI, 352, .inl w6))]) (wr := [(q, .inr (10, [.ref q_now, .ref q_clearing, .ref q_residues, .ref q_lifting, .ref q_guessed, .ref q_walk, .ref q_history, .ref q_book, .ref q_draws, .ref q_firstImage, .ref q_secondImage]))]) (k_runV (rest := []) hat hP hD hS hl.1 (c_X5_remember q_history q_now q_history_store q_now_numbers v_history_count v_history_next v_history_store v_now_n v_now_primeNumber v_now_numbers w4 w5 w6 h7) [3, 4, 1, 2] (by decide) rfl kw689 kw690 kw691 kw75 kw692 kdVX5_remember ⟨rfl, rfl⟩ (by rw [hR]; exact ⟨Nat.le_of_ble_eq_true rfl, Nat.le_of_ble_eq_true rfl⟩) ⟨Nat.zero_le _, Nat.zero_le _⟩ 3 5 rfl rfl rfl rfl (Nat.le_of_ble_eq_true rfl) dX11_swap_20) hat hP hD hS [3, 4, 1, 2] rfl [0] rfl rfl rfl rfl rfl (by decide) (fun H locs hP hD hS => ?_)
    refine lv_aload_n hx hb dX11_swap_23 rfl (lv_at hl 0 rfl) ?_
    refine va_get (D := D) (ci := 10) (v := .ref q_now) (C := RX11) (T := TX11) (N := 11) hx hb hts kinX11 hown hK hP 0 rfl rfl 0 (by decide) (hts _ kw327) (fun _ h9 => h9) rfl dX11_swap_24 ?_
    refine lv_iload_n hx hb dX11_swap_27 rfl (lv_at hl 1 rfl) ?_
    refine lv_iload_n hx hb dX11_swap_28 rfl (lv_at hl 2 rfl) ?_
    obtain ⟨w8, h9, hf⟩ := kb1_e hf
    refine k_gv (nW := 5) (ws' := [(q, .inr (10, [.ref q_now, .ref q_clearing, .ref q_residues, .ref q_lifting, .ref q_guessed, .ref q_walk, .ref q_history, .ref q_book, .ref q_draws, .ref q_firstImage, .ref q_secondImage])), (q_now, .inr (3, [.int v_now_n, .int v_now_primeNumber, .ref q_now_numbers])), (q_now_numbers, .inl (cI, 20, .inl w8)), (q_history, .inr (5, [.int w4, .int w5, .ref q_history_store])), (q_history_store, .inl (cI, 352, .inl w6))]) (wr := [(q, .inr (10, [.ref q_now, .ref q_clearing, .ref q_residues, .ref q_lifting, .ref q_guessed, .ref q_walk, .ref q_history, .ref q_book, .ref q_draws, .ref q_firstImage, .ref q_secondImage])), (q_history, .inr (5, [.int w4, .int w5, .ref q_history_store])), (q_history_store, .inl (cI, 352, .inl w6))]) (k_runV (rest := []) hat hP hD hS hl.1 (c_X3_exchange q_now q_now_numbers v_now_n v_now_primeNumber v_now_numbers F x1 x2 w8 h9) [1, 2] (by decide) rfl kw725 kw726 kw727 kw68 kw728 kdVX3_exchange ⟨rfl, rfl⟩ (by rw [hR]; exact ⟨Nat.le_of_ble_eq_true rfl, Nat.le_of_ble_eq_true rfl⟩) ⟨Nat.zero_le _, Nat.zero_le _⟩ 1 3 rfl rfl rfl rfl (Nat.le_of_ble_eq_true rfl) dX11_swap_29) hat hP hD hS [1, 2] rfl [0, 3, 4] rfl rfl rfl rfl rfl (by decide) (fun H locs hP hD hS => ?_)
    refine lv_iconst (v := 1) hx hb dX11_swap_32 (by decide) ?_
    obtain ⟨rfl, rfl, rfl, rfl, rfl⟩ := ki5 hf
    rw [hQ]
    exact k_iret hat hP hS rfl dX11_swap_33
  · have hf := kn_e hf c3
    refine lv_ldc hx hb hown (hts _ kw584) dX11_swap_9 ?_
    obtain ⟨rfl, rfl, rfl, rfl, rfl⟩ := ki5 hf
    rw [hQ]
    exact k_iret hat hP hS rfl dX11_swap_11
set_option maxHeartbeats 4000000 in
set_option maxRecDepth 100000 in
theorem c_X3_canAdd {l : Launch} {D : va_G} {cI cJ cQ : ClassId} {tp : Nat} (q : Nat) (q_numbers : Nat) (v_n : Int32) (v_primeNumber : Int32) (v_numbers : (Nat → Int32)) (F : Nat) (x1 : Int32) (x2 : Int32) (x3 : Int32) (r0 : Int32) (hf : f_X3_canAdd F v_numbers x1 x2 x3 = some r0) : kM (fun A => kQi D A [(q, .inr (3, [.int v_n, .int v_primeNumber, .ref q_numbers])), (q_numbers, .inl (cI, 20, .inl v_numbers))] r0) (some .boolean) l yX3_canAdd cX3_canAdd 6 { frames := 1, cells := 0, slots := 0, locals := 40 } D cI cJ cQ tp [.ref q, .int x1, .int x2, .int x3] [(q, .inr (3, [.int v_n, .int v_primeNumber, .ref q_numbers])), (q_numbers, .inl (cI, 20, .inl v_numbers))] := by
  refine kM_of (by decide +kernel) (Nat.le_of_ble_eq_true rfl) ?_
  intro p e s m args below meth c A ls R Q hR hQ hat hP hD hS hl
  obtain ⟨hx, hb, hr, hml, hown, hts, hT, hlk, hK, hA, hZ⟩ := id hat
  have hown : s.vm.findClass RX3 = some m.cls := hown
  have hl : lv_has ls 6 [(0, .ref q), (1, .int x1), (2, .int x2), (3, .int x3)] := hl
  have hL3 : ∀ (x1 : Int32) (x2 : Int32) (x3 : Int32) (v_n : Int32) (v_primeNumber : Int32) (v_numbers : (Nat → Int32)) (fu : Nat) (x4 : Int32) (u : Unit ⊕ Unit), L_X3_canAdd_3 x1 x2 x3 v_numbers fu x4 = some u → (u = .inl () → ∀ (H : Heap) (locs : List Loc) (ls : Array Slot), va_P D vwCl [(q, .inr (3, [.int v_n, .int v_primeNumber, .ref q_numbers])), (q_numbers, .inl (cI, 20, .inl v_numbers))] H → va_D A [(q, .inr (3, [.int v_n, .int v_primeNumber, .ref q_numbers])), (q_numbers, .inl (cI, 20, .inl v_numbers))] → va_S A s.heap H locs → lv_has ls 6 [] → W p l e R s m args below meth c H locs 0 0 Q (F0 m 49 ls [])) → (u = .inr () → ∀ (H : Heap) (locs : List Loc) (ls : Array Slot), va_P D vwCl [(q, .inr (3, [.int v_n, .int v_primeNumber, .ref q_numbers])), (q_numbers, .inl (cI, 20, .inl v_numbers))] H → va_D A [(q, .inr (3, [.int v_n, .int v_primeNumber, .ref q_numbers])), (q_numbers, .inl (cI, 20, .inl v_numbers))] → va_S A s.heap H locs → lv_has ls 6 [] → W p l e R s m args below meth c H locs 0 0 Q (F0 m 57 ls [])) → ∀ (H : Heap) (locs : List Loc) (ls : Array Slot), va_P D vwCl [(q, .inr (3, [.int v_n, .int v_primeNumber, .ref q_numbers])), (q_numbers, .inl (cI, 20, .inl v_numbers))] H → va_D A [(q, .inr (3, [.int v_n, .int v_primeNumber, .ref q_numbers])), (q_numbers, .inl (cI, 20, .inl v_numbers))] → va_S A s.heap H locs → lv_has ls 6 [(0, .ref q), (1, .int x1), (2, .int x2), (3, .int x3), (4, .int x4)] → W p l e R s m args below meth c H locs 0 0 Q (F0 m 3 ls []) := by
    intro x1 x2 x3 v_n v_primeNumber v_numbers fu
    induction fu with
    | zero =>
      intro x4 u hf
      cases hf
    | succ fu ih =>
      intro x4 u hf hk0 hk1 H locs ls hP hD hS hl
      rw [L_X3_canAdd_3] at hf
      refine lv_iload hx hb dX3_canAdd_3 (lv_at hl 4 rfl) ?_
      refine lv_iconst (v := 5) hx hb dX3_canAdd_5 (by decide) ?_
      refine lv_icmp_ge (tgt := 57) hx hb dX3_canAdd_6 (by decide) (fun c1 => ?_) (fun c1 => ?_)
      · have hf := kp_e hf c1
        exact hk1  (Option.some.inj hf).symm _ _ _ hP hD hS (lv_sub hl [] rfl)
      · have hf := kn_e hf c1
        refine lv_iload hx hb dX3_canAdd_9 (lv_at hl 4 rfl) ?_
        refine lv_iconst (v := 4) hx hb dX3_canAdd_11 (by decide) ?_
        obtain ⟨J3, hJ3_, hf⟩ := kj1_e hf
        have hJ3 : ∀ (t2 : Int32), J3 t2 = some u → ∀ (H : Heap) (locs : List Loc) (ls : Array Slot), va_P D vwCl [(q, .inr (3, [.int v_n, .int v_primeNumber, .ref q_numbers])), (q_numbers, .inl (cI, 20, .inl v_numbers))] H → va_D A [(q, .inr (3, [.int v_n, .int v_primeNumber, .ref q_numbers])), (q_numbers, .inl (cI, 20, .inl v_numbers))] → va_S A s.heap H locs → lv_has ls 6 [(0, .ref q), (1, .int x1), (2, .int x2), (3, .int x3), (4, .int x4)] → W p l e R s m args below meth c H locs 0 0 Q (F0 m 22 ls [.int t2]) := by
          intro t2 hf H locs ls hP hD hS hl
          rw [hJ3_] at hf
          refine lv_istore (lv' := [(5, .int t2), (0, .ref q), (1, .int x1), (2, .int x2), (3, .int x3), (4, .int x4)]) hx hb dX3_canAdd_22 hl (by decide) rfl (fun ls hl => ?_)
          refine lv_aload_n hx hb dX3_canAdd_24 rfl (lv_at hl 1 rfl) ?_
          refine lv_iload_n hx hb dX3_canAdd_25 rfl (lv_at hl 2 rfl) ?_
          refine lv_iload hx hb dX3_canAdd_26 (lv_at hl 5 rfl) ?_
          obtain ⟨r4, h5, hf⟩ := kb1_e hf
          refine k_gi (nW := 2) (ws' := [(q, .inr (3, [.int v_n, .int v_primeNumber, .ref q_numbers])), (q_numbers, .inl (cI, 20, .inl v_numbers))]) (wr := []) (k_runV (rest := []) hat hP hD hS hl.1 (c_X3_number q q_numbers v_n v_primeNumber v_numbers x1 x4 r4 h5) [0, 1] (by decide) rfl kw504 kw380 kw381 kw68 kw382 kdVX3_number ⟨rfl, rfl⟩ (by rw [hR]; exact ⟨Nat.le_of_ble_eq_true rfl, Nat.le_of_ble_eq_true rfl⟩) ⟨Nat.zero_le _, Nat.zero_le _⟩ 0 3 rfl rfl rfl rfl (Nat.le_of_ble_eq_true rfl) dX3_canAdd_28) hat hP hD hS [0, 1] rfl [] rfl rfl rfl rfl rfl (by decide) (fun H locs hP hD hS => ?_)
          refine lv_iload_n hx hb dX3_canAdd_31 rfl (lv_at hl 4 rfl) ?_
          refine lv_aload_n hx hb dX3_canAdd_32 rfl (lv_at hl 1 rfl) ?_
          refine lv_iload_n hx hb dX3_canAdd_33 rfl (lv_at hl 3 rfl) ?_
          refine lv_iload hx hb dX3_canAdd_34 (lv_at hl 5 rfl) ?_
          obtain ⟨r6, h7, hf⟩ := kb1_e hf
          refine k_gi (nW := 2) (ws' := [(q, .inr (3, [.int v_n, .int v_primeNumber, .ref q_numbers])), (q_numbers, .inl (cI, 20, .inl v_numbers))]) (wr := []) (k_runV (rest := [.int x3, .int r4]) hat hP hD hS hl.1 (c_X3_number q q_numbers v_n v_primeNumber v_numbers x2 x4 r6 h7) [0, 1] (by decide) rfl kw504 kw380 kw381 kw68 kw382 kdVX3_number ⟨rfl, rfl⟩ (by rw [hR]; exact ⟨Nat.le_of_ble_eq_true rfl, Nat.le_of_ble_eq_true rfl⟩) ⟨Nat.zero_le _, Nat.zero_le _⟩ 0 3 rfl rfl rfl rfl (Nat.le_of_ble_eq_true rfl) dX3_canAdd_36) hat hP hD hS [0, 1] rfl [] rfl rfl rfl rfl rfl (by decide) (fun H locs hP hD hS => ?_)
          refine lv_imul hx hb dX3_canAdd_39 ?_
          refine lv_iadd hx hb dX3_canAdd_40 ?_
          refine va_mabs hx hb (hml.trans hl.1.symm) hown (hts _ kw737) (hts _ kw738) (hts _ kw80) (hts _ kw739) (by rw [hR]; exact Nat.le_of_ble_eq_true rfl) (by rw [hR]; exact Nat.le_of_ble_eq_true rfl) (Nat.zero_le _) (Nat.zero_le _) dX3_canAdd_41 ?_
          refine lv_iload hx hb dX3_canAdd_44 (lv_at hl 0 rfl) ?_
          refine lv_icmp_le (tgt := 51) hx hb dX3_canAdd_46 (by decide) (fun c8 => ?_) (fun c8 => ?_)
          · have hf := kp_e hf c8
            obtain ⟨t9, et9⟩ : ∃ z : Int32, z = (x4 + (1 : Int32)) := ⟨_, rfl⟩
            have hf := kl_e hf t9 et9
            refine lv_iinc (v := t9) (lv' := [(4, .int t9), (5, .int t2), (0, .ref q), (1, .int x1), (2, .int x2), (3, .int x3)]) hx hb dX3_canAdd_51 hl (k := 5) rfl (by rw [et9]; rfl) (by decide) rfl (fun ls hl => ?_)
            refine lv_goto (tgt := 3) hx hb dX3_canAdd_54 (by decide) ?_
            exact ih t9 u hf hk0 hk1 _ _ _ hP hD hS (lv_sub hl [2, 3, 4, 5, 0] rfl)
          · have hf := kn_e hf c8
            exact hk0  (Option.some.inj hf).symm _ _ _ hP hD hS (lv_sub hl [] rfl)
        refine lv_icmp_ne (tgt := 20) hx hb dX3_canAdd_12 (by decide) (fun c10 => ?_) (fun c10 => ?_)
        · have hf := kn_e hf c10
          refine lv_bipush (v := 9) hx hb dX3_canAdd_20 (by decide) ?_
          exact hJ3 (9 : Int32) hf _ _ _ hP hD hS hl
        · have hf := kp_e hf c10
          refine lv_bipush (v := 99) hx hb dX3_canAdd_15 (by decide) ?_
          refine lv_goto (tgt := 22) hx hb dX3_canAdd_17 (by decide) ?_
          exact hJ3 (99 : Int32) hf _ _ _ hP hD hS hl
  unfold f_X3_canAdd at hf
  refine lv_iconst (v := 0) hx hb dX3_canAdd_0 (by decide) ?_
  refine lv_istore (lv' := [(4, .int (0 : Int32)), (0, .ref q), (1, .int x1), (2, .int x2), (3, .int x3)]) hx hb dX3_canAdd_1 hl (by decide) rfl (fun ls hl => ?_)
  obtain ⟨u11, hu, hf0, hf1⟩ := ks_e hf
  refine hL3 x1 x2 x3 v_n v_primeNumber v_numbers F (0 : Int32) u11 hu (fun hu2 H locs ls hP hD hS hl => ?_) (fun hu2 H locs ls hP hD hS hl => ?_) _ _ _ hP hD hS (lv_sub hl [1, 2, 3, 4, 0] rfl)
  · have hf := hf0 _ hu2
    refine lv_iconst (v := 0) hx hb dX3_canAdd_49 (by decide) ?_
    obtain rfl := ki1 hf
    rw [hQ]
    exact k_zret hat hP hS rfl (by decide) dX3_canAdd_50
  · have hf := hf1 _ hu2
    refine lv_iconst (v := 1) hx hb dX3_canAdd_57 (by decide) ?_
    obtain rfl := ki1 hf
    rw [hQ]
    exact k_zret hat hP hS rfl (by decide) dX3_canAdd_58
set_option maxHeartbeats 4000000 in
set_option maxRecDepth 100000 in
theorem c_X3_add {l : Launch} {D : va_G} {cI cJ cQ : ClassId} {tp : Nat} (q : Nat) (q_numbers : Nat) (v_n : Int32) (v_primeNumber : Int32) (v_numbers : (Nat → Int32)) (F : Nat) (x1 : Int32) (x2 : Int32) (x3 : Int32) (o_v_numbers : (Nat → Int32)) (hf : f_X3_add F v_numbers x1 x2 x3 = some o_v_numbers) : kM (fun A => kQv D A [(q, .inr (3, [.int v_n, .int v_primeNumber, .ref q_numbers])), (q_numbers, .inl (cI, 20, .inl o_v_numbers))]) none l yX3_add cX3_add 5 { frames := 1, cells := 0, slots := 0, locals := 23 } D cI cJ cQ tp [.ref q, .int x1, .int x2, .int x3] [(q, .inr (3, [.int v_n, .int v_primeNumber, .ref q_numbers])), (q_numbers, .inl (cI, 20, .inl v_numbers))] := by
  refine kM_of (by decide +kernel) (Nat.le_of_ble_eq_true rfl) ?_
  intro p e s m args below meth c A ls R Q hR hQ hat hP hD hS hl
  obtain ⟨hx, hb, hr, hml, hown, hts, hT, hlk, hK, hA, hZ⟩ := id hat
  have hown : s.vm.findClass RX3 = some m.cls := hown
  have hl : lv_has ls 5 [(0, .ref q), (1, .int x1), (2, .int x2), (3, .int x3)] := hl
  have hL3 : ∀ (x1 : Int32) (x2 : Int32) (x3 : Int32) (v_n : Int32) (v_primeNumber : Int32) (fu : Nat) (x4 : Int32) (v_numbers : (Nat → Int32)) (o0 : (Nat → Int32)), L_X3_add_3 x1 x2 x3 fu x4 v_numbers = some o0 → (∀ (H : Heap) (locs : List Loc) (ls : Array Slot), va_P D vwCl [(q, .inr (3, [.int v_n, .int v_primeNumber, .ref q_numbers])), (q_numbers, .inl (cI, 20, .inl o0))] H → va_D A [(q, .inr (3, [.int v_n, .int v_primeNumber, .ref q_numbers])), (q_numbers, .inl (cI, 20, .inl o0))] → va_S A s.heap H locs → lv_has ls 5 [] → W p l e R s m args below meth c H locs 0 0 Q (F0 m 39 ls [])) → ∀ (H : Heap) (locs : List Loc) (ls : Array Slot), va_P D vwCl [(q, .inr (3, [.int v_n, .int v_primeNumber, .ref q_numbers])), (q_numbers, .inl (cI, 20, .inl v_numbers))] H → va_D A [(q, .inr (3, [.int v_n, .int v_primeNumber, .ref q_numbers])), (q_numbers, .inl (cI, 20, .inl v_numbers))] → va_S A s.heap H locs → lv_has ls 5 [(0, .ref q), (1, .int x1), (2, .int x2), (3, .int x3), (4, .int x4)] → W p l e R s m args below meth c H locs 0 0 Q (F0 m 3 ls []) := by
    intro x1 x2 x3 v_n v_primeNumber fu
    induction fu with
    | zero =>
      intro x4 v_numbers o0 hf
      cases hf
    | succ fu ih =>
      intro x4 v_numbers o0 hf hk0 H locs ls hP hD hS hl
      rw [L_X3_add_3] at hf
      refine lv_iload hx hb dX3_add_3 (lv_at hl 4 rfl) ?_
      refine lv_iconst (v := 5) hx hb dX3_add_5 (by decide) ?_
      refine lv_icmp_ge (tgt := 39) hx hb dX3_add_6 (by decide) (fun c1 => ?_) (fun c1 => ?_)
      · have hf := kp_e hf c1
        obtain rfl := ki1 hf
        exact hk0 _ _ _ hP hD hS (lv_sub hl [] rfl)
      · have hf := kn_e hf c1
        refine lv_aload_n hx hb dX3_add_9 rfl (lv_at hl 0 rfl) ?_
        refine lv_iload_n hx hb dX3_add_10 rfl (lv_at hl 1 rfl) ?_
        refine lv_iload hx hb dX3_add_11 (lv_at hl 4 rfl) ?_
        refine lv_aload_n hx hb dX3_add_13 rfl (lv_at hl 0 rfl) ?_
        refine lv_iload_n hx hb dX3_add_14 rfl (lv_at hl 1 rfl) ?_
        refine lv_iload hx hb dX3_add_15 (lv_at hl 4 rfl) ?_
        obtain ⟨r2, h3, hf⟩ := kb1_e hf
        refine k_gi (nW := 2) (ws' := [(q, .inr (3, [.int v_n, .int v_primeNumber, .ref q_numbers])), (q_numbers, .inl (cI, 20, .inl v_numbers))]) (wr := []) (k_runV (rest := [.int x4, .int x1, .ref q]) hat hP hD hS hl.1 (c_X3_number q q_numbers v_n v_primeNumber v_numbers x1 x4 r2 h3) [0, 1] (by decide) rfl kw504 kw380 kw381 kw68 kw382 kdVX3_number ⟨rfl, rfl⟩ (by rw [hR]; exact ⟨Nat.le_of_ble_eq_true rfl, Nat.le_of_ble_eq_true rfl⟩) ⟨Nat.zero_le _, Nat.zero_le _⟩ 0 3 rfl rfl rfl rfl (Nat.le_of_ble_eq_true rfl) dX3_add_17) hat hP hD hS [0, 1] rfl [] rfl rfl rfl rfl rfl (by decide) (fun H locs hP hD hS => ?_)
        refine lv_iload_n hx hb dX3_add_20 rfl (lv_at hl 3 rfl) ?_
        refine lv_aload_n hx hb dX3_add_21 rfl (lv_at hl 0 rfl) ?_
        refine lv_iload_n hx hb dX3_add_22 rfl (lv_at hl 2 rfl) ?_
        refine lv_iload hx hb dX3_add_23 (lv_at hl 4 rfl) ?_
        obtain ⟨r4, h5, hf⟩ := kb1_e hf
        refine k_gi (nW := 2) (ws' := [(q, .inr (3, [.int v_n, .int v_primeNumber, .ref q_numbers])), (q_numbers, .inl (cI, 20, .inl v_numbers))]) (wr := []) (k_runV (rest := [.int x3, .int r2, .int x4, .int x1, .ref q]) hat hP hD hS hl.1 (c_X3_number q q_numbers v_n v_primeNumber v_numbers x2 x4 r4 h5) [0, 1] (by decide) rfl kw504 kw380 kw381 kw68 kw382 kdVX3_number ⟨rfl, rfl⟩ (by rw [hR]; exact ⟨Nat.le_of_ble_eq_true rfl, Nat.le_of_ble_eq_true rfl⟩) ⟨Nat.zero_le _, Nat.zero_le _⟩ 0 3 rfl rfl rfl rfl (Nat.le_of_ble_eq_true rfl) dX3_add_25) hat hP hD hS [0, 1] rfl [] rfl rfl rfl rfl rfl (by decide) (fun H locs hP hD hS => ?_)
        refine lv_imul hx hb dX3_add_28 ?_
        refine lv_iadd hx hb dX3_add_29 ?_
        obtain ⟨w6, h7, hf⟩ := kb1_e hf
        refine k_gv (nW := 2) (ws' := [(q, .inr (3, [.int v_n, .int v_primeNumber, .ref q_numbers])), (q_numbers, .inl (cI, 20, .inl w6))]) (wr := []) (k_runV (rest := []) hat hP hD hS hl.1 (c_X3_set q q_numbers v_n v_primeNumber v_numbers x1 x4 (r2 + (x3 * r4)) w6 h7) [0, 1] (by decide) rfl kw100 kw101 kw102 kw68 kw103 kdVX3_set ⟨rfl, rfl⟩ (by rw [hR]; exact ⟨Nat.le_of_ble_eq_true rfl, Nat.le_of_ble_eq_true rfl⟩) ⟨Nat.zero_le _, Nat.zero_le _⟩ 0 3 rfl rfl rfl rfl (Nat.le_of_ble_eq_true rfl) dX3_add_30) hat hP hD hS [0, 1] rfl [] rfl rfl rfl rfl rfl (by decide) (fun H locs hP hD hS => ?_)
        obtain ⟨t8, et8⟩ : ∃ z : Int32, z = (x4 + (1 : Int32)) := ⟨_, rfl⟩
        have hf := kl_e hf t8 et8
        refine lv_iinc (v := t8) (lv' := [(4, .int t8), (0, .ref q), (1, .int x1), (2, .int x2), (3, .int x3)]) hx hb dX3_add_33 hl (k := 4) rfl (by rw [et8]; rfl) (by decide) rfl (fun ls hl => ?_)
        refine lv_goto (tgt := 3) hx hb dX3_add_36 (by decide) ?_
        exact ih t8 w6 o0 hf hk0 _ _ _ hP hD hS (lv_sub hl [1, 2, 3, 4, 0] rfl)
  unfold f_X3_add at hf
  refine lv_iconst (v := 0) hx hb dX3_add_0 (by decide) ?_
  refine lv_istore (lv' := [(4, .int (0 : Int32)), (0, .ref q), (1, .int x1), (2, .int x2), (3, .int x3)]) hx hb dX3_add_1 hl (by decide) rfl (fun ls hl => ?_)
  obtain ⟨w9, hu, hf⟩ := kb1_e hf
  refine hL3 x1 x2 x3 v_n v_primeNumber F (0 : Int32) v_numbers w9 hu (fun H locs ls hP hD hS hl => ?_) _ _ _ hP hD hS (lv_sub hl [1, 2, 3, 4, 0] rfl)
  obtain rfl := ki1 hf
  rw [hQ]
  exact k_vret hat hP hS dX3_add_39
set_option maxHeartbeats 4000000 in
set_option maxRecDepth 100000 in
theorem c_X11_mix {l : Launch} {D : va_G} {cI cJ cQ : ClassId} {tp : Nat} (q : Nat) (q_now : Nat) (q_clearing : Nat) (q_residues : Nat) (q_lifting : Nat) (q_guessed : Nat) (q_walk : Nat) (q_history : Nat) (q_book : Nat) (q_draws : Nat) (q_firstImage : Nat) (q_secondImage : Nat) (q_now_numbers : Nat) (q_history_store : Nat) (v_now_n : Int32) (v_now_primeNumber : Int32) (v_now_numbers : (Nat → Int32)) (v_history_count : Int32) (v_history_next : Int32) (v_history_store : (Nat → Int32)) (F : Nat) (x1 : Int32) (x2 : Int32) (x3 : Int32) (r0 : Int32) (o_v_now_numbers : (Nat → Int32)) (o_v_history_count : Int32) (o_v_history_next : Int32) (o_v_history_store : (Nat → Int32)) (hf : f_X11_mix F v_now_n v_now_primeNumber v_now_numbers v_history_count v_history_next v_history_store x1 x2 x3 = some (r0, o_v_now_numbers, o_v_history_count, o_v_history_next, o_v_history_store)) : kM (fun A => kQi D A [(q, .inr (10, [.ref q_now, .ref q_clearing, .ref q_residues, .ref q_lifting, .ref q_guessed, .ref q_walk, .ref q_history, .ref q_book, .ref q_draws, .ref q_firstImage, .ref q_secondImage])), (q_now, .inr (3, [.int v_now_n, .int v_now_primeNumber, .ref q_now_numbers])), (q_now_numbers, .inl (cI, 20, .inl o_v_now_numbers)), (q_history, .inr (5, [.int o_v_history_count, .int o_v_history_next, .ref q_history_store])), (q_history_store, .inl (cI, 352, .inl o_v_history_store))] r0) (some .int) l yX11_mix cX11_mix 4 { frames := 3, cells := 0, slots := 0, locals := 83 } D cI cJ cQ tp [.ref q, .int x1, .int x2, .int x3] [(q, .inr (10, [.ref q_now, .ref q_clearing, .ref q_residues, .ref q_lifting, .ref q_guessed, .ref q_walk, .ref q_history, .ref q_book, .ref q_draws, .ref q_firstImage, .ref q_secondImage])), (q_now, .inr (3, [.int v_now_n, .int v_now_primeNumber, .ref q_now_numbers])), (q_now_numbers, .inl (cI, 20, .inl v_now_numbers)), (q_history, .inr (5, [.int v_history_count, .int v_history_next, .ref q_history_store])), (q_history_store, .inl (cI, 352, .inl v_history_store))] := by
  refine kM_of (by decide +kernel) (Nat.le_of_ble_eq_true rfl) ?_
  intro p e s m args below meth c A ls R Q hR hQ hat hP hD hS hl
  obtain ⟨hx, hb, hr, hml, hown, hts, hT, hlk, hK, hA, hZ⟩ := id hat
  have hown : s.vm.findClass RX11 = some m.cls := hown
  have hl : lv_has ls 4 [(0, .ref q), (1, .int x1), (2, .int x2), (3, .int x3)] := hl
  unfold f_X11_mix at hf
  refine lv_aload_n hx hb dX11_mix_0 rfl (lv_at hl 0 rfl) ?_
  refine lv_iload_n hx hb dX11_mix_1 rfl (lv_at hl 1 rfl) ?_
  refine lv_iload_n hx hb dX11_mix_2 rfl (lv_at hl 2 rfl) ?_
  obtain ⟨r1, h2, hf⟩ := kb1_e hf
  refine k_gi (nW := 5) (ws' := [(q, .inr (10, [.ref q_now, .ref q_clearing, .ref q_residues, .ref q_lifting, .ref q_guessed, .ref q_walk, .ref q_history, .ref q_book, .ref q_draws, .ref q_firstImage, .ref q_secondImage])), (q_now, .inr (3, [.int v_now_n, .int v_now_primeNumber, .ref q_now_numbers])), (q_now_numbers, .inl (cI, 20, .inl v_now_numbers)), (q_history, .inr (5, [.int v_history_count, .int v_history_next, .ref q_history_store])), (q_history_store, .inl (cI, 352, .inl v_history_store))]) (wr := [(q_now_numbers, .inl (cI, 20, .inl v_now_numbers)), (q_history, .inr (5, [.int v_history_count, .int v_history_next, .ref q_history_store])), (q_history_store, .inl (cI, 352, .inl v_history_store))]) (k_runV (rest := []) hat hP hD hS hl.1 (c_X11_areNotTwoRows q q_now q_clearing q_residues q_lifting q_guessed q_walk q_history q_book q_draws q_firstImage q_secondImage q_now_numbers v_now_n v_now_primeNumber x1 x2 r1 h2) [0, 1] (by decide) rfl kw721 kw723 kw14 kw67 kw724 kdVX11_areNotTwoRows ⟨rfl, rfl⟩ (by rw [hR]; exact ⟨Nat.le_of_ble_eq_true rfl, Nat.le_of_ble_eq_true rfl⟩) ⟨Nat.zero_le _, Nat.zero_le _⟩ 0 10 rfl rfl rfl rfl (Nat.le_of_ble_eq_true rfl) dX11_mix_3) hat hP hD hS [0, 1] rfl [2, 3, 4] rfl rfl rfl rfl rfl (by decide) (fun H locs hP hD hS => ?_)
  refine lv_if_eq (tgt := 12) hx hb dX11_mix_6 (by decide) (fun c3 => ?_) (fun c3 => ?_)
  · have hf := kp_e hf c3
    refine lv_iload_n hx hb dX11_mix_12 rfl (lv_at hl 3 rfl) ?_
    refine lv_bipush (v := -3) hx hb dX11_mix_13 (by decide) ?_
    refine lv_icmp_lt (tgt := 23) hx hb dX11_mix_15 (by decide) (fun c4 => ?_) (fun c4 => ?_)
    · have hf := kp_e hf c4
      refine lv_ldc hx hb hown (hts _ kw575) dX11_mix_23 ?_
      obtain ⟨rfl, rfl, rfl, rfl, rfl⟩ := ki5 hf
      rw [hQ]
      exact k_iret hat hP hS rfl dX11_mix_25
    · have hf := kn_e hf c4
      refine lv_iload_n hx hb dX11_mix_18 rfl (lv_at hl 3 rfl) ?_
      refine lv_iconst (v := 3) hx hb dX11_mix_19 (by decide) ?_
      refine lv_icmp_le (tgt := 26) hx hb dX11_mix_20 (by decide) (fun c5 => ?_) (fun c5 => ?_)
      · have hf := kp_e hf c5
        refine lv_aload_n hx hb dX11_mix_26 rfl (lv_at hl 0 rfl) ?_
        refine va_get (D := D) (ci := 10) (v := .ref q_now) (C := RX11) (T := TX11) (N := 11) hx hb hts kinX11 hown hK hP 0 rfl rfl 0 (by decide) (hts _ kw327) (fun _ h9 => h9) rfl dX11_mix_27 ?_
        refine lv_iload_n hx hb dX11_mix_30 rfl (lv_at hl 1 rfl) ?_
        refine lv_iload_n hx hb dX11_mix_31 rfl (lv_at hl 2 rfl) ?_
        refine lv_iload_n hx hb dX11_mix_32 rfl (lv_at hl 3 rfl) ?_
        obtain ⟨r6, h7, hf⟩ := kb1_e hf
        refine k_gi (nW := 5) (ws' := [(q, .inr (10, [.ref q_now, .ref q_clearing, .ref q_residues, .ref q_lifting, .ref q_guessed, .ref q_walk, .ref q_history, .ref q_book, .ref q_draws, .ref q_firstImage, .ref q_secondImage])), (q_now, .inr (3, [.int v_now_n, .int v_now_primeNumber, .ref q_now_numbers])), (q_now_numbers, .inl (cI, 20, .inl v_now_numbers)), (q_history, .inr (5, [.int v_history_count, .int v_history_next, .ref q_history_store])), (q_history_store, .inl (cI, 352, .inl v_history_store))]) (wr := [(q, .inr (10, [.ref q_now, .ref q_clearing, .ref q_residues, .ref q_lifting, .ref q_guessed, .ref q_walk, .ref q_history, .ref q_book, .ref q_draws, .ref q_firstImage, .ref q_secondImage])), (q_history, .inr (5, [.int v_history_count, .int v_history_next, .ref q_history_store])), (q_history_store, .inl (cI, 352, .inl v_history_store))]) (k_runV (rest := []) hat hP hD hS hl.1 (c_X3_canAdd q_now q_now_numbers v_now_n v_now_primeNumber v_now_numbers F x1 x2 x3 r6 h7) [1, 2] (by decide) rfl kw733 kw734 kw735 kw68 kw736 kdVX3_canAdd ⟨rfl, rfl⟩ (by rw [hR]; exact ⟨Nat.le_of_ble_eq_true rfl, Nat.le_of_ble_eq_true rfl⟩) ⟨Nat.zero_le _, Nat.zero_le _⟩ 1 3 rfl rfl rfl rfl (Nat.le_of_ble_eq_true rfl) dX11_mix_33) hat hP hD hS [1, 2] rfl [0, 3, 4] rfl rfl rfl rfl rfl (by decide) (fun H locs hP hD hS => ?_)
        refine lv_if_ne (tgt := 42) hx hb dX11_mix_36 (by decide) (fun c8 => ?_) (fun c8 => ?_)
        · have hf := kn_e hf c8
          refine lv_aload_n hx hb dX11_mix_42 rfl (lv_at hl 0 rfl) ?_
          refine va_get (D := D) (ci := 10) (v := .ref q_history) (C := RX11) (T := TX11) (N := 11) hx hb hts kinX11 hown hK hP 0 rfl rfl 6 (by decide) (hts _ kw333) (fun _ h9 => h9) rfl dX11_mix_43 ?_
          refine lv_aload_n hx hb dX11_mix_46 rfl (lv_at hl 0 rfl) ?_
          refine va_get (D := D) (ci := 10) (v := .ref q_now) (C := RX11) (T := TX11) (N := 11) hx hb hts kinX11 hown hK hP 0 rfl rfl 0 (by decide) (hts _ kw327) (fun _ h9 => h9) rfl dX11_mix_47 ?_
          obtain ⟨w9, w10, w11, h12, hf⟩ := kb3_e hf
          refine k_gv (nW := 5) (ws' := [(q, .inr (10, [.ref q_now, .ref q_clearing, .ref q_residues, .ref q_lifting, .ref q_guessed, .ref q_walk, .ref q_history, .ref q_book, .ref q_draws, .ref q_firstImage, .ref q_secondImage])), (q_now, .inr (3, [.int v_now_n, .int v_now_primeNumber, .ref q_now_numbers])), (q_now_numbers, .inl (cI, 20, .inl v_now_numbers)), (q_history, .inr (5, [.int w9, .int w10, .ref q_history_store])), (q_history_store, .inl (cI, 352, .inl w11))]) (wr := [(q, .inr (10, [.ref q_now, .ref q_clearing, .ref q_residues, .ref q_lifting, .ref q_guessed, .ref q_walk, .ref q_history, .ref q_book, .ref q_draws, .ref q_firstImage, .ref q_secondImage]))]) (k_runV (rest := []) hat hP hD hS hl.1 (c_X5_remember q_history q_now q_history_store q_now_numbers v_history_count v_history_next v_history_store v_now_n v_now_primeNumber v_now_numbers w9 w10 w11 h12) [3, 4, 1, 2] (by decide) rfl kw689 kw690 kw691 kw75 kw692 kdVX5_remember ⟨rfl, rfl⟩ (by rw [hR]; exact ⟨Nat.le_of_ble_eq_true rfl, Nat.le_of_ble_eq_true rfl⟩) ⟨Nat.zero_le _, Nat.zero_le _⟩ 3 5 rfl rfl rfl rfl (Nat.le_of_ble_eq_true rfl) dX11_mix_50) hat hP hD hS [3, 4, 1, 2] rfl [0] rfl rfl rfl rfl rfl (by decide) (fun H locs hP hD hS => ?_)
          refine lv_aload_n hx hb dX11_mix_53 rfl (lv_at hl 0 rfl) ?_
          refine va_get (D := D) (ci := 10) (v := .ref q_now) (C := RX11) (T := TX11) (N := 11) hx hb hts kinX11 hown hK hP 0 rfl rfl 0 (by decide) (hts _ kw327) (fun _ h9 => h9) rfl dX11_mix_54 ?_
          refine lv_iload_n hx hb dX11_mix_57 rfl (lv_at hl 1 rfl) ?_
          refine lv_iload_n hx hb dX11_mix_58 rfl (lv_at hl 2 rfl) ?_
          refine lv_iload_n hx hb dX11_mix_59 rfl (lv_at hl 3 rfl) ?_
          obtain ⟨w13, h14, hf⟩ := kb1_e hf
          refine k_gv (nW := 5) (ws' := [(q, .inr (10, [.ref q_now, .ref q_clearing, .ref q_residues, .ref q_lifting, .ref q_guessed, .ref q_walk, .ref q_history, .ref q_book, .ref q_draws, .ref q_firstImage, .ref q_secondImage])), (q_now, .inr (3, [.int v_now_n, .int v_now_primeNumber, .ref q_now_numbers])), (q_now_numbers, .inl (cI, 20, .inl w13)), (q_history, .inr (5, [.int w9, .int w10, .ref q_history_store])), (q_history_store, .inl (cI, 352, .inl w11))]) (wr := [(q, .inr (10, [.ref q_now, .ref q_clearing, .ref q_residues, .ref q_lifting, .ref q_guessed, .ref q_walk, .ref q_history, .ref q_book, .ref q_draws, .ref q_firstImage, .ref q_secondImage])), (q_history, .inr (5, [.int w9, .int w10, .ref q_history_store])), (q_history_store, .inl (cI, 352, .inl w11))]) (k_runV (rest := []) hat hP hD hS hl.1 (c_X3_add q_now q_now_numbers v_now_n v_now_primeNumber v_now_numbers F x1 x2 x3 w13 h14) [1, 2] (by decide) rfl kw741 kw742 kw743 kw68 kw744 kdVX3_add ⟨rfl, rfl⟩ (by rw [hR]; exact ⟨Nat.le_of_ble_eq_true rfl, Nat.le_of_ble_eq_true rfl⟩) ⟨Nat.zero_le _, Nat.zero_le _⟩ 1 3 rfl rfl rfl rfl (Nat.le_of_ble_eq_true rfl) dX11_mix_60) hat hP hD hS [1, 2] rfl [0, 3, 4] rfl rfl rfl rfl rfl (by decide) (fun H locs hP hD hS => ?_)
          refine lv_iconst (v := 1) hx hb dX11_mix_63 (by decide) ?_
          obtain ⟨rfl, rfl, rfl, rfl, rfl⟩ := ki5 hf
          rw [hQ]
          exact k_iret hat hP hS rfl dX11_mix_64
        · have hf := kp_e hf c8
          refine lv_ldc hx hb hown (hts _ kw740) dX11_mix_39 ?_
          obtain ⟨rfl, rfl, rfl, rfl, rfl⟩ := ki5 hf
          rw [hQ]
          exact k_iret hat hP hS rfl dX11_mix_41
      · have hf := kn_e hf c5
        refine lv_ldc hx hb hown (hts _ kw575) dX11_mix_23 ?_
        obtain ⟨rfl, rfl, rfl, rfl, rfl⟩ := ki5 hf
        rw [hQ]
        exact k_iret hat hP hS rfl dX11_mix_25
  · have hf := kn_e hf c3
    refine lv_ldc hx hb hown (hts _ kw584) dX11_mix_9 ?_
    obtain ⟨rfl, rfl, rfl, rfl, rfl⟩ := ki5 hf
    rw [hQ]
    exact k_iret hat hP hS rfl dX11_mix_11
set_option maxHeartbeats 4000000 in
set_option maxRecDepth 100000 in
theorem c_X3_transpose {l : Launch} {D : va_G} {cI cJ cQ : ClassId} {tp : Nat} (q : Nat) (q_numbers : Nat) (v_n : Int32) (v_primeNumber : Int32) (v_numbers : (Nat → Int32)) (F : Nat) (o_v_numbers : (Nat → Int32)) (hf : f_X3_transpose F v_n v_numbers = some o_v_numbers) : kM (fun A => kQv D A [(q, .inr (3, [.int v_n, .int v_primeNumber, .ref q_numbers])), (q_numbers, .inl (cI, 20, .inl o_v_numbers))]) none l yX3_transpose cX3_transpose 4 { frames := 1, cells := 0, slots := 0, locals := 23 } D cI cJ cQ tp [.ref q] [(q, .inr (3, [.int v_n, .int v_primeNumber, .ref q_numbers])), (q_numbers, .inl (cI, 20, .inl v_numbers))] := by
  refine kM_of (by decide +kernel) (Nat.le_of_ble_eq_true rfl) ?_
  intro p e s m args below meth c A ls R Q hR hQ hat hP hD hS hl
  obtain ⟨hx, hb, hr, hml, hown, hts, hT, hlk, hK, hA, hZ⟩ := id hat
  have hown : s.vm.findClass RX3 = some m.cls := hown
  have hl : lv_has ls 4 [(0, .ref q)] := hl
  have hL12 : ∀ (x1 : Int32) (v_n : Int32) (v_primeNumber : Int32) (fu : Nat) (x2 : Int32) (v_numbers : (Nat → Int32)) (o0 : (Nat → Int32)), L_X3_transpose_12 x1 fu x2 v_numbers = some o0 → (∀ (H : Heap) (locs : List Loc) (ls : Array Slot), va_P D vwCl [(q, .inr (3, [.int v_n, .int v_primeNumber, .ref q_numbers])), (q_numbers, .inl (cI, 20, .inl o0))] H → va_D A [(q, .inr (3, [.int v_n, .int v_primeNumber, .ref q_numbers])), (q_numbers, .inl (cI, 20, .inl o0))] → va_S A s.heap H locs → lv_has ls 4 [(0, .ref q), (1, .int x1)] → W p l e R s m args below meth c H locs 0 0 Q (F0 m 49 ls [])) → ∀ (H : Heap) (locs : List Loc) (ls : Array Slot), va_P D vwCl [(q, .inr (3, [.int v_n, .int v_primeNumber, .ref q_numbers])), (q_numbers, .inl (cI, 20, .inl v_numbers))] H → va_D A [(q, .inr (3, [.int v_n, .int v_primeNumber, .ref q_numbers])), (q_numbers, .inl (cI, 20, .inl v_numbers))] → va_S A s.heap H locs → lv_has ls 4 [(0, .ref q), (1, .int x1), (2, .int x2)] → W p l e R s m args below meth c H locs 0 0 Q (F0 m 12 ls []) := by
    intro x1 v_n v_primeNumber fu
    induction fu with
    | zero =>
      intro x2 v_numbers o0 hf
      cases hf
    | succ fu ih =>
      intro x2 v_numbers o0 hf hk0 H locs ls hP hD hS hl
      rw [L_X3_transpose_12] at hf
      refine lv_iload_n hx hb dX3_transpose_12 rfl (lv_at hl 2 rfl) ?_
      refine lv_iload_n hx hb dX3_transpose_13 rfl (lv_at hl 1 rfl) ?_
      refine lv_icmp_ge (tgt := 49) hx hb dX3_transpose_14 (by decide) (fun c2 => ?_) (fun c2 => ?_)
      · have hf := kp_e hf c2
        obtain rfl := ki1 hf
        exact hk0 _ _ _ hP hD hS (lv_sub hl [0, 1] rfl)
      · have hf := kn_e hf c2
        refine lv_aload_n hx hb dX3_transpose_17 rfl (lv_at hl 0 rfl) ?_
        refine lv_iload_n hx hb dX3_transpose_18 rfl (lv_at hl 1 rfl) ?_
        refine lv_iload_n hx hb dX3_transpose_19 rfl (lv_at hl 2 rfl) ?_
        obtain ⟨r3, h4, hf⟩ := kb1_e hf
        refine k_gi (nW := 2) (ws' := [(q, .inr (3, [.int v_n, .int v_primeNumber, .ref q_numbers])), (q_numbers, .inl (cI, 20, .inl v_numbers))]) (wr := []) (k_runV (rest := []) hat hP hD hS hl.1 (c_X3_number q q_numbers v_n v_primeNumber v_numbers x1 x2 r3 h4) [0, 1] (by decide) rfl kw504 kw380 kw381 kw68 kw382 kdVX3_number ⟨rfl, rfl⟩ (by rw [hR]; exact ⟨Nat.le_of_ble_eq_true rfl, Nat.le_of_ble_eq_true rfl⟩) ⟨Nat.zero_le _, Nat.zero_le _⟩ 0 3 rfl rfl rfl rfl (Nat.le_of_ble_eq_true rfl) dX3_transpose_20) hat hP hD hS [0, 1] rfl [] rfl rfl rfl rfl rfl (by decide) (fun H locs hP hD hS => ?_)
        refine lv_istore_n (lv' := [(3, .int r3), (0, .ref q), (1, .int x1), (2, .int x2)]) hx hb dX3_transpose_23 rfl hl (by decide) rfl (fun ls hl => ?_)
        refine lv_aload_n hx hb dX3_transpose_24 rfl (lv_at hl 1 rfl) ?_
        refine lv_iload_n hx hb dX3_transpose_25 rfl (lv_at hl 2 rfl) ?_
        refine lv_iload_n hx hb dX3_transpose_26 rfl (lv_at hl 3 rfl) ?_
        refine lv_aload_n hx hb dX3_transpose_27 rfl (lv_at hl 1 rfl) ?_
        refine lv_iload_n hx hb dX3_transpose_28 rfl (lv_at hl 3 rfl) ?_
        refine lv_iload_n hx hb dX3_transpose_29 rfl (lv_at hl 2 rfl) ?_
        obtain ⟨r5, h6, hf⟩ := kb1_e hf
        refine k_gi (nW := 2) (ws' := [(q, .inr (3, [.int v_n, .int v_primeNumber, .ref q_numbers])), (q_numbers, .inl (cI, 20, .inl v_numbers))]) (wr := []) (k_runV (rest := [.int x2, .int x1, .ref q]) hat hP hD hS hl.1 (c_X3_number q q_numbers v_n v_primeNumber v_numbers x2 x1 r5 h6) [0, 1] (by decide) rfl kw504 kw380 kw381 kw68 kw382 kdVX3_number ⟨rfl, rfl⟩ (by rw [hR]; exact ⟨Nat.le_of_ble_eq_true rfl, Nat.le_of_ble_eq_true rfl⟩) ⟨Nat.zero_le _, Nat.zero_le _⟩ 0 3 rfl rfl rfl rfl (Nat.le_of_ble_eq_true rfl) dX3_transpose_30) hat hP hD hS [0, 1] rfl [] rfl rfl rfl rfl rfl (by decide) (fun H locs hP hD hS => ?_)
        obtain ⟨w7, h8, hf⟩ := kb1_e hf
        refine k_gv (nW := 2) (ws' := [(q, .inr (3, [.int v_n, .int v_primeNumber, .ref q_numbers])), (q_numbers, .inl (cI, 20, .inl w7))]) (wr := []) (k_runV (rest := []) hat hP hD hS hl.1 (c_X3_set q q_numbers v_n v_primeNumber v_numbers x1 x2 r5 w7 h8) [0, 1] (by decide) rfl kw100 kw101 kw102 kw68 kw103 kdVX3_set ⟨rfl, rfl⟩ (by rw [hR]; exact ⟨Nat.le_of_ble_eq_true rfl, Nat.le_of_ble_eq_true rfl⟩) ⟨Nat.zero_le _, Nat.zero_le _⟩ 0 3 rfl rfl rfl rfl (Nat.le_of_ble_eq_true rfl) dX3_transpose_33) hat hP hD hS [0, 1] rfl [] rfl rfl rfl rfl rfl (by decide) (fun H locs hP hD hS => ?_)
        refine lv_aload_n hx hb dX3_transpose_36 rfl (lv_at hl 1 rfl) ?_
        refine lv_iload_n hx hb dX3_transpose_37 rfl (lv_at hl 3 rfl) ?_
        refine lv_iload_n hx hb dX3_transpose_38 rfl (lv_at hl 2 rfl) ?_
        refine lv_iload_n hx hb dX3_transpose_39 rfl (lv_at hl 0 rfl) ?_
        obtain ⟨w9, h10, hf⟩ := kb1_e hf
        refine k_gv (nW := 2) (ws' := [(q, .inr (3, [.int v_n, .int v_primeNumber, .ref q_numbers])), (q_numbers, .inl (cI, 20, .inl w9))]) (wr := []) (k_runV (rest := []) hat hP hD hS hl.1 (c_X3_set q q_numbers v_n v_primeNumber w7 x2 x1 r3 w9 h10) [0, 1] (by decide) rfl kw100 kw101 kw102 kw68 kw103 kdVX3_set ⟨rfl, rfl⟩ (by rw [hR]; exact ⟨Nat.le_of_ble_eq_true rfl, Nat.le_of_ble_eq_true rfl⟩) ⟨Nat.zero_le _, Nat.zero_le _⟩ 0 3 rfl rfl rfl rfl (Nat.le_of_ble_eq_true rfl) dX3_transpose_40) hat hP hD hS [0, 1] rfl [] rfl rfl rfl rfl rfl (by decide) (fun H locs hP hD hS => ?_)
        obtain ⟨t11, et11⟩ : ∃ z : Int32, z = (x2 + (1 : Int32)) := ⟨_, rfl⟩
        have hf := kl_e hf t11 et11
        refine lv_iinc (v := t11) (lv' := [(2, .int t11), (3, .int r3), (0, .ref q), (1, .int x1)]) hx hb dX3_transpose_43 hl (k := 3) rfl (by rw [et11]; rfl) (by decide) rfl (fun ls hl => ?_)
        refine lv_goto (tgt := 12) hx hb dX3_transpose_46 (by decide) ?_
        exact ih t11 w9 o0 hf hk0 _ _ _ hP hD hS (lv_sub hl [2, 3, 0] rfl)
  have hL2 : ∀ (v_n : Int32) (v_primeNumber : Int32) (fu : Nat) (x1 : Int32) (v_numbers : (Nat → Int32)) (o0 : (Nat → Int32)), L_X3_transpose_2 F v_n fu x1 v_numbers = some o0 → (∀ (H : Heap) (locs : List Loc) (ls : Array Slot), va_P D vwCl [(q, .inr (3, [.int v_n, .int v_primeNumber, .ref q_numbers])), (q_numbers, .inl (cI, 20, .inl o0))] H → va_D A [(q, .inr (3, [.int v_n, .int v_primeNumber, .ref q_numbers])), (q_numbers, .inl (cI, 20, .inl o0))] → va_S A s.heap H locs → lv_has ls 4 [] → W p l e R s m args below meth c H locs 0 0 Q (F0 m 55 ls [])) → ∀ (H : Heap) (locs : List Loc) (ls : Array Slot), va_P D vwCl [(q, .inr (3, [.int v_n, .int v_primeNumber, .ref q_numbers])), (q_numbers, .inl (cI, 20, .inl v_numbers))] H → va_D A [(q, .inr (3, [.int v_n, .int v_primeNumber, .ref q_numbers])), (q_numbers, .inl (cI, 20, .inl v_numbers))] → va_S A s.heap H locs → lv_has ls 4 [(0, .ref q), (1, .int x1)] → W p l e R s m args below meth c H locs 0 0 Q (F0 m 2 ls []) := by
    intro v_n v_primeNumber fu
    induction fu with
    | zero =>
      intro x1 v_numbers o0 hf
      cases hf
    | succ fu ih =>
      intro x1 v_numbers o0 hf hk0 H locs ls hP hD hS hl
      rw [L_X3_transpose_2] at hf
      refine lv_iload_n hx hb dX3_transpose_2 rfl (lv_at hl 1 rfl) ?_
      refine lv_aload_n hx hb dX3_transpose_3 rfl (lv_at hl 0 rfl) ?_
      refine va_get (D := D) (ci := 3) (v := .int v_n) (C := RX3) (T := TX3) (N := 3) hx hb hts kinX3 hown hK hP 0 rfl rfl 0 (by decide) (hts _ kw104) (fun _ h9 => h9) rfl dX3_transpose_4 ?_
      refine lv_icmp_ge (tgt := 55) hx hb dX3_transpose_7 (by decide) (fun c1 => ?_) (fun c1 => ?_)
      · have hf := kp_e hf c1
        obtain rfl := ki1 hf
        exact hk0 _ _ _ hP hD hS (lv_sub hl [] rfl)
      · have hf := kn_e hf c1
        refine lv_iconst (v := 0) hx hb dX3_transpose_10 (by decide) ?_
        refine lv_istore_n (lv' := [(2, .int (0 : Int32)), (0, .ref q), (1, .int x1)]) hx hb dX3_transpose_11 rfl hl (by decide) rfl (fun ls hl => ?_)
        obtain ⟨w12, hu, hf⟩ := kb1_e hf
        refine hL12 x1 v_n v_primeNumber F (0 : Int32) v_numbers w12 hu (fun H locs ls hP hD hS hl => ?_) _ _ _ hP hD hS (lv_sub hl [1, 2, 0] rfl)
        obtain ⟨t13, et13⟩ : ∃ z : Int32, z = (x1 + (1 : Int32)) := ⟨_, rfl⟩
        have hf := kl_e hf t13 et13
        refine lv_iinc (v := t13) (lv' := [(1, .int t13), (0, .ref q)]) hx hb dX3_transpose_49 hl (k := 1) rfl (by rw [et13]; rfl) (by decide) rfl (fun ls hl => ?_)
        refine lv_goto (tgt := 2) hx hb dX3_transpose_52 (by decide) ?_
        exact ih t13 w12 o0 hf hk0 _ _ _ hP hD hS (lv_sub hl [1, 0] rfl)
  unfold f_X3_transpose at hf
  refine lv_iconst (v := 0) hx hb dX3_transpose_0 (by decide) ?_
  refine lv_istore_n (lv' := [(1, .int (0 : Int32)), (0, .ref q)]) hx hb dX3_transpose_1 rfl hl (by decide) rfl (fun ls hl => ?_)
  obtain ⟨w14, hu, hf⟩ := kb1_e hf
  refine hL2 v_n v_primeNumber F (0 : Int32) v_numbers w14 hu (fun H locs ls hP hD hS hl => ?_) _ _ _ hP hD hS (lv_sub hl [1, 0] rfl)
  obtain rfl := ki1 hf
  rw [hQ]
  exact k_vret hat hP hS dX3_transpose_55
set_option maxHeartbeats 4000000 in
set_option maxRecDepth 100000 in
theorem c_X11_rank {l : Launch} {D : va_G} {cI cJ cQ : ClassId} {tp : Nat} (q : Nat) (q_now : Nat) (q_clearing : Nat) (q_residues : Nat) (q_lifting : Nat) (q_guessed : Nat) (q_walk : Nat) (q_history : Nat) (q_book : Nat) (q_draws : Nat) (q_firstImage : Nat) (q_secondImage : Nat) (q_now_numbers : Nat) (q_clearing_rows : Nat) (q_clearing_leads : Nat) (q_clearing_rows_r : Nat → Nat) (v_now_n : Int32) (v_now_primeNumber : Int32) (v_now_numbers : (Nat → Int32)) (v_clearing_n : Int32) (v_clearing_rank : Int32) (v_clearing_exchanges : Int32) (v_clearing_width : Int32) (v_clearing_scale : Int64) (v_clearing_rows : (Nat → Nat → Int64)) (v_clearing_leads : (Nat → Int32)) (F : Nat) (r0 : Int32) (o_v_clearing_n : Int32) (o_v_clearing_rank : Int32) (o_v_clearing_exchanges : Int32) (o_v_clearing_scale : Int64) (o_v_clearing_rows : (Nat → Nat → Int64)) (o_v_clearing_leads : (Nat → Int32)) (hf : f_X11_rank F v_now_n v_now_numbers v_clearing_n v_clearing_rank v_clearing_exchanges v_clearing_width v_clearing_scale v_clearing_rows v_clearing_leads = some (r0, o_v_clearing_n, o_v_clearing_rank, o_v_clearing_exchanges, o_v_clearing_scale, o_v_clearing_rows, o_v_clearing_leads)) : kM (fun A => kQi D A [(q, .inr (10, [.ref q_now, .ref q_clearing, .ref q_residues, .ref q_lifting, .ref q_guessed, .ref q_walk, .ref q_history, .ref q_book, .ref q_draws, .ref q_firstImage, .ref q_secondImage])), (q_now, .inr (3, [.int v_now_n, .int v_now_primeNumber, .ref q_now_numbers])), (q_now_numbers, .inl (cI, 20, .inl v_now_numbers)), (q_clearing, .inr (1, [.int o_v_clearing_n, .int o_v_clearing_rank, .int o_v_clearing_exchanges, .ref q_clearing_rows, .int v_clearing_width, .long o_v_clearing_scale, .ref q_clearing_leads])), (q_clearing_rows, .inl (cQ, 4, .inr (.inr (.inr (.inr (kg q_clearing_rows_r)))))), (q_clearing_rows_r 0, .inl (cJ, 5, .inr (.inl (o_v_clearing_rows 0)))), (q_clearing_rows_r 1, .inl (cJ, 5, .inr (.inl (o_v_clearing_rows 1)))), (q_clearing_rows_r 2, .inl (cJ, 5, .inr (.inl (o_v_clearing_rows 2)))), (q_clearing_rows_r 3, .inl (cJ, 5, .inr (.inl (o_v_clearing_rows 3)))), (q_clearing_leads, .inl (cI, 4, .inl o_v_clearing_leads))] r0) (some .int) l yX11_rank cX11_rank 1 { frames := 5, cells := 0, slots := 0, locals := 116 } D cI cJ cQ tp [.ref q] [(q, .inr (10, [.ref q_now, .ref q_clearing, .ref q_residues, .ref q_lifting, .ref q_guessed, .ref q_walk, .ref q_history, .ref q_book, .ref q_draws, .ref q_firstImage, .ref q_secondImage])), (q_now, .inr (3, [.int v_now_n, .int v_now_primeNumber, .ref q_now_numbers])), (q_now_numbers, .inl (cI, 20, .inl v_now_numbers)), (q_clearing, .inr (1, [.int v_clearing_n, .int v_clearing_rank, .int v_clearing_exchanges, .ref q_clearing_rows, .int v_clearing_width, .long v_clearing_scale, .ref q_clearing_leads])), (q_clearing_rows, .inl (cQ, 4, .inr (.inr (.inr (.inr (kg q_clearing_rows_r)))))), (q_clearing_rows_r 0, .inl (cJ, 5, .inr (.inl (v_clearing_rows 0)))), (q_clearing_rows_r 1, .inl (cJ, 5, .inr (.inl (v_clearing_rows 1)))), (q_clearing_rows_r 2, .inl (cJ, 5, .inr (.inl (v_clearing_rows 2)))), (q_clearing_rows_r 3, .inl (cJ, 5, .inr (.inl (v_clearing_rows 3)))), (q_clearing_leads, .inl (cI, 4, .inl v_clearing_leads))] := by
  refine kM_of (by decide +kernel) (Nat.le_of_ble_eq_true rfl) ?_
  intro p e s m args below meth c A ls R Q hR hQ hat hP hD hS hl
  obtain ⟨hx, hb, hr, hml, hown, hts, hT, hlk, hK, hA, hZ⟩ := id hat
  have hown : s.vm.findClass RX11 = some m.cls := hown
  have hl : lv_has ls 1 [(0, .ref q)] := hl
  unfold f_X11_rank at hf
  refine lv_aload_n hx hb dX11_rank_0 rfl (lv_at hl 0 rfl) ?_
  refine va_get (D := D) (ci := 10) (v := .ref q_clearing) (C := RX11) (T := TX11) (N := 11) hx hb hts kinX11 hown hK hP 0 rfl rfl 1 (by decide) (hts _ kw328) (fun _ h9 => h9) rfl dX11_rank_1 ?_
  refine lv_aload_n hx hb dX11_rank_4 rfl (lv_at hl 0 rfl) ?_
  refine va_get (D := D) (ci := 10) (v := .ref q_now) (C := RX11) (T := TX11) (N := 11) hx hb hts kinX11 hown hK hP 0 rfl rfl 0 (by decide) (hts _ kw327) (fun _ h9 => h9) rfl dX11_rank_5 ?_
  obtain ⟨w1, w2, w3, w4, w5, w6, h7, hf⟩ := kb6_e hf
  refine k_gv (nW := 10) (ws' := [(q, .inr (10, [.ref q_now, .ref q_clearing, .ref q_residues, .ref q_lifting, .ref q_guessed, .ref q_walk, .ref q_history, .ref q_book, .ref q_draws, .ref q_firstImage, .ref q_secondImage])), (q_now, .inr (3, [.int v_now_n, .int v_now_primeNumber, .ref q_now_numbers])), (q_now_numbers, .inl (cI, 20, .inl v_now_numbers)), (q_clearing, .inr (1, [.int w1, .int w2, .int w3, .ref q_clearing_rows, .int v_clearing_width, .long w4, .ref q_clearing_leads])), (q_clearing_rows, .inl (cQ, 4, .inr (.inr (.inr (.inr (kg q_clearing_rows_r)))))), (q_clearing_rows_r 0, .inl (cJ, 5, .inr (.inl (w5 0)))), (q_clearing_rows_r 1, .inl (cJ, 5, .inr (.inl (w5 1)))), (q_clearing_rows_r 2, .inl (cJ, 5, .inr (.inl (w5 2)))), (q_clearing_rows_r 3, .inl (cJ, 5, .inr (.inl (w5 3)))), (q_clearing_leads, .inl (cI, 4, .inl w6))]) (wr := [(q, .inr (10, [.ref q_now, .ref q_clearing, .ref q_residues, .ref q_lifting, .ref q_guessed, .ref q_walk, .ref q_history, .ref q_book, .ref q_draws, .ref q_firstImage, .ref q_secondImage]))]) (k_runV (rest := []) hat hP hD hS hl.1 (c_X1_clear q_clearing q_now q_clearing_rows q_clearing_leads q_clearing_rows_r q_now_numbers v_clearing_n v_clearing_rank v_clearing_exchanges v_clearing_width v_clearing_scale v_clearing_rows v_clearing_leads v_now_n v_now_primeNumber v_now_numbers F w1 w2 w3 w4 w5 w6 h7) [3, 4, 5, 6, 7, 8, 9, 1, 2] (by decide) rfl kw375 kw376 kw377 kw70 kw378 kdVX1_clear ⟨rfl, rfl⟩ (by rw [hR]; exact ⟨Nat.le_of_ble_eq_true rfl, Nat.le_of_ble_eq_true rfl⟩) ⟨Nat.zero_le _, Nat.zero_le _⟩ 3 1 rfl rfl rfl rfl (Nat.le_of_ble_eq_true rfl) dX11_rank_8) hat hP hD hS [3, 4, 5, 6, 7, 8, 9, 1, 2] rfl [0] rfl rfl rfl rfl rfl (by decide) (fun H locs hP hD hS => ?_)
  refine lv_aload_n hx hb dX11_rank_11 rfl (lv_at hl 0 rfl) ?_
  refine va_get (D := D) (ci := 10) (v := .ref q_clearing) (C := RX11) (T := TX11) (N := 11) hx hb hts kinX11 hown hK hP 0 rfl rfl 1 (by decide) (hts _ kw328) (fun _ h9 => h9) rfl dX11_rank_12 ?_
  refine va_get (D := D) (ci := 1) (v := .int w2) (C := RX1) (T := TX1) (N := 7) hx hb hts kinX1 hown hK hP 3 rfl rfl 1 (by decide) (hts _ kw144) (u_same (hts _ kw143)) rfl dX11_rank_15 ?_
  obtain ⟨rfl, rfl, rfl, rfl, rfl, rfl, rfl⟩ := ki7 hf
  rw [hQ]
  exact k_iret hat hP hS rfl dX11_rank_18
set_option maxHeartbeats 4000000 in
set_option maxRecDepth 100000 in
theorem c_X11_turn {l : Launch} {D : va_G} {cI cJ cQ : ClassId} {tp : Nat} (q : Nat) (q_now : Nat) (q_clearing : Nat) (q_residues : Nat) (q_lifting : Nat) (q_guessed : Nat) (q_walk : Nat) (q_history : Nat) (q_book : Nat) (q_draws : Nat) (q_firstImage : Nat) (q_secondImage : Nat) (q_now_numbers : Nat) (q_clearing_rows : Nat) (q_clearing_leads : Nat) (q_clearing_rows_r : Nat → Nat) (q_history_store : Nat) (v_now_n : Int32) (v_now_primeNumber : Int32) (v_now_numbers : (Nat → Int32)) (v_clearing_n : Int32) (v_clearing_rank : Int32) (v_clearing_exchanges : Int32) (v_clearing_width : Int32) (v_clearing_scale : Int64) (v_clearing_rows : (Nat → Nat → Int64)) (v_clearing_leads : (Nat → Int32)) (v_history_count : Int32) (v_history_next : Int32) (v_history_store : (Nat → Int32)) (F : Nat) (r0 : Int32) (o_v_now_numbers : (Nat → Int32)) (o_v_clearing_n : Int32) (o_v_clearing_rank : Int32) (o_v_clearing_exchanges : Int32) (o_v_clearing_scale : Int64) (o_v_clearing_rows : (Nat → Nat → Int64)) (o_v_clearing_leads : (Nat → Int32)) (o_v_history_count : Int32) (o_v_history_next : Int32) (o_v_history_store : (Nat → Int32)) (hf : f_X11_turn F v_now_n v_now_primeNumber v_now_numbers v_clearing_n v_clearing_rank v_clearing_exchanges v_clearing_width v_clearing_scale v_clearing_rows v_clearing_leads v_history_count v_history_next v_history_store = some (r0, o_v_now_numbers, o_v_clearing_n, o_v_clearing_rank, o_v_clearing_exchanges, o_v_clearing_scale, o_v_clearing_rows, o_v_clearing_leads, o_v_history_count, o_v_history_next, o_v_history_store)) : kM (fun A => kQi D A [(q, .inr (10, [.ref q_now, .ref q_clearing, .ref q_residues, .ref q_lifting, .ref q_guessed, .ref q_walk, .ref q_history, .ref q_book, .ref q_draws, .ref q_firstImage, .ref q_secondImage])), (q_now, .inr (3, [.int v_now_n, .int v_now_primeNumber, .ref q_now_numbers])), (q_now_numbers, .inl (cI, 20, .inl o_v_now_numbers)), (q_clearing, .inr (1, [.int o_v_clearing_n, .int o_v_clearing_rank, .int o_v_clearing_exchanges, .ref q_clearing_rows, .int v_clearing_width, .long o_v_clearing_scale, .ref q_clearing_leads])), (q_clearing_rows, .inl (cQ, 4, .inr (.inr (.inr (.inr (kg q_clearing_rows_r)))))), (q_clearing_rows_r 0, .inl (cJ, 5, .inr (.inl (o_v_clearing_rows 0)))), (q_clearing_rows_r 1, .inl (cJ, 5, .inr (.inl (o_v_clearing_rows 1)))), (q_clearing_rows_r 2, .inl (cJ, 5, .inr (.inl (o_v_clearing_rows 2)))), (q_clearing_rows_r 3, .inl (cJ, 5, .inr (.inl (o_v_clearing_rows 3)))), (q_clearing_leads, .inl (cI, 4, .inl o_v_clearing_leads)), (q_history, .inr (5, [.int o_v_history_count, .int o_v_history_next, .ref q_history_store])), (q_history_store, .inl (cI, 352, .inl o_v_history_store))] r0) (some .int) l yX11_turn cX11_turn 1 { frames := 6, cells := 0, slots := 0, locals := 136 } D cI cJ cQ tp [.ref q] [(q, .inr (10, [.ref q_now, .ref q_clearing, .ref q_residues, .ref q_lifting, .ref q_guessed, .ref q_walk, .ref q_history, .ref q_book, .ref q_draws, .ref q_firstImage, .ref q_secondImage])), (q_now, .inr (3, [.int v_now_n, .int v_now_primeNumber, .ref q_now_numbers])), (q_now_numbers, .inl (cI, 20, .inl v_now_numbers)), (q_clearing, .inr (1, [.int v_clearing_n, .int v_clearing_rank, .int v_clearing_exchanges, .ref q_clearing_rows, .int v_clearing_width, .long v_clearing_scale, .ref q_clearing_leads])), (q_clearing_rows, .inl (cQ, 4, .inr (.inr (.inr (.inr (kg q_clearing_rows_r)))))), (q_clearing_rows_r 0, .inl (cJ, 5, .inr (.inl (v_clearing_rows 0)))), (q_clearing_rows_r 1, .inl (cJ, 5, .inr (.inl (v_clearing_rows 1)))), (q_clearing_rows_r 2, .inl (cJ, 5, .inr (.inl (v_clearing_rows 2)))), (q_clearing_rows_r 3, .inl (cJ, 5, .inr (.inl (v_clearing_rows 3)))), (q_clearing_leads, .inl (cI, 4, .inl v_clearing_leads)), (q_history, .inr (5, [.int v_history_count, .int v_history_next, .ref q_history_store])), (q_history_store, .inl (cI, 352, .inl v_history_store))] := by
  refine kM_of (by decide +kernel) (Nat.le_of_ble_eq_true rfl) ?_
  intro p e s m args below meth c A ls R Q hR hQ hat hP hD hS hl
  obtain ⟨hx, hb, hr, hml, hown, hts, hT, hlk, hK, hA, hZ⟩ := id hat
  have hown : s.vm.findClass RX11 = some m.cls := hown
  have hl : lv_has ls 1 [(0, .ref q)] := hl
  unfold f_X11_turn at hf
  refine lv_aload_n hx hb dX11_turn_0 rfl (lv_at hl 0 rfl) ?_
  refine va_get (D := D) (ci := 10) (v := .ref q_history) (C := RX11) (T := TX11) (N := 11) hx hb hts kinX11 hown hK hP 0 rfl rfl 6 (by decide) (hts _ kw333) (fun _ h9 => h9) rfl dX11_turn_1 ?_
  refine lv_aload_n hx hb dX11_turn_4 rfl (lv_at hl 0 rfl) ?_
  refine va_get (D := D) (ci := 10) (v := .ref q_now) (C := RX11) (T := TX11) (N := 11) hx hb hts kinX11 hown hK hP 0 rfl rfl 0 (by decide) (hts _ kw327) (fun _ h9 => h9) rfl dX11_turn_5 ?_
  obtain ⟨w1, w2, w3, h4, hf⟩ := kb3_e hf
  refine k_gv (nW := 12) (ws' := [(q, .inr (10, [.ref q_now, .ref q_clearing, .ref q_residues, .ref q_lifting, .ref q_guessed, .ref q_walk, .ref q_history, .ref q_book, .ref q_draws, .ref q_firstImage, .ref q_secondImage])), (q_now, .inr (3, [.int v_now_n, .int v_now_primeNumber, .ref q_now_numbers])), (q_now_numbers, .inl (cI, 20, .inl v_now_numbers)), (q_clearing, .inr (1, [.int v_clearing_n, .int v_clearing_rank, .int v_clearing_exchanges, .ref q_clearing_rows, .int v_clearing_width, .long v_clearing_scale, .ref q_clearing_leads])), (q_clearing_rows, .inl (cQ, 4, .inr (.inr (.inr (.inr (kg q_clearing_rows_r)))))), (q_clearing_rows_r 0, .inl (cJ, 5, .inr (.inl (v_clearing_rows 0)))), (q_clearing_rows_r 1, .inl (cJ, 5, .inr (.inl (v_clearing_rows 1)))), (q_clearing_rows_r 2, .inl (cJ, 5, .inr (.inl (v_clearing_rows 2)))), (q_clearing_rows_r 3, .inl (cJ, 5, .inr (.inl (v_clearing_rows 3)))), (q_clearing_leads, .inl (cI, 4, .inl v_clearing_leads)), (q_history, .inr (5, [.int w1, .int w2, .ref q_history_store])), (q_history_store, .inl (cI, 352, .inl w3))]) (wr := [(q, .inr (10, [.ref q_now, .ref q_clearing, .ref q_residues, .ref q_lifting, .ref q_guessed, .ref q_walk, .ref q_history, .ref q_book, .ref q_draws, .ref q_firstImage, .ref q_secondImage])), (q_clearing, .inr (1, [.int v_clearing_n, .int v_clearing_rank, .int v_clearing_exchanges, .ref q_clearing_rows, .int v_clearing_width, .long v_clearing_scale, .ref q_clearing_leads])), (q_clearing_rows, .inl (cQ, 4, .inr (.inr (.inr (.inr (kg q_clearing_rows_r)))))), (q_clearing_rows_r 0, .inl (cJ, 5, .inr (.inl (v_clearing_rows 0)))), (q_clearing_rows_r 1, .inl (cJ, 5, .inr (.inl (v_clearing_rows 1)))), (q_clearing_rows_r 2, .inl (cJ, 5, .inr (.inl (v_clearing_rows 2)))), (q_clearing_rows_r 3, .inl (cJ, 5, .inr (.inl (v_clearing_rows 3)))), (q_clearing_leads, .inl (cI, 4, .inl v_clearing_leads))]) (k_runV (rest := []) hat hP hD hS hl.1 (c_X5_remember q_history q_now q_history_store q_now_numbers v_history_count v_history_next v_history_store v_now_n v_now_primeNumber v_now_numbers w1 w2 w3 h4) [10, 11, 1, 2] (by decide) rfl kw689 kw690 kw691 kw75 kw692 kdVX5_remember ⟨rfl, rfl⟩ (by rw [hR]; exact ⟨Nat.le_of_ble_eq_true rfl, Nat.le_of_ble_eq_true rfl⟩) ⟨Nat.zero_le _, Nat.zero_le _⟩ 10 5 rfl rfl rfl rfl (Nat.le_of_ble_eq_true rfl) dX11_turn_8) hat hP hD hS [10, 11, 1, 2] rfl [0, 3, 4, 5, 6, 7, 8, 9] rfl rfl rfl rfl rfl (by decide) (fun H locs hP hD hS => ?_)
  refine lv_aload_n hx hb dX11_turn_11 rfl (lv_at hl 0 rfl) ?_
  refine va_get (D := D) (ci := 10) (v := .ref q_now) (C := RX11) (T := TX11) (N := 11) hx hb hts kinX11 hown hK hP 0 rfl rfl 0 (by decide) (hts _ kw327) (fun _ h9 => h9) rfl dX11_turn_12 ?_
  obtain ⟨w5, h6, hf⟩ := kb1_e hf
  refine k_gv (nW := 12) (ws' := [(q, .inr (10, [.ref q_now, .ref q_clearing, .ref q_residues, .ref q_lifting, .ref q_guessed, .ref q_walk, .ref q_history, .ref q_book, .ref q_draws, .ref q_firstImage, .ref q_secondImage])), (q_now, .inr (3, [.int v_now_n, .int v_now_primeNumber, .ref q_now_numbers])), (q_now_numbers, .inl (cI, 20, .inl w5)), (q_clearing, .inr (1, [.int v_clearing_n, .int v_clearing_rank, .int v_clearing_exchanges, .ref q_clearing_rows, .int v_clearing_width, .long v_clearing_scale, .ref q_clearing_leads])), (q_clearing_rows, .inl (cQ, 4, .inr (.inr (.inr (.inr (kg q_clearing_rows_r)))))), (q_clearing_rows_r 0, .inl (cJ, 5, .inr (.inl (v_clearing_rows 0)))), (q_clearing_rows_r 1, .inl (cJ, 5, .inr (.inl (v_clearing_rows 1)))), (q_clearing_rows_r 2, .inl (cJ, 5, .inr (.inl (v_clearing_rows 2)))), (q_clearing_rows_r 3, .inl (cJ, 5, .inr (.inl (v_clearing_rows 3)))), (q_clearing_leads, .inl (cI, 4, .inl v_clearing_leads)), (q_history, .inr (5, [.int w1, .int w2, .ref q_history_store])), (q_history_store, .inl (cI, 352, .inl w3))]) (wr := [(q, .inr (10, [.ref q_now, .ref q_clearing, .ref q_residues, .ref q_lifting, .ref q_guessed, .ref q_walk, .ref q_history, .ref q_book, .ref q_draws, .ref q_firstImage, .ref q_secondImage])), (q_clearing, .inr (1, [.int v_clearing_n, .int v_clearing_rank, .int v_clearing_exchanges, .ref q_clearing_rows, .int v_clearing_width, .long v_clearing_scale, .ref q_clearing_leads])), (q_clearing_rows, .inl (cQ, 4, .inr (.inr (.inr (.inr (kg q_clearing_rows_r)))))), (q_clearing_rows_r 0, .inl (cJ, 5, .inr (.inl (v_clearing_rows 0)))), (q_clearing_rows_r 1, .inl (cJ, 5, .inr (.inl (v_clearing_rows 1)))), (q_clearing_rows_r 2, .inl (cJ, 5, .inr (.inl (v_clearing_rows 2)))), (q_clearing_rows_r 3, .inl (cJ, 5, .inr (.inl (v_clearing_rows 3)))), (q_clearing_leads, .inl (cI, 4, .inl v_clearing_leads)), (q_history, .inr (5, [.int w1, .int w2, .ref q_history_store])), (q_history_store, .inl (cI, 352, .inl w3))]) (k_runV (rest := []) hat hP hD hS hl.1 (c_X3_transpose q_now q_now_numbers v_now_n v_now_primeNumber v_now_numbers F w5 h6) [1, 2] (by decide) rfl kw749 kw750 kw751 kw68 kw752 kdVX3_transpose ⟨rfl, rfl⟩ (by rw [hR]; exact ⟨Nat.le_of_ble_eq_true rfl, Nat.le_of_ble_eq_true rfl⟩) ⟨Nat.zero_le _, Nat.zero_le _⟩ 1 3 rfl rfl rfl rfl (Nat.le_of_ble_eq_true rfl) dX11_turn_15) hat hP hD hS [1, 2] rfl [0, 3, 4, 5, 6, 7, 8, 9, 10, 11] rfl rfl rfl rfl rfl (by decide) (fun H locs hP hD hS => ?_)
  refine lv_aload_n hx hb dX11_turn_18 rfl (lv_at hl 0 rfl) ?_
  obtain ⟨r7, w8, w9, w10, w11, w12, w13, h14, hf⟩ := kb7_e hf
  refine k_gi (nW := 12) (ws' := [(q, .inr (10, [.ref q_now, .ref q_clearing, .ref q_residues, .ref q_lifting, .ref q_guessed, .ref q_walk, .ref q_history, .ref q_book, .ref q_draws, .ref q_firstImage, .ref q_secondImage])), (q_now, .inr (3, [.int v_now_n, .int v_now_primeNumber, .ref q_now_numbers])), (q_now_numbers, .inl (cI, 20, .inl w5)), (q_clearing, .inr (1, [.int w8, .int w9, .int w10, .ref q_clearing_rows, .int v_clearing_width, .long w11, .ref q_clearing_leads])), (q_clearing_rows, .inl (cQ, 4, .inr (.inr (.inr (.inr (kg q_clearing_rows_r)))))), (q_clearing_rows_r 0, .inl (cJ, 5, .inr (.inl (w12 0)))), (q_clearing_rows_r 1, .inl (cJ, 5, .inr (.inl (w12 1)))), (q_clearing_rows_r 2, .inl (cJ, 5, .inr (.inl (w12 2)))), (q_clearing_rows_r 3, .inl (cJ, 5, .inr (.inl (w12 3)))), (q_clearing_leads, .inl (cI, 4, .inl w13)), (q_history, .inr (5, [.int w1, .int w2, .ref q_history_store])), (q_history_store, .inl (cI, 352, .inl w3))]) (wr := [(q_history, .inr (5, [.int w1, .int w2, .ref q_history_store])), (q_history_store, .inl (cI, 352, .inl w3))]) (k_runV (rest := []) hat hP hD hS hl.1 (c_X11_rank q q_now q_clearing q_residues q_lifting q_guessed q_walk q_history q_book q_draws q_firstImage q_secondImage q_now_numbers q_clearing_rows q_clearing_leads q_clearing_rows_r v_now_n v_now_primeNumber w5 v_clearing_n v_clearing_rank v_clearing_exchanges v_clearing_width v_clearing_scale v_clearing_rows v_clearing_leads F r7 w8 w9 w10 w11 w12 w13 h14) [0, 1, 2, 3, 4, 5, 6, 7, 8, 9] (by decide) rfl kw753 kw755 kw15 kw67 kw756 kdVX11_rank ⟨rfl, rfl⟩ (by rw [hR]; exact ⟨Nat.le_of_ble_eq_true rfl, Nat.le_of_ble_eq_true rfl⟩) ⟨Nat.zero_le _, Nat.zero_le _⟩ 0 10 rfl rfl rfl rfl (Nat.le_of_ble_eq_true rfl) dX11_turn_19) hat hP hD hS [0, 1, 2, 3, 4, 5, 6, 7, 8, 9] rfl [10, 11] rfl rfl rfl rfl rfl (by decide) (fun H locs hP hD hS => ?_)
  obtain ⟨rfl, rfl, rfl, rfl, rfl, rfl, rfl, rfl, rfl, rfl, rfl⟩ := ki11 hf
  rw [hQ]
  exact k_iret hat hP hS rfl dX11_turn_22
set_option maxHeartbeats 4000000 in
set_option maxRecDepth 100000 in
theorem c_X11_prime {l : Launch} {D : va_G} {cI cJ cQ : ClassId} {tp : Nat} (q : Nat) (q_now : Nat) (q_clearing : Nat) (q_residues : Nat) (q_lifting : Nat) (q_guessed : Nat) (q_walk : Nat) (q_history : Nat) (q_book : Nat) (q_draws : Nat) (q_firstImage : Nat) (q_secondImage : Nat) (q_now_numbers : Nat) (q_history_store : Nat) (v_now_n : Int32) (v_now_primeNumber : Int32) (v_now_numbers : (Nat → Int32)) (v_history_count : Int32) (v_history_next : Int32) (v_history_store : (Nat → Int32)) (x1 : Int32) (r0 : Int32) (o_v_now_primeNumber : Int32) (o_v_history_count : Int32) (o_v_history_next : Int32) (o_v_history_store : (Nat → Int32)) (hf : f_X11_prime v_now_n v_now_primeNumber v_now_numbers v_history_count v_history_next v_history_store x1 = some (r0, o_v_now_primeNumber, o_v_history_count, o_v_history_next, o_v_history_store)) : kM (fun A => kQi D A [(q, .inr (10, [.ref q_now, .ref q_clearing, .ref q_residues, .ref q_lifting, .ref q_guessed, .ref q_walk, .ref q_history, .ref q_book, .ref q_draws, .ref q_firstImage, .ref q_secondImage])), (q_now, .inr (3, [.int v_now_n, .int o_v_now_primeNumber, .ref q_now_numbers])), (q_now_numbers, .inl (cI, 20, .inl v_now_numbers)), (q_history, .inr (5, [.int o_v_history_count, .int o_v_history_next, .ref q_history_store])), (q_history_store, .inl (cI, 352, .inl o_v_history_store))] r0) (some .int) l yX11_prime cX11_prime 2 { frames := 3, cells := 0, slots := 0, locals := 83 } D cI cJ cQ tp [.ref q, .int x1] [(q, .inr (10, [.ref q_now, .ref q_clearing, .ref q_residues, .ref q_lifting, .ref q_guessed, .ref q_walk, .ref q_history, .ref q_book, .ref q_draws, .ref q_firstImage, .ref q_secondImage])), (q_now, .inr (3, [.int v_now_n, .int v_now_primeNumber, .ref q_now_numbers])), (q_now_numbers, .inl (cI, 20, .inl v_now_numbers)), (q_history, .inr (5, [.int v_history_count, .int v_history_next, .ref q_history_store])), (q_history_store, .inl (cI, 352, .inl v_history_store))] := by
  refine kM_of (by decide +kernel) (Nat.le_of_ble_eq_true rfl) ?_
  intro p e s m args below meth c A ls R Q hR hQ hat hP hD hS hl
  obtain ⟨hx, hb, hr, hml, hown, hts, hT, hlk, hK, hA, hZ⟩ := id hat
  have hown : s.vm.findClass RX11 = some m.cls := hown
  have hl : lv_has ls 2 [(0, .ref q), (1, .int x1)] := hl
  unfold f_X11_prime at hf
  refine lv_iload_n hx hb dX11_prime_0 rfl (lv_at hl 1 rfl) ?_
  refine lv_if_lt (tgt := 12) hx hb dX11_prime_1 (by decide) (fun c1 => ?_) (fun c1 => ?_)
  · have hf := kp_e hf c1
    refine lv_ldc hx hb hown (hts _ kw575) dX11_prime_12 ?_
    obtain ⟨rfl, rfl, rfl, rfl, rfl⟩ := ki5 hf
    rw [hQ]
    exact k_iret hat hP hS rfl dX11_prime_14
  · have hf := kn_e hf c1
    refine lv_iload_n hx hb dX11_prime_4 rfl (lv_at hl 1 rfl) ?_
    refine va_gets hx hb hZ.1 hS hown (hts _ kw465) (fun _ h9 => h9) dX11_prime_5 ?_
    refine va_tlen hx hb hZ.2 hS (v := 25) (by decide) dX11_prime_8 ?_
    refine lv_icmp_lt (tgt := 15) hx hb dX11_prime_9 (by decide) (fun c2 => ?_) (fun c2 => ?_)
    · have hf := kp_e hf c2
      refine lv_aload_n hx hb dX11_prime_15 rfl (lv_at hl 0 rfl) ?_
      refine va_get (D := D) (ci := 10) (v := .ref q_history) (C := RX11) (T := TX11) (N := 11) hx hb hts kinX11 hown hK hP 0 rfl rfl 6 (by decide) (hts _ kw333) (fun _ h9 => h9) rfl dX11_prime_16 ?_
      refine lv_aload_n hx hb dX11_prime_19 rfl (lv_at hl 0 rfl) ?_
      refine va_get (D := D) (ci := 10) (v := .ref q_now) (C := RX11) (T := TX11) (N := 11) hx hb hts kinX11 hown hK hP 0 rfl rfl 0 (by decide) (hts _ kw327) (fun _ h9 => h9) rfl dX11_prime_20 ?_
      obtain ⟨w3, w4, w5, h6, hf⟩ := kb3_e hf
      refine k_gv (nW := 5) (ws' := [(q, .inr (10, [.ref q_now, .ref q_clearing, .ref q_residues, .ref q_lifting, .ref q_guessed, .ref q_walk, .ref q_history, .ref q_book, .ref q_draws, .ref q_firstImage, .ref q_secondImage])), (q_now, .inr (3, [.int v_now_n, .int v_now_primeNumber, .ref q_now_numbers])), (q_now_numbers, .inl (cI, 20, .inl v_now_numbers)), (q_history, .inr (5, [.int w3, .int w4, .ref q_history_store])), (q_history_store, .inl (cI, 352, .inl w5))]) (wr := [(q, .inr (10, [.ref q_now, .ref q_clearing, .ref q_residues, .ref q_lifting, .ref q_guessed, .ref q_walk, .ref q_history, .ref q_book, .ref q_draws, .ref q_firstImage, .ref q_secondImage]))]) (k_runV (rest := []) hat hP hD hS hl.1 (c_X5_remember q_history q_now q_history_store q_now_numbers v_history_count v_history_next v_history_store v_now_n v_now_primeNumber v_now_numbers w3 w4 w5 h6) [3, 4, 1, 2] (by decide) rfl kw689 kw690 kw691 kw75 kw692 kdVX5_remember ⟨rfl, rfl⟩ (by rw [hR]; exact ⟨Nat.le_of_ble_eq_true rfl, Nat.le_of_ble_eq_true rfl⟩) ⟨Nat.zero_le _, Nat.zero_le _⟩ 3 5 rfl rfl rfl rfl (Nat.le_of_ble_eq_true rfl) dX11_prime_23) hat hP hD hS [3, 4, 1, 2] rfl [0] rfl rfl rfl rfl rfl (by decide) (fun H locs hP hD hS => ?_)
      refine lv_aload_n hx hb dX11_prime_26 rfl (lv_at hl 0 rfl) ?_
      refine va_get (D := D) (ci := 10) (v := .ref q_now) (C := RX11) (T := TX11) (N := 11) hx hb hts kinX11 hown hK hP 0 rfl rfl 0 (by decide) (hts _ kw327) (fun _ h9 => h9) rfl dX11_prime_27 ?_
      refine lv_iload_n hx hb dX11_prime_30 rfl (lv_at hl 1 rfl) ?_
      refine va_put (D := D) (ci := 3) (v := .int x1) (ty := .int) (C := RX3) (T := TX3) (N := 3) hx hb hts kinX3 tyX3 tyX3_ok nmX3 hown hK hP hD hS 1 rfl rfl 1 (by decide) (hts _ kw111) (fun _ h9 => h9) rfl (by decide +kernel) rfl rfl (Nat.le_of_ble_eq_true rfl) dX11_prime_31 (fun H locs hP hD hS => ?_)
      have hP : va_P D vwCl [(q, .inr (10, [.ref q_now, .ref q_clearing, .ref q_residues, .ref q_lifting, .ref q_guessed, .ref q_walk, .ref q_history, .ref q_book, .ref q_draws, .ref q_firstImage, .ref q_secondImage])), (q_now, .inr (3, [.int v_now_n, .int x1, .ref q_now_numbers])), (q_now_numbers, .inl (cI, 20, .inl v_now_numbers)), (q_history, .inr (5, [.int w3, .int w4, .ref q_history_store])), (q_history_store, .inl (cI, 352, .inl w5))] H := hP
      have hD : va_D A [(q, .inr (10, [.ref q_now, .ref q_clearing, .ref q_residues, .ref q_lifting, .ref q_guessed, .ref q_walk, .ref q_history, .ref q_book, .ref q_draws, .ref q_firstImage, .ref q_secondImage])), (q_now, .inr (3, [.int v_now_n, .int x1, .ref q_now_numbers])), (q_now_numbers, .inl (cI, 20, .inl v_now_numbers)), (q_history, .inr (5, [.int w3, .int w4, .ref q_history_store])), (q_history_store, .inl (cI, 352, .inl w5))] := hD
      refine lv_aload_n hx hb dX11_prime_34 rfl (lv_at hl 0 rfl) ?_
      refine va_get (D := D) (ci := 10) (v := .ref q_now) (C := RX11) (T := TX11) (N := 11) hx hb hts kinX11 hown hK hP 0 rfl rfl 0 (by decide) (hts _ kw327) (fun _ h9 => h9) rfl dX11_prime_35 ?_
      obtain ⟨r7, h8, hf⟩ := kb1_e hf
      refine k_gi (nW := 5) (ws' := [(q, .inr (10, [.ref q_now, .ref q_clearing, .ref q_residues, .ref q_lifting, .ref q_guessed, .ref q_walk, .ref q_history, .ref q_book, .ref q_draws, .ref q_firstImage, .ref q_secondImage])), (q_now, .inr (3, [.int v_now_n, .int x1, .ref q_now_numbers])), (q_now_numbers, .inl (cI, 20, .inl v_now_numbers)), (q_history, .inr (5, [.int w3, .int w4, .ref q_history_store])), (q_history_store, .inl (cI, 352, .inl w5))]) (wr := [(q, .inr (10, [.ref q_now, .ref q_clearing, .ref q_residues, .ref q_lifting, .ref q_guessed, .ref q_walk, .ref q_history, .ref q_book, .ref q_draws, .ref q_firstImage, .ref q_secondImage])), (q_now_numbers, .inl (cI, 20, .inl v_now_numbers)), (q_history, .inr (5, [.int w3, .int w4, .ref q_history_store])), (q_history_store, .inl (cI, 352, .inl w5))]) (k_runV (rest := []) hat hP hD hS hl.1 (c_X3_p q_now q_now_numbers v_now_n x1 r7 h8) [1] (by decide) rfl kw365 kw366 kw367 kw68 kw368 kdVX3_p ⟨rfl, rfl⟩ (by rw [hR]; exact ⟨Nat.le_of_ble_eq_true rfl, Nat.le_of_ble_eq_true rfl⟩) ⟨Nat.zero_le _, Nat.zero_le _⟩ 1 3 rfl rfl rfl rfl (Nat.le_of_ble_eq_true rfl) dX11_prime_38) hat hP hD hS [1] rfl [0, 2, 3, 4] rfl rfl rfl rfl rfl (by decide) (fun H locs hP hD hS => ?_)
      obtain ⟨rfl, rfl, rfl, rfl, rfl⟩ := ki5 hf
      rw [hQ]
      exact k_iret hat hP hS rfl dX11_prime_41
    · have hf := kn_e hf c2
      refine lv_ldc hx hb hown (hts _ kw575) dX11_prime_12 ?_
      obtain ⟨rfl, rfl, rfl, rfl, rfl⟩ := ki5 hf
      rw [hQ]
      exact k_iret hat hP hS rfl dX11_prime_14
set_option maxHeartbeats 4000000 in
set_option maxRecDepth 100000 in
theorem c_X2_next {l : Launch} {D : va_G} {cI cJ cQ : ClassId} {tp : Nat} (q : Nat) (v_state : Int64) (x1 : Int32) (r0 : Int32) (o_v_state : Int64) (hf : f_X2_next v_state x1 = some (r0, o_v_state)) : kM (fun A => kQi D A [(q, .inr (2, [.long o_v_state]))] r0) (some .int) l yX2_next cX2_next 2 { frames := 1, cells := 0, slots := 0, locals := 24 } D cI cJ cQ tp [.ref q, .int x1] [(q, .inr (2, [.long v_state]))] := by
  refine kM_of (by decide +kernel) (Nat.le_of_ble_eq_true rfl) ?_
  intro p e s m args below meth c A ls R Q hR hQ hat hP hD hS hl
  obtain ⟨hx, hb, hr, hml, hown, hts, hT, hlk, hK, hA, hZ⟩ := id hat
  have hown : s.vm.findClass RX2 = some m.cls := hown
  have hl : lv_has ls 2 [(0, .ref q), (1, .int x1)] := hl
  unfold f_X2_next at hf
  refine lv_aload_n hx hb dX2_next_0 rfl (lv_at hl 0 rfl) ?_
  refine lv_aload_n hx hb dX2_next_1 rfl (lv_at hl 0 rfl) ?_
  refine va_get (D := D) (ci := 2) (v := .long v_state) (C := RX2) (T := TX2) (N := 1) hx hb hts kinX2 hown hK hP 0 rfl rfl 0 (by decide) (hts _ kw304) (fun _ h9 => h9) rfl dX2_next_2 ?_
  refine lv_ldc2 hx hb hown (hts _ kw773) dX2_next_5 ?_
  refine lv_lmul hx hb dX2_next_8 ?_
  refine lv_ldc2 hx hb hown (hts _ kw774) dX2_next_9 ?_
  refine lv_ladd hx hb dX2_next_12 ?_
  refine lv_ldc2 hx hb hown (hts _ kw775) dX2_next_13 ?_
  refine lv_land hx hb dX2_next_16 ?_
  refine lv_topl (fun t1 et1 => ?_)
  have hf := kl_e hf t1 et1
  refine va_put (D := D) (ci := 2) (v := .long t1) (ty := .long) (C := RX2) (T := TX2) (N := 1) hx hb hts kinX2 tyX2 tyX2_ok nmX2 hown hK hP hD hS 0 rfl rfl 0 (by decide) (hts _ kw304) (fun _ h9 => h9) rfl (by decide +kernel) rfl rfl (Nat.le_of_ble_eq_true rfl) dX2_next_17 (fun H locs hP hD hS => ?_)
  have hP : va_P D vwCl [(q, .inr (2, [.long t1]))] H := hP
  have hD : va_D A [(q, .inr (2, [.long t1]))] := hD
  refine lv_aload_n hx hb dX2_next_20 rfl (lv_at hl 0 rfl) ?_
  refine va_get (D := D) (ci := 2) (v := .long t1) (C := RX2) (T := TX2) (N := 1) hx hb hts kinX2 hown hK hP 0 rfl rfl 0 (by decide) (hts _ kw304) (fun _ h9 => h9) rfl dX2_next_21 ?_
  refine lv_ldc2 hx hb hown (hts _ kw776) dX2_next_24 ?_
  refine lv_ldiv hx hb dX2_next_27 (by decide) ?_
  refine lv_iload_n hx hb dX2_next_28 rfl (lv_at hl 1 rfl) ?_
  obtain ⟨r2, h3, hf⟩ := kb1_e hf
  refine k_gi (nW := 1) (ws' := [(q, .inr (2, [.long t1]))]) (wr := [(q, .inr (2, [.long t1]))]) (k_runSN (rest := []) hat hP hD hS hl.1 (c_X11_leftOver (t1 / (65536 : Int64)) x1 r2 h3) [] (by decide) rfl kw777 kw418 kw67 kw419 kdX11_leftOver ⟨rfl, rfl⟩ (by rw [hR]; exact ⟨Nat.le_of_ble_eq_true rfl, Nat.le_of_ble_eq_true rfl⟩) ⟨Nat.zero_le _, Nat.zero_le _⟩ rfl rfl (Nat.le_of_ble_eq_true rfl) dX2_next_29) hat hP hD hS [] rfl [0] rfl rfl rfl rfl rfl (by decide) (fun H locs hP hD hS => ?_)
  obtain ⟨rfl, rfl⟩ := ki2 hf
  rw [hQ]
  exact k_iret hat hP hS rfl dX2_next_32
set_option maxHeartbeats 4000000 in
set_option maxRecDepth 100000 in
theorem c_X11_changeByDraws {l : Launch} {D : va_G} {cI cJ cQ : ClassId} {tp : Nat} (q : Nat) (q_now : Nat) (q_clearing : Nat) (q_residues : Nat) (q_lifting : Nat) (q_guessed : Nat) (q_walk : Nat) (q_history : Nat) (q_book : Nat) (q_draws : Nat) (q_firstImage : Nat) (q_secondImage : Nat) (q_now_numbers : Nat) (q_history_store : Nat) (v_now_n : Int32) (v_now_primeNumber : Int32) (v_now_numbers : (Nat → Int32)) (v_history_count : Int32) (v_history_next : Int32) (v_history_store : (Nat → Int32)) (v_draws_state : Int64) (o_v_now_numbers : (Nat → Int32)) (o_v_history_count : Int32) (o_v_history_next : Int32) (o_v_history_store : (Nat → Int32)) (o_v_draws_state : Int64) (hf : f_X11_changeByDraws v_now_n v_now_primeNumber v_now_numbers v_history_count v_history_next v_history_store v_draws_state = some (o_v_now_numbers, o_v_history_count, o_v_history_next, o_v_history_store, o_v_draws_state)) : kM (fun A => kQv D A [(q, .inr (10, [.ref q_now, .ref q_clearing, .ref q_residues, .ref q_lifting, .ref q_guessed, .ref q_walk, .ref q_history, .ref q_book, .ref q_draws, .ref q_firstImage, .ref q_secondImage])), (q_now, .inr (3, [.int v_now_n, .int v_now_primeNumber, .ref q_now_numbers])), (q_now_numbers, .inl (cI, 20, .inl o_v_now_numbers)), (q_history, .inr (5, [.int o_v_history_count, .int o_v_history_next, .ref q_history_store])), (q_history_store, .inl (cI, 352, .inl o_v_history_store)), (q_draws, .inr (2, [.long o_v_draws_state]))]) none l yX11_changeByDraws cX11_changeByDraws 4 { frames := 4, cells := 0, slots := 0, locals := 107 } D cI cJ cQ tp [.ref q] [(q, .inr (10, [.ref q_now, .ref q_clearing, .ref q_residues, .ref q_lifting, .ref q_guessed, .ref q_walk, .ref q_history, .ref q_book, .ref q_draws, .ref q_firstImage, .ref q_secondImage])), (q_now, .inr (3, [.int v_now_n, .int v_now_primeNumber, .ref q_now_numbers])), (q_now_numbers, .inl (cI, 20, .inl v_now_numbers)), (q_history, .inr (5, [.int v_history_count, .int v_history_next, .ref q_history_store])), (q_history_store, .inl (cI, 352, .inl v_history_store)), (q_draws, .inr (2, [.long v_draws_state]))] := by
  refine kM_of (by decide +kernel) (Nat.le_of_ble_eq_true rfl) ?_
  intro p e s m args below meth c A ls R Q hR hQ hat hP hD hS hl
  obtain ⟨hx, hb, hr, hml, hown, hts, hT, hlk, hK, hA, hZ⟩ := id hat
  have hown : s.vm.findClass RX11 = some m.cls := hown
  have hl : lv_has ls 4 [(0, .ref q)] := hl
  unfold f_X11_changeByDraws at hf
  refine lv_aload_n hx hb dX11_changeByDraws_0 rfl (lv_at hl 0 rfl) ?_
  refine va_get (D := D) (ci := 10) (v := .ref q_draws) (C := RX11) (T := TX11) (N := 11) hx hb hts kinX11 hown hK hP 0 rfl rfl 8 (by decide) (hts _ kw335) (fun _ h9 => h9) rfl dX11_changeByDraws_1 ?_
  refine lv_aload_n hx hb dX11_changeByDraws_4 rfl (lv_at hl 0 rfl) ?_
  refine va_get (D := D) (ci := 10) (v := .ref q_now) (C := RX11) (T := TX11) (N := 11) hx hb hts kinX11 hown hK hP 0 rfl rfl 0 (by decide) (hts _ kw327) (fun _ h9 => h9) rfl dX11_changeByDraws_5 ?_
  refine va_get (D := D) (ci := 3) (v := .int v_now_n) (C := RX3) (T := TX3) (N := 3) hx hb hts kinX3 hown hK hP 1 rfl rfl 0 (by decide) (hts _ kw107) (fun _ h9 => h9) rfl dX11_changeByDraws_8 ?_
  obtain ⟨r1, w2, h3, hf⟩ := kb2_e hf
  refine k_gi (nW := 6) (ws' := [(q, .inr (10, [.ref q_now, .ref q_clearing, .ref q_residues, .ref q_lifting, .ref q_guessed, .ref q_walk, .ref q_history, .ref q_book, .ref q_draws, .ref q_firstImage, .ref q_secondImage])), (q_now, .inr (3, [.int v_now_n, .int v_now_primeNumber, .ref q_now_numbers])), (q_now_numbers, .inl (cI, 20, .inl v_now_numbers)), (q_history, .inr (5, [.int v_history_count, .int v_history_next, .ref q_history_store])), (q_history_store, .inl (cI, 352, .inl v_history_store)), (q_draws, .inr (2, [.long w2]))]) (wr := [(q, .inr (10, [.ref q_now, .ref q_clearing, .ref q_residues, .ref q_lifting, .ref q_guessed, .ref q_walk, .ref q_history, .ref q_book, .ref q_draws, .ref q_firstImage, .ref q_secondImage])), (q_now, .inr (3, [.int v_now_n, .int v_now_primeNumber, .ref q_now_numbers])), (q_now_numbers, .inl (cI, 20, .inl v_now_numbers)), (q_history, .inr (5, [.int v_history_count, .int v_history_next, .ref q_history_store])), (q_history_store, .inl (cI, 352, .inl v_history_store))]) (k_runV (rest := []) hat hP hD hS hl.1 (c_X2_next q_draws v_draws_state v_now_n r1 w2 h3) [5] (by decide) rfl kw769 kw770 kw771 kw77 kw772 kdVX2_next ⟨rfl, rfl⟩ (by rw [hR]; exact ⟨Nat.le_of_ble_eq_true rfl, Nat.le_of_ble_eq_true rfl⟩) ⟨Nat.zero_le _, Nat.zero_le _⟩ 5 2 rfl rfl rfl rfl (Nat.le_of_ble_eq_true rfl) dX11_changeByDraws_11) hat hP hD hS [5] rfl [0, 1, 2, 3, 4] rfl rfl rfl rfl rfl (by decide) (fun H locs hP hD hS => ?_)
  refine lv_istore_n (lv' := [(1, .int r1), (0, .ref q)]) hx hb dX11_changeByDraws_14 rfl hl (by decide) rfl (fun ls hl => ?_)
  refine lv_aload_n hx hb dX11_changeByDraws_15 rfl (lv_at hl 1 rfl) ?_
  refine va_get (D := D) (ci := 10) (v := .ref q_draws) (C := RX11) (T := TX11) (N := 11) hx hb hts kinX11 hown hK hP 0 rfl rfl 8 (by decide) (hts _ kw335) (fun _ h9 => h9) rfl dX11_changeByDraws_16 ?_
  refine lv_aload_n hx hb dX11_changeByDraws_19 rfl (lv_at hl 1 rfl) ?_
  refine va_get (D := D) (ci := 10) (v := .ref q_now) (C := RX11) (T := TX11) (N := 11) hx hb hts kinX11 hown hK hP 0 rfl rfl 0 (by decide) (hts _ kw327) (fun _ h9 => h9) rfl dX11_changeByDraws_20 ?_
  refine va_get (D := D) (ci := 3) (v := .int v_now_n) (C := RX3) (T := TX3) (N := 3) hx hb hts kinX3 hown hK hP 1 rfl rfl 0 (by decide) (hts _ kw107) (fun _ h9 => h9) rfl dX11_changeByDraws_23 ?_
  refine lv_iconst (v := 1) hx hb dX11_changeByDraws_26 (by decide) ?_
  refine lv_iadd hx hb dX11_changeByDraws_27 ?_
  obtain ⟨r4, w5, h6, hf⟩ := kb2_e hf
  refine k_gi (nW := 6) (ws' := [(q, .inr (10, [.ref q_now, .ref q_clearing, .ref q_residues, .ref q_lifting, .ref q_guessed, .ref q_walk, .ref q_history, .ref q_book, .ref q_draws, .ref q_firstImage, .ref q_secondImage])), (q_now, .inr (3, [.int v_now_n, .int v_now_primeNumber, .ref q_now_numbers])), (q_now_numbers, .inl (cI, 20, .inl v_now_numbers)), (q_history, .inr (5, [.int v_history_count, .int v_history_next, .ref q_history_store])), (q_history_store, .inl (cI, 352, .inl v_history_store)), (q_draws, .inr (2, [.long w5]))]) (wr := [(q, .inr (10, [.ref q_now, .ref q_clearing, .ref q_residues, .ref q_lifting, .ref q_guessed, .ref q_walk, .ref q_history, .ref q_book, .ref q_draws, .ref q_firstImage, .ref q_secondImage])), (q_now, .inr (3, [.int v_now_n, .int v_now_primeNumber, .ref q_now_numbers])), (q_now_numbers, .inl (cI, 20, .inl v_now_numbers)), (q_history, .inr (5, [.int v_history_count, .int v_history_next, .ref q_history_store])), (q_history_store, .inl (cI, 352, .inl v_history_store))]) (k_runV (rest := []) hat hP hD hS hl.1 (c_X2_next q_draws w2 (v_now_n + (1 : Int32)) r4 w5 h6) [5] (by decide) rfl kw769 kw770 kw771 kw77 kw772 kdVX2_next ⟨rfl, rfl⟩ (by rw [hR]; exact ⟨Nat.le_of_ble_eq_true rfl, Nat.le_of_ble_eq_true rfl⟩) ⟨Nat.zero_le _, Nat.zero_le _⟩ 5 2 rfl rfl rfl rfl (Nat.le_of_ble_eq_true rfl) dX11_changeByDraws_28) hat hP hD hS [5] rfl [0, 1, 2, 3, 4] rfl rfl rfl rfl rfl (by decide) (fun H locs hP hD hS => ?_)
  refine lv_istore_n (lv' := [(2, .int r4), (1, .int r1), (0, .ref q)]) hx hb dX11_changeByDraws_31 rfl hl (by decide) rfl (fun ls hl => ?_)
  refine lv_aload_n hx hb dX11_changeByDraws_32 rfl (lv_at hl 2 rfl) ?_
  refine va_get (D := D) (ci := 10) (v := .ref q_draws) (C := RX11) (T := TX11) (N := 11) hx hb hts kinX11 hown hK hP 0 rfl rfl 8 (by decide) (hts _ kw335) (fun _ h9 => h9) rfl dX11_changeByDraws_33 ?_
  refine lv_bipush (v := 19) hx hb dX11_changeByDraws_36 (by decide) ?_
  obtain ⟨r7, w8, h9, hf⟩ := kb2_e hf
  refine k_gi (nW := 6) (ws' := [(q, .inr (10, [.ref q_now, .ref q_clearing, .ref q_residues, .ref q_lifting, .ref q_guessed, .ref q_walk, .ref q_history, .ref q_book, .ref q_draws, .ref q_firstImage, .ref q_secondImage])), (q_now, .inr (3, [.int v_now_n, .int v_now_primeNumber, .ref q_now_numbers])), (q_now_numbers, .inl (cI, 20, .inl v_now_numbers)), (q_history, .inr (5, [.int v_history_count, .int v_history_next, .ref q_history_store])), (q_history_store, .inl (cI, 352, .inl v_history_store)), (q_draws, .inr (2, [.long w8]))]) (wr := [(q, .inr (10, [.ref q_now, .ref q_clearing, .ref q_residues, .ref q_lifting, .ref q_guessed, .ref q_walk, .ref q_history, .ref q_book, .ref q_draws, .ref q_firstImage, .ref q_secondImage])), (q_now, .inr (3, [.int v_now_n, .int v_now_primeNumber, .ref q_now_numbers])), (q_now_numbers, .inl (cI, 20, .inl v_now_numbers)), (q_history, .inr (5, [.int v_history_count, .int v_history_next, .ref q_history_store])), (q_history_store, .inl (cI, 352, .inl v_history_store))]) (k_runV (rest := []) hat hP hD hS hl.1 (c_X2_next q_draws w5 (19 : Int32) r7 w8 h9) [5] (by decide) rfl kw769 kw770 kw771 kw77 kw772 kdVX2_next ⟨rfl, rfl⟩ (by rw [hR]; exact ⟨Nat.le_of_ble_eq_true rfl, Nat.le_of_ble_eq_true rfl⟩) ⟨Nat.zero_le _, Nat.zero_le _⟩ 5 2 rfl rfl rfl rfl (Nat.le_of_ble_eq_true rfl) dX11_changeByDraws_38) hat hP hD hS [5] rfl [0, 1, 2, 3, 4] rfl rfl rfl rfl rfl (by decide) (fun H locs hP hD hS => ?_)
  refine lv_istore_n (lv' := [(3, .int r7), (2, .int r4), (1, .int r1), (0, .ref q)]) hx hb dX11_changeByDraws_41 rfl hl (by decide) rfl (fun ls hl => ?_)
  refine lv_iload_n hx hb dX11_changeByDraws_42 rfl (lv_at hl 1 rfl) ?_
  refine lv_aload_n hx hb dX11_changeByDraws_43 rfl (lv_at hl 3 rfl) ?_
  refine va_get (D := D) (ci := 10) (v := .ref q_now) (C := RX11) (T := TX11) (N := 11) hx hb hts kinX11 hown hK hP 0 rfl rfl 0 (by decide) (hts _ kw327) (fun _ h9 => h9) rfl dX11_changeByDraws_44 ?_
  refine va_get (D := D) (ci := 3) (v := .int v_now_n) (C := RX3) (T := TX3) (N := 3) hx hb hts kinX3 hown hK hP 1 rfl rfl 0 (by decide) (hts _ kw107) (fun _ h9 => h9) rfl dX11_changeByDraws_47 ?_
  refine lv_icmp_ne (tgt := 70) hx hb dX11_changeByDraws_50 (by decide) (fun c10 => ?_) (fun c10 => ?_)
  · have hf := kn_e hf c10
    refine lv_aload_n hx hb dX11_changeByDraws_70 rfl (lv_at hl 3 rfl) ?_
    refine lv_iload_n hx hb dX11_changeByDraws_71 rfl (lv_at hl 2 rfl) ?_
    refine lv_iload_n hx hb dX11_changeByDraws_72 rfl (lv_at hl 1 rfl) ?_
    refine lv_iload_n hx hb dX11_changeByDraws_73 rfl (lv_at hl 0 rfl) ?_
    refine lv_bipush (v := 9) hx hb dX11_changeByDraws_74 (by decide) ?_
    refine lv_isub hx hb dX11_changeByDraws_76 ?_
    obtain ⟨r11, w12, w13, w14, w15, h16, hf⟩ := kb5_e hf
    refine k_gi (nW := 6) (ws' := [(q, .inr (10, [.ref q_now, .ref q_clearing, .ref q_residues, .ref q_lifting, .ref q_guessed, .ref q_walk, .ref q_history, .ref q_book, .ref q_draws, .ref q_firstImage, .ref q_secondImage])), (q_now, .inr (3, [.int v_now_n, .int v_now_primeNumber, .ref q_now_numbers])), (q_now_numbers, .inl (cI, 20, .inl w12)), (q_history, .inr (5, [.int w13, .int w14, .ref q_history_store])), (q_history_store, .inl (cI, 352, .inl w15)), (q_draws, .inr (2, [.long w8]))]) (wr := [(q_draws, .inr (2, [.long w8]))]) (k_runV (rest := []) hat hP hD hS hl.1 (c_X11_change q q_now q_clearing q_residues q_lifting q_guessed q_walk q_history q_book q_draws q_firstImage q_secondImage q_now_numbers q_history_store v_now_n v_now_primeNumber v_now_numbers v_history_count v_history_next v_history_store r1 r4 (r7 - (9 : Int32)) r11 w12 w13 w14 w15 h16) [0, 1, 2, 3, 4] (by decide) rfl kw708 kw710 kw13 kw67 kw711 kdVX11_change ⟨rfl, rfl⟩ (by rw [hR]; exact ⟨Nat.le_of_ble_eq_true rfl, Nat.le_of_ble_eq_true rfl⟩) ⟨Nat.zero_le _, Nat.zero_le _⟩ 0 10 rfl rfl rfl rfl (Nat.le_of_ble_eq_true rfl) dX11_changeByDraws_77) hat hP hD hS [0, 1, 2, 3, 4] rfl [5] rfl rfl rfl rfl rfl (by decide) (fun H locs hP hD hS => ?_)
    refine lv_pop hx hb dX11_changeByDraws_80 rfl ?_
    obtain ⟨rfl, rfl, rfl, rfl, rfl⟩ := ki5 hf
    rw [hQ]
    exact k_vret hat hP hS dX11_changeByDraws_81
  · have hf := kp_e hf c10
    refine lv_aload_n hx hb dX11_changeByDraws_53 rfl (lv_at hl 3 rfl) ?_
    refine lv_iload_n hx hb dX11_changeByDraws_54 rfl (lv_at hl 2 rfl) ?_
    refine lv_iconst (v := 4) hx hb dX11_changeByDraws_55 (by decide) ?_
    refine lv_bipush (v := 11) hx hb dX11_changeByDraws_56 (by decide) ?_
    refine lv_iload_n hx hb dX11_changeByDraws_58 rfl (lv_at hl 0 rfl) ?_
    refine lv_imul hx hb dX11_changeByDraws_59 ?_
    refine lv_bipush (v := 99) hx hb dX11_changeByDraws_60 (by decide) ?_
    refine lv_isub hx hb dX11_changeByDraws_62 ?_
    obtain ⟨r17, w18, w19, w20, w21, h22, hf⟩ := kb5_e hf
    refine k_gi (nW := 6) (ws' := [(q, .inr (10, [.ref q_now, .ref q_clearing, .ref q_residues, .ref q_lifting, .ref q_guessed, .ref q_walk, .ref q_history, .ref q_book, .ref q_draws, .ref q_firstImage, .ref q_secondImage])), (q_now, .inr (3, [.int v_now_n, .int v_now_primeNumber, .ref q_now_numbers])), (q_now_numbers, .inl (cI, 20, .inl w18)), (q_history, .inr (5, [.int w19, .int w20, .ref q_history_store])), (q_history_store, .inl (cI, 352, .inl w21)), (q_draws, .inr (2, [.long w8]))]) (wr := [(q_draws, .inr (2, [.long w8]))]) (k_runV (rest := []) hat hP hD hS hl.1 (c_X11_change q q_now q_clearing q_residues q_lifting q_guessed q_walk q_history q_book q_draws q_firstImage q_secondImage q_now_numbers q_history_store v_now_n v_now_primeNumber v_now_numbers v_history_count v_history_next v_history_store r1 (4 : Int32) (((11 : Int32) * r7) - (99 : Int32)) r17 w18 w19 w20 w21 h22) [0, 1, 2, 3, 4] (by decide) rfl kw708 kw710 kw13 kw67 kw711 kdVX11_change ⟨rfl, rfl⟩ (by rw [hR]; exact ⟨Nat.le_of_ble_eq_true rfl, Nat.le_of_ble_eq_true rfl⟩) ⟨Nat.zero_le _, Nat.zero_le _⟩ 0 10 rfl rfl rfl rfl (Nat.le_of_ble_eq_true rfl) dX11_changeByDraws_63) hat hP hD hS [0, 1, 2, 3, 4] rfl [5] rfl rfl rfl rfl rfl (by decide) (fun H locs hP hD hS => ?_)
    refine lv_pop hx hb dX11_changeByDraws_66 rfl ?_
    refine lv_goto (tgt := 81) hx hb dX11_changeByDraws_67 (by decide) ?_
    obtain ⟨rfl, rfl, rfl, rfl, rfl⟩ := ki5 hf
    rw [hQ]
    exact k_vret hat hP hS dX11_changeByDraws_81
