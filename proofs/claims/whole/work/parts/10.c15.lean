set_option maxHeartbeats 4000000 in
set_option maxRecDepth 100000 in
theorem c_X7_step {l : Launch} {D : va_G} {cI cJ cQ : ClassId} {tp : Nat} (q : Nat) (qa1 : Nat) (qa2 : Nat) (q_rests : Nat) (q_digits : Nat) (q_made : Nat) (qa1_numbers : Nat) (qa2_rows : Nat) (qa2_rows_r : Nat → Nat) (v_power : Int64) (v_rests : (Nat → Int32)) (v_digits : (Nat → Int32)) (v_made : (Nat → Int64)) (va1_n : Int32) (va1_primeNumber : Int32) (va1_numbers : (Nat → Int32)) (va2_n : Int32) (va2_rank : Int32) (va2_exchanges : Int32) (va2_width : Int32) (va2_p : Int32) (va2_rows : (Nat → Nat → Int64)) (F : Nat) (o_v_power : Int64) (o_v_rests : (Nat → Int32)) (o_v_digits : (Nat → Int32)) (o_v_made : (Nat → Int64)) (hf : f_X7_step F v_power v_rests v_digits v_made va1_n va1_primeNumber va1_numbers va2_rows = some (o_v_power, o_v_rests, o_v_digits, o_v_made)) : kM (fun A => kQv D A [(q, .inr (7, [.ref q_rests, .ref q_digits, .ref q_made, .long o_v_power])), (q_rests, .inl (cI, 4, .inl o_v_rests)), (q_digits, .inl (cI, 4, .inl o_v_digits)), (q_made, .inl (cJ, 4, .inr (.inl o_v_made))), (qa1, .inr (3, [.int va1_n, .int va1_primeNumber, .ref qa1_numbers])), (qa1_numbers, .inl (cI, 20, .inl va1_numbers)), (qa2, .inr (8, [.int va2_n, .int va2_rank, .int va2_exchanges, .ref qa2_rows, .int va2_width, .int va2_p])), (qa2_rows, .inl (cQ, 4, .inr (.inr (.inr (.inr (kg qa2_rows_r)))))), (qa2_rows_r 0, .inl (cJ, 9, .inr (.inl (va2_rows 0)))), (qa2_rows_r 1, .inl (cJ, 9, .inr (.inl (va2_rows 1)))), (qa2_rows_r 2, .inl (cJ, 9, .inr (.inl (va2_rows 2)))), (qa2_rows_r 3, .inl (cJ, 9, .inr (.inl (va2_rows 3))))]) none l yX7_step cX7_step 8 { frames := 1, cells := 0, slots := 0, locals := 24 } D cI cJ cQ tp [.ref q, .ref qa1, .ref qa2] [(q, .inr (7, [.ref q_rests, .ref q_digits, .ref q_made, .long v_power])), (q_rests, .inl (cI, 4, .inl v_rests)), (q_digits, .inl (cI, 4, .inl v_digits)), (q_made, .inl (cJ, 4, .inr (.inl v_made))), (qa1, .inr (3, [.int va1_n, .int va1_primeNumber, .ref qa1_numbers])), (qa1_numbers, .inl (cI, 20, .inl va1_numbers)), (qa2, .inr (8, [.int va2_n, .int va2_rank, .int va2_exchanges, .ref qa2_rows, .int va2_width, .int va2_p])), (qa2_rows, .inl (cQ, 4, .inr (.inr (.inr (.inr (kg qa2_rows_r)))))), (qa2_rows_r 0, .inl (cJ, 9, .inr (.inl (va2_rows 0)))), (qa2_rows_r 1, .inl (cJ, 9, .inr (.inl (va2_rows 1)))), (qa2_rows_r 2, .inl (cJ, 9, .inr (.inl (va2_rows 2)))), (qa2_rows_r 3, .inl (cJ, 9, .inr (.inl (va2_rows 3))))] := by
  refine kM_of (by decide +kernel) (Nat.le_of_ble_eq_true rfl) ?_
  intro p e s m args below meth c A ls R Q hR hQ hat hP hD hS hl
  obtain ⟨hx, hb, hr, hml, hown, hts, hT, hlk, hK, hA, hZ⟩ := id hat
  have hown : s.vm.findClass RX7 = some m.cls := hown
  have hl : lv_has ls 8 [(0, .ref q), (1, .ref qa1), (2, .ref qa2)] := hl
  have hL26 : ∀ (x3 : Int32) (x4 : Int32) (x5 : Int32) (v_power : Int64) (v_rests : (Nat → Int32)) (v_digits : (Nat → Int32)) (v_made : (Nat → Int64)) (va1_n : Int32) (va1_primeNumber : Int32) (va1_numbers : (Nat → Int32)) (va2_n : Int32) (va2_rank : Int32) (va2_exchanges : Int32) (va2_width : Int32) (va2_p : Int32) (va2_rows : (Nat → Nat → Int64)) (fu : Nat) (x6 : Int32) (x7 : Int32) (o0 : Int32), L_X7_step_26 x3 x4 x5 v_rests va2_rows fu x6 x7 = some o0 → (∀ (H : Heap) (locs : List Loc) (ls : Array Slot), va_P D vwCl [(q, .inr (7, [.ref q_rests, .ref q_digits, .ref q_made, .long v_power])), (q_rests, .inl (cI, 4, .inl v_rests)), (q_digits, .inl (cI, 4, .inl v_digits)), (q_made, .inl (cJ, 4, .inr (.inl v_made))), (qa1, .inr (3, [.int va1_n, .int va1_primeNumber, .ref qa1_numbers])), (qa1_numbers, .inl (cI, 20, .inl va1_numbers)), (qa2, .inr (8, [.int va2_n, .int va2_rank, .int va2_exchanges, .ref qa2_rows, .int va2_width, .int va2_p])), (qa2_rows, .inl (cQ, 4, .inr (.inr (.inr (.inr (kg qa2_rows_r)))))), (qa2_rows_r 0, .inl (cJ, 9, .inr (.inl (va2_rows 0)))), (qa2_rows_r 1, .inl (cJ, 9, .inr (.inl (va2_rows 1)))), (qa2_rows_r 2, .inl (cJ, 9, .inr (.inl (va2_rows 2)))), (qa2_rows_r 3, .inl (cJ, 9, .inr (.inl (va2_rows 3))))] H → va_D A [(q, .inr (7, [.ref q_rests, .ref q_digits, .ref q_made, .long v_power])), (q_rests, .inl (cI, 4, .inl v_rests)), (q_digits, .inl (cI, 4, .inl v_digits)), (q_made, .inl (cJ, 4, .inr (.inl v_made))), (qa1, .inr (3, [.int va1_n, .int va1_primeNumber, .ref qa1_numbers])), (qa1_numbers, .inl (cI, 20, .inl va1_numbers)), (qa2, .inr (8, [.int va2_n, .int va2_rank, .int va2_exchanges, .ref qa2_rows, .int va2_width, .int va2_p])), (qa2_rows, .inl (cQ, 4, .inr (.inr (.inr (.inr (kg qa2_rows_r)))))), (qa2_rows_r 0, .inl (cJ, 9, .inr (.inl (va2_rows 0)))), (qa2_rows_r 1, .inl (cJ, 9, .inr (.inl (va2_rows 1)))), (qa2_rows_r 2, .inl (cJ, 9, .inr (.inl (va2_rows 2)))), (qa2_rows_r 3, .inl (cJ, 9, .inr (.inl (va2_rows 3))))] → va_S A s.heap H locs → lv_has ls 8 [(0, .ref q), (1, .ref qa1), (2, .ref qa2), (3, .int x3), (4, .int x4), (5, .int x5), (6, .int o0)] → W p l e R s m args below meth c H locs 0 0 Q (F0 m 59 ls [])) → ∀ (H : Heap) (locs : List Loc) (ls : Array Slot), va_P D vwCl [(q, .inr (7, [.ref q_rests, .ref q_digits, .ref q_made, .long v_power])), (q_rests, .inl (cI, 4, .inl v_rests)), (q_digits, .inl (cI, 4, .inl v_digits)), (q_made, .inl (cJ, 4, .inr (.inl v_made))), (qa1, .inr (3, [.int va1_n, .int va1_primeNumber, .ref qa1_numbers])), (qa1_numbers, .inl (cI, 20, .inl va1_numbers)), (qa2, .inr (8, [.int va2_n, .int va2_rank, .int va2_exchanges, .ref qa2_rows, .int va2_width, .int va2_p])), (qa2_rows, .inl (cQ, 4, .inr (.inr (.inr (.inr (kg qa2_rows_r)))))), (qa2_rows_r 0, .inl (cJ, 9, .inr (.inl (va2_rows 0)))), (qa2_rows_r 1, .inl (cJ, 9, .inr (.inl (va2_rows 1)))), (qa2_rows_r 2, .inl (cJ, 9, .inr (.inl (va2_rows 2)))), (qa2_rows_r 3, .inl (cJ, 9, .inr (.inl (va2_rows 3))))] H → va_D A [(q, .inr (7, [.ref q_rests, .ref q_digits, .ref q_made, .long v_power])), (q_rests, .inl (cI, 4, .inl v_rests)), (q_digits, .inl (cI, 4, .inl v_digits)), (q_made, .inl (cJ, 4, .inr (.inl v_made))), (qa1, .inr (3, [.int va1_n, .int va1_primeNumber, .ref qa1_numbers])), (qa1_numbers, .inl (cI, 20, .inl va1_numbers)), (qa2, .inr (8, [.int va2_n, .int va2_rank, .int va2_exchanges, .ref qa2_rows, .int va2_width, .int va2_p])), (qa2_rows, .inl (cQ, 4, .inr (.inr (.inr (.inr (kg qa2_rows_r)))))), (qa2_rows_r 0, .inl (cJ, 9, .inr (.inl (va2_rows 0)))), (qa2_rows_r 1, .inl (cJ, 9, .inr (.inl (va2_rows 1)))), (qa2_rows_r 2, .inl (cJ, 9, .inr (.inl (va2_rows 2)))), (qa2_rows_r 3, .inl (cJ, 9, .inr (.inl (va2_rows 3))))] → va_S A s.heap H locs → lv_has ls 8 [(0, .ref q), (1, .ref qa1), (2, .ref qa2), (3, .int x3), (4, .int x4), (5, .int x5), (6, .int x6), (7, .int x7)] → W p l e R s m args below meth c H locs 0 0 Q (F0 m 26 ls []) := by
    intro x3 x4 x5 v_power v_rests v_digits v_made va1_n va1_primeNumber va1_numbers va2_n va2_rank va2_exchanges va2_width va2_p va2_rows fu
    induction fu with
    | zero =>
      intro x6 x7 o0 hf
      cases hf
    | succ fu ih =>
      intro x6 x7 o0 hf hk0 H locs ls hP hD hS hl
      rw [L_X7_step_26] at hf
      refine lv_iload hx hb dX7_step_26 (lv_at hl 7 rfl) ?_
      refine lv_iload_n hx hb dX7_step_28 rfl (lv_at hl 3 rfl) ?_
      refine lv_icmp_ge (tgt := 59) hx hb dX7_step_29 (by decide) (fun c4 => ?_) (fun c4 => ?_)
      · have hf := kp_e hf c4
        obtain rfl := ki1 hf
        exact hk0 _ _ _ hP hD hS (lv_sub hl [0, 1, 2, 3, 4, 5, 6] rfl)
      · have hf := kn_e hf c4
        refine lv_iload hx hb dX7_step_32 (lv_at hl 6 rfl) ?_
        refine lv_aload_n hx hb dX7_step_34 rfl (lv_at hl 2 rfl) ?_
        refine lv_iload hx hb dX7_step_35 (lv_at hl 5 rfl) ?_
        refine lv_iload hx hb dX7_step_37 (lv_at hl 7 rfl) ?_
        obtain ⟨r5, h6, hf⟩ := kb1_e hf
        refine k_gi (nW := 12) (ws' := [(q, .inr (7, [.ref q_rests, .ref q_digits, .ref q_made, .long v_power])), (q_rests, .inl (cI, 4, .inl v_rests)), (q_digits, .inl (cI, 4, .inl v_digits)), (q_made, .inl (cJ, 4, .inr (.inl v_made))), (qa1, .inr (3, [.int va1_n, .int va1_primeNumber, .ref qa1_numbers])), (qa1_numbers, .inl (cI, 20, .inl va1_numbers)), (qa2, .inr (8, [.int va2_n, .int va2_rank, .int va2_exchanges, .ref qa2_rows, .int va2_width, .int va2_p])), (qa2_rows, .inl (cQ, 4, .inr (.inr (.inr (.inr (kg qa2_rows_r)))))), (qa2_rows_r 0, .inl (cJ, 9, .inr (.inl (va2_rows 0)))), (qa2_rows_r 1, .inl (cJ, 9, .inr (.inl (va2_rows 1)))), (qa2_rows_r 2, .inl (cJ, 9, .inr (.inl (va2_rows 2)))), (qa2_rows_r 3, .inl (cJ, 9, .inr (.inl (va2_rows 3))))]) (wr := [(q, .inr (7, [.ref q_rests, .ref q_digits, .ref q_made, .long v_power])), (q_rests, .inl (cI, 4, .inl v_rests)), (q_digits, .inl (cI, 4, .inl v_digits)), (q_made, .inl (cJ, 4, .inr (.inl v_made))), (qa1, .inr (3, [.int va1_n, .int va1_primeNumber, .ref qa1_numbers])), (qa1_numbers, .inl (cI, 20, .inl va1_numbers))]) (k_runV (rest := [.int x6]) hat hP hD hS hl.1 (c_X8_inverse qa2 qa2_rows qa2_rows_r va2_n va2_rank va2_exchanges va2_width va2_p va2_rows x5 x7 r5 h6) [6, 7, 8, 9, 10, 11] (by decide) rfl kw519 kw520 kw521 kw71 kw522 kdVX8_inverse ⟨rfl, rfl⟩ (by rw [hR]; exact ⟨Nat.le_of_ble_eq_true rfl, Nat.le_of_ble_eq_true rfl⟩) ⟨Nat.zero_le _, Nat.zero_le _⟩ 6 8 rfl rfl rfl rfl (Nat.le_of_ble_eq_true rfl) dX7_step_39) hat hP hD hS [6, 7, 8, 9, 10, 11] rfl [0, 1, 2, 3, 4, 5] rfl rfl rfl rfl rfl (by decide) (fun H locs hP hD hS => ?_)
        refine lv_aload_n hx hb dX7_step_42 rfl (lv_at hl 0 rfl) ?_
        refine va_get (D := D) (ci := 7) (v := .ref q_rests) (C := RX7) (T := TX7) (N := 4) hx hb hts kinX7 hown hK hP 0 rfl rfl 0 (by decide) (hts _ kw192) (fun _ h9 => h9) rfl dX7_step_43 ?_
        refine lv_iload hx hb dX7_step_46 (lv_at hl 7 rfl) ?_
        obtain ⟨c7, hf⟩ := kc_e hf
        refine va_iald hx hb hK hP 1 0 rfl rfl (kin_e c7) dX7_step_48 ?_
        refine lv_imul hx hb dX7_step_49 ?_
        refine lv_iadd hx hb dX7_step_50 ?_
        refine lv_topi (fun t8 et8 => ?_)
        have hf := kl_e hf t8 et8
        refine lv_istore (lv' := [(6, .int t8), (0, .ref q), (1, .ref qa1), (2, .ref qa2), (3, .int x3), (4, .int x4), (5, .int x5), (7, .int x7)]) hx hb dX7_step_51 hl (by decide) rfl (fun ls hl => ?_)
        obtain ⟨t9, et9⟩ : ∃ z : Int32, z = (x7 + (1 : Int32)) := ⟨_, rfl⟩
        have hf := kl_e hf t9 et9
        refine lv_iinc (v := t9) (lv' := [(7, .int t9), (6, .int t8), (0, .ref q), (1, .ref qa1), (2, .ref qa2), (3, .int x3), (4, .int x4), (5, .int x5)]) hx hb dX7_step_53 hl (k := 7) rfl (by rw [et9]; rfl) (by decide) rfl (fun ls hl => ?_)
        refine lv_goto (tgt := 26) hx hb dX7_step_56 (by decide) ?_
        exact ih t8 t9 o0 hf hk0 _ _ _ hP hD hS (lv_sub hl [2, 3, 4, 5, 6, 7, 1, 0] rfl)
  have hL14 : ∀ (x3 : Int32) (x4 : Int32) (v_power : Int64) (v_rests : (Nat → Int32)) (va1_n : Int32) (va1_primeNumber : Int32) (va1_numbers : (Nat → Int32)) (va2_n : Int32) (va2_rank : Int32) (va2_exchanges : Int32) (va2_width : Int32) (va2_p : Int32) (va2_rows : (Nat → Nat → Int64)) (fu : Nat) (x5 : Int32) (v_digits : (Nat → Int32)) (v_made : (Nat → Int64)) (o0 : (Nat → Int32)) (o1 : (Nat → Int64)), L_X7_step_14 F x3 x4 v_power v_rests va2_rows fu x5 v_digits v_made = some (o0, o1) → (∀ (H : Heap) (locs : List Loc) (ls : Array Slot), va_P D vwCl [(q, .inr (7, [.ref q_rests, .ref q_digits, .ref q_made, .long v_power])), (q_rests, .inl (cI, 4, .inl v_rests)), (q_digits, .inl (cI, 4, .inl o0)), (q_made, .inl (cJ, 4, .inr (.inl o1))), (qa1, .inr (3, [.int va1_n, .int va1_primeNumber, .ref qa1_numbers])), (qa1_numbers, .inl (cI, 20, .inl va1_numbers)), (qa2, .inr (8, [.int va2_n, .int va2_rank, .int va2_exchanges, .ref qa2_rows, .int va2_width, .int va2_p])), (qa2_rows, .inl (cQ, 4, .inr (.inr (.inr (.inr (kg qa2_rows_r)))))), (qa2_rows_r 0, .inl (cJ, 9, .inr (.inl (va2_rows 0)))), (qa2_rows_r 1, .inl (cJ, 9, .inr (.inl (va2_rows 1)))), (qa2_rows_r 2, .inl (cJ, 9, .inr (.inl (va2_rows 2)))), (qa2_rows_r 3, .inl (cJ, 9, .inr (.inl (va2_rows 3))))] H → va_D A [(q, .inr (7, [.ref q_rests, .ref q_digits, .ref q_made, .long v_power])), (q_rests, .inl (cI, 4, .inl v_rests)), (q_digits, .inl (cI, 4, .inl o0)), (q_made, .inl (cJ, 4, .inr (.inl o1))), (qa1, .inr (3, [.int va1_n, .int va1_primeNumber, .ref qa1_numbers])), (qa1_numbers, .inl (cI, 20, .inl va1_numbers)), (qa2, .inr (8, [.int va2_n, .int va2_rank, .int va2_exchanges, .ref qa2_rows, .int va2_width, .int va2_p])), (qa2_rows, .inl (cQ, 4, .inr (.inr (.inr (.inr (kg qa2_rows_r)))))), (qa2_rows_r 0, .inl (cJ, 9, .inr (.inl (va2_rows 0)))), (qa2_rows_r 1, .inl (cJ, 9, .inr (.inl (va2_rows 1)))), (qa2_rows_r 2, .inl (cJ, 9, .inr (.inl (va2_rows 2)))), (qa2_rows_r 3, .inl (cJ, 9, .inr (.inl (va2_rows 3))))] → va_S A s.heap H locs → lv_has ls 8 [(0, .ref q), (1, .ref qa1), (3, .int x3), (4, .int x4)] → W p l e R s m args below meth c H locs 0 0 Q (F0 m 103 ls [])) → ∀ (H : Heap) (locs : List Loc) (ls : Array Slot), va_P D vwCl [(q, .inr (7, [.ref q_rests, .ref q_digits, .ref q_made, .long v_power])), (q_rests, .inl (cI, 4, .inl v_rests)), (q_digits, .inl (cI, 4, .inl v_digits)), (q_made, .inl (cJ, 4, .inr (.inl v_made))), (qa1, .inr (3, [.int va1_n, .int va1_primeNumber, .ref qa1_numbers])), (qa1_numbers, .inl (cI, 20, .inl va1_numbers)), (qa2, .inr (8, [.int va2_n, .int va2_rank, .int va2_exchanges, .ref qa2_rows, .int va2_width, .int va2_p])), (qa2_rows, .inl (cQ, 4, .inr (.inr (.inr (.inr (kg qa2_rows_r)))))), (qa2_rows_r 0, .inl (cJ, 9, .inr (.inl (va2_rows 0)))), (qa2_rows_r 1, .inl (cJ, 9, .inr (.inl (va2_rows 1)))), (qa2_rows_r 2, .inl (cJ, 9, .inr (.inl (va2_rows 2)))), (qa2_rows_r 3, .inl (cJ, 9, .inr (.inl (va2_rows 3))))] H → va_D A [(q, .inr (7, [.ref q_rests, .ref q_digits, .ref q_made, .long v_power])), (q_rests, .inl (cI, 4, .inl v_rests)), (q_digits, .inl (cI, 4, .inl v_digits)), (q_made, .inl (cJ, 4, .inr (.inl v_made))), (qa1, .inr (3, [.int va1_n, .int va1_primeNumber, .ref qa1_numbers])), (qa1_numbers, .inl (cI, 20, .inl va1_numbers)), (qa2, .inr (8, [.int va2_n, .int va2_rank, .int va2_exchanges, .ref qa2_rows, .int va2_width, .int va2_p])), (qa2_rows, .inl (cQ, 4, .inr (.inr (.inr (.inr (kg qa2_rows_r)))))), (qa2_rows_r 0, .inl (cJ, 9, .inr (.inl (va2_rows 0)))), (qa2_rows_r 1, .inl (cJ, 9, .inr (.inl (va2_rows 1)))), (qa2_rows_r 2, .inl (cJ, 9, .inr (.inl (va2_rows 2)))), (qa2_rows_r 3, .inl (cJ, 9, .inr (.inl (va2_rows 3))))] → va_S A s.heap H locs → lv_has ls 8 [(0, .ref q), (1, .ref qa1), (2, .ref qa2), (3, .int x3), (4, .int x4), (5, .int x5)] → W p l e R s m args below meth c H locs 0 0 Q (F0 m 14 ls []) := by
    intro x3 x4 v_power v_rests va1_n va1_primeNumber va1_numbers va2_n va2_rank va2_exchanges va2_width va2_p va2_rows fu
    induction fu with
    | zero =>
      intro x5 v_digits v_made o0 o1 hf
      cases hf
    | succ fu ih =>
      intro x5 v_digits v_made o0 o1 hf hk0 H locs ls hP hD hS hl
      rw [L_X7_step_14] at hf
      refine lv_iload hx hb dX7_step_14 (lv_at hl 5 rfl) ?_
      refine lv_iload_n hx hb dX7_step_16 rfl (lv_at hl 3 rfl) ?_
      refine lv_icmp_ge (tgt := 103) hx hb dX7_step_17 (by decide) (fun c3 => ?_) (fun c3 => ?_)
      · have hf := kp_e hf c3
        obtain ⟨rfl, rfl⟩ := ki2 hf
        exact hk0 _ _ _ hP hD hS (lv_sub hl [0, 1, 3, 4] rfl)
      · have hf := kn_e hf c3
        refine lv_iconst (v := 0) hx hb dX7_step_20 (by decide) ?_
        refine lv_istore (lv' := [(6, .int (0 : Int32)), (0, .ref q), (1, .ref qa1), (2, .ref qa2), (3, .int x3), (4, .int x4), (5, .int x5)]) hx hb dX7_step_21 hl (by decide) rfl (fun ls hl => ?_)
        refine lv_iconst (v := 0) hx hb dX7_step_23 (by decide) ?_
        refine lv_istore (lv' := [(7, .int (0 : Int32)), (6, .int (0 : Int32)), (0, .ref q), (1, .ref qa1), (2, .ref qa2), (3, .int x3), (4, .int x4), (5, .int x5)]) hx hb dX7_step_24 hl (by decide) rfl (fun ls hl => ?_)
        obtain ⟨y10, hu, hf⟩ := kb1_e hf
        refine hL26 x3 x4 x5 v_power v_rests v_digits v_made va1_n va1_primeNumber va1_numbers va2_n va2_rank va2_exchanges va2_width va2_p va2_rows F (0 : Int32) (0 : Int32) y10 hu (fun H locs ls hP hD hS hl => ?_) _ _ _ hP hD hS (lv_sub hl [2, 3, 4, 5, 6, 7, 1, 0] rfl)
        refine lv_aload_n hx hb dX7_step_59 rfl (lv_at hl 0 rfl) ?_
        refine va_get (D := D) (ci := 7) (v := .ref q_digits) (C := RX7) (T := TX7) (N := 4) hx hb hts kinX7 hown hK hP 0 rfl rfl 1 (by decide) (hts _ kw194) (fun _ h9 => h9) rfl dX7_step_60 ?_
        refine lv_iload hx hb dX7_step_63 (lv_at hl 5 rfl) ?_
        refine lv_iload hx hb dX7_step_65 (lv_at hl 6 rfl) ?_
        refine lv_i2l hx hb dX7_step_67 rfl ?_
        refine lv_iload hx hb dX7_step_68 (lv_at hl 4 rfl) ?_
        obtain ⟨r11, h12, hf⟩ := kb1_e hf
        refine k_gi (nW := 12) (ws' := [(q, .inr (7, [.ref q_rests, .ref q_digits, .ref q_made, .long v_power])), (q_rests, .inl (cI, 4, .inl v_rests)), (q_digits, .inl (cI, 4, .inl v_digits)), (q_made, .inl (cJ, 4, .inr (.inl v_made))), (qa1, .inr (3, [.int va1_n, .int va1_primeNumber, .ref qa1_numbers])), (qa1_numbers, .inl (cI, 20, .inl va1_numbers)), (qa2, .inr (8, [.int va2_n, .int va2_rank, .int va2_exchanges, .ref qa2_rows, .int va2_width, .int va2_p])), (qa2_rows, .inl (cQ, 4, .inr (.inr (.inr (.inr (kg qa2_rows_r)))))), (qa2_rows_r 0, .inl (cJ, 9, .inr (.inl (va2_rows 0)))), (qa2_rows_r 1, .inl (cJ, 9, .inr (.inl (va2_rows 1)))), (qa2_rows_r 2, .inl (cJ, 9, .inr (.inl (va2_rows 2)))), (qa2_rows_r 3, .inl (cJ, 9, .inr (.inl (va2_rows 3))))]) (wr := [(q, .inr (7, [.ref q_rests, .ref q_digits, .ref q_made, .long v_power])), (q_rests, .inl (cI, 4, .inl v_rests)), (q_digits, .inl (cI, 4, .inl v_digits)), (q_made, .inl (cJ, 4, .inr (.inl v_made))), (qa1, .inr (3, [.int va1_n, .int va1_primeNumber, .ref qa1_numbers])), (qa1_numbers, .inl (cI, 20, .inl va1_numbers)), (qa2, .inr (8, [.int va2_n, .int va2_rank, .int va2_exchanges, .ref qa2_rows, .int va2_width, .int va2_p])), (qa2_rows, .inl (cQ, 4, .inr (.inr (.inr (.inr (kg qa2_rows_r)))))), (qa2_rows_r 0, .inl (cJ, 9, .inr (.inl (va2_rows 0)))), (qa2_rows_r 1, .inl (cJ, 9, .inr (.inl (va2_rows 1)))), (qa2_rows_r 2, .inl (cJ, 9, .inr (.inl (va2_rows 2)))), (qa2_rows_r 3, .inl (cJ, 9, .inr (.inl (va2_rows 3))))]) (k_runSN (rest := [.int x5, .ref q_digits]) hat hP hD hS hl.1 (c_X11_leftOver (y10.toInt64) x4 r11 h12) [] (by decide) rfl kw523 kw418 kw67 kw419 kdX11_leftOver ⟨rfl, rfl⟩ (by rw [hR]; exact ⟨Nat.le_of_ble_eq_true rfl, Nat.le_of_ble_eq_true rfl⟩) ⟨Nat.zero_le _, Nat.zero_le _⟩ rfl rfl (Nat.le_of_ble_eq_true rfl) dX7_step_70) hat hP hD hS [] rfl [0, 1, 2, 3, 4, 5, 6, 7, 8, 9, 10, 11] rfl rfl rfl rfl rfl (by decide) (fun H locs hP hD hS => ?_)
        obtain ⟨c13, hf⟩ := kc_e hf
        refine va_iast hx hb hK hP hD hS 2 0 rfl rfl (kin_e c13) dX7_step_73 (fun H locs hP hD hS => ?_)
        generalize ew14 : (upd v_digits x5.toNatClampNeg r11) = w14 at hP hD
        have hf := kl_e hf w14 ew14.symm
        have hP : va_P D vwCl [(q, .inr (7, [.ref q_rests, .ref q_digits, .ref q_made, .long v_power])), (q_rests, .inl (cI, 4, .inl v_rests)), (q_digits, .inl (cI, 4, .inl w14)), (q_made, .inl (cJ, 4, .inr (.inl v_made))), (qa1, .inr (3, [.int va1_n, .int va1_primeNumber, .ref qa1_numbers])), (qa1_numbers, .inl (cI, 20, .inl va1_numbers)), (qa2, .inr (8, [.int va2_n, .int va2_rank, .int va2_exchanges, .ref qa2_rows, .int va2_width, .int va2_p])), (qa2_rows, .inl (cQ, 4, .inr (.inr (.inr (.inr (kg qa2_rows_r)))))), (qa2_rows_r 0, .inl (cJ, 9, .inr (.inl (va2_rows 0)))), (qa2_rows_r 1, .inl (cJ, 9, .inr (.inl (va2_rows 1)))), (qa2_rows_r 2, .inl (cJ, 9, .inr (.inl (va2_rows 2)))), (qa2_rows_r 3, .inl (cJ, 9, .inr (.inl (va2_rows 3))))] H := hP
        have hD : va_D A [(q, .inr (7, [.ref q_rests, .ref q_digits, .ref q_made, .long v_power])), (q_rests, .inl (cI, 4, .inl v_rests)), (q_digits, .inl (cI, 4, .inl w14)), (q_made, .inl (cJ, 4, .inr (.inl v_made))), (qa1, .inr (3, [.int va1_n, .int va1_primeNumber, .ref qa1_numbers])), (qa1_numbers, .inl (cI, 20, .inl va1_numbers)), (qa2, .inr (8, [.int va2_n, .int va2_rank, .int va2_exchanges, .ref qa2_rows, .int va2_width, .int va2_p])), (qa2_rows, .inl (cQ, 4, .inr (.inr (.inr (.inr (kg qa2_rows_r)))))), (qa2_rows_r 0, .inl (cJ, 9, .inr (.inl (va2_rows 0)))), (qa2_rows_r 1, .inl (cJ, 9, .inr (.inl (va2_rows 1)))), (qa2_rows_r 2, .inl (cJ, 9, .inr (.inl (va2_rows 2)))), (qa2_rows_r 3, .inl (cJ, 9, .inr (.inl (va2_rows 3))))] := hD
        refine lv_aload_n hx hb dX7_step_74 rfl (lv_at hl 0 rfl) ?_
        refine va_get (D := D) (ci := 7) (v := .ref q_made) (C := RX7) (T := TX7) (N := 4) hx hb hts kinX7 hown hK hP 0 rfl rfl 2 (by decide) (hts _ kw196) (fun _ h9 => h9) rfl dX7_step_75 ?_
        refine lv_iload hx hb dX7_step_78 (lv_at hl 5 rfl) ?_
        refine lv_dup2_11 hx hb dX7_step_80 rfl rfl ?_
        obtain ⟨c15, hf⟩ := kc_e hf
        refine va_lald hx hb hK hP 3 1 rfl rfl (kin_e c15) dX7_step_81 ?_
        refine lv_aload_n hx hb dX7_step_82 rfl (lv_at hl 0 rfl) ?_
        refine va_get (D := D) (ci := 7) (v := .ref q_digits) (C := RX7) (T := TX7) (N := 4) hx hb hts kinX7 hown hK hP 0 rfl rfl 1 (by decide) (hts _ kw194) (fun _ h9 => h9) rfl dX7_step_83 ?_
        refine lv_iload hx hb dX7_step_86 (lv_at hl 5 rfl) ?_
        obtain ⟨c16, hf⟩ := kc_e hf
        refine va_iald hx hb hK hP 2 0 rfl rfl (kin_e c16) dX7_step_88 ?_
        refine lv_i2l hx hb dX7_step_89 rfl ?_
        refine lv_aload_n hx hb dX7_step_90 rfl (lv_at hl 0 rfl) ?_
        refine va_get (D := D) (ci := 7) (v := .long v_power) (C := RX7) (T := TX7) (N := 4) hx hb hts kinX7 hown hK hP 0 rfl rfl 3 (by decide) (hts _ kw199) (fun _ h9 => h9) rfl dX7_step_91 ?_
        refine lv_lmul hx hb dX7_step_94 ?_
        refine lv_ladd hx hb dX7_step_95 ?_
        obtain ⟨c17, hf⟩ := kc_e hf
        refine va_last hx hb hK hP hD hS 3 1 rfl rfl (kin_e c17) dX7_step_96 (fun H locs hP hD hS => ?_)
        generalize ew18 : (vp_updL v_made x5.toNatClampNeg ((v_made x5.toNatClampNeg) + (((w14 x5.toNatClampNeg).toInt64) * v_power))) = w18 at hP hD
        have hf := kl_e hf w18 ew18.symm
        have hP : va_P D vwCl [(q, .inr (7, [.ref q_rests, .ref q_digits, .ref q_made, .long v_power])), (q_rests, .inl (cI, 4, .inl v_rests)), (q_digits, .inl (cI, 4, .inl w14)), (q_made, .inl (cJ, 4, .inr (.inl w18))), (qa1, .inr (3, [.int va1_n, .int va1_primeNumber, .ref qa1_numbers])), (qa1_numbers, .inl (cI, 20, .inl va1_numbers)), (qa2, .inr (8, [.int va2_n, .int va2_rank, .int va2_exchanges, .ref qa2_rows, .int va2_width, .int va2_p])), (qa2_rows, .inl (cQ, 4, .inr (.inr (.inr (.inr (kg qa2_rows_r)))))), (qa2_rows_r 0, .inl (cJ, 9, .inr (.inl (va2_rows 0)))), (qa2_rows_r 1, .inl (cJ, 9, .inr (.inl (va2_rows 1)))), (qa2_rows_r 2, .inl (cJ, 9, .inr (.inl (va2_rows 2)))), (qa2_rows_r 3, .inl (cJ, 9, .inr (.inl (va2_rows 3))))] H := hP
        have hD : va_D A [(q, .inr (7, [.ref q_rests, .ref q_digits, .ref q_made, .long v_power])), (q_rests, .inl (cI, 4, .inl v_rests)), (q_digits, .inl (cI, 4, .inl w14)), (q_made, .inl (cJ, 4, .inr (.inl w18))), (qa1, .inr (3, [.int va1_n, .int va1_primeNumber, .ref qa1_numbers])), (qa1_numbers, .inl (cI, 20, .inl va1_numbers)), (qa2, .inr (8, [.int va2_n, .int va2_rank, .int va2_exchanges, .ref qa2_rows, .int va2_width, .int va2_p])), (qa2_rows, .inl (cQ, 4, .inr (.inr (.inr (.inr (kg qa2_rows_r)))))), (qa2_rows_r 0, .inl (cJ, 9, .inr (.inl (va2_rows 0)))), (qa2_rows_r 1, .inl (cJ, 9, .inr (.inl (va2_rows 1)))), (qa2_rows_r 2, .inl (cJ, 9, .inr (.inl (va2_rows 2)))), (qa2_rows_r 3, .inl (cJ, 9, .inr (.inl (va2_rows 3))))] := hD
        obtain ⟨t19, et19⟩ : ∃ z : Int32, z = (x5 + (1 : Int32)) := ⟨_, rfl⟩
        have hf := kl_e hf t19 et19
        refine lv_iinc (v := t19) (lv' := [(5, .int t19), (0, .ref q), (1, .ref qa1), (2, .ref qa2), (3, .int x3), (4, .int x4), (6, .int y10)]) hx hb dX7_step_97 hl (k := 5) rfl (by rw [et19]; rfl) (by decide) rfl (fun ls hl => ?_)
        refine lv_goto (tgt := 14) hx hb dX7_step_100 (by decide) ?_
        exact ih t19 w14 w18 o0 o1 hf hk0 _ _ _ hP hD hS (lv_sub hl [1, 2, 3, 4, 5, 0] rfl)
  have hL124 : ∀ (x3 : Int32) (x4 : Int32) (x5 : Int32) (v_power : Int64) (v_rests : (Nat → Int32)) (v_digits : (Nat → Int32)) (v_made : (Nat → Int64)) (va1_n : Int32) (va1_primeNumber : Int32) (va1_numbers : (Nat → Int32)) (va2_n : Int32) (va2_rank : Int32) (va2_exchanges : Int32) (va2_width : Int32) (va2_p : Int32) (va2_rows : (Nat → Nat → Int64)) (fu : Nat) (x6 : Int32) (x7 : Int32) (o0 : Int32), L_X7_step_124 x3 x4 x5 v_digits va1_numbers fu x6 x7 = some o0 → (∀ (H : Heap) (locs : List Loc) (ls : Array Slot), va_P D vwCl [(q, .inr (7, [.ref q_rests, .ref q_digits, .ref q_made, .long v_power])), (q_rests, .inl (cI, 4, .inl v_rests)), (q_digits, .inl (cI, 4, .inl v_digits)), (q_made, .inl (cJ, 4, .inr (.inl v_made))), (qa1, .inr (3, [.int va1_n, .int va1_primeNumber, .ref qa1_numbers])), (qa1_numbers, .inl (cI, 20, .inl va1_numbers)), (qa2, .inr (8, [.int va2_n, .int va2_rank, .int va2_exchanges, .ref qa2_rows, .int va2_width, .int va2_p])), (qa2_rows, .inl (cQ, 4, .inr (.inr (.inr (.inr (kg qa2_rows_r)))))), (qa2_rows_r 0, .inl (cJ, 9, .inr (.inl (va2_rows 0)))), (qa2_rows_r 1, .inl (cJ, 9, .inr (.inl (va2_rows 1)))), (qa2_rows_r 2, .inl (cJ, 9, .inr (.inl (va2_rows 2)))), (qa2_rows_r 3, .inl (cJ, 9, .inr (.inl (va2_rows 3))))] H → va_D A [(q, .inr (7, [.ref q_rests, .ref q_digits, .ref q_made, .long v_power])), (q_rests, .inl (cI, 4, .inl v_rests)), (q_digits, .inl (cI, 4, .inl v_digits)), (q_made, .inl (cJ, 4, .inr (.inl v_made))), (qa1, .inr (3, [.int va1_n, .int va1_primeNumber, .ref qa1_numbers])), (qa1_numbers, .inl (cI, 20, .inl va1_numbers)), (qa2, .inr (8, [.int va2_n, .int va2_rank, .int va2_exchanges, .ref qa2_rows, .int va2_width, .int va2_p])), (qa2_rows, .inl (cQ, 4, .inr (.inr (.inr (.inr (kg qa2_rows_r)))))), (qa2_rows_r 0, .inl (cJ, 9, .inr (.inl (va2_rows 0)))), (qa2_rows_r 1, .inl (cJ, 9, .inr (.inl (va2_rows 1)))), (qa2_rows_r 2, .inl (cJ, 9, .inr (.inl (va2_rows 2)))), (qa2_rows_r 3, .inl (cJ, 9, .inr (.inl (va2_rows 3))))] → va_S A s.heap H locs → lv_has ls 8 [(0, .ref q), (1, .ref qa1), (3, .int x3), (4, .int x4), (5, .int x5), (6, .int o0)] → W p l e R s m args below meth c H locs 0 0 Q (F0 m 157 ls [])) → ∀ (H : Heap) (locs : List Loc) (ls : Array Slot), va_P D vwCl [(q, .inr (7, [.ref q_rests, .ref q_digits, .ref q_made, .long v_power])), (q_rests, .inl (cI, 4, .inl v_rests)), (q_digits, .inl (cI, 4, .inl v_digits)), (q_made, .inl (cJ, 4, .inr (.inl v_made))), (qa1, .inr (3, [.int va1_n, .int va1_primeNumber, .ref qa1_numbers])), (qa1_numbers, .inl (cI, 20, .inl va1_numbers)), (qa2, .inr (8, [.int va2_n, .int va2_rank, .int va2_exchanges, .ref qa2_rows, .int va2_width, .int va2_p])), (qa2_rows, .inl (cQ, 4, .inr (.inr (.inr (.inr (kg qa2_rows_r)))))), (qa2_rows_r 0, .inl (cJ, 9, .inr (.inl (va2_rows 0)))), (qa2_rows_r 1, .inl (cJ, 9, .inr (.inl (va2_rows 1)))), (qa2_rows_r 2, .inl (cJ, 9, .inr (.inl (va2_rows 2)))), (qa2_rows_r 3, .inl (cJ, 9, .inr (.inl (va2_rows 3))))] H → va_D A [(q, .inr (7, [.ref q_rests, .ref q_digits, .ref q_made, .long v_power])), (q_rests, .inl (cI, 4, .inl v_rests)), (q_digits, .inl (cI, 4, .inl v_digits)), (q_made, .inl (cJ, 4, .inr (.inl v_made))), (qa1, .inr (3, [.int va1_n, .int va1_primeNumber, .ref qa1_numbers])), (qa1_numbers, .inl (cI, 20, .inl va1_numbers)), (qa2, .inr (8, [.int va2_n, .int va2_rank, .int va2_exchanges, .ref qa2_rows, .int va2_width, .int va2_p])), (qa2_rows, .inl (cQ, 4, .inr (.inr (.inr (.inr (kg qa2_rows_r)))))), (qa2_rows_r 0, .inl (cJ, 9, .inr (.inl (va2_rows 0)))), (qa2_rows_r 1, .inl (cJ, 9, .inr (.inl (va2_rows 1)))), (qa2_rows_r 2, .inl (cJ, 9, .inr (.inl (va2_rows 2)))), (qa2_rows_r 3, .inl (cJ, 9, .inr (.inl (va2_rows 3))))] → va_S A s.heap H locs → lv_has ls 8 [(0, .ref q), (1, .ref qa1), (3, .int x3), (4, .int x4), (5, .int x5), (6, .int x6), (7, .int x7)] → W p l e R s m args below meth c H locs 0 0 Q (F0 m 124 ls []) := by
    intro x3 x4 x5 v_power v_rests v_digits v_made va1_n va1_primeNumber va1_numbers va2_n va2_rank va2_exchanges va2_width va2_p va2_rows fu
    induction fu with
    | zero =>
      intro x6 x7 o0 hf
      cases hf
    | succ fu ih =>
      intro x6 x7 o0 hf hk0 H locs ls hP hD hS hl
      rw [L_X7_step_124] at hf
      refine lv_iload hx hb dX7_step_124 (lv_at hl 6 rfl) ?_
      refine lv_iload_n hx hb dX7_step_126 rfl (lv_at hl 2 rfl) ?_
      refine lv_icmp_ge (tgt := 157) hx hb dX7_step_127 (by decide) (fun c25 => ?_) (fun c25 => ?_)
      · have hf := kp_e hf c25
        obtain rfl := ki1 hf
        exact hk0 _ _ _ hP hD hS (lv_sub hl [0, 1, 2, 3, 4, 5] rfl)
      · have hf := kn_e hf c25
        refine lv_iload hx hb dX7_step_130 (lv_at hl 5 rfl) ?_
        refine lv_aload_n hx hb dX7_step_132 rfl (lv_at hl 1 rfl) ?_
        refine lv_iload hx hb dX7_step_133 (lv_at hl 4 rfl) ?_
        refine lv_iload hx hb dX7_step_135 (lv_at hl 6 rfl) ?_
        obtain ⟨r26, h27, hf⟩ := kb1_e hf
        refine k_gi (nW := 12) (ws' := [(q, .inr (7, [.ref q_rests, .ref q_digits, .ref q_made, .long v_power])), (q_rests, .inl (cI, 4, .inl v_rests)), (q_digits, .inl (cI, 4, .inl v_digits)), (q_made, .inl (cJ, 4, .inr (.inl v_made))), (qa1, .inr (3, [.int va1_n, .int va1_primeNumber, .ref qa1_numbers])), (qa1_numbers, .inl (cI, 20, .inl va1_numbers)), (qa2, .inr (8, [.int va2_n, .int va2_rank, .int va2_exchanges, .ref qa2_rows, .int va2_width, .int va2_p])), (qa2_rows, .inl (cQ, 4, .inr (.inr (.inr (.inr (kg qa2_rows_r)))))), (qa2_rows_r 0, .inl (cJ, 9, .inr (.inl (va2_rows 0)))), (qa2_rows_r 1, .inl (cJ, 9, .inr (.inl (va2_rows 1)))), (qa2_rows_r 2, .inl (cJ, 9, .inr (.inl (va2_rows 2)))), (qa2_rows_r 3, .inl (cJ, 9, .inr (.inl (va2_rows 3))))]) (wr := [(q, .inr (7, [.ref q_rests, .ref q_digits, .ref q_made, .long v_power])), (q_rests, .inl (cI, 4, .inl v_rests)), (q_digits, .inl (cI, 4, .inl v_digits)), (q_made, .inl (cJ, 4, .inr (.inl v_made))), (qa2, .inr (8, [.int va2_n, .int va2_rank, .int va2_exchanges, .ref qa2_rows, .int va2_width, .int va2_p])), (qa2_rows, .inl (cQ, 4, .inr (.inr (.inr (.inr (kg qa2_rows_r)))))), (qa2_rows_r 0, .inl (cJ, 9, .inr (.inl (va2_rows 0)))), (qa2_rows_r 1, .inl (cJ, 9, .inr (.inl (va2_rows 1)))), (qa2_rows_r 2, .inl (cJ, 9, .inr (.inl (va2_rows 2)))), (qa2_rows_r 3, .inl (cJ, 9, .inr (.inl (va2_rows 3))))]) (k_runV (rest := [.int x6]) hat hP hD hS hl.1 (c_X3_number qa1 qa1_numbers va1_n va1_primeNumber va1_numbers x5 x7 r26 h27) [4, 5] (by decide) rfl kw513 kw380 kw381 kw68 kw382 kdVX3_number ⟨rfl, rfl⟩ (by rw [hR]; exact ⟨Nat.le_of_ble_eq_true rfl, Nat.le_of_ble_eq_true rfl⟩) ⟨Nat.zero_le _, Nat.zero_le _⟩ 4 3 rfl rfl rfl rfl (Nat.le_of_ble_eq_true rfl) dX7_step_137) hat hP hD hS [4, 5] rfl [0, 1, 2, 3, 6, 7, 8, 9, 10, 11] rfl rfl rfl rfl rfl (by decide) (fun H locs hP hD hS => ?_)
        refine lv_aload_n hx hb dX7_step_140 rfl (lv_at hl 0 rfl) ?_
        refine va_get (D := D) (ci := 7) (v := .ref q_digits) (C := RX7) (T := TX7) (N := 4) hx hb hts kinX7 hown hK hP 0 rfl rfl 1 (by decide) (hts _ kw194) (fun _ h9 => h9) rfl dX7_step_141 ?_
        refine lv_iload hx hb dX7_step_144 (lv_at hl 6 rfl) ?_
        obtain ⟨c28, hf⟩ := kc_e hf
        refine va_iald hx hb hK hP 2 0 rfl rfl (kin_e c28) dX7_step_146 ?_
        refine lv_imul hx hb dX7_step_147 ?_
        refine lv_isub hx hb dX7_step_148 ?_
        refine lv_topi (fun t29 et29 => ?_)
        have hf := kl_e hf t29 et29
        refine lv_istore (lv' := [(6, .int t29), (0, .ref q), (1, .ref qa1), (3, .int x3), (4, .int x4), (5, .int x5), (7, .int x7)]) hx hb dX7_step_149 hl (by decide) rfl (fun ls hl => ?_)
        obtain ⟨t30, et30⟩ : ∃ z : Int32, z = (x7 + (1 : Int32)) := ⟨_, rfl⟩
        have hf := kl_e hf t30 et30
        refine lv_iinc (v := t30) (lv' := [(7, .int t30), (6, .int t29), (0, .ref q), (1, .ref qa1), (3, .int x3), (4, .int x4), (5, .int x5)]) hx hb dX7_step_151 hl (k := 6) rfl (by rw [et30]; rfl) (by decide) rfl (fun ls hl => ?_)
        refine lv_goto (tgt := 124) hx hb dX7_step_154 (by decide) ?_
        exact ih t29 t30 o0 hf hk0 _ _ _ hP hD hS (lv_sub hl [2, 3, 4, 5, 6, 1, 0] rfl)
  have hL106 : ∀ (x3 : Int32) (x4 : Int32) (v_power : Int64) (v_digits : (Nat → Int32)) (v_made : (Nat → Int64)) (va1_n : Int32) (va1_primeNumber : Int32) (va1_numbers : (Nat → Int32)) (va2_n : Int32) (va2_rank : Int32) (va2_exchanges : Int32) (va2_width : Int32) (va2_p : Int32) (va2_rows : (Nat → Nat → Int64)) (fu : Nat) (x5 : Int32) (v_rests : (Nat → Int32)) (o0 : (Nat → Int32)), L_X7_step_106 F x3 x4 v_digits va1_numbers fu x5 v_rests = some o0 → (∀ (H : Heap) (locs : List Loc) (ls : Array Slot), va_P D vwCl [(q, .inr (7, [.ref q_rests, .ref q_digits, .ref q_made, .long v_power])), (q_rests, .inl (cI, 4, .inl o0)), (q_digits, .inl (cI, 4, .inl v_digits)), (q_made, .inl (cJ, 4, .inr (.inl v_made))), (qa1, .inr (3, [.int va1_n, .int va1_primeNumber, .ref qa1_numbers])), (qa1_numbers, .inl (cI, 20, .inl va1_numbers)), (qa2, .inr (8, [.int va2_n, .int va2_rank, .int va2_exchanges, .ref qa2_rows, .int va2_width, .int va2_p])), (qa2_rows, .inl (cQ, 4, .inr (.inr (.inr (.inr (kg qa2_rows_r)))))), (qa2_rows_r 0, .inl (cJ, 9, .inr (.inl (va2_rows 0)))), (qa2_rows_r 1, .inl (cJ, 9, .inr (.inl (va2_rows 1)))), (qa2_rows_r 2, .inl (cJ, 9, .inr (.inl (va2_rows 2)))), (qa2_rows_r 3, .inl (cJ, 9, .inr (.inl (va2_rows 3))))] H → va_D A [(q, .inr (7, [.ref q_rests, .ref q_digits, .ref q_made, .long v_power])), (q_rests, .inl (cI, 4, .inl o0)), (q_digits, .inl (cI, 4, .inl v_digits)), (q_made, .inl (cJ, 4, .inr (.inl v_made))), (qa1, .inr (3, [.int va1_n, .int va1_primeNumber, .ref qa1_numbers])), (qa1_numbers, .inl (cI, 20, .inl va1_numbers)), (qa2, .inr (8, [.int va2_n, .int va2_rank, .int va2_exchanges, .ref qa2_rows, .int va2_width, .int va2_p])), (qa2_rows, .inl (cQ, 4, .inr (.inr (.inr (.inr (kg qa2_rows_r)))))), (qa2_rows_r 0, .inl (cJ, 9, .inr (.inl (va2_rows 0)))), (qa2_rows_r 1, .inl (cJ, 9, .inr (.inl (va2_rows 1)))), (qa2_rows_r 2, .inl (cJ, 9, .inr (.inl (va2_rows 2)))), (qa2_rows_r 3, .inl (cJ, 9, .inr (.inl (va2_rows 3))))] → va_S A s.heap H locs → lv_has ls 8 [(0, .ref q), (4, .int x4)] → W p l e R s m args below meth c H locs 0 0 Q (F0 m 180 ls [])) → ∀ (H : Heap) (locs : List Loc) (ls : Array Slot), va_P D vwCl [(q, .inr (7, [.ref q_rests, .ref q_digits, .ref q_made, .long v_power])), (q_rests, .inl (cI, 4, .inl v_rests)), (q_digits, .inl (cI, 4, .inl v_digits)), (q_made, .inl (cJ, 4, .inr (.inl v_made))), (qa1, .inr (3, [.int va1_n, .int va1_primeNumber, .ref qa1_numbers])), (qa1_numbers, .inl (cI, 20, .inl va1_numbers)), (qa2, .inr (8, [.int va2_n, .int va2_rank, .int va2_exchanges, .ref qa2_rows, .int va2_width, .int va2_p])), (qa2_rows, .inl (cQ, 4, .inr (.inr (.inr (.inr (kg qa2_rows_r)))))), (qa2_rows_r 0, .inl (cJ, 9, .inr (.inl (va2_rows 0)))), (qa2_rows_r 1, .inl (cJ, 9, .inr (.inl (va2_rows 1)))), (qa2_rows_r 2, .inl (cJ, 9, .inr (.inl (va2_rows 2)))), (qa2_rows_r 3, .inl (cJ, 9, .inr (.inl (va2_rows 3))))] H → va_D A [(q, .inr (7, [.ref q_rests, .ref q_digits, .ref q_made, .long v_power])), (q_rests, .inl (cI, 4, .inl v_rests)), (q_digits, .inl (cI, 4, .inl v_digits)), (q_made, .inl (cJ, 4, .inr (.inl v_made))), (qa1, .inr (3, [.int va1_n, .int va1_primeNumber, .ref qa1_numbers])), (qa1_numbers, .inl (cI, 20, .inl va1_numbers)), (qa2, .inr (8, [.int va2_n, .int va2_rank, .int va2_exchanges, .ref qa2_rows, .int va2_width, .int va2_p])), (qa2_rows, .inl (cQ, 4, .inr (.inr (.inr (.inr (kg qa2_rows_r)))))), (qa2_rows_r 0, .inl (cJ, 9, .inr (.inl (va2_rows 0)))), (qa2_rows_r 1, .inl (cJ, 9, .inr (.inl (va2_rows 1)))), (qa2_rows_r 2, .inl (cJ, 9, .inr (.inl (va2_rows 2)))), (qa2_rows_r 3, .inl (cJ, 9, .inr (.inl (va2_rows 3))))] → va_S A s.heap H locs → lv_has ls 8 [(0, .ref q), (1, .ref qa1), (3, .int x3), (4, .int x4), (5, .int x5)] → W p l e R s m args below meth c H locs 0 0 Q (F0 m 106 ls []) := by
    intro x3 x4 v_power v_digits v_made va1_n va1_primeNumber va1_numbers va2_n va2_rank va2_exchanges va2_width va2_p va2_rows fu
    induction fu with
    | zero =>
      intro x5 v_rests o0 hf
      cases hf
    | succ fu ih =>
      intro x5 v_rests o0 hf hk0 H locs ls hP hD hS hl
      rw [L_X7_step_106] at hf
      refine lv_iload hx hb dX7_step_106 (lv_at hl 4 rfl) ?_
      refine lv_iload_n hx hb dX7_step_108 rfl (lv_at hl 2 rfl) ?_
      refine lv_icmp_ge (tgt := 180) hx hb dX7_step_109 (by decide) (fun c22 => ?_) (fun c22 => ?_)
      · have hf := kp_e hf c22
        obtain rfl := ki1 hf
        exact hk0 _ _ _ hP hD hS (lv_sub hl [0, 3] rfl)
      · have hf := kn_e hf c22
        refine lv_aload_n hx hb dX7_step_112 rfl (lv_at hl 0 rfl) ?_
        refine va_get (D := D) (ci := 7) (v := .ref q_rests) (C := RX7) (T := TX7) (N := 4) hx hb hts kinX7 hown hK hP 0 rfl rfl 0 (by decide) (hts _ kw192) (fun _ h9 => h9) rfl dX7_step_113 ?_
        refine lv_iload hx hb dX7_step_116 (lv_at hl 4 rfl) ?_
        obtain ⟨c23, hf⟩ := kc_e hf
        refine va_iald hx hb hK hP 1 0 rfl rfl (kin_e c23) dX7_step_118 ?_
        refine lv_topi (fun t24 et24 => ?_)
        have hf := kl_e hf t24 et24
        refine lv_istore (lv' := [(6, .int t24), (0, .ref q), (1, .ref qa1), (3, .int x3), (4, .int x4), (5, .int x5)]) hx hb dX7_step_119 hl (by decide) rfl (fun ls hl => ?_)
        refine lv_iconst (v := 0) hx hb dX7_step_121 (by decide) ?_
        refine lv_istore (lv' := [(7, .int (0 : Int32)), (6, .int t24), (0, .ref q), (1, .ref qa1), (3, .int x3), (4, .int x4), (5, .int x5)]) hx hb dX7_step_122 hl (by decide) rfl (fun ls hl => ?_)
        obtain ⟨y31, hu, hf⟩ := kb1_e hf
        refine hL124 x3 x4 x5 v_power v_rests v_digits v_made va1_n va1_primeNumber va1_numbers va2_n va2_rank va2_exchanges va2_width va2_p va2_rows F t24 (0 : Int32) y31 hu (fun H locs ls hP hD hS hl => ?_) _ _ _ hP hD hS (lv_sub hl [2, 3, 4, 5, 6, 1, 0] rfl)
        refine lv_aload_n hx hb dX7_step_157 rfl (lv_at hl 0 rfl) ?_
        refine va_get (D := D) (ci := 7) (v := .ref q_rests) (C := RX7) (T := TX7) (N := 4) hx hb hts kinX7 hown hK hP 0 rfl rfl 0 (by decide) (hts _ kw192) (fun _ h9 => h9) rfl dX7_step_158 ?_
        refine lv_iload hx hb dX7_step_161 (lv_at hl 4 rfl) ?_
        refine lv_iload hx hb dX7_step_163 (lv_at hl 5 rfl) ?_
        refine lv_i2l hx hb dX7_step_165 rfl ?_
        refine lv_iload hx hb dX7_step_166 (lv_at hl 3 rfl) ?_
        refine lv_i2l hx hb dX7_step_168 rfl ?_
        obtain ⟨r32, h33, hf⟩ := kb1_e hf
        refine k_gl (nW := 12) (ws' := [(q, .inr (7, [.ref q_rests, .ref q_digits, .ref q_made, .long v_power])), (q_rests, .inl (cI, 4, .inl v_rests)), (q_digits, .inl (cI, 4, .inl v_digits)), (q_made, .inl (cJ, 4, .inr (.inl v_made))), (qa1, .inr (3, [.int va1_n, .int va1_primeNumber, .ref qa1_numbers])), (qa1_numbers, .inl (cI, 20, .inl va1_numbers)), (qa2, .inr (8, [.int va2_n, .int va2_rank, .int va2_exchanges, .ref qa2_rows, .int va2_width, .int va2_p])), (qa2_rows, .inl (cQ, 4, .inr (.inr (.inr (.inr (kg qa2_rows_r)))))), (qa2_rows_r 0, .inl (cJ, 9, .inr (.inl (va2_rows 0)))), (qa2_rows_r 1, .inl (cJ, 9, .inr (.inl (va2_rows 1)))), (qa2_rows_r 2, .inl (cJ, 9, .inr (.inl (va2_rows 2)))), (qa2_rows_r 3, .inl (cJ, 9, .inr (.inl (va2_rows 3))))]) (wr := [(q, .inr (7, [.ref q_rests, .ref q_digits, .ref q_made, .long v_power])), (q_rests, .inl (cI, 4, .inl v_rests)), (q_digits, .inl (cI, 4, .inl v_digits)), (q_made, .inl (cJ, 4, .inr (.inl v_made))), (qa1, .inr (3, [.int va1_n, .int va1_primeNumber, .ref qa1_numbers])), (qa1_numbers, .inl (cI, 20, .inl va1_numbers)), (qa2, .inr (8, [.int va2_n, .int va2_rank, .int va2_exchanges, .ref qa2_rows, .int va2_width, .int va2_p])), (qa2_rows, .inl (cQ, 4, .inr (.inr (.inr (.inr (kg qa2_rows_r)))))), (qa2_rows_r 0, .inl (cJ, 9, .inr (.inl (va2_rows 0)))), (qa2_rows_r 1, .inl (cJ, 9, .inr (.inl (va2_rows 1)))), (qa2_rows_r 2, .inl (cJ, 9, .inr (.inl (va2_rows 2)))), (qa2_rows_r 3, .inl (cJ, 9, .inr (.inl (va2_rows 3))))]) (k_runSN (rest := [.int x5, .ref q_rests]) hat hP hD hS hl.1 (c_X11_quotient (y31.toInt64) (x4.toInt64) r32 h33) [] (by decide) rfl kw524 kw408 kw67 kw409 kdX11_quotient ⟨rfl, rfl⟩ (by rw [hR]; exact ⟨Nat.le_of_ble_eq_true rfl, Nat.le_of_ble_eq_true rfl⟩) ⟨Nat.zero_le _, Nat.zero_le _⟩ rfl rfl (Nat.le_of_ble_eq_true rfl) dX7_step_169) hat hP hD hS [] rfl [0, 1, 2, 3, 4, 5, 6, 7, 8, 9, 10, 11] rfl rfl rfl rfl rfl (by decide) (fun H locs hP hD hS => ?_)
        refine lv_l2i hx hb dX7_step_172 rfl ?_
        obtain ⟨c34, hf⟩ := kc_e hf
        refine va_iast hx hb hK hP hD hS 1 0 rfl rfl (kin_e c34) dX7_step_173 (fun H locs hP hD hS => ?_)
        generalize ew35 : (upd v_rests x5.toNatClampNeg (r32.toInt32)) = w35 at hP hD
        have hf := kl_e hf w35 ew35.symm
        have hP : va_P D vwCl [(q, .inr (7, [.ref q_rests, .ref q_digits, .ref q_made, .long v_power])), (q_rests, .inl (cI, 4, .inl w35)), (q_digits, .inl (cI, 4, .inl v_digits)), (q_made, .inl (cJ, 4, .inr (.inl v_made))), (qa1, .inr (3, [.int va1_n, .int va1_primeNumber, .ref qa1_numbers])), (qa1_numbers, .inl (cI, 20, .inl va1_numbers)), (qa2, .inr (8, [.int va2_n, .int va2_rank, .int va2_exchanges, .ref qa2_rows, .int va2_width, .int va2_p])), (qa2_rows, .inl (cQ, 4, .inr (.inr (.inr (.inr (kg qa2_rows_r)))))), (qa2_rows_r 0, .inl (cJ, 9, .inr (.inl (va2_rows 0)))), (qa2_rows_r 1, .inl (cJ, 9, .inr (.inl (va2_rows 1)))), (qa2_rows_r 2, .inl (cJ, 9, .inr (.inl (va2_rows 2)))), (qa2_rows_r 3, .inl (cJ, 9, .inr (.inl (va2_rows 3))))] H := hP
        have hD : va_D A [(q, .inr (7, [.ref q_rests, .ref q_digits, .ref q_made, .long v_power])), (q_rests, .inl (cI, 4, .inl w35)), (q_digits, .inl (cI, 4, .inl v_digits)), (q_made, .inl (cJ, 4, .inr (.inl v_made))), (qa1, .inr (3, [.int va1_n, .int va1_primeNumber, .ref qa1_numbers])), (qa1_numbers, .inl (cI, 20, .inl va1_numbers)), (qa2, .inr (8, [.int va2_n, .int va2_rank, .int va2_exchanges, .ref qa2_rows, .int va2_width, .int va2_p])), (qa2_rows, .inl (cQ, 4, .inr (.inr (.inr (.inr (kg qa2_rows_r)))))), (qa2_rows_r 0, .inl (cJ, 9, .inr (.inl (va2_rows 0)))), (qa2_rows_r 1, .inl (cJ, 9, .inr (.inl (va2_rows 1)))), (qa2_rows_r 2, .inl (cJ, 9, .inr (.inl (va2_rows 2)))), (qa2_rows_r 3, .inl (cJ, 9, .inr (.inl (va2_rows 3))))] := hD
        obtain ⟨t36, et36⟩ : ∃ z : Int32, z = (x5 + (1 : Int32)) := ⟨_, rfl⟩
        have hf := kl_e hf t36 et36
        refine lv_iinc (v := t36) (lv' := [(5, .int t36), (0, .ref q), (1, .ref qa1), (3, .int x3), (4, .int x4), (6, .int y31)]) hx hb dX7_step_174 hl (k := 4) rfl (by rw [et36]; rfl) (by decide) rfl (fun ls hl => ?_)
        refine lv_goto (tgt := 106) hx hb dX7_step_177 (by decide) ?_
        exact ih t36 w35 o0 hf hk0 _ _ _ hP hD hS (lv_sub hl [1, 2, 3, 4, 0] rfl)
  unfold f_X7_step at hf
  refine lv_aload_n hx hb dX7_step_0 rfl (lv_at hl 1 rfl) ?_
  refine va_get (D := D) (ci := 3) (v := .int va1_n) (C := RX3) (T := TX3) (N := 3) hx hb hts kinX3 hown hK hP 4 rfl rfl 0 (by decide) (hts _ kw108) (fun _ h9 => h9) rfl dX7_step_1 ?_
  refine lv_istore_n (lv' := [(3, .int va1_n), (0, .ref q), (1, .ref qa1), (2, .ref qa2)]) hx hb dX7_step_4 rfl hl (by decide) rfl (fun ls hl => ?_)
  refine lv_aload_n hx hb dX7_step_5 rfl (lv_at hl 2 rfl) ?_
  obtain ⟨r1, h2, hf⟩ := kb1_e hf
  refine k_gi (nW := 12) (ws' := [(q, .inr (7, [.ref q_rests, .ref q_digits, .ref q_made, .long v_power])), (q_rests, .inl (cI, 4, .inl v_rests)), (q_digits, .inl (cI, 4, .inl v_digits)), (q_made, .inl (cJ, 4, .inr (.inl v_made))), (qa1, .inr (3, [.int va1_n, .int va1_primeNumber, .ref qa1_numbers])), (qa1_numbers, .inl (cI, 20, .inl va1_numbers)), (qa2, .inr (8, [.int va2_n, .int va2_rank, .int va2_exchanges, .ref qa2_rows, .int va2_width, .int va2_p])), (qa2_rows, .inl (cQ, 4, .inr (.inr (.inr (.inr (kg qa2_rows_r)))))), (qa2_rows_r 0, .inl (cJ, 9, .inr (.inl (va2_rows 0)))), (qa2_rows_r 1, .inl (cJ, 9, .inr (.inl (va2_rows 1)))), (qa2_rows_r 2, .inl (cJ, 9, .inr (.inl (va2_rows 2)))), (qa2_rows_r 3, .inl (cJ, 9, .inr (.inl (va2_rows 3))))]) (wr := [(q, .inr (7, [.ref q_rests, .ref q_digits, .ref q_made, .long v_power])), (q_rests, .inl (cI, 4, .inl v_rests)), (q_digits, .inl (cI, 4, .inl v_digits)), (q_made, .inl (cJ, 4, .inr (.inl v_made))), (qa1_numbers, .inl (cI, 20, .inl va1_numbers)), (qa2, .inr (8, [.int va2_n, .int va2_rank, .int va2_exchanges, .ref qa2_rows, .int va2_width, .int va2_p])), (qa2_rows, .inl (cQ, 4, .inr (.inr (.inr (.inr (kg qa2_rows_r)))))), (qa2_rows_r 0, .inl (cJ, 9, .inr (.inl (va2_rows 0)))), (qa2_rows_r 1, .inl (cJ, 9, .inr (.inl (va2_rows 1)))), (qa2_rows_r 2, .inl (cJ, 9, .inr (.inl (va2_rows 2)))), (qa2_rows_r 3, .inl (cJ, 9, .inr (.inl (va2_rows 3))))]) (k_runV (rest := []) hat hP hD hS hl.1 (c_X3_p qa1 qa1_numbers va1_n va1_primeNumber r1 h2) [4] (by decide) rfl kw518 kw366 kw367 kw68 kw368 kdVX3_p ⟨rfl, rfl⟩ (by rw [hR]; exact ⟨Nat.le_of_ble_eq_true rfl, Nat.le_of_ble_eq_true rfl⟩) ⟨Nat.zero_le _, Nat.zero_le _⟩ 4 3 rfl rfl rfl rfl (Nat.le_of_ble_eq_true rfl) dX7_step_6) hat hP hD hS [4] rfl [0, 1, 2, 3, 5, 6, 7, 8, 9, 10, 11] rfl rfl rfl rfl rfl (by decide) (fun H locs hP hD hS => ?_)
  refine lv_istore (lv' := [(4, .int r1), (3, .int va1_n), (0, .ref q), (1, .ref qa1), (2, .ref qa2)]) hx hb dX7_step_9 hl (by decide) rfl (fun ls hl => ?_)
  refine lv_iconst (v := 0) hx hb dX7_step_11 (by decide) ?_
  refine lv_istore (lv' := [(5, .int (0 : Int32)), (4, .int r1), (3, .int va1_n), (0, .ref q), (1, .ref qa1), (2, .ref qa2)]) hx hb dX7_step_12 hl (by decide) rfl (fun ls hl => ?_)
  obtain ⟨w20, w21, hu, hf⟩ := kb2_e hf
  refine hL14 va1_n r1 v_power v_rests va1_n va1_primeNumber va1_numbers va2_n va2_rank va2_exchanges va2_width va2_p va2_rows F (0 : Int32) v_digits v_made w20 w21 hu (fun H locs ls hP hD hS hl => ?_) _ _ _ hP hD hS (lv_sub hl [3, 4, 5, 2, 1, 0] rfl)
  refine lv_iconst (v := 0) hx hb dX7_step_103 (by decide) ?_
  refine lv_istore (lv' := [(5, .int (0 : Int32)), (0, .ref q), (1, .ref qa1), (3, .int va1_n), (4, .int r1)]) hx hb dX7_step_104 hl (by decide) rfl (fun ls hl => ?_)
  obtain ⟨w37, hu, hf⟩ := kb1_e hf
  refine hL106 va1_n r1 v_power w20 w21 va1_n va1_primeNumber va1_numbers va2_n va2_rank va2_exchanges va2_width va2_p va2_rows F (0 : Int32) v_rests w37 hu (fun H locs ls hP hD hS hl => ?_) _ _ _ hP hD hS (lv_sub hl [1, 2, 3, 4, 0] rfl)
  refine lv_aload_n hx hb dX7_step_180 rfl (lv_at hl 0 rfl) ?_
  refine lv_dup hx hb dX7_step_181 rfl ?_
  refine va_get (D := D) (ci := 7) (v := .long v_power) (C := RX7) (T := TX7) (N := 4) hx hb hts kinX7 hown hK hP 0 rfl rfl 3 (by decide) (hts _ kw199) (fun _ h9 => h9) rfl dX7_step_182 ?_
  refine lv_iload hx hb dX7_step_185 (lv_at hl 1 rfl) ?_
  refine lv_i2l hx hb dX7_step_187 rfl ?_
  refine lv_lmul hx hb dX7_step_188 ?_
  refine lv_topl (fun t38 et38 => ?_)
  have hf := kl_e hf t38 et38
  refine va_put (D := D) (ci := 7) (v := .long t38) (ty := .long) (C := RX7) (T := TX7) (N := 4) hx hb hts kinX7 tyX7 tyX7_ok nmX7 hown hK hP hD hS 0 rfl rfl 3 (by decide) (hts _ kw199) (fun _ h9 => h9) rfl (by decide +kernel) rfl rfl (Nat.le_of_ble_eq_true rfl) dX7_step_189 (fun H locs hP hD hS => ?_)
  have hP : va_P D vwCl [(q, .inr (7, [.ref q_rests, .ref q_digits, .ref q_made, .long t38])), (q_rests, .inl (cI, 4, .inl w37)), (q_digits, .inl (cI, 4, .inl w20)), (q_made, .inl (cJ, 4, .inr (.inl w21))), (qa1, .inr (3, [.int va1_n, .int va1_primeNumber, .ref qa1_numbers])), (qa1_numbers, .inl (cI, 20, .inl va1_numbers)), (qa2, .inr (8, [.int va2_n, .int va2_rank, .int va2_exchanges, .ref qa2_rows, .int va2_width, .int va2_p])), (qa2_rows, .inl (cQ, 4, .inr (.inr (.inr (.inr (kg qa2_rows_r)))))), (qa2_rows_r 0, .inl (cJ, 9, .inr (.inl (va2_rows 0)))), (qa2_rows_r 1, .inl (cJ, 9, .inr (.inl (va2_rows 1)))), (qa2_rows_r 2, .inl (cJ, 9, .inr (.inl (va2_rows 2)))), (qa2_rows_r 3, .inl (cJ, 9, .inr (.inl (va2_rows 3))))] H := hP
  have hD : va_D A [(q, .inr (7, [.ref q_rests, .ref q_digits, .ref q_made, .long t38])), (q_rests, .inl (cI, 4, .inl w37)), (q_digits, .inl (cI, 4, .inl w20)), (q_made, .inl (cJ, 4, .inr (.inl w21))), (qa1, .inr (3, [.int va1_n, .int va1_primeNumber, .ref qa1_numbers])), (qa1_numbers, .inl (cI, 20, .inl va1_numbers)), (qa2, .inr (8, [.int va2_n, .int va2_rank, .int va2_exchanges, .ref qa2_rows, .int va2_width, .int va2_p])), (qa2_rows, .inl (cQ, 4, .inr (.inr (.inr (.inr (kg qa2_rows_r)))))), (qa2_rows_r 0, .inl (cJ, 9, .inr (.inl (va2_rows 0)))), (qa2_rows_r 1, .inl (cJ, 9, .inr (.inl (va2_rows 1)))), (qa2_rows_r 2, .inl (cJ, 9, .inr (.inl (va2_rows 2)))), (qa2_rows_r 3, .inl (cJ, 9, .inr (.inl (va2_rows 3))))] := hD
  obtain ⟨rfl, rfl, rfl, rfl⟩ := ki4 hf
  rw [hQ]
  exact k_vret hat hP hS dX7_step_192
set_option maxHeartbeats 4000000 in
set_option maxRecDepth 100000 in
theorem c_X4_boundOf {l : Launch} {D : va_G} {cI cJ cQ : ClassId} {tp : Nat} (F : Nat) (x0 : Int64) (r0 : Int64) (hf : f_X4_boundOf F x0 = some r0) : kM (fun A => kQl D A [] r0) (some .long) l yX4_boundOf cX4_boundOf 7 { frames := 0, cells := 0, slots := 0, locals := 0 } D cI cJ cQ tp [.long x0] [] := by
  refine kM_of (by decide +kernel) (Nat.le_of_ble_eq_true rfl) ?_
  intro p e s m args below meth c A ls R Q hR hQ hat hP hD hS hl
  obtain ⟨hx, hb, hr, hml, hown, hts, hT, hlk, hK, hA, hZ⟩ := id hat
  have hown : s.vm.findClass RX4 = some m.cls := hown
  have hl : lv_has ls 7 [(0, .long x0)] := hl
  have hL6 : ∀ (x0 : Int64) (fu : Nat) (x2 : Int64) (x4 : Int32) (o0 : Int64), L_X4_boundOf_6 x0 fu x2 x4 = some o0 → (∀ (H : Heap) (locs : List Loc) (ls : Array Slot), va_P D vwCl [] H → va_D A [] → va_S A s.heap H locs → lv_has ls 7 [(2, .long o0)] → W p l e R s m args below meth c H locs 0 0 Q (F0 m 42 ls [])) → ∀ (H : Heap) (locs : List Loc) (ls : Array Slot), va_P D vwCl [] H → va_D A [] → va_S A s.heap H locs → lv_has ls 7 [(0, .long x0), (2, .long x2), (4, .int x4)] → W p l e R s m args below meth c H locs 0 0 Q (F0 m 6 ls []) := by
    intro x0 fu
    induction fu with
    | zero =>
      intro x2 x4 o0 hf
      cases hf
    | succ fu ih =>
      intro x2 x4 o0 hf hk0 H locs ls hP hD hS hl
      rw [L_X4_boundOf_6] at hf
      refine lv_iload hx hb dX4_boundOf_6 (lv_at hl 2 rfl) ?_
      refine lv_if_lt (tgt := 42) hx hb dX4_boundOf_8 (by decide) (fun c1 => ?_) (fun c1 => ?_)
      · have hf := kp_e hf c1
        obtain rfl := ki1 hf
        exact hk0 _ _ _ hP hD hS (lv_sub hl [1] rfl)
      · have hf := kn_e hf c1
        refine lv_lload_n hx hb dX4_boundOf_11 rfl (lv_at hl 1 rfl) ?_
        refine lv_lconst (v := 1) hx hb dX4_boundOf_12 (by decide) ?_
        refine lv_iload hx hb dX4_boundOf_13 (lv_at hl 2 rfl) ?_
        refine lv_lshl hx hb dX4_boundOf_15 rfl ?_
        refine lv_ladd hx hb dX4_boundOf_16 ?_
        refine lv_topl (fun t2 et2 => ?_)
        have hf := kl_e hf t2 et2
        refine lv_lstore (lv' := [(5, .long t2), (0, .long x0), (2, .long x2), (4, .int x4)]) hx hb dX4_boundOf_17 hl (by decide) rfl (fun ls hl => ?_)
        refine lv_ldc2 hx hb hown (hts _ kw537) dX4_boundOf_19 ?_
        refine lv_lload hx hb dX4_boundOf_22 (lv_at hl 0 rfl) ?_
        refine lv_lmul hx hb dX4_boundOf_24 ?_
        refine lv_lload hx hb dX4_boundOf_25 (lv_at hl 0 rfl) ?_
        refine lv_lmul hx hb dX4_boundOf_27 ?_
        refine lv_lload_n hx hb dX4_boundOf_28 rfl (lv_at hl 1 rfl) ?_
        refine k_lcmp_ge (tgt := 36) hx hb dX4_boundOf_29 dX4_boundOf_30 (by decide) (fun c3 => ?_) (fun c3 => ?_)
        · have hf := kp_e hf c3
          obtain ⟨t4, et4⟩ : ∃ z : Int32, z = (x4 + (-1 : Int32)) := ⟨_, rfl⟩
          have hf := kl_e hf t4 et4
          refine lv_iinc (v := t4) (lv' := [(4, .int t4), (5, .long t2), (0, .long x0), (2, .long x2)]) hx hb dX4_boundOf_36 hl (k := 3) rfl (by rw [et4]; rfl) (by decide) rfl (fun ls hl => ?_)
          refine lv_goto (tgt := 6) hx hb dX4_boundOf_39 (by decide) ?_
          exact ih x2 t4 o0 hf hk0 _ _ _ hP hD hS (lv_sub hl [2, 3, 0] rfl)
        · have hf := kn_e hf c3
          refine lv_lload hx hb dX4_boundOf_33 (lv_at hl 0 rfl) ?_
          refine lv_lstore_n (lv' := [(2, .long t2), (5, .long t2), (0, .long x0), (4, .int x4)]) hx hb dX4_boundOf_35 rfl hl (by decide) rfl (fun ls hl => ?_)
          obtain ⟨t5, et5⟩ : ∃ z : Int32, z = (x4 + (-1 : Int32)) := ⟨_, rfl⟩
          have hf := kl_e hf t5 et5
          refine lv_iinc (v := t5) (lv' := [(4, .int t5), (2, .long t2), (5, .long t2), (0, .long x0)]) hx hb dX4_boundOf_36 hl (k := 3) rfl (by rw [et5]; rfl) (by decide) rfl (fun ls hl => ?_)
          refine lv_goto (tgt := 6) hx hb dX4_boundOf_39 (by decide) ?_
          exact ih t2 t5 o0 hf hk0 _ _ _ hP hD hS (lv_sub hl [3, 1, 0] rfl)
  unfold f_X4_boundOf at hf
  refine lv_lconst (v := 0) hx hb dX4_boundOf_0 (by decide) ?_
  refine lv_lstore_n (lv' := [(2, .long (0 : Int64)), (0, .long x0)]) hx hb dX4_boundOf_1 rfl hl (by decide) rfl (fun ls hl => ?_)
  refine lv_bipush (v := 29) hx hb dX4_boundOf_2 (by decide) ?_
  refine lv_istore (lv' := [(4, .int (29 : Int32)), (2, .long (0 : Int64)), (0, .long x0)]) hx hb dX4_boundOf_4 hl (by decide) rfl (fun ls hl => ?_)
  obtain ⟨y6, hu, hf⟩ := kb1_e hf
  refine hL6 x0 F (0 : Int64) (29 : Int32) y6 hu (fun H locs ls hP hD hS hl => ?_) _ _ _ hP hD hS (lv_sub hl [2, 1, 0] rfl)
  refine lv_lload_n hx hb dX4_boundOf_42 rfl (lv_at hl 0 rfl) ?_
  obtain rfl := ki1 hf
  rw [hQ]
  exact k_lret hat hP hS rfl dX4_boundOf_43
set_option maxHeartbeats 4000000 in
set_option maxRecDepth 100000 in
theorem c_X4_seek {l : Launch} {D : va_G} {cI cJ cQ : ClassId} {tp : Nat} (q : Nat) (v_found : Int32) (v_above : Int64) (v_below : Int64) (F : Nat) (x1 : Int64) (x3 : Int64) (x5 : Int32) (o_v_found : Int32) (o_v_above : Int64) (o_v_below : Int64) (hf : f_X4_seek F v_found v_above v_below x1 x3 x5 = some (o_v_found, o_v_above, o_v_below)) : kM (fun A => kQv D A [(q, .inr (4, [.int o_v_found, .long o_v_above, .long o_v_below]))]) none l yX4_seek cX4_seek 23 { frames := 1, cells := 0, slots := 0, locals := 40 } D cI cJ cQ tp [.ref q, .long x1, .long x3, .int x5] [(q, .inr (4, [.int v_found, .long v_above, .long v_below]))] := by
  refine kM_of (by decide +kernel) (Nat.le_of_ble_eq_true rfl) ?_
  intro p e s m args below meth c A ls R Q hR hQ hat hP hD hS hl
  obtain ⟨hx, hb, hr, hml, hown, hts, hT, hlk, hK, hA, hZ⟩ := id hat
  have hown : s.vm.findClass RX4 = some m.cls := hown
  have hl : lv_has ls 23 [(0, .ref q), (1, .long x1), (3, .long x3), (5, .int x5)] := hl
  have hL21 : ∀ (x5 : Int32) (x6 : Int64) (v_found : Int32) (v_above : Int64) (v_below : Int64) (fu : Nat) (x8 : Int64) (x10 : Int64) (x12 : Int64) (x14 : Int64) (x16 : Int32) (o0 : Int64) (o1 : Int64), L_X4_seek_21 x5 x6 fu x8 x10 x12 x14 x16 = some (o0, o1) → (∀ (H : Heap) (locs : List Loc) (ls : Array Slot), va_P D vwCl [(q, .inr (4, [.int v_found, .long v_above, .long v_below]))] H → va_D A [(q, .inr (4, [.int v_found, .long v_above, .long v_below]))] → va_S A s.heap H locs → lv_has ls 23 [(0, .ref q), (5, .int x5), (6, .long x6), (10, .long o0), (14, .long o1)] → W p l e R s m args below meth c H locs 0 0 Q (F0 m 88 ls [])) → ∀ (H : Heap) (locs : List Loc) (ls : Array Slot), va_P D vwCl [(q, .inr (4, [.int v_found, .long v_above, .long v_below]))] H → va_D A [(q, .inr (4, [.int v_found, .long v_above, .long v_below]))] → va_S A s.heap H locs → lv_has ls 23 [(0, .ref q), (5, .int x5), (6, .long x6), (8, .long x8), (10, .long x10), (12, .long x12), (14, .long x14), (16, .int x16)] → W p l e R s m args below meth c H locs 0 0 Q (F0 m 21 ls []) := by
    intro x5 x6 v_found v_above v_below fu
    induction fu with
    | zero =>
      intro x8 x10 x12 x14 x16 o0 o1 hf
      cases hf
    | succ fu ih =>
      intro x8 x10 x12 x14 x16 o0 o1 hf hk0 H locs ls hP hD hS hl
      rw [L_X4_seek_21] at hf
      refine lv_iload hx hb dX4_seek_21 (lv_at hl 7 rfl) ?_
      refine lv_sipush (v := 200) hx hb dX4_seek_23 (by decide) ?_
      refine lv_icmp_ge (tgt := 88) hx hb dX4_seek_26 (by decide) (fun c3 => ?_) (fun c3 => ?_)
      · have hf := kp_e hf c3
        obtain ⟨rfl, rfl⟩ := ki2 hf
        exact hk0 _ _ _ hP hD hS (lv_sub hl [0, 1, 2, 4, 6] rfl)
      · have hf := kn_e hf c3
        refine lv_lload hx hb dX4_seek_29 (lv_at hl 4 rfl) ?_
        refine lv_lload hx hb dX4_seek_31 (lv_at hl 2 rfl) ?_
        refine k_lcmp_le (tgt := 88) hx hb dX4_seek_33 dX4_seek_34 (by decide) (fun c4 => ?_) (fun c4 => ?_)
        · have hf := kp_e hf c4
          obtain ⟨rfl, rfl⟩ := ki2 hf
          exact hk0 _ _ _ hP hD hS (lv_sub hl [0, 1, 2, 4, 6] rfl)
        · have hf := kn_e hf c4
          refine lv_lload hx hb dX4_seek_37 (lv_at hl 3 rfl) ?_
          refine lv_lload hx hb dX4_seek_39 (lv_at hl 4 rfl) ?_
          obtain ⟨r5, h6, hf⟩ := kb1_e hf
          refine k_gl (nW := 1) (ws' := [(q, .inr (4, [.int v_found, .long v_above, .long v_below]))]) (wr := [(q, .inr (4, [.int v_found, .long v_above, .long v_below]))]) (k_runSN (rest := []) hat hP hD hS hl.1 (c_X11_quotient x8 x10 r5 h6) [] (by decide) rfl kw538 kw408 kw67 kw409 kdX11_quotient ⟨rfl, rfl⟩ (by rw [hR]; exact ⟨Nat.le_of_ble_eq_true rfl, Nat.le_of_ble_eq_true rfl⟩) ⟨Nat.zero_le _, Nat.zero_le _⟩ rfl rfl (Nat.le_of_ble_eq_true rfl) dX4_seek_41) hat hP hD hS [] rfl [0] rfl rfl rfl rfl rfl (by decide) (fun H locs hP hD hS => ?_)
          refine lv_lstore (lv' := [(17, .long r5), (0, .ref q), (5, .int x5), (6, .long x6), (8, .long x8), (10, .long x10), (12, .long x12), (14, .long x14), (16, .int x16)]) hx hb dX4_seek_44 hl (by decide) rfl (fun ls hl => ?_)
          refine lv_lload hx hb dX4_seek_46 (lv_at hl 4 rfl) ?_
          refine lv_lload hx hb dX4_seek_48 (lv_at hl 0 rfl) ?_
          refine lv_lload hx hb dX4_seek_50 (lv_at hl 5 rfl) ?_
          refine lv_lmul hx hb dX4_seek_52 ?_
          refine lv_lsub hx hb dX4_seek_53 ?_
          refine lv_topl (fun t7 et7 => ?_)
          have hf := kl_e hf t7 et7
          refine lv_lstore (lv' := [(19, .long t7), (17, .long r5), (0, .ref q), (5, .int x5), (6, .long x6), (8, .long x8), (10, .long x10), (12, .long x12), (14, .long x14), (16, .int x16)]) hx hb dX4_seek_54 hl (by decide) rfl (fun ls hl => ?_)
          refine lv_lload hx hb dX4_seek_56 (lv_at hl 6 rfl) ?_
          refine lv_lstore (lv' := [(8, .long x10), (19, .long t7), (17, .long r5), (0, .ref q), (5, .int x5), (6, .long x6), (10, .long x10), (12, .long x12), (14, .long x14), (16, .int x16)]) hx hb dX4_seek_58 hl (by decide) rfl (fun ls hl => ?_)
          refine lv_lload hx hb dX4_seek_60 (lv_at hl 1 rfl) ?_
          refine lv_lstore (lv' := [(10, .long t7), (8, .long x10), (19, .long t7), (17, .long r5), (0, .ref q), (5, .int x5), (6, .long x6), (12, .long x12), (14, .long x14), (16, .int x16)]) hx hb dX4_seek_62 hl (by decide) rfl (fun ls hl => ?_)
          refine lv_lload hx hb dX4_seek_64 (lv_at hl 7 rfl) ?_
          refine lv_lload hx hb dX4_seek_66 (lv_at hl 3 rfl) ?_
          refine lv_lload hx hb dX4_seek_68 (lv_at hl 8 rfl) ?_
          refine lv_lmul hx hb dX4_seek_70 ?_
          refine lv_lsub hx hb dX4_seek_71 ?_
          refine lv_topl (fun t8 et8 => ?_)
          have hf := kl_e hf t8 et8
          refine lv_lstore (lv' := [(21, .long t8), (10, .long t7), (8, .long x10), (19, .long t7), (17, .long r5), (0, .ref q), (5, .int x5), (6, .long x6), (12, .long x12), (14, .long x14), (16, .int x16)]) hx hb dX4_seek_72 hl (by decide) rfl (fun ls hl => ?_)
          refine lv_lload hx hb dX4_seek_74 (lv_at hl 9 rfl) ?_
          refine lv_lstore (lv' := [(12, .long x14), (21, .long t8), (10, .long t7), (8, .long x10), (19, .long t7), (17, .long r5), (0, .ref q), (5, .int x5), (6, .long x6), (14, .long x14), (16, .int x16)]) hx hb dX4_seek_76 hl (by decide) rfl (fun ls hl => ?_)
          refine lv_lload hx hb dX4_seek_78 (lv_at hl 1 rfl) ?_
          refine lv_lstore (lv' := [(14, .long t8), (12, .long x14), (21, .long t8), (10, .long t7), (8, .long x10), (19, .long t7), (17, .long r5), (0, .ref q), (5, .int x5), (6, .long x6), (16, .int x16)]) hx hb dX4_seek_80 hl (by decide) rfl (fun ls hl => ?_)
          obtain ⟨t9, et9⟩ : ∃ z : Int32, z = (x16 + (1 : Int32)) := ⟨_, rfl⟩
          have hf := kl_e hf t9 et9
          refine lv_iinc (v := t9) (lv' := [(16, .int t9), (14, .long t8), (12, .long x14), (21, .long t8), (10, .long t7), (8, .long x10), (19, .long t7), (17, .long r5), (0, .ref q), (5, .int x5), (6, .long x6)]) hx hb dX4_seek_82 hl (k := 10) rfl (by rw [et9]; rfl) (by decide) rfl (fun ls hl => ?_)
          refine lv_goto (tgt := 21) hx hb dX4_seek_85 (by decide) ?_
          exact ih x10 t7 x14 t8 t9 o0 o1 hf hk0 _ _ _ hP hD hS (lv_sub hl [8, 9, 10, 5, 4, 2, 1, 0] rfl)
  unfold f_X4_seek at hf
  refine lv_lload_n hx hb dX4_seek_0 rfl (lv_at hl 2 rfl) ?_
  obtain ⟨r1, h2, hf⟩ := kb1_e hf
  refine k_gl (nW := 1) (ws' := [(q, .inr (4, [.int v_found, .long v_above, .long v_below]))]) (wr := [(q, .inr (4, [.int v_found, .long v_above, .long v_below]))]) (k_runS (rest := []) hat hP hD hS hl.1 (c_X4_boundOf F x3 r1 h2) [] (by decide) rfl kw534 kw535 kw73 kw536 kdX4_boundOf ⟨rfl, rfl⟩ (by rw [hR]; exact ⟨Nat.le_of_ble_eq_true rfl, Nat.le_of_ble_eq_true rfl⟩) ⟨Nat.zero_le _, Nat.zero_le _⟩ rfl rfl (Nat.le_of_ble_eq_true rfl) dX4_seek_1) hat hP hD hS [] rfl [0] rfl rfl rfl rfl rfl (by decide) (fun H locs hP hD hS => ?_)
  refine lv_lstore (lv' := [(6, .long r1), (0, .ref q), (1, .long x1), (3, .long x3), (5, .int x5)]) hx hb dX4_seek_4 hl (by decide) rfl (fun ls hl => ?_)
  refine lv_lload_n hx hb dX4_seek_6 rfl (lv_at hl 3 rfl) ?_
  refine lv_lstore (lv' := [(8, .long x3), (6, .long r1), (0, .ref q), (1, .long x1), (3, .long x3), (5, .int x5)]) hx hb dX4_seek_7 hl (by decide) rfl (fun ls hl => ?_)
  refine lv_lload_n hx hb dX4_seek_9 rfl (lv_at hl 3 rfl) ?_
  refine lv_lstore (lv' := [(10, .long x1), (8, .long x3), (6, .long r1), (0, .ref q), (1, .long x1), (3, .long x3), (5, .int x5)]) hx hb dX4_seek_10 hl (by decide) rfl (fun ls hl => ?_)
  refine lv_lconst (v := 0) hx hb dX4_seek_12 (by decide) ?_
  refine lv_lstore (lv' := [(12, .long (0 : Int64)), (10, .long x1), (8, .long x3), (6, .long r1), (0, .ref q), (1, .long x1), (3, .long x3), (5, .int x5)]) hx hb dX4_seek_13 hl (by decide) rfl (fun ls hl => ?_)
  refine lv_lconst (v := 1) hx hb dX4_seek_15 (by decide) ?_
  refine lv_lstore (lv' := [(14, .long (1 : Int64)), (12, .long (0 : Int64)), (10, .long x1), (8, .long x3), (6, .long r1), (0, .ref q), (1, .long x1), (3, .long x3), (5, .int x5)]) hx hb dX4_seek_16 hl (by decide) rfl (fun ls hl => ?_)
  refine lv_iconst (v := 0) hx hb dX4_seek_18 (by decide) ?_
  refine lv_istore (lv' := [(16, .int (0 : Int32)), (14, .long (1 : Int64)), (12, .long (0 : Int64)), (10, .long x1), (8, .long x3), (6, .long r1), (0, .ref q), (1, .long x1), (3, .long x3), (5, .int x5)]) hx hb dX4_seek_19 hl (by decide) rfl (fun ls hl => ?_)
  obtain ⟨y10, y11, hu, hf⟩ := kb2_e hf
  refine hL21 x5 r1 v_found v_above v_below F x3 x1 (0 : Int64) (1 : Int64) (0 : Int32) y10 y11 hu (fun H locs ls hP hD hS hl => ?_) _ _ _ hP hD hS (lv_sub hl [6, 9, 5, 4, 3, 2, 1, 0] rfl)
  refine lv_aload_n hx hb dX4_seek_88 rfl (lv_at hl 0 rfl) ?_
  refine lv_lload hx hb dX4_seek_89 (lv_at hl 4 rfl) ?_
  refine lv_lconst (v := 0) hx hb dX4_seek_91 (by decide) ?_
  obtain ⟨J13, hJ13_, hf⟩ := kj1_e hf
  have hJ13 : ∀ (t12 : Int64), J13 t12 = some (o_v_found, o_v_above, o_v_below) → ∀ (H : Heap) (locs : List Loc) (ls : Array Slot), va_P D vwCl [(q, .inr (4, [.int v_found, .long v_above, .long v_below]))] H → va_D A [(q, .inr (4, [.int v_found, .long v_above, .long v_below]))] → va_S A s.heap H locs → lv_has ls 23 [(0, .ref q), (5, .int x5), (6, .long r1), (14, .long y11)] → W p l e R s m args below meth c H locs 0 0 Q (F0 m 104 ls [.long t12, .ref q]) := by
    intro t12 hf H locs ls hP hD hS hl
    rw [hJ13_] at hf
    refine va_put (D := D) (ci := 4) (v := .long t12) (ty := .long) (C := RX4) (T := TX4) (N := 3) hx hb hts kinX4 tyX4 tyX4_ok nmX4 hown hK hP hD hS 0 rfl rfl 1 (by decide) (hts _ kw219) (fun _ h9 => h9) rfl (by decide +kernel) rfl rfl (Nat.le_of_ble_eq_true rfl) dX4_seek_104 (fun H locs hP hD hS => ?_)
    have hP : va_P D vwCl [(q, .inr (4, [.int v_found, .long t12, .long v_below]))] H := hP
    have hD : va_D A [(q, .inr (4, [.int v_found, .long t12, .long v_below]))] := hD
    refine lv_aload_n hx hb dX4_seek_107 rfl (lv_at hl 0 rfl) ?_
    refine lv_lload hx hb dX4_seek_108 (lv_at hl 3 rfl) ?_
    refine va_mabs_long hx hb (hml.trans hl.1.symm) hown (hts _ kw539) (hts _ kw456) (hts _ kw80) (hts _ kw457) (by rw [hR]; exact Nat.le_of_ble_eq_true rfl) (by rw [hR]; exact Nat.le_of_ble_eq_true rfl) (Nat.zero_le _) (Nat.zero_le _) dX4_seek_110 ?_
    refine lv_topl (fun t14 et14 => ?_)
    have hf := kl_e hf t14 et14
    refine va_put (D := D) (ci := 4) (v := .long t14) (ty := .long) (C := RX4) (T := TX4) (N := 3) hx hb hts kinX4 tyX4 tyX4_ok nmX4 hown hK hP hD hS 0 rfl rfl 2 (by decide) (hts _ kw221) (fun _ h9 => h9) rfl (by decide +kernel) rfl rfl (Nat.le_of_ble_eq_true rfl) dX4_seek_113 (fun H locs hP hD hS => ?_)
    have hP : va_P D vwCl [(q, .inr (4, [.int v_found, .long t12, .long t14]))] H := hP
    have hD : va_D A [(q, .inr (4, [.int v_found, .long t12, .long t14]))] := hD
    refine lv_aload_n hx hb dX4_seek_116 rfl (lv_at hl 0 rfl) ?_
    refine lv_aload_n hx hb dX4_seek_117 rfl (lv_at hl 0 rfl) ?_
    refine va_get (D := D) (ci := 4) (v := .long t14) (C := RX4) (T := TX4) (N := 3) hx hb hts kinX4 hown hK hP 0 rfl rfl 2 (by decide) (hts _ kw221) (fun _ h9 => h9) rfl dX4_seek_118 ?_
    refine lv_lload hx hb dX4_seek_121 (lv_at hl 2 rfl) ?_
    refine k_lcmp_gt (tgt := 143) hx hb dX4_seek_123 dX4_seek_124 (by decide) (fun c15 => ?_) (fun c15 => ?_)
    · have hf := kp_e hf c15
      refine lv_iconst (v := 0) hx hb dX4_seek_143 (by decide) ?_
      refine va_put (D := D) (ci := 4) (v := .int (0 : Int32)) (ty := .boolean) (C := RX4) (T := TX4) (N := 3) hx hb hts kinX4 tyX4 tyX4_ok nmX4 hown hK hP hD hS 0 rfl rfl 0 (by decide) (hts _ kw216) (fun _ h9 => h9) rfl (by decide +kernel) rfl rfl (Nat.le_of_ble_eq_true rfl) dX4_seek_144 (fun H locs hP hD hS => ?_)
      have hP : va_P D vwCl [(q, .inr (4, [.int (0 : Int32), .long t12, .long t14]))] H := hP
      have hD : va_D A [(q, .inr (4, [.int (0 : Int32), .long t12, .long t14]))] := hD
      obtain ⟨rfl, rfl, rfl⟩ := ki3 hf
      rw [hQ]
      exact k_vret hat hP hS dX4_seek_147
    · have hf := kn_e hf c15
      refine lv_aload_n hx hb dX4_seek_127 rfl (lv_at hl 0 rfl) ?_
      refine va_get (D := D) (ci := 4) (v := .long t14) (C := RX4) (T := TX4) (N := 3) hx hb hts kinX4 hown hK hP 0 rfl rfl 2 (by decide) (hts _ kw221) (fun _ h9 => h9) rfl dX4_seek_128 ?_
      refine lv_iload hx hb dX4_seek_131 (lv_at hl 1 rfl) ?_
      obtain ⟨r16, h17, hf⟩ := kb1_e hf
      refine k_gi (nW := 1) (ws' := [(q, .inr (4, [.int v_found, .long t12, .long t14]))]) (wr := [(q, .inr (4, [.int v_found, .long t12, .long t14]))]) (k_runSN (rest := [.ref q]) hat hP hD hS hl.1 (c_X11_leftOver t14 x5 r16 h17) [] (by decide) rfl kw540 kw418 kw67 kw419 kdX11_leftOver ⟨rfl, rfl⟩ (by rw [hR]; exact ⟨Nat.le_of_ble_eq_true rfl, Nat.le_of_ble_eq_true rfl⟩) ⟨Nat.zero_le _, Nat.zero_le _⟩ rfl rfl (Nat.le_of_ble_eq_true rfl) dX4_seek_133) hat hP hD hS [] rfl [0] rfl rfl rfl rfl rfl (by decide) (fun H locs hP hD hS => ?_)
      refine lv_if_eq (tgt := 143) hx hb dX4_seek_136 (by decide) (fun c18 => ?_) (fun c18 => ?_)
      · have hf := kp_e hf c18
        refine lv_iconst (v := 0) hx hb dX4_seek_143 (by decide) ?_
        refine va_put (D := D) (ci := 4) (v := .int (0 : Int32)) (ty := .boolean) (C := RX4) (T := TX4) (N := 3) hx hb hts kinX4 tyX4 tyX4_ok nmX4 hown hK hP hD hS 0 rfl rfl 0 (by decide) (hts _ kw216) (fun _ h9 => h9) rfl (by decide +kernel) rfl rfl (Nat.le_of_ble_eq_true rfl) dX4_seek_144 (fun H locs hP hD hS => ?_)
        have hP : va_P D vwCl [(q, .inr (4, [.int (0 : Int32), .long t12, .long t14]))] H := hP
        have hD : va_D A [(q, .inr (4, [.int (0 : Int32), .long t12, .long t14]))] := hD
        obtain ⟨rfl, rfl, rfl⟩ := ki3 hf
        rw [hQ]
        exact k_vret hat hP hS dX4_seek_147
      · have hf := kn_e hf c18
        refine lv_iconst (v := 1) hx hb dX4_seek_139 (by decide) ?_
        refine lv_goto (tgt := 144) hx hb dX4_seek_140 (by decide) ?_
        refine va_put (D := D) (ci := 4) (v := .int (1 : Int32)) (ty := .boolean) (C := RX4) (T := TX4) (N := 3) hx hb hts kinX4 tyX4 tyX4_ok nmX4 hown hK hP hD hS 0 rfl rfl 0 (by decide) (hts _ kw216) (fun _ h9 => h9) rfl (by decide +kernel) rfl rfl (Nat.le_of_ble_eq_true rfl) dX4_seek_144 (fun H locs hP hD hS => ?_)
        have hP : va_P D vwCl [(q, .inr (4, [.int (1 : Int32), .long t12, .long t14]))] H := hP
        have hD : va_D A [(q, .inr (4, [.int (1 : Int32), .long t12, .long t14]))] := hD
        obtain ⟨rfl, rfl, rfl⟩ := ki3 hf
        rw [hQ]
        exact k_vret hat hP hS dX4_seek_147
  refine k_lcmp_ge (tgt := 102) hx hb dX4_seek_92 dX4_seek_93 (by decide) (fun c19 => ?_) (fun c19 => ?_)
  · have hf := kp_e hf c19
    refine lv_lload hx hb dX4_seek_102 (lv_at hl 3 rfl) ?_
    exact hJ13 y10 hf _ _ _ hP hD hS (lv_sub hl [0, 1, 2, 4] rfl)
  · have hf := kn_e hf c19
    refine lv_lload hx hb dX4_seek_96 (lv_at hl 3 rfl) ?_
    refine lv_lneg hx hb dX4_seek_98 ?_
    refine lv_goto (tgt := 104) hx hb dX4_seek_99 (by decide) ?_
    exact hJ13 (-y10) hf _ _ _ hP hD hS (lv_sub hl [0, 1, 2, 4] rfl)
set_option maxHeartbeats 4000000 in
set_option maxRecDepth 100000 in
theorem c_X1_rowLedBy {l : Launch} {D : va_G} {cI cJ cQ : ClassId} {tp : Nat} (q : Nat) (q_rows : Nat) (q_leads : Nat) (v_n : Int32) (v_rank : Int32) (v_exchanges : Int32) (v_width : Int32) (v_scale : Int64) (v_leads : (Nat → Int32)) (F : Nat) (x1 : Int32) (r0 : Int32) (hf : f_X1_rowLedBy F v_rank v_leads x1 = some r0) : kM (fun A => kQi D A [(q, .inr (1, [.int v_n, .int v_rank, .int v_exchanges, .ref q_rows, .int v_width, .long v_scale, .ref q_leads])), (q_leads, .inl (cI, 4, .inl v_leads))] r0) (some .int) l yX1_rowLedBy cX1_rowLedBy 3 { frames := 0, cells := 0, slots := 0, locals := 0 } D cI cJ cQ tp [.ref q, .int x1] [(q, .inr (1, [.int v_n, .int v_rank, .int v_exchanges, .ref q_rows, .int v_width, .long v_scale, .ref q_leads])), (q_leads, .inl (cI, 4, .inl v_leads))] := by
  refine kM_of (by decide +kernel) (Nat.le_of_ble_eq_true rfl) ?_
  intro p e s m args below meth c A ls R Q hR hQ hat hP hD hS hl
  obtain ⟨hx, hb, hr, hml, hown, hts, hT, hlk, hK, hA, hZ⟩ := id hat
  have hown : s.vm.findClass RX1 = some m.cls := hown
  have hl : lv_has ls 3 [(0, .ref q), (1, .int x1)] := hl
  have hL2 : ∀ (x1 : Int32) (v_n : Int32) (v_rank : Int32) (v_exchanges : Int32) (v_width : Int32) (v_scale : Int64) (v_leads : (Nat → Int32)) (fu : Nat) (x2 : Int32) (u : Int32 ⊕ Unit), L_X1_rowLedBy_2 x1 v_rank v_leads fu x2 = some u → (∀ (o0 : Int32), u = .inl o0 → ∀ (H : Heap) (locs : List Loc) (ls : Array Slot), va_P D vwCl [(q, .inr (1, [.int v_n, .int v_rank, .int v_exchanges, .ref q_rows, .int v_width, .long v_scale, .ref q_leads])), (q_leads, .inl (cI, 4, .inl v_leads))] H → va_D A [(q, .inr (1, [.int v_n, .int v_rank, .int v_exchanges, .ref q_rows, .int v_width, .long v_scale, .ref q_leads])), (q_leads, .inl (cI, 4, .inl v_leads))] → va_S A s.heap H locs → lv_has ls 3 [(2, .int o0)] → W p l e R s m args below meth c H locs 0 0 Q (F0 m 20 ls [])) → (u = .inr () → ∀ (H : Heap) (locs : List Loc) (ls : Array Slot), va_P D vwCl [(q, .inr (1, [.int v_n, .int v_rank, .int v_exchanges, .ref q_rows, .int v_width, .long v_scale, .ref q_leads])), (q_leads, .inl (cI, 4, .inl v_leads))] H → va_D A [(q, .inr (1, [.int v_n, .int v_rank, .int v_exchanges, .ref q_rows, .int v_width, .long v_scale, .ref q_leads])), (q_leads, .inl (cI, 4, .inl v_leads))] → va_S A s.heap H locs → lv_has ls 3 [] → W p l e R s m args below meth c H locs 0 0 Q (F0 m 28 ls [])) → ∀ (H : Heap) (locs : List Loc) (ls : Array Slot), va_P D vwCl [(q, .inr (1, [.int v_n, .int v_rank, .int v_exchanges, .ref q_rows, .int v_width, .long v_scale, .ref q_leads])), (q_leads, .inl (cI, 4, .inl v_leads))] H → va_D A [(q, .inr (1, [.int v_n, .int v_rank, .int v_exchanges, .ref q_rows, .int v_width, .long v_scale, .ref q_leads])), (q_leads, .inl (cI, 4, .inl v_leads))] → va_S A s.heap H locs → lv_has ls 3 [(0, .ref q), (1, .int x1), (2, .int x2)] → W p l e R s m args below meth c H locs 0 0 Q (F0 m 2 ls []) := by
    intro x1 v_n v_rank v_exchanges v_width v_scale v_leads fu
    induction fu with
    | zero =>
      intro x2 u hf
      cases hf
    | succ fu ih =>
      intro x2 u hf hk0 hk1 H locs ls hP hD hS hl
      rw [L_X1_rowLedBy_2] at hf
      refine lv_iload_n hx hb dX1_rowLedBy_2 rfl (lv_at hl 2 rfl) ?_
      refine lv_aload_n hx hb dX1_rowLedBy_3 rfl (lv_at hl 0 rfl) ?_
      refine va_get (D := D) (ci := 1) (v := .int v_rank) (C := RX1) (T := TX1) (N := 7) hx hb hts kinX1 hown hK hP 0 rfl rfl 1 (by decide) (hts _ kw142) (u_same (hts _ kw143)) rfl dX1_rowLedBy_4 ?_
      refine lv_icmp_ge (tgt := 28) hx hb dX1_rowLedBy_7 (by decide) (fun c1 => ?_) (fun c1 => ?_)
      · have hf := kp_e hf c1
        exact hk1  (Option.some.inj hf).symm _ _ _ hP hD hS (lv_sub hl [] rfl)
      · have hf := kn_e hf c1
        refine lv_aload_n hx hb dX1_rowLedBy_10 rfl (lv_at hl 0 rfl) ?_
        refine va_get (D := D) (ci := 1) (v := .ref q_leads) (C := RX1) (T := TX1) (N := 7) hx hb hts kinX1 hown hK hP 0 rfl rfl 6 (by decide) (hts _ kw133) (fun _ h9 => h9) rfl dX1_rowLedBy_11 ?_
        refine lv_iload_n hx hb dX1_rowLedBy_14 rfl (lv_at hl 2 rfl) ?_
        obtain ⟨c2, hf⟩ := kc_e hf
        refine va_iald hx hb hK hP 1 0 rfl rfl (kin_e c2) dX1_rowLedBy_15 ?_
        refine lv_iload_n hx hb dX1_rowLedBy_16 rfl (lv_at hl 1 rfl) ?_
        refine lv_icmp_ne (tgt := 22) hx hb dX1_rowLedBy_17 (by decide) (fun c3 => ?_) (fun c3 => ?_)
        · have hf := kn_e hf c3
          obtain ⟨t4, et4⟩ : ∃ z : Int32, z = (x2 + (1 : Int32)) := ⟨_, rfl⟩
          have hf := kl_e hf t4 et4
          refine lv_iinc (v := t4) (lv' := [(2, .int t4), (0, .ref q), (1, .int x1)]) hx hb dX1_rowLedBy_22 hl (k := 2) rfl (by rw [et4]; rfl) (by decide) rfl (fun ls hl => ?_)
          refine lv_goto (tgt := 2) hx hb dX1_rowLedBy_25 (by decide) ?_
          exact ih t4 u hf hk0 hk1 _ _ _ hP hD hS (lv_sub hl [1, 2, 0] rfl)
        · have hf := kp_e hf c3
          exact hk0 _ (Option.some.inj hf).symm _ _ _ hP hD hS (lv_sub hl [2] rfl)
  unfold f_X1_rowLedBy at hf
  refine lv_iconst (v := 0) hx hb dX1_rowLedBy_0 (by decide) ?_
  refine lv_istore_n (lv' := [(2, .int (0 : Int32)), (0, .ref q), (1, .int x1)]) hx hb dX1_rowLedBy_1 rfl hl (by decide) rfl (fun ls hl => ?_)
  obtain ⟨u6, hu, hf0, hf1⟩ := ks_e hf
  refine hL2 x1 v_n v_rank v_exchanges v_width v_scale v_leads F (0 : Int32) u6 hu (fun y5 hu2 H locs ls hP hD hS hl => ?_) (fun hu2 H locs ls hP hD hS hl => ?_) _ _ _ hP hD hS (lv_sub hl [1, 2, 0] rfl)
  · have hf := kf1_e (hf0 _ hu2)
    refine lv_iload_n hx hb dX1_rowLedBy_20 rfl (lv_at hl 0 rfl) ?_
    obtain rfl := ki1 hf
    rw [hQ]
    exact k_iret hat hP hS rfl dX1_rowLedBy_21
  · have hf := hf1 _ hu2
    refine lv_iconst (v := -1) hx hb dX1_rowLedBy_28 (by decide) ?_
    obtain rfl := ki1 hf
    rw [hQ]
    exact k_iret hat hP hS rfl dX1_rowLedBy_29
set_option maxHeartbeats 4000000 in
set_option maxRecDepth 100000 in
theorem c_X1_above {l : Launch} {D : va_G} {cI cJ cQ : ClassId} {tp : Nat} (q : Nat) (q_rows : Nat) (q_leads : Nat) (q_rows_r : Nat → Nat) (v_n : Int32) (v_rank : Int32) (v_exchanges : Int32) (v_width : Int32) (v_scale : Int64) (v_rows : (Nat → Nat → Int64)) (F : Nat) (x1 : Int32) (x2 : Int32) (r0 : Int64) (hf : f_X1_above F v_scale v_rows x1 x2 = some r0) : kM (fun A => kQl D A [(q, .inr (1, [.int v_n, .int v_rank, .int v_exchanges, .ref q_rows, .int v_width, .long v_scale, .ref q_leads])), (q_rows, .inl (cQ, 4, .inr (.inr (.inr (.inr (kg q_rows_r)))))), (q_rows_r 0, .inl (cJ, 5, .inr (.inl (v_rows 0)))), (q_rows_r 1, .inl (cJ, 5, .inr (.inl (v_rows 1)))), (q_rows_r 2, .inl (cJ, 5, .inr (.inl (v_rows 2)))), (q_rows_r 3, .inl (cJ, 5, .inr (.inl (v_rows 3))))] r0) (some .long) l yX1_above cX1_above 5 { frames := 2, cells := 0, slots := 0, locals := 70 } D cI cJ cQ tp [.ref q, .int x1, .int x2] [(q, .inr (1, [.int v_n, .int v_rank, .int v_exchanges, .ref q_rows, .int v_width, .long v_scale, .ref q_leads])), (q_rows, .inl (cQ, 4, .inr (.inr (.inr (.inr (kg q_rows_r)))))), (q_rows_r 0, .inl (cJ, 5, .inr (.inl (v_rows 0)))), (q_rows_r 1, .inl (cJ, 5, .inr (.inl (v_rows 1)))), (q_rows_r 2, .inl (cJ, 5, .inr (.inl (v_rows 2)))), (q_rows_r 3, .inl (cJ, 5, .inr (.inl (v_rows 3))))] := by
  refine kM_of (by decide +kernel) (Nat.le_of_ble_eq_true rfl) ?_
  intro p e s m args below meth c A ls R Q hR hQ hat hP hD hS hl
  obtain ⟨hx, hb, hr, hml, hown, hts, hT, hlk, hK, hA, hZ⟩ := id hat
  have hown : s.vm.findClass RX1 = some m.cls := hown
  have hl : lv_has ls 5 [(0, .ref q), (1, .int x1), (2, .int x2)] := hl
  unfold f_X1_above at hf
  refine lv_aload_n hx hb dX1_above_0 rfl (lv_at hl 0 rfl) ?_
  refine va_get (D := D) (ci := 1) (v := .long v_scale) (C := RX1) (T := TX1) (N := 7) hx hb hts kinX1 hown hK hP 0 rfl rfl 5 (by decide) (hts _ kw132) (fun _ h9 => h9) rfl dX1_above_1 ?_
  refine lv_lconst (v := 0) hx hb dX1_above_4 (by decide) ?_
  obtain ⟨J2, hJ2_, hf⟩ := kj1_e hf
  have hJ2 : ∀ (t1 : Int64), J2 t1 = some r0 → ∀ (H : Heap) (locs : List Loc) (ls : Array Slot), va_P D vwCl [(q, .inr (1, [.int v_n, .int v_rank, .int v_exchanges, .ref q_rows, .int v_width, .long v_scale, .ref q_leads])), (q_rows, .inl (cQ, 4, .inr (.inr (.inr (.inr (kg q_rows_r)))))), (q_rows_r 0, .inl (cJ, 5, .inr (.inl (v_rows 0)))), (q_rows_r 1, .inl (cJ, 5, .inr (.inl (v_rows 1)))), (q_rows_r 2, .inl (cJ, 5, .inr (.inl (v_rows 2)))), (q_rows_r 3, .inl (cJ, 5, .inr (.inl (v_rows 3))))] H → va_D A [(q, .inr (1, [.int v_n, .int v_rank, .int v_exchanges, .ref q_rows, .int v_width, .long v_scale, .ref q_leads])), (q_rows, .inl (cQ, 4, .inr (.inr (.inr (.inr (kg q_rows_r)))))), (q_rows_r 0, .inl (cJ, 5, .inr (.inl (v_rows 0)))), (q_rows_r 1, .inl (cJ, 5, .inr (.inl (v_rows 1)))), (q_rows_r 2, .inl (cJ, 5, .inr (.inl (v_rows 2)))), (q_rows_r 3, .inl (cJ, 5, .inr (.inl (v_rows 3))))] → va_S A s.heap H locs → lv_has ls 5 [(0, .ref q), (1, .int x1), (2, .int x2)] → W p l e R s m args below meth c H locs 0 0 Q (F0 m 29 ls [.long t1]) := by
    intro t1 hf H locs ls hP hD hS hl
    rw [hJ2_] at hf
    refine lv_lstore_n (lv' := [(3, .long t1), (0, .ref q), (1, .int x1), (2, .int x2)]) hx hb dX1_above_29 rfl hl (by decide) rfl (fun ls hl => ?_)
    refine lv_lload_n hx hb dX1_above_30 rfl (lv_at hl 0 rfl) ?_
    refine lv_aload_n hx hb dX1_above_31 rfl (lv_at hl 1 rfl) ?_
    refine va_get (D := D) (ci := 1) (v := .ref q_rows) (C := RX1) (T := TX1) (N := 7) hx hb hts kinX1 hown hK hP 0 rfl rfl 3 (by decide) (hts _ kw150) (u_same (hts _ kw151)) rfl dX1_above_32 ?_
    refine lv_iload_n hx hb dX1_above_35 rfl (lv_at hl 2 rfl) ?_
    obtain ⟨c3, hf⟩ := kc_e hf
    refine k_gld hx hb hK hP 1 rfl c3 dX1_above_36 ?_
    refine lv_iload_n hx hb dX1_above_37 rfl (lv_at hl 3 rfl) ?_
    obtain ⟨c4, hf⟩ := kc_e hf
    refine k_rld hx hb hK hP 2 (fun k hk => (co_4 (P := fun k => ([(q, .inr (1, [.int v_n, .int v_rank, .int v_exchanges, .ref q_rows, .int v_width, .long v_scale, .ref q_leads])), (q_rows, .inl (cQ, 4, .inr (.inr (.inr (.inr (kg q_rows_r)))))), (q_rows_r 0, .inl (cJ, 5, .inr (.inl (v_rows 0)))), (q_rows_r 1, .inl (cJ, 5, .inr (.inl (v_rows 1)))), (q_rows_r 2, .inl (cJ, 5, .inr (.inl (v_rows 2)))), (q_rows_r 3, .inl (cJ, 5, .inr (.inl (v_rows 3))))] : va_W)[2 + k]? = some (q_rows_r k, .inl (cJ, 5, .inr (.inl (v_rows k))))) rfl rfl rfl rfl) hk) (kin_nat c3) c4 dX1_above_38 ?_
    refine lv_aload_n hx hb dX1_above_39 rfl (lv_at hl 1 rfl) ?_
    refine va_get (D := D) (ci := 1) (v := .long v_scale) (C := RX1) (T := TX1) (N := 7) hx hb hts kinX1 hown hK hP 0 rfl rfl 5 (by decide) (hts _ kw132) (fun _ h9 => h9) rfl dX1_above_40 ?_
    obtain ⟨r5, h6, hf⟩ := kb1_e hf
    refine k_gl (nW := 6) (ws' := [(q, .inr (1, [.int v_n, .int v_rank, .int v_exchanges, .ref q_rows, .int v_width, .long v_scale, .ref q_leads])), (q_rows, .inl (cQ, 4, .inr (.inr (.inr (.inr (kg q_rows_r)))))), (q_rows_r 0, .inl (cJ, 5, .inr (.inl (v_rows 0)))), (q_rows_r 1, .inl (cJ, 5, .inr (.inl (v_rows 1)))), (q_rows_r 2, .inl (cJ, 5, .inr (.inl (v_rows 2)))), (q_rows_r 3, .inl (cJ, 5, .inr (.inl (v_rows 3))))]) (wr := [(q, .inr (1, [.int v_n, .int v_rank, .int v_exchanges, .ref q_rows, .int v_width, .long v_scale, .ref q_leads])), (q_rows, .inl (cQ, 4, .inr (.inr (.inr (.inr (kg q_rows_r)))))), (q_rows_r 0, .inl (cJ, 5, .inr (.inl (v_rows 0)))), (q_rows_r 1, .inl (cJ, 5, .inr (.inl (v_rows 1)))), (q_rows_r 2, .inl (cJ, 5, .inr (.inl (v_rows 2)))), (q_rows_r 3, .inl (cJ, 5, .inr (.inl (v_rows 3))))]) (k_runSN (rest := [.long t1]) hat hP hD hS hl.1 (c_X11_gcd F (v_rows x1.toNatClampNeg x2.toNatClampNeg) v_scale r5 h6) [] (by decide) rfl kw458 kw459 kw67 kw460 kdX11_gcd ⟨rfl, rfl⟩ (by rw [hR]; exact ⟨Nat.le_of_ble_eq_true rfl, Nat.le_of_ble_eq_true rfl⟩) ⟨Nat.zero_le _, Nat.zero_le _⟩ rfl rfl (Nat.le_of_ble_eq_true rfl) dX1_above_43) hat hP hD hS [] rfl [0, 1, 2, 3, 4, 5] rfl rfl rfl rfl rfl (by decide) (fun H locs hP hD hS => ?_)
    obtain ⟨r7, h8, hf⟩ := kb1_e hf
    refine k_gl (nW := 6) (ws' := [(q, .inr (1, [.int v_n, .int v_rank, .int v_exchanges, .ref q_rows, .int v_width, .long v_scale, .ref q_leads])), (q_rows, .inl (cQ, 4, .inr (.inr (.inr (.inr (kg q_rows_r)))))), (q_rows_r 0, .inl (cJ, 5, .inr (.inl (v_rows 0)))), (q_rows_r 1, .inl (cJ, 5, .inr (.inl (v_rows 1)))), (q_rows_r 2, .inl (cJ, 5, .inr (.inl (v_rows 2)))), (q_rows_r 3, .inl (cJ, 5, .inr (.inl (v_rows 3))))]) (wr := [(q, .inr (1, [.int v_n, .int v_rank, .int v_exchanges, .ref q_rows, .int v_width, .long v_scale, .ref q_leads])), (q_rows, .inl (cQ, 4, .inr (.inr (.inr (.inr (kg q_rows_r)))))), (q_rows_r 0, .inl (cJ, 5, .inr (.inl (v_rows 0)))), (q_rows_r 1, .inl (cJ, 5, .inr (.inl (v_rows 1)))), (q_rows_r 2, .inl (cJ, 5, .inr (.inl (v_rows 2)))), (q_rows_r 3, .inl (cJ, 5, .inr (.inl (v_rows 3))))]) (k_runSN (rest := []) hat hP hD hS hl.1 (c_X11_quotient t1 r5 r7 h8) [] (by decide) rfl kw407 kw408 kw67 kw409 kdX11_quotient ⟨rfl, rfl⟩ (by rw [hR]; exact ⟨Nat.le_of_ble_eq_true rfl, Nat.le_of_ble_eq_true rfl⟩) ⟨Nat.zero_le _, Nat.zero_le _⟩ rfl rfl (Nat.le_of_ble_eq_true rfl) dX1_above_46) hat hP hD hS [] rfl [0, 1, 2, 3, 4, 5] rfl rfl rfl rfl rfl (by decide) (fun H locs hP hD hS => ?_)
    obtain rfl := ki1 hf
    rw [hQ]
    exact k_lret hat hP hS rfl dX1_above_49
  refine k_lcmp_ge (tgt := 21) hx hb dX1_above_5 dX1_above_6 (by decide) (fun c9 => ?_) (fun c9 => ?_)
  · have hf := kp_e hf c9
    refine lv_aload_n hx hb dX1_above_21 rfl (lv_at hl 0 rfl) ?_
    refine va_get (D := D) (ci := 1) (v := .ref q_rows) (C := RX1) (T := TX1) (N := 7) hx hb hts kinX1 hown hK hP 0 rfl rfl 3 (by decide) (hts _ kw150) (u_same (hts _ kw151)) rfl dX1_above_22 ?_
    refine lv_iload_n hx hb dX1_above_25 rfl (lv_at hl 1 rfl) ?_
    obtain ⟨c10, hf⟩ := kc_e hf
    refine k_gld hx hb hK hP 1 rfl c10 dX1_above_26 ?_
    refine lv_iload_n hx hb dX1_above_27 rfl (lv_at hl 2 rfl) ?_
    obtain ⟨c11, hf⟩ := kc_e hf
    refine k_rld hx hb hK hP 2 (fun k hk => (co_4 (P := fun k => ([(q, .inr (1, [.int v_n, .int v_rank, .int v_exchanges, .ref q_rows, .int v_width, .long v_scale, .ref q_leads])), (q_rows, .inl (cQ, 4, .inr (.inr (.inr (.inr (kg q_rows_r)))))), (q_rows_r 0, .inl (cJ, 5, .inr (.inl (v_rows 0)))), (q_rows_r 1, .inl (cJ, 5, .inr (.inl (v_rows 1)))), (q_rows_r 2, .inl (cJ, 5, .inr (.inl (v_rows 2)))), (q_rows_r 3, .inl (cJ, 5, .inr (.inl (v_rows 3))))] : va_W)[2 + k]? = some (q_rows_r k, .inl (cJ, 5, .inr (.inl (v_rows k))))) rfl rfl rfl rfl) hk) (kin_nat c10) c11 dX1_above_28 ?_
    exact hJ2 (v_rows x1.toNatClampNeg x2.toNatClampNeg) hf _ _ _ hP hD hS hl
  · have hf := kn_e hf c9
    refine lv_aload_n hx hb dX1_above_9 rfl (lv_at hl 0 rfl) ?_
    refine va_get (D := D) (ci := 1) (v := .ref q_rows) (C := RX1) (T := TX1) (N := 7) hx hb hts kinX1 hown hK hP 0 rfl rfl 3 (by decide) (hts _ kw150) (u_same (hts _ kw151)) rfl dX1_above_10 ?_
    refine lv_iload_n hx hb dX1_above_13 rfl (lv_at hl 1 rfl) ?_
    obtain ⟨c12, hf⟩ := kc_e hf
    refine k_gld hx hb hK hP 1 rfl c12 dX1_above_14 ?_
    refine lv_iload_n hx hb dX1_above_15 rfl (lv_at hl 2 rfl) ?_
    obtain ⟨c13, hf⟩ := kc_e hf
    refine k_rld hx hb hK hP 2 (fun k hk => (co_4 (P := fun k => ([(q, .inr (1, [.int v_n, .int v_rank, .int v_exchanges, .ref q_rows, .int v_width, .long v_scale, .ref q_leads])), (q_rows, .inl (cQ, 4, .inr (.inr (.inr (.inr (kg q_rows_r)))))), (q_rows_r 0, .inl (cJ, 5, .inr (.inl (v_rows 0)))), (q_rows_r 1, .inl (cJ, 5, .inr (.inl (v_rows 1)))), (q_rows_r 2, .inl (cJ, 5, .inr (.inl (v_rows 2)))), (q_rows_r 3, .inl (cJ, 5, .inr (.inl (v_rows 3))))] : va_W)[2 + k]? = some (q_rows_r k, .inl (cJ, 5, .inr (.inl (v_rows k))))) rfl rfl rfl rfl) hk) (kin_nat c12) c13 dX1_above_16 ?_
    refine lv_lneg hx hb dX1_above_17 ?_
    refine lv_goto (tgt := 29) hx hb dX1_above_18 (by decide) ?_
    exact hJ2 (-(v_rows x1.toNatClampNeg x2.toNatClampNeg)) hf _ _ _ hP hD hS hl
set_option maxHeartbeats 4000000 in
set_option maxRecDepth 100000 in
theorem c_X1_solutionAbove {l : Launch} {D : va_G} {cI cJ cQ : ClassId} {tp : Nat} (q : Nat) (q_rows : Nat) (q_leads : Nat) (q_rows_r : Nat → Nat) (v_n : Int32) (v_rank : Int32) (v_exchanges : Int32) (v_width : Int32) (v_scale : Int64) (v_rows : (Nat → Nat → Int64)) (v_leads : (Nat → Int32)) (F : Nat) (x1 : Int32) (r0 : Int64) (hf : f_X1_solutionAbove F v_rank v_scale v_rows v_leads x1 = some r0) : kM (fun A => kQl D A [(q, .inr (1, [.int v_n, .int v_rank, .int v_exchanges, .ref q_rows, .int v_width, .long v_scale, .ref q_leads])), (q_rows, .inl (cQ, 4, .inr (.inr (.inr (.inr (kg q_rows_r)))))), (q_rows_r 0, .inl (cJ, 5, .inr (.inl (v_rows 0)))), (q_rows_r 1, .inl (cJ, 5, .inr (.inl (v_rows 1)))), (q_rows_r 2, .inl (cJ, 5, .inr (.inl (v_rows 2)))), (q_rows_r 3, .inl (cJ, 5, .inr (.inl (v_rows 3)))), (q_leads, .inl (cI, 4, .inl v_leads))] r0) (some .long) l yX1_solutionAbove cX1_solutionAbove 3 { frames := 3, cells := 0, slots := 0, locals := 94 } D cI cJ cQ tp [.ref q, .int x1] [(q, .inr (1, [.int v_n, .int v_rank, .int v_exchanges, .ref q_rows, .int v_width, .long v_scale, .ref q_leads])), (q_rows, .inl (cQ, 4, .inr (.inr (.inr (.inr (kg q_rows_r)))))), (q_rows_r 0, .inl (cJ, 5, .inr (.inl (v_rows 0)))), (q_rows_r 1, .inl (cJ, 5, .inr (.inl (v_rows 1)))), (q_rows_r 2, .inl (cJ, 5, .inr (.inl (v_rows 2)))), (q_rows_r 3, .inl (cJ, 5, .inr (.inl (v_rows 3)))), (q_leads, .inl (cI, 4, .inl v_leads))] := by
  refine kM_of (by decide +kernel) (Nat.le_of_ble_eq_true rfl) ?_
  intro p e s m args below meth c A ls R Q hR hQ hat hP hD hS hl
  obtain ⟨hx, hb, hr, hml, hown, hts, hT, hlk, hK, hA, hZ⟩ := id hat
  have hown : s.vm.findClass RX1 = some m.cls := hown
  have hl : lv_has ls 3 [(0, .ref q), (1, .int x1)] := hl
  unfold f_X1_solutionAbove at hf
  refine lv_aload_n hx hb dX1_solutionAbove_0 rfl (lv_at hl 0 rfl) ?_
  refine lv_iload_n hx hb dX1_solutionAbove_1 rfl (lv_at hl 1 rfl) ?_
  obtain ⟨r1, h2, hf⟩ := kb1_e hf
  refine k_gi (nW := 7) (ws' := [(q, .inr (1, [.int v_n, .int v_rank, .int v_exchanges, .ref q_rows, .int v_width, .long v_scale, .ref q_leads])), (q_rows, .inl (cQ, 4, .inr (.inr (.inr (.inr (kg q_rows_r)))))), (q_rows_r 0, .inl (cJ, 5, .inr (.inl (v_rows 0)))), (q_rows_r 1, .inl (cJ, 5, .inr (.inl (v_rows 1)))), (q_rows_r 2, .inl (cJ, 5, .inr (.inl (v_rows 2)))), (q_rows_r 3, .inl (cJ, 5, .inr (.inl (v_rows 3)))), (q_leads, .inl (cI, 4, .inl v_leads))]) (wr := [(q_rows, .inl (cQ, 4, .inr (.inr (.inr (.inr (kg q_rows_r)))))), (q_rows_r 0, .inl (cJ, 5, .inr (.inl (v_rows 0)))), (q_rows_r 1, .inl (cJ, 5, .inr (.inl (v_rows 1)))), (q_rows_r 2, .inl (cJ, 5, .inr (.inl (v_rows 2)))), (q_rows_r 3, .inl (cJ, 5, .inr (.inl (v_rows 3))))]) (k_runV (rest := []) hat hP hD hS hl.1 (c_X1_rowLedBy q q_rows q_leads v_n v_rank v_exchanges v_width v_scale v_leads F x1 r1 h2) [0, 6] (by decide) rfl kw545 kw547 kw9 kw70 kw548 kdVX1_rowLedBy ⟨rfl, rfl⟩ (by rw [hR]; exact ⟨Nat.le_of_ble_eq_true rfl, Nat.le_of_ble_eq_true rfl⟩) ⟨Nat.zero_le _, Nat.zero_le _⟩ 0 1 rfl rfl rfl rfl (Nat.le_of_ble_eq_true rfl) dX1_solutionAbove_2) hat hP hD hS [0, 6] rfl [1, 2, 3, 4, 5] rfl rfl rfl rfl rfl (by decide) (fun H locs hP hD hS => ?_)
  refine lv_istore_n (lv' := [(2, .int r1), (0, .ref q), (1, .int x1)]) hx hb dX1_solutionAbove_5 rfl hl (by decide) rfl (fun ls hl => ?_)
  refine lv_iload_n hx hb dX1_solutionAbove_6 rfl (lv_at hl 0 rfl) ?_
  refine lv_iconst (v := -1) hx hb dX1_solutionAbove_7 (by decide) ?_
  refine lv_icmp_ne (tgt := 15) hx hb dX1_solutionAbove_8 (by decide) (fun c3 => ?_) (fun c3 => ?_)
  · have hf := kn_e hf c3
    refine lv_aload_n hx hb dX1_solutionAbove_15 rfl (lv_at hl 1 rfl) ?_
    refine lv_iload_n hx hb dX1_solutionAbove_16 rfl (lv_at hl 0 rfl) ?_
    refine lv_iconst (v := 4) hx hb dX1_solutionAbove_17 (by decide) ?_
    obtain ⟨r4, h5, hf⟩ := kb1_e hf
    refine k_gl (nW := 7) (ws' := [(q, .inr (1, [.int v_n, .int v_rank, .int v_exchanges, .ref q_rows, .int v_width, .long v_scale, .ref q_leads])), (q_rows, .inl (cQ, 4, .inr (.inr (.inr (.inr (kg q_rows_r)))))), (q_rows_r 0, .inl (cJ, 5, .inr (.inl (v_rows 0)))), (q_rows_r 1, .inl (cJ, 5, .inr (.inl (v_rows 1)))), (q_rows_r 2, .inl (cJ, 5, .inr (.inl (v_rows 2)))), (q_rows_r 3, .inl (cJ, 5, .inr (.inl (v_rows 3)))), (q_leads, .inl (cI, 4, .inl v_leads))]) (wr := [(q_leads, .inl (cI, 4, .inl v_leads))]) (k_runV (rest := []) hat hP hD hS hl.1 (c_X1_above q q_rows q_leads q_rows_r v_n v_rank v_exchanges v_width v_scale v_rows F r1 (4 : Int32) r4 h5) [0, 1, 2, 3, 4, 5] (by decide) rfl kw549 kw550 kw551 kw70 kw552 kdVX1_above ⟨rfl, rfl⟩ (by rw [hR]; exact ⟨Nat.le_of_ble_eq_true rfl, Nat.le_of_ble_eq_true rfl⟩) ⟨Nat.zero_le _, Nat.zero_le _⟩ 0 1 rfl rfl rfl rfl (Nat.le_of_ble_eq_true rfl) dX1_solutionAbove_18) hat hP hD hS [0, 1, 2, 3, 4, 5] rfl [6] rfl rfl rfl rfl rfl (by decide) (fun H locs hP hD hS => ?_)
    obtain rfl := ki1 hf
    rw [hQ]
    exact k_lret hat hP hS rfl dX1_solutionAbove_21
  · have hf := kp_e hf c3
    refine lv_lconst (v := 0) hx hb dX1_solutionAbove_11 (by decide) ?_
    refine lv_goto (tgt := 21) hx hb dX1_solutionAbove_12 (by decide) ?_
    obtain rfl := ki1 hf
    rw [hQ]
    exact k_lret hat hP hS rfl dX1_solutionAbove_21
set_option maxHeartbeats 4000000 in
set_option maxRecDepth 100000 in
theorem c_X1_solutionBelow {l : Launch} {D : va_G} {cI cJ cQ : ClassId} {tp : Nat} (q : Nat) (q_rows : Nat) (q_leads : Nat) (q_rows_r : Nat → Nat) (v_n : Int32) (v_rank : Int32) (v_exchanges : Int32) (v_width : Int32) (v_scale : Int64) (v_rows : (Nat → Nat → Int64)) (v_leads : (Nat → Int32)) (F : Nat) (x1 : Int32) (r0 : Int64) (hf : f_X1_solutionBelow F v_rank v_scale v_rows v_leads x1 = some r0) : kM (fun A => kQl D A [(q, .inr (1, [.int v_n, .int v_rank, .int v_exchanges, .ref q_rows, .int v_width, .long v_scale, .ref q_leads])), (q_rows, .inl (cQ, 4, .inr (.inr (.inr (.inr (kg q_rows_r)))))), (q_rows_r 0, .inl (cJ, 5, .inr (.inl (v_rows 0)))), (q_rows_r 1, .inl (cJ, 5, .inr (.inl (v_rows 1)))), (q_rows_r 2, .inl (cJ, 5, .inr (.inl (v_rows 2)))), (q_rows_r 3, .inl (cJ, 5, .inr (.inl (v_rows 3)))), (q_leads, .inl (cI, 4, .inl v_leads))] r0) (some .long) l yX1_solutionBelow cX1_solutionBelow 3 { frames := 3, cells := 0, slots := 0, locals := 92 } D cI cJ cQ tp [.ref q, .int x1] [(q, .inr (1, [.int v_n, .int v_rank, .int v_exchanges, .ref q_rows, .int v_width, .long v_scale, .ref q_leads])), (q_rows, .inl (cQ, 4, .inr (.inr (.inr (.inr (kg q_rows_r)))))), (q_rows_r 0, .inl (cJ, 5, .inr (.inl (v_rows 0)))), (q_rows_r 1, .inl (cJ, 5, .inr (.inl (v_rows 1)))), (q_rows_r 2, .inl (cJ, 5, .inr (.inl (v_rows 2)))), (q_rows_r 3, .inl (cJ, 5, .inr (.inl (v_rows 3)))), (q_leads, .inl (cI, 4, .inl v_leads))] := by
  refine kM_of (by decide +kernel) (Nat.le_of_ble_eq_true rfl) ?_
  intro p e s m args below meth c A ls R Q hR hQ hat hP hD hS hl
  obtain ⟨hx, hb, hr, hml, hown, hts, hT, hlk, hK, hA, hZ⟩ := id hat
  have hown : s.vm.findClass RX1 = some m.cls := hown
  have hl : lv_has ls 3 [(0, .ref q), (1, .int x1)] := hl
  unfold f_X1_solutionBelow at hf
  refine lv_aload_n hx hb dX1_solutionBelow_0 rfl (lv_at hl 0 rfl) ?_
  refine lv_iload_n hx hb dX1_solutionBelow_1 rfl (lv_at hl 1 rfl) ?_
  obtain ⟨r1, h2, hf⟩ := kb1_e hf
  refine k_gi (nW := 7) (ws' := [(q, .inr (1, [.int v_n, .int v_rank, .int v_exchanges, .ref q_rows, .int v_width, .long v_scale, .ref q_leads])), (q_rows, .inl (cQ, 4, .inr (.inr (.inr (.inr (kg q_rows_r)))))), (q_rows_r 0, .inl (cJ, 5, .inr (.inl (v_rows 0)))), (q_rows_r 1, .inl (cJ, 5, .inr (.inl (v_rows 1)))), (q_rows_r 2, .inl (cJ, 5, .inr (.inl (v_rows 2)))), (q_rows_r 3, .inl (cJ, 5, .inr (.inl (v_rows 3)))), (q_leads, .inl (cI, 4, .inl v_leads))]) (wr := [(q_rows, .inl (cQ, 4, .inr (.inr (.inr (.inr (kg q_rows_r)))))), (q_rows_r 0, .inl (cJ, 5, .inr (.inl (v_rows 0)))), (q_rows_r 1, .inl (cJ, 5, .inr (.inl (v_rows 1)))), (q_rows_r 2, .inl (cJ, 5, .inr (.inl (v_rows 2)))), (q_rows_r 3, .inl (cJ, 5, .inr (.inl (v_rows 3))))]) (k_runV (rest := []) hat hP hD hS hl.1 (c_X1_rowLedBy q q_rows q_leads v_n v_rank v_exchanges v_width v_scale v_leads F x1 r1 h2) [0, 6] (by decide) rfl kw545 kw547 kw9 kw70 kw548 kdVX1_rowLedBy ⟨rfl, rfl⟩ (by rw [hR]; exact ⟨Nat.le_of_ble_eq_true rfl, Nat.le_of_ble_eq_true rfl⟩) ⟨Nat.zero_le _, Nat.zero_le _⟩ 0 1 rfl rfl rfl rfl (Nat.le_of_ble_eq_true rfl) dX1_solutionBelow_2) hat hP hD hS [0, 6] rfl [1, 2, 3, 4, 5] rfl rfl rfl rfl rfl (by decide) (fun H locs hP hD hS => ?_)
  refine lv_istore_n (lv' := [(2, .int r1), (0, .ref q), (1, .int x1)]) hx hb dX1_solutionBelow_5 rfl hl (by decide) rfl (fun ls hl => ?_)
  refine lv_iload_n hx hb dX1_solutionBelow_6 rfl (lv_at hl 0 rfl) ?_
  refine lv_iconst (v := -1) hx hb dX1_solutionBelow_7 (by decide) ?_
  refine lv_icmp_ne (tgt := 15) hx hb dX1_solutionBelow_8 (by decide) (fun c3 => ?_) (fun c3 => ?_)
  · have hf := kn_e hf c3
    refine lv_aload_n hx hb dX1_solutionBelow_15 rfl (lv_at hl 1 rfl) ?_
    refine lv_iload_n hx hb dX1_solutionBelow_16 rfl (lv_at hl 0 rfl) ?_
    refine lv_iconst (v := 4) hx hb dX1_solutionBelow_17 (by decide) ?_
    obtain ⟨r4, h5, hf⟩ := kb1_e hf
    refine k_gl (nW := 7) (ws' := [(q, .inr (1, [.int v_n, .int v_rank, .int v_exchanges, .ref q_rows, .int v_width, .long v_scale, .ref q_leads])), (q_rows, .inl (cQ, 4, .inr (.inr (.inr (.inr (kg q_rows_r)))))), (q_rows_r 0, .inl (cJ, 5, .inr (.inl (v_rows 0)))), (q_rows_r 1, .inl (cJ, 5, .inr (.inl (v_rows 1)))), (q_rows_r 2, .inl (cJ, 5, .inr (.inl (v_rows 2)))), (q_rows_r 3, .inl (cJ, 5, .inr (.inl (v_rows 3)))), (q_leads, .inl (cI, 4, .inl v_leads))]) (wr := [(q_leads, .inl (cI, 4, .inl v_leads))]) (k_runV (rest := []) hat hP hD hS hl.1 (c_X1_below q q_rows q_leads q_rows_r v_n v_rank v_exchanges v_width v_scale v_rows F r1 (4 : Int32) r4 h5) [0, 1, 2, 3, 4, 5] (by decide) rfl kw451 kw452 kw453 kw70 kw454 kdVX1_below ⟨rfl, rfl⟩ (by rw [hR]; exact ⟨Nat.le_of_ble_eq_true rfl, Nat.le_of_ble_eq_true rfl⟩) ⟨Nat.zero_le _, Nat.zero_le _⟩ 0 1 rfl rfl rfl rfl (Nat.le_of_ble_eq_true rfl) dX1_solutionBelow_18) hat hP hD hS [0, 1, 2, 3, 4, 5] rfl [6] rfl rfl rfl rfl rfl (by decide) (fun H locs hP hD hS => ?_)
    obtain rfl := ki1 hf
    rw [hQ]
    exact k_lret hat hP hS rfl dX1_solutionBelow_21
  · have hf := kp_e hf c3
    refine lv_lconst (v := 1) hx hb dX1_solutionBelow_11 (by decide) ?_
    refine lv_goto (tgt := 21) hx hb dX1_solutionBelow_12 (by decide) ?_
    obtain rfl := ki1 hf
    rw [hQ]
    exact k_lret hat hP hS rfl dX1_solutionBelow_21
set_option maxHeartbeats 4000000 in
set_option maxRecDepth 100000 in
theorem c_X4_is {l : Launch} {D : va_G} {cI cJ cQ : ClassId} {tp : Nat} (q : Nat) (v_found : Int32) (v_above : Int64) (v_below : Int64) (x1 : Int64) (x3 : Int64) (r0 : Int32) (hf : f_X4_is v_found v_above v_below x1 x3 = some r0) : kM (fun A => kQi D A [(q, .inr (4, [.int v_found, .long v_above, .long v_below]))] r0) (some .boolean) l yX4_is cX4_is 5 { frames := 0, cells := 0, slots := 0, locals := 0 } D cI cJ cQ tp [.ref q, .long x1, .long x3] [(q, .inr (4, [.int v_found, .long v_above, .long v_below]))] := by
  refine kM_of (by decide +kernel) (Nat.le_of_ble_eq_true rfl) ?_
  intro p e s m args below meth c A ls R Q hR hQ hat hP hD hS hl
  obtain ⟨hx, hb, hr, hml, hown, hts, hT, hlk, hK, hA, hZ⟩ := id hat
  have hown : s.vm.findClass RX4 = some m.cls := hown
  have hl : lv_has ls 5 [(0, .ref q), (1, .long x1), (3, .long x3)] := hl
  unfold f_X4_is at hf
  refine lv_aload_n hx hb dX4_is_0 rfl (lv_at hl 0 rfl) ?_
  refine va_get (D := D) (ci := 4) (v := .int v_found) (C := RX4) (T := TX4) (N := 3) hx hb hts kinX4 hown hK hP 0 rfl rfl 0 (by decide) (hts _ kw216) (fun _ h9 => h9) rfl dX4_is_1 ?_
  refine lv_if_eq (tgt := 29) hx hb dX4_is_4 (by decide) (fun c1 => ?_) (fun c1 => ?_)
  · have hf := kp_e hf c1
    refine lv_iconst (v := 0) hx hb dX4_is_29 (by decide) ?_
    obtain rfl := ki1 hf
    rw [hQ]
    exact k_zret hat hP hS rfl (by decide) dX4_is_30
  · have hf := kn_e hf c1
    refine lv_aload_n hx hb dX4_is_7 rfl (lv_at hl 0 rfl) ?_
    refine va_get (D := D) (ci := 4) (v := .long v_above) (C := RX4) (T := TX4) (N := 3) hx hb hts kinX4 hown hK hP 0 rfl rfl 1 (by decide) (hts _ kw219) (fun _ h9 => h9) rfl dX4_is_8 ?_
    refine lv_lload_n hx hb dX4_is_11 rfl (lv_at hl 1 rfl) ?_
    refine k_lcmp_ne (tgt := 29) hx hb dX4_is_12 dX4_is_13 (by decide) (fun c2 => ?_) (fun c2 => ?_)
    · have hf := kn_e hf c2
      refine lv_iconst (v := 0) hx hb dX4_is_29 (by decide) ?_
      obtain rfl := ki1 hf
      rw [hQ]
      exact k_zret hat hP hS rfl (by decide) dX4_is_30
    · have hf := kp_e hf c2
      refine lv_aload_n hx hb dX4_is_16 rfl (lv_at hl 0 rfl) ?_
      refine va_get (D := D) (ci := 4) (v := .long v_below) (C := RX4) (T := TX4) (N := 3) hx hb hts kinX4 hown hK hP 0 rfl rfl 2 (by decide) (hts _ kw221) (fun _ h9 => h9) rfl dX4_is_17 ?_
      refine lv_lload_n hx hb dX4_is_20 rfl (lv_at hl 2 rfl) ?_
      refine k_lcmp_ne (tgt := 29) hx hb dX4_is_21 dX4_is_22 (by decide) (fun c3 => ?_) (fun c3 => ?_)
      · have hf := kn_e hf c3
        refine lv_iconst (v := 0) hx hb dX4_is_29 (by decide) ?_
        obtain rfl := ki1 hf
        rw [hQ]
        exact k_zret hat hP hS rfl (by decide) dX4_is_30
      · have hf := kp_e hf c3
        refine lv_iconst (v := 1) hx hb dX4_is_25 (by decide) ?_
        refine lv_goto (tgt := 30) hx hb dX4_is_26 (by decide) ?_
        obtain rfl := ki1 hf
        rw [hQ]
        exact k_zret hat hP hS rfl (by decide) dX4_is_30
