set_option maxHeartbeats 4000000 in
set_option maxRecDepth 100000 in
theorem c_X11_bitsOfSize {l : Launch} {D : va_G} {cI cJ cQ : ClassId} {tp : Nat} (F : Nat) (x0 : UInt64) (x2 : Int32) (x3 : Int32) (r0 : Int64) (hf : f_X11_bitsOfSize F x0 x2 x3 = some r0) : kM (fun A => kQl D A [] r0) (some .long) l yX11_bitsOfSize cX11_bitsOfSize 11 { frames := 0, cells := 0, slots := 0, locals := 0 } D cI cJ cQ tp [.double x0, .int x2, .int x3] [] := by
  refine kM_of (by decide +kernel) (Nat.le_of_ble_eq_true rfl) ?_
  intro p e s m args below meth c A ls R Q hR hQ hat hP hD hS hl
  obtain ⟨hx, hb, hr, hml, hown, hts, hT, hlk, hK, hA, hZ⟩ := id hat
  have hown : s.vm.findClass RX11 = some m.cls := hown
  have hl : lv_has ls 11 [(0, .double x0), (2, .int x2), (3, .int x3)] := hl
  have hL25 : ∀ (x2 : Int32) (x3 : Int32) (x4 : Int64) (fu : Nat) (x6 : UInt64) (x8 : Int64) (x10 : Int32) (o0 : UInt64) (o1 : Int64), L_X11_bitsOfSize_25 x2 x3 x4 fu x6 x8 x10 = some (o0, o1) → (∀ (H : Heap) (locs : List Loc) (ls : Array Slot), va_P D vwCl [] H → va_D A [] → va_S A s.heap H locs → lv_has ls 11 [(2, .int x2), (4, .long x4), (6, .double o0), (8, .long o1)] → W p l e R s m args below meth c H locs 0 0 Q (F0 m 62 ls [])) → ∀ (H : Heap) (locs : List Loc) (ls : Array Slot), va_P D vwCl [] H → va_D A [] → va_S A s.heap H locs → lv_has ls 11 [(2, .int x2), (3, .int x3), (4, .long x4), (6, .double x6), (8, .long x8), (10, .int x10)] → W p l e R s m args below meth c H locs 0 0 Q (F0 m 25 ls []) := by
    intro x2 x3 x4 fu
    induction fu with
    | zero =>
      intro x6 x8 x10 o0 o1 hf
      cases hf
    | succ fu ih =>
      intro x6 x8 x10 o0 o1 hf hk0 H locs ls hP hD hS hl
      rw [L_X11_bitsOfSize_25] at hf
      refine lv_iload hx hb dX11_bitsOfSize_25 (lv_at hl 5 rfl) ?_
      refine lv_iload_n hx hb dX11_bitsOfSize_27 rfl (lv_at hl 0 rfl) ?_
      refine lv_iload_n hx hb dX11_bitsOfSize_28 rfl (lv_at hl 1 rfl) ?_
      refine lv_iadd hx hb dX11_bitsOfSize_29 ?_
      refine lv_icmp_ge (tgt := 62) hx hb dX11_bitsOfSize_30 (by decide) (fun c4 => ?_) (fun c4 => ?_)
      · have hf := kp_e hf c4
        obtain ⟨rfl, rfl⟩ := ki2 hf
        exact hk0 _ _ _ hP hD hS (lv_sub hl [0, 2, 3, 4] rfl)
      · have hf := kn_e hf c4
        refine lv_dload hx hb dX11_bitsOfSize_33 (lv_at hl 3 rfl) ?_
        refine lv_lload hx hb dX11_bitsOfSize_35 (lv_at hl 2 rfl) ?_
        refine lv_l2d hx hb dX11_bitsOfSize_37 ?_
        refine lv_dcmp hx hb dX11_bitsOfSize_38 ?_
        refine lv_if_ge (tgt := 62) hx hb dX11_bitsOfSize_39 (by decide) (fun c5 => ?_) (fun c5 => ?_)
        · have hf := kp_e hf c5
          obtain ⟨rfl, rfl⟩ := ki2 hf
          exact hk0 _ _ _ hP hD hS (lv_sub hl [0, 2, 3, 4] rfl)
        · have hf := kn_e hf c5
          refine lv_dload hx hb dX11_bitsOfSize_42 (lv_at hl 3 rfl) ?_
          refine lv_ldc2d hx hb hown (hts _ kw669) dX11_bitsOfSize_44 ?_
          obtain ⟨c6, hf⟩ := kc_e hf
          refine lv_dmul hx hb dX11_bitsOfSize_47 (kq64_e c6) ?_
          refine lv_topd (fun t7 et7 => ?_)
          have hf := kl_e hf t7 et7
          refine lv_dstore (lv' := [(6, .double t7), (2, .int x2), (3, .int x3), (4, .long x4), (8, .long x8), (10, .int x10)]) hx hb dX11_bitsOfSize_48 hl (by decide) rfl (fun ls hl => ?_)
          refine lv_lload hx hb dX11_bitsOfSize_50 (lv_at hl 4 rfl) ?_
          refine lv_lconst (v := 1) hx hb dX11_bitsOfSize_52 (by decide) ?_
          refine lv_lsub hx hb dX11_bitsOfSize_53 ?_
          refine lv_topl (fun t8 et8 => ?_)
          have hf := kl_e hf t8 et8
          refine lv_lstore (lv' := [(8, .long t8), (6, .double t7), (2, .int x2), (3, .int x3), (4, .long x4), (10, .int x10)]) hx hb dX11_bitsOfSize_54 hl (by decide) rfl (fun ls hl => ?_)
          obtain ⟨t9, et9⟩ : ∃ z : Int32, z = (x10 + (1 : Int32)) := ⟨_, rfl⟩
          have hf := kl_e hf t9 et9
          refine lv_iinc (v := t9) (lv' := [(10, .int t9), (8, .long t8), (6, .double t7), (2, .int x2), (3, .int x3), (4, .long x4)]) hx hb dX11_bitsOfSize_56 hl (k := 5) rfl (by rw [et9]; rfl) (by decide) rfl (fun ls hl => ?_)
          refine lv_goto (tgt := 25) hx hb dX11_bitsOfSize_59 (by decide) ?_
          exact ih t7 t8 t9 o0 o1 hf hk0 _ _ _ hP hD hS (lv_sub hl [3, 4, 5, 2, 1, 0] rfl)
  unfold f_X11_bitsOfSize at hf
  refine lv_dload_n hx hb dX11_bitsOfSize_0 rfl (lv_at hl 0 rfl) ?_
  refine lv_dconst0 hx hb dX11_bitsOfSize_1 ?_
  refine lv_dcmp hx hb dX11_bitsOfSize_2 ?_
  refine lv_if_ne (tgt := 8) hx hb dX11_bitsOfSize_3 (by decide) (fun c1 => ?_) (fun c1 => ?_)
  · have hf := kn_e hf c1
    refine lv_lconst (v := 1) hx hb dX11_bitsOfSize_8 (by decide) ?_
    refine lv_iload_n hx hb dX11_bitsOfSize_9 rfl (lv_at hl 1 rfl) ?_
    refine lv_lshl hx hb dX11_bitsOfSize_10 rfl ?_
    refine lv_topl (fun t2 et2 => ?_)
    have hf := kl_e hf t2 et2
    refine lv_lstore (lv' := [(4, .long t2), (0, .double x0), (2, .int x2), (3, .int x3)]) hx hb dX11_bitsOfSize_11 hl (by decide) rfl (fun ls hl => ?_)
    refine lv_dload_n hx hb dX11_bitsOfSize_13 rfl (lv_at hl 1 rfl) ?_
    refine lv_dstore (lv' := [(6, .double x0), (4, .long t2), (0, .double x0), (2, .int x2), (3, .int x3)]) hx hb dX11_bitsOfSize_14 hl (by decide) rfl (fun ls hl => ?_)
    refine lv_iload_n hx hb dX11_bitsOfSize_16 rfl (lv_at hl 4 rfl) ?_
    refine lv_iload_n hx hb dX11_bitsOfSize_17 rfl (lv_at hl 3 rfl) ?_
    refine lv_iadd hx hb dX11_bitsOfSize_18 ?_
    refine lv_i2l hx hb dX11_bitsOfSize_19 rfl ?_
    refine lv_topl (fun t3 et3 => ?_)
    have hf := kl_e hf t3 et3
    refine lv_lstore (lv' := [(8, .long t3), (6, .double x0), (4, .long t2), (0, .double x0), (2, .int x2), (3, .int x3)]) hx hb dX11_bitsOfSize_20 hl (by decide) rfl (fun ls hl => ?_)
    refine lv_iconst (v := 0) hx hb dX11_bitsOfSize_22 (by decide) ?_
    refine lv_istore (lv' := [(10, .int (0 : Int32)), (8, .long t3), (6, .double x0), (4, .long t2), (0, .double x0), (2, .int x2), (3, .int x3)]) hx hb dX11_bitsOfSize_23 hl (by decide) rfl (fun ls hl => ?_)
    obtain ⟨y10, y11, hu, hf⟩ := kb2_e hf
    refine hL25 x2 x3 t2 F x0 t3 (0 : Int32) y10 y11 hu (fun H locs ls hP hD hS hl => ?_) _ _ _ hP hD hS (lv_sub hl [5, 6, 3, 2, 1, 0] rfl)
    refine lv_lload hx hb dX11_bitsOfSize_62 (lv_at hl 3 rfl) ?_
    refine lv_iload_n hx hb dX11_bitsOfSize_64 rfl (lv_at hl 0 rfl) ?_
    refine lv_lshl hx hb dX11_bitsOfSize_65 rfl ?_
    refine lv_dload hx hb dX11_bitsOfSize_66 (lv_at hl 2 rfl) ?_
    refine lv_d2l hx hb dX11_bitsOfSize_68 ?_
    refine lv_lload hx hb dX11_bitsOfSize_69 (lv_at hl 1 rfl) ?_
    refine lv_lsub hx hb dX11_bitsOfSize_71 ?_
    refine lv_ladd hx hb dX11_bitsOfSize_72 ?_
    obtain rfl := ki1 hf
    rw [hQ]
    exact k_lret hat hP hS rfl dX11_bitsOfSize_73
  · have hf := kp_e hf c1
    refine lv_lconst (v := 0) hx hb dX11_bitsOfSize_6 (by decide) ?_
    obtain rfl := ki1 hf
    rw [hQ]
    exact k_lret hat hP hS rfl dX11_bitsOfSize_7
set_option maxHeartbeats 4000000 in
set_option maxRecDepth 100000 in
theorem c_X11_bitsOfDouble {l : Launch} {D : va_G} {cI cJ cQ : ClassId} {tp : Nat} (F : Nat) (x0 : UInt64) (r0 : Int64) (hf : f_X11_bitsOfDouble F x0 = some r0) : kM (fun A => kQl D A [] r0) (some .long) l yX11_bitsOfDouble cX11_bitsOfDouble 4 { frames := 1, cells := 0, slots := 0, locals := 30 } D cI cJ cQ tp [.double x0] [] := by
  refine kM_of (by decide +kernel) (Nat.le_of_ble_eq_true rfl) ?_
  intro p e s m args below meth c A ls R Q hR hQ hat hP hD hS hl
  obtain ⟨hx, hb, hr, hml, hown, hts, hT, hlk, hK, hA, hZ⟩ := id hat
  have hown : s.vm.findClass RX11 = some m.cls := hown
  have hl : lv_has ls 4 [(0, .double x0)] := hl
  unfold f_X11_bitsOfDouble at hf
  refine lv_dload_n hx hb dX11_bitsOfDouble_0 rfl (lv_at hl 0 rfl) ?_
  refine lv_dconst0 hx hb dX11_bitsOfDouble_1 ?_
  refine lv_dcmp hx hb dX11_bitsOfDouble_2 ?_
  obtain ⟨J2, hJ2_, hf⟩ := kj1_e hf
  have hJ2 : ∀ (t1 : UInt64), J2 t1 = some r0 → ∀ (H : Heap) (locs : List Loc) (ls : Array Slot), va_P D vwCl [] H → va_D A [] → va_S A s.heap H locs → lv_has ls 4 [(0, .double x0)] → W p l e R s m args below meth c H locs 0 0 Q (F0 m 13 ls [.double t1]) := by
    intro t1 hf H locs ls hP hD hS hl
    rw [hJ2_] at hf
    refine lv_bipush (v := 52) hx hb dX11_bitsOfDouble_13 (by decide) ?_
    refine lv_sipush (v := 1023) hx hb dX11_bitsOfDouble_15 (by decide) ?_
    obtain ⟨r3, h4, hf⟩ := kb1_e hf
    refine k_gl (nW := 0) (ws' := []) (wr := []) (k_runS (rest := []) hat hP hD hS hl.1 (c_X11_bitsOfSize F t1 (52 : Int32) (1023 : Int32) r3 h4) [] (by decide) rfl kw666 kw667 kw67 kw668 kdX11_bitsOfSize ⟨rfl, rfl⟩ (by rw [hR]; exact ⟨Nat.le_of_ble_eq_true rfl, Nat.le_of_ble_eq_true rfl⟩) ⟨Nat.zero_le _, Nat.zero_le _⟩ rfl rfl (Nat.le_of_ble_eq_true rfl) dX11_bitsOfDouble_18) hat hP hD hS [] rfl [] rfl rfl rfl rfl rfl (by decide) (fun H locs hP hD hS => ?_)
    refine lv_lstore_n (lv' := [(2, .long r3), (0, .double x0)]) hx hb dX11_bitsOfDouble_21 rfl hl (by decide) rfl (fun ls hl => ?_)
    refine lv_dload_n hx hb dX11_bitsOfDouble_22 rfl (lv_at hl 1 rfl) ?_
    refine lv_dconst0 hx hb dX11_bitsOfDouble_23 ?_
    refine lv_dcmp hx hb dX11_bitsOfDouble_24 ?_
    refine lv_if_ge (tgt := 36) hx hb dX11_bitsOfDouble_25 (by decide) (fun c5 => ?_) (fun c5 => ?_)
    · have hf := kp_e hf c5
      refine lv_lload_n hx hb dX11_bitsOfDouble_36 rfl (lv_at hl 0 rfl) ?_
      obtain rfl := ki1 hf
      rw [hQ]
      exact k_lret hat hP hS rfl dX11_bitsOfDouble_37
    · have hf := kn_e hf c5
      refine lv_lload_n hx hb dX11_bitsOfDouble_28 rfl (lv_at hl 0 rfl) ?_
      refine lv_ldc2 hx hb hown (hts _ kw670) dX11_bitsOfDouble_29 ?_
      refine lv_lor hx hb dX11_bitsOfDouble_32 ?_
      refine lv_goto (tgt := 37) hx hb dX11_bitsOfDouble_33 (by decide) ?_
      obtain rfl := ki1 hf
      rw [hQ]
      exact k_lret hat hP hS rfl dX11_bitsOfDouble_37
  refine lv_if_ge (tgt := 12) hx hb dX11_bitsOfDouble_3 (by decide) (fun c6 => ?_) (fun c6 => ?_)
  · have hf := kp_e hf c6
    refine lv_dload_n hx hb dX11_bitsOfDouble_12 rfl (lv_at hl 0 rfl) ?_
    exact hJ2 x0 hf _ _ _ hP hD hS hl
  · have hf := kn_e hf c6
    refine lv_dconst0 hx hb dX11_bitsOfDouble_6 ?_
    refine lv_dload_n hx hb dX11_bitsOfDouble_7 rfl (lv_at hl 0 rfl) ?_
    obtain ⟨c7, hf⟩ := kc_e hf
    refine lv_dsub hx hb dX11_bitsOfDouble_8 (kq64_e c7) ?_
    refine lv_goto (tgt := 13) hx hb dX11_bitsOfDouble_9 (by decide) ?_
    exact hJ2 (FP.dsub FP.dconst0 x0) hf _ _ _ hP hD hS hl
set_option maxHeartbeats 4000000 in
set_option maxRecDepth 100000 in
theorem c_X11_near {l : Launch} {D : va_G} {cI cJ cQ : ClassId} {tp : Nat} (q : Nat) (q_now : Nat) (q_clearing : Nat) (q_residues : Nat) (q_lifting : Nat) (q_guessed : Nat) (q_walk : Nat) (q_history : Nat) (q_book : Nat) (q_draws : Nat) (q_firstImage : Nat) (q_secondImage : Nat) (q_now_numbers : Nat) (q_clearing_rows : Nat) (q_clearing_leads : Nat) (q_clearing_rows_r : Nat → Nat) (v_now_n : Int32) (v_now_primeNumber : Int32) (v_now_numbers : (Nat → Int32)) (v_clearing_n : Int32) (v_clearing_rank : Int32) (v_clearing_exchanges : Int32) (v_clearing_width : Int32) (v_clearing_scale : Int64) (v_clearing_rows : (Nat → Nat → Int64)) (v_clearing_leads : (Nat → Int32)) (F : Nat) (x1 : Int32) (r0 : Int64) (o_v_clearing_n : Int32) (o_v_clearing_rank : Int32) (o_v_clearing_exchanges : Int32) (o_v_clearing_scale : Int64) (o_v_clearing_rows : (Nat → Nat → Int64)) (o_v_clearing_leads : (Nat → Int32)) (hf : f_X11_near F v_now_n v_now_numbers v_clearing_n v_clearing_rank v_clearing_exchanges v_clearing_width v_clearing_scale v_clearing_rows v_clearing_leads x1 = some (r0, o_v_clearing_n, o_v_clearing_rank, o_v_clearing_exchanges, o_v_clearing_scale, o_v_clearing_rows, o_v_clearing_leads)) : kM (fun A => kQl D A [(q, .inr (10, [.ref q_now, .ref q_clearing, .ref q_residues, .ref q_lifting, .ref q_guessed, .ref q_walk, .ref q_history, .ref q_book, .ref q_draws, .ref q_firstImage, .ref q_secondImage])), (q_now, .inr (3, [.int v_now_n, .int v_now_primeNumber, .ref q_now_numbers])), (q_now_numbers, .inl (cI, 20, .inl v_now_numbers)), (q_clearing, .inr (1, [.int o_v_clearing_n, .int o_v_clearing_rank, .int o_v_clearing_exchanges, .ref q_clearing_rows, .int v_clearing_width, .long o_v_clearing_scale, .ref q_clearing_leads])), (q_clearing_rows, .inl (cQ, 4, .inr (.inr (.inr (.inr (kg q_clearing_rows_r)))))), (q_clearing_rows_r 0, .inl (cJ, 5, .inr (.inl (o_v_clearing_rows 0)))), (q_clearing_rows_r 1, .inl (cJ, 5, .inr (.inl (o_v_clearing_rows 1)))), (q_clearing_rows_r 2, .inl (cJ, 5, .inr (.inl (o_v_clearing_rows 2)))), (q_clearing_rows_r 3, .inl (cJ, 5, .inr (.inl (o_v_clearing_rows 3)))), (q_clearing_leads, .inl (cI, 4, .inl o_v_clearing_leads))] r0) (some .long) l yX11_near cX11_near 3 { frames := 6, cells := 0, slots := 0, locals := 139 } D cI cJ cQ tp [.ref q, .int x1] [(q, .inr (10, [.ref q_now, .ref q_clearing, .ref q_residues, .ref q_lifting, .ref q_guessed, .ref q_walk, .ref q_history, .ref q_book, .ref q_draws, .ref q_firstImage, .ref q_secondImage])), (q_now, .inr (3, [.int v_now_n, .int v_now_primeNumber, .ref q_now_numbers])), (q_now_numbers, .inl (cI, 20, .inl v_now_numbers)), (q_clearing, .inr (1, [.int v_clearing_n, .int v_clearing_rank, .int v_clearing_exchanges, .ref q_clearing_rows, .int v_clearing_width, .long v_clearing_scale, .ref q_clearing_leads])), (q_clearing_rows, .inl (cQ, 4, .inr (.inr (.inr (.inr (kg q_clearing_rows_r)))))), (q_clearing_rows_r 0, .inl (cJ, 5, .inr (.inl (v_clearing_rows 0)))), (q_clearing_rows_r 1, .inl (cJ, 5, .inr (.inl (v_clearing_rows 1)))), (q_clearing_rows_r 2, .inl (cJ, 5, .inr (.inl (v_clearing_rows 2)))), (q_clearing_rows_r 3, .inl (cJ, 5, .inr (.inl (v_clearing_rows 3)))), (q_clearing_leads, .inl (cI, 4, .inl v_clearing_leads))] := by
  refine kM_of (by decide +kernel) (Nat.le_of_ble_eq_true rfl) ?_
  intro p e s m args below meth c A ls R Q hR hQ hat hP hD hS hl
  obtain ⟨hx, hb, hr, hml, hown, hts, hT, hlk, hK, hA, hZ⟩ := id hat
  have hown : s.vm.findClass RX11 = some m.cls := hown
  have hl : lv_has ls 3 [(0, .ref q), (1, .int x1)] := hl
  unfold f_X11_near at hf
  refine lv_aload_n hx hb dX11_near_0 rfl (lv_at hl 0 rfl) ?_
  refine lv_iload_n hx hb dX11_near_1 rfl (lv_at hl 1 rfl) ?_
  obtain ⟨r1, w2, w3, w4, w5, w6, w7, h8, hf⟩ := kb7_e hf
  refine k_gi (nW := 10) (ws' := [(q, .inr (10, [.ref q_now, .ref q_clearing, .ref q_residues, .ref q_lifting, .ref q_guessed, .ref q_walk, .ref q_history, .ref q_book, .ref q_draws, .ref q_firstImage, .ref q_secondImage])), (q_now, .inr (3, [.int v_now_n, .int v_now_primeNumber, .ref q_now_numbers])), (q_now_numbers, .inl (cI, 20, .inl v_now_numbers)), (q_clearing, .inr (1, [.int w2, .int w3, .int w4, .ref q_clearing_rows, .int v_clearing_width, .long w5, .ref q_clearing_leads])), (q_clearing_rows, .inl (cQ, 4, .inr (.inr (.inr (.inr (kg q_clearing_rows_r)))))), (q_clearing_rows_r 0, .inl (cJ, 5, .inr (.inl (w6 0)))), (q_clearing_rows_r 1, .inl (cJ, 5, .inr (.inl (w6 1)))), (q_clearing_rows_r 2, .inl (cJ, 5, .inr (.inl (w6 2)))), (q_clearing_rows_r 3, .inl (cJ, 5, .inr (.inl (w6 3)))), (q_clearing_leads, .inl (cI, 4, .inl w7))]) (wr := []) (k_runV (rest := []) hat hP hD hS hl.1 (c_X11_whyNoValue q q_now q_clearing q_residues q_lifting q_guessed q_walk q_history q_book q_draws q_firstImage q_secondImage q_now_numbers q_clearing_rows q_clearing_leads q_clearing_rows_r v_now_n v_now_primeNumber v_now_numbers v_clearing_n v_clearing_rank v_clearing_exchanges v_clearing_width v_clearing_scale v_clearing_rows v_clearing_leads F x1 r1 w2 w3 w4 w5 w6 w7 h8) [0, 1, 2, 3, 4, 5, 6, 7, 8, 9] (by decide) rfl kw653 kw655 kw12 kw67 kw656 kdVX11_whyNoValue ⟨rfl, rfl⟩ (by rw [hR]; exact ⟨Nat.le_of_ble_eq_true rfl, Nat.le_of_ble_eq_true rfl⟩) ⟨Nat.zero_le _, Nat.zero_le _⟩ 0 10 rfl rfl rfl rfl (Nat.le_of_ble_eq_true rfl) dX11_near_2) hat hP hD hS [0, 1, 2, 3, 4, 5, 6, 7, 8, 9] rfl [] rfl rfl rfl rfl rfl (by decide) (fun H locs hP hD hS => ?_)
  refine lv_istore_n (lv' := [(2, .int r1), (0, .ref q), (1, .int x1)]) hx hb dX11_near_5 rfl hl (by decide) rfl (fun ls hl => ?_)
  refine lv_iload_n hx hb dX11_near_6 rfl (lv_at hl 0 rfl) ?_
  refine lv_if_eq (tgt := 15) hx hb dX11_near_7 (by decide) (fun c9 => ?_) (fun c9 => ?_)
  · have hf := kp_e hf c9
    refine lv_aload_n hx hb dX11_near_15 rfl (lv_at hl 1 rfl) ?_
    refine va_get (D := D) (ci := 10) (v := .ref q_clearing) (C := RX11) (T := TX11) (N := 11) hx hb hts kinX11 hown hK hP 0 rfl rfl 1 (by decide) (hts _ kw328) (fun _ h9 => h9) rfl dX11_near_16 ?_
    refine lv_iload_n hx hb dX11_near_19 rfl (lv_at hl 2 rfl) ?_
    obtain ⟨r10, h11, hf⟩ := kb1_e hf
    refine k_gd (nW := 10) (ws' := [(q, .inr (10, [.ref q_now, .ref q_clearing, .ref q_residues, .ref q_lifting, .ref q_guessed, .ref q_walk, .ref q_history, .ref q_book, .ref q_draws, .ref q_firstImage, .ref q_secondImage])), (q_now, .inr (3, [.int v_now_n, .int v_now_primeNumber, .ref q_now_numbers])), (q_now_numbers, .inl (cI, 20, .inl v_now_numbers)), (q_clearing, .inr (1, [.int w2, .int w3, .int w4, .ref q_clearing_rows, .int v_clearing_width, .long w5, .ref q_clearing_leads])), (q_clearing_rows, .inl (cQ, 4, .inr (.inr (.inr (.inr (kg q_clearing_rows_r)))))), (q_clearing_rows_r 0, .inl (cJ, 5, .inr (.inl (w6 0)))), (q_clearing_rows_r 1, .inl (cJ, 5, .inr (.inl (w6 1)))), (q_clearing_rows_r 2, .inl (cJ, 5, .inr (.inl (w6 2)))), (q_clearing_rows_r 3, .inl (cJ, 5, .inr (.inl (w6 3)))), (q_clearing_leads, .inl (cI, 4, .inl w7))]) (wr := [(q, .inr (10, [.ref q_now, .ref q_clearing, .ref q_residues, .ref q_lifting, .ref q_guessed, .ref q_walk, .ref q_history, .ref q_book, .ref q_draws, .ref q_firstImage, .ref q_secondImage])), (q_now, .inr (3, [.int v_now_n, .int v_now_primeNumber, .ref q_now_numbers])), (q_now_numbers, .inl (cI, 20, .inl v_now_numbers))]) (k_runV (rest := []) hat hP hD hS hl.1 (c_X1_nearest q_clearing q_clearing_rows q_clearing_leads q_clearing_rows_r w2 w3 w4 v_clearing_width w5 w6 w7 F x1 r10 h11) [3, 4, 5, 6, 7, 8, 9] (by decide) rfl kw657 kw658 kw659 kw70 kw660 kdVX1_nearest ⟨rfl, rfl⟩ (by rw [hR]; exact ⟨Nat.le_of_ble_eq_true rfl, Nat.le_of_ble_eq_true rfl⟩) ⟨Nat.zero_le _, Nat.zero_le _⟩ 3 1 rfl rfl rfl rfl (Nat.le_of_ble_eq_true rfl) dX11_near_20) hat hP hD hS [3, 4, 5, 6, 7, 8, 9] rfl [0, 1, 2] rfl rfl rfl rfl rfl (by decide) (fun H locs hP hD hS => ?_)
    obtain ⟨r12, h13, hf⟩ := kb1_e hf
    refine k_gl (nW := 10) (ws' := [(q, .inr (10, [.ref q_now, .ref q_clearing, .ref q_residues, .ref q_lifting, .ref q_guessed, .ref q_walk, .ref q_history, .ref q_book, .ref q_draws, .ref q_firstImage, .ref q_secondImage])), (q_now, .inr (3, [.int v_now_n, .int v_now_primeNumber, .ref q_now_numbers])), (q_now_numbers, .inl (cI, 20, .inl v_now_numbers)), (q_clearing, .inr (1, [.int w2, .int w3, .int w4, .ref q_clearing_rows, .int v_clearing_width, .long w5, .ref q_clearing_leads])), (q_clearing_rows, .inl (cQ, 4, .inr (.inr (.inr (.inr (kg q_clearing_rows_r)))))), (q_clearing_rows_r 0, .inl (cJ, 5, .inr (.inl (w6 0)))), (q_clearing_rows_r 1, .inl (cJ, 5, .inr (.inl (w6 1)))), (q_clearing_rows_r 2, .inl (cJ, 5, .inr (.inl (w6 2)))), (q_clearing_rows_r 3, .inl (cJ, 5, .inr (.inl (w6 3)))), (q_clearing_leads, .inl (cI, 4, .inl w7))]) (wr := [(q, .inr (10, [.ref q_now, .ref q_clearing, .ref q_residues, .ref q_lifting, .ref q_guessed, .ref q_walk, .ref q_history, .ref q_book, .ref q_draws, .ref q_firstImage, .ref q_secondImage])), (q_now, .inr (3, [.int v_now_n, .int v_now_primeNumber, .ref q_now_numbers])), (q_now_numbers, .inl (cI, 20, .inl v_now_numbers)), (q_clearing, .inr (1, [.int w2, .int w3, .int w4, .ref q_clearing_rows, .int v_clearing_width, .long w5, .ref q_clearing_leads])), (q_clearing_rows, .inl (cQ, 4, .inr (.inr (.inr (.inr (kg q_clearing_rows_r)))))), (q_clearing_rows_r 0, .inl (cJ, 5, .inr (.inl (w6 0)))), (q_clearing_rows_r 1, .inl (cJ, 5, .inr (.inl (w6 1)))), (q_clearing_rows_r 2, .inl (cJ, 5, .inr (.inl (w6 2)))), (q_clearing_rows_r 3, .inl (cJ, 5, .inr (.inl (w6 3)))), (q_clearing_leads, .inl (cI, 4, .inl w7))]) (k_runS (rest := []) hat hP hD hS hl.1 (c_X11_bitsOfDouble F r10 r12 h13) [] (by decide) rfl kw663 kw664 kw67 kw665 kdX11_bitsOfDouble ⟨rfl, rfl⟩ (by rw [hR]; exact ⟨Nat.le_of_ble_eq_true rfl, Nat.le_of_ble_eq_true rfl⟩) ⟨Nat.zero_le _, Nat.zero_le _⟩ rfl rfl (Nat.le_of_ble_eq_true rfl) dX11_near_23) hat hP hD hS [] rfl [0, 1, 2, 3, 4, 5, 6, 7, 8, 9] rfl rfl rfl rfl rfl (by decide) (fun H locs hP hD hS => ?_)
    obtain ⟨rfl, rfl, rfl, rfl, rfl, rfl, rfl⟩ := ki7 hf
    rw [hQ]
    exact k_lret hat hP hS rfl dX11_near_26
  · have hf := kn_e hf c9
    refine lv_iload_n hx hb dX11_near_10 rfl (lv_at hl 0 rfl) ?_
    refine lv_i2l hx hb dX11_near_11 rfl ?_
    refine lv_goto (tgt := 26) hx hb dX11_near_12 (by decide) ?_
    obtain ⟨rfl, rfl, rfl, rfl, rfl, rfl, rfl⟩ := ki7 hf
    rw [hQ]
    exact k_lret hat hP hS rfl dX11_near_26
set_option maxHeartbeats 4000000 in
set_option maxRecDepth 100000 in
theorem c_X11_bitsOfFloat {l : Launch} {D : va_G} {cI cJ cQ : ClassId} {tp : Nat} (F : Nat) (x0 : UInt32) (r0 : Int64) (hf : f_X11_bitsOfFloat F x0 = some r0) : kM (fun A => kQl D A [] r0) (some .long) l yX11_bitsOfFloat cX11_bitsOfFloat 3 { frames := 1, cells := 0, slots := 0, locals := 30 } D cI cJ cQ tp [.float x0] [] := by
  refine kM_of (by decide +kernel) (Nat.le_of_ble_eq_true rfl) ?_
  intro p e s m args below meth c A ls R Q hR hQ hat hP hD hS hl
  obtain ⟨hx, hb, hr, hml, hown, hts, hT, hlk, hK, hA, hZ⟩ := id hat
  have hown : s.vm.findClass RX11 = some m.cls := hown
  have hl : lv_has ls 3 [(0, .float x0)] := hl
  unfold f_X11_bitsOfFloat at hf
  refine lv_fload_n hx hb dX11_bitsOfFloat_0 rfl (lv_at hl 0 rfl) ?_
  refine lv_fconst0 hx hb dX11_bitsOfFloat_1 ?_
  refine lv_fcmp hx hb dX11_bitsOfFloat_2 ?_
  obtain ⟨J2, hJ2_, hf⟩ := kj1_e hf
  have hJ2 : ∀ (t1 : UInt64), J2 t1 = some r0 → ∀ (H : Heap) (locs : List Loc) (ls : Array Slot), va_P D vwCl [] H → va_D A [] → va_S A s.heap H locs → lv_has ls 3 [(0, .float x0)] → W p l e R s m args below meth c H locs 0 0 Q (F0 m 15 ls [.double t1]) := by
    intro t1 hf H locs ls hP hD hS hl
    rw [hJ2_] at hf
    refine lv_bipush (v := 23) hx hb dX11_bitsOfFloat_15 (by decide) ?_
    refine lv_bipush (v := 127) hx hb dX11_bitsOfFloat_17 (by decide) ?_
    obtain ⟨r3, h4, hf⟩ := kb1_e hf
    refine k_gl (nW := 0) (ws' := []) (wr := []) (k_runS (rest := []) hat hP hD hS hl.1 (c_X11_bitsOfSize F t1 (23 : Int32) (127 : Int32) r3 h4) [] (by decide) rfl kw666 kw667 kw67 kw668 kdX11_bitsOfSize ⟨rfl, rfl⟩ (by rw [hR]; exact ⟨Nat.le_of_ble_eq_true rfl, Nat.le_of_ble_eq_true rfl⟩) ⟨Nat.zero_le _, Nat.zero_le _⟩ rfl rfl (Nat.le_of_ble_eq_true rfl) dX11_bitsOfFloat_19) hat hP hD hS [] rfl [] rfl rfl rfl rfl rfl (by decide) (fun H locs hP hD hS => ?_)
    refine lv_lstore_n (lv' := [(1, .long r3), (0, .float x0)]) hx hb dX11_bitsOfFloat_22 rfl hl (by decide) rfl (fun ls hl => ?_)
    refine lv_fload_n hx hb dX11_bitsOfFloat_23 rfl (lv_at hl 1 rfl) ?_
    refine lv_fconst0 hx hb dX11_bitsOfFloat_24 ?_
    refine lv_fcmp hx hb dX11_bitsOfFloat_25 ?_
    refine lv_if_ge (tgt := 37) hx hb dX11_bitsOfFloat_26 (by decide) (fun c5 => ?_) (fun c5 => ?_)
    · have hf := kp_e hf c5
      refine lv_lload_n hx hb dX11_bitsOfFloat_37 rfl (lv_at hl 0 rfl) ?_
      obtain rfl := ki1 hf
      rw [hQ]
      exact k_lret hat hP hS rfl dX11_bitsOfFloat_38
    · have hf := kn_e hf c5
      refine lv_lload_n hx hb dX11_bitsOfFloat_29 rfl (lv_at hl 0 rfl) ?_
      refine lv_ldc2 hx hb hown (hts _ kw678) dX11_bitsOfFloat_30 ?_
      refine lv_lor hx hb dX11_bitsOfFloat_33 ?_
      refine lv_goto (tgt := 38) hx hb dX11_bitsOfFloat_34 (by decide) ?_
      obtain rfl := ki1 hf
      rw [hQ]
      exact k_lret hat hP hS rfl dX11_bitsOfFloat_38
  refine lv_if_ge (tgt := 13) hx hb dX11_bitsOfFloat_3 (by decide) (fun c6 => ?_) (fun c6 => ?_)
  · have hf := kp_e hf c6
    refine lv_fload_n hx hb dX11_bitsOfFloat_13 rfl (lv_at hl 0 rfl) ?_
    obtain ⟨c7, hf⟩ := kc_e hf
    refine lv_f2d hx hb dX11_bitsOfFloat_14 (kq64_e c7) ?_
    exact hJ2 (FP.f2d x0) hf _ _ _ hP hD hS hl
  · have hf := kn_e hf c6
    refine lv_fconst0 hx hb dX11_bitsOfFloat_6 ?_
    refine lv_fload_n hx hb dX11_bitsOfFloat_7 rfl (lv_at hl 0 rfl) ?_
    obtain ⟨c8, hf⟩ := kc_e hf
    refine lv_fsub hx hb dX11_bitsOfFloat_8 (kq32_e c8) ?_
    obtain ⟨c9, hf⟩ := kc_e hf
    refine lv_f2d hx hb dX11_bitsOfFloat_9 (kq64_e c9) ?_
    refine lv_goto (tgt := 15) hx hb dX11_bitsOfFloat_10 (by decide) ?_
    exact hJ2 (FP.f2d (FP.fsub FP.fconst0 x0)) hf _ _ _ hP hD hS hl
set_option maxHeartbeats 4000000 in
set_option maxRecDepth 100000 in
theorem c_X11_shortly {l : Launch} {D : va_G} {cI cJ cQ : ClassId} {tp : Nat} (q : Nat) (q_now : Nat) (q_clearing : Nat) (q_residues : Nat) (q_lifting : Nat) (q_guessed : Nat) (q_walk : Nat) (q_history : Nat) (q_book : Nat) (q_draws : Nat) (q_firstImage : Nat) (q_secondImage : Nat) (q_now_numbers : Nat) (q_clearing_rows : Nat) (q_clearing_leads : Nat) (q_clearing_rows_r : Nat → Nat) (v_now_n : Int32) (v_now_primeNumber : Int32) (v_now_numbers : (Nat → Int32)) (v_clearing_n : Int32) (v_clearing_rank : Int32) (v_clearing_exchanges : Int32) (v_clearing_width : Int32) (v_clearing_scale : Int64) (v_clearing_rows : (Nat → Nat → Int64)) (v_clearing_leads : (Nat → Int32)) (F : Nat) (x1 : Int32) (r0 : Int64) (o_v_clearing_n : Int32) (o_v_clearing_rank : Int32) (o_v_clearing_exchanges : Int32) (o_v_clearing_scale : Int64) (o_v_clearing_rows : (Nat → Nat → Int64)) (o_v_clearing_leads : (Nat → Int32)) (hf : f_X11_shortly F v_now_n v_now_numbers v_clearing_n v_clearing_rank v_clearing_exchanges v_clearing_width v_clearing_scale v_clearing_rows v_clearing_leads x1 = some (r0, o_v_clearing_n, o_v_clearing_rank, o_v_clearing_exchanges, o_v_clearing_scale, o_v_clearing_rows, o_v_clearing_leads)) : kM (fun A => kQl D A [(q, .inr (10, [.ref q_now, .ref q_clearing, .ref q_residues, .ref q_lifting, .ref q_guessed, .ref q_walk, .ref q_history, .ref q_book, .ref q_draws, .ref q_firstImage, .ref q_secondImage])), (q_now, .inr (3, [.int v_now_n, .int v_now_primeNumber, .ref q_now_numbers])), (q_now_numbers, .inl (cI, 20, .inl v_now_numbers)), (q_clearing, .inr (1, [.int o_v_clearing_n, .int o_v_clearing_rank, .int o_v_clearing_exchanges, .ref q_clearing_rows, .int v_clearing_width, .long o_v_clearing_scale, .ref q_clearing_leads])), (q_clearing_rows, .inl (cQ, 4, .inr (.inr (.inr (.inr (kg q_clearing_rows_r)))))), (q_clearing_rows_r 0, .inl (cJ, 5, .inr (.inl (o_v_clearing_rows 0)))), (q_clearing_rows_r 1, .inl (cJ, 5, .inr (.inl (o_v_clearing_rows 1)))), (q_clearing_rows_r 2, .inl (cJ, 5, .inr (.inl (o_v_clearing_rows 2)))), (q_clearing_rows_r 3, .inl (cJ, 5, .inr (.inl (o_v_clearing_rows 3)))), (q_clearing_leads, .inl (cI, 4, .inl o_v_clearing_leads))] r0) (some .long) l yX11_shortly cX11_shortly 3 { frames := 6, cells := 0, slots := 0, locals := 139 } D cI cJ cQ tp [.ref q, .int x1] [(q, .inr (10, [.ref q_now, .ref q_clearing, .ref q_residues, .ref q_lifting, .ref q_guessed, .ref q_walk, .ref q_history, .ref q_book, .ref q_draws, .ref q_firstImage, .ref q_secondImage])), (q_now, .inr (3, [.int v_now_n, .int v_now_primeNumber, .ref q_now_numbers])), (q_now_numbers, .inl (cI, 20, .inl v_now_numbers)), (q_clearing, .inr (1, [.int v_clearing_n, .int v_clearing_rank, .int v_clearing_exchanges, .ref q_clearing_rows, .int v_clearing_width, .long v_clearing_scale, .ref q_clearing_leads])), (q_clearing_rows, .inl (cQ, 4, .inr (.inr (.inr (.inr (kg q_clearing_rows_r)))))), (q_clearing_rows_r 0, .inl (cJ, 5, .inr (.inl (v_clearing_rows 0)))), (q_clearing_rows_r 1, .inl (cJ, 5, .inr (.inl (v_clearing_rows 1)))), (q_clearing_rows_r 2, .inl (cJ, 5, .inr (.inl (v_clearing_rows 2)))), (q_clearing_rows_r 3, .inl (cJ, 5, .inr (.inl (v_clearing_rows 3)))), (q_clearing_leads, .inl (cI, 4, .inl v_clearing_leads))] := by
  refine kM_of (by decide +kernel) (Nat.le_of_ble_eq_true rfl) ?_
  intro p e s m args below meth c A ls R Q hR hQ hat hP hD hS hl
  obtain ⟨hx, hb, hr, hml, hown, hts, hT, hlk, hK, hA, hZ⟩ := id hat
  have hown : s.vm.findClass RX11 = some m.cls := hown
  have hl : lv_has ls 3 [(0, .ref q), (1, .int x1)] := hl
  unfold f_X11_shortly at hf
  refine lv_aload_n hx hb dX11_shortly_0 rfl (lv_at hl 0 rfl) ?_
  refine lv_iload_n hx hb dX11_shortly_1 rfl (lv_at hl 1 rfl) ?_
  obtain ⟨r1, w2, w3, w4, w5, w6, w7, h8, hf⟩ := kb7_e hf
  refine k_gi (nW := 10) (ws' := [(q, .inr (10, [.ref q_now, .ref q_clearing, .ref q_residues, .ref q_lifting, .ref q_guessed, .ref q_walk, .ref q_history, .ref q_book, .ref q_draws, .ref q_firstImage, .ref q_secondImage])), (q_now, .inr (3, [.int v_now_n, .int v_now_primeNumber, .ref q_now_numbers])), (q_now_numbers, .inl (cI, 20, .inl v_now_numbers)), (q_clearing, .inr (1, [.int w2, .int w3, .int w4, .ref q_clearing_rows, .int v_clearing_width, .long w5, .ref q_clearing_leads])), (q_clearing_rows, .inl (cQ, 4, .inr (.inr (.inr (.inr (kg q_clearing_rows_r)))))), (q_clearing_rows_r 0, .inl (cJ, 5, .inr (.inl (w6 0)))), (q_clearing_rows_r 1, .inl (cJ, 5, .inr (.inl (w6 1)))), (q_clearing_rows_r 2, .inl (cJ, 5, .inr (.inl (w6 2)))), (q_clearing_rows_r 3, .inl (cJ, 5, .inr (.inl (w6 3)))), (q_clearing_leads, .inl (cI, 4, .inl w7))]) (wr := []) (k_runV (rest := []) hat hP hD hS hl.1 (c_X11_whyNoValue q q_now q_clearing q_residues q_lifting q_guessed q_walk q_history q_book q_draws q_firstImage q_secondImage q_now_numbers q_clearing_rows q_clearing_leads q_clearing_rows_r v_now_n v_now_primeNumber v_now_numbers v_clearing_n v_clearing_rank v_clearing_exchanges v_clearing_width v_clearing_scale v_clearing_rows v_clearing_leads F x1 r1 w2 w3 w4 w5 w6 w7 h8) [0, 1, 2, 3, 4, 5, 6, 7, 8, 9] (by decide) rfl kw653 kw655 kw12 kw67 kw656 kdVX11_whyNoValue ⟨rfl, rfl⟩ (by rw [hR]; exact ⟨Nat.le_of_ble_eq_true rfl, Nat.le_of_ble_eq_true rfl⟩) ⟨Nat.zero_le _, Nat.zero_le _⟩ 0 10 rfl rfl rfl rfl (Nat.le_of_ble_eq_true rfl) dX11_shortly_2) hat hP hD hS [0, 1, 2, 3, 4, 5, 6, 7, 8, 9] rfl [] rfl rfl rfl rfl rfl (by decide) (fun H locs hP hD hS => ?_)
  refine lv_istore_n (lv' := [(2, .int r1), (0, .ref q), (1, .int x1)]) hx hb dX11_shortly_5 rfl hl (by decide) rfl (fun ls hl => ?_)
  refine lv_iload_n hx hb dX11_shortly_6 rfl (lv_at hl 0 rfl) ?_
  refine lv_if_eq (tgt := 15) hx hb dX11_shortly_7 (by decide) (fun c9 => ?_) (fun c9 => ?_)
  · have hf := kp_e hf c9
    refine lv_aload_n hx hb dX11_shortly_15 rfl (lv_at hl 1 rfl) ?_
    refine va_get (D := D) (ci := 10) (v := .ref q_clearing) (C := RX11) (T := TX11) (N := 11) hx hb hts kinX11 hown hK hP 0 rfl rfl 1 (by decide) (hts _ kw328) (fun _ h9 => h9) rfl dX11_shortly_16 ?_
    refine lv_iload_n hx hb dX11_shortly_19 rfl (lv_at hl 2 rfl) ?_
    obtain ⟨r10, h11, hf⟩ := kb1_e hf
    refine k_gd (nW := 10) (ws' := [(q, .inr (10, [.ref q_now, .ref q_clearing, .ref q_residues, .ref q_lifting, .ref q_guessed, .ref q_walk, .ref q_history, .ref q_book, .ref q_draws, .ref q_firstImage, .ref q_secondImage])), (q_now, .inr (3, [.int v_now_n, .int v_now_primeNumber, .ref q_now_numbers])), (q_now_numbers, .inl (cI, 20, .inl v_now_numbers)), (q_clearing, .inr (1, [.int w2, .int w3, .int w4, .ref q_clearing_rows, .int v_clearing_width, .long w5, .ref q_clearing_leads])), (q_clearing_rows, .inl (cQ, 4, .inr (.inr (.inr (.inr (kg q_clearing_rows_r)))))), (q_clearing_rows_r 0, .inl (cJ, 5, .inr (.inl (w6 0)))), (q_clearing_rows_r 1, .inl (cJ, 5, .inr (.inl (w6 1)))), (q_clearing_rows_r 2, .inl (cJ, 5, .inr (.inl (w6 2)))), (q_clearing_rows_r 3, .inl (cJ, 5, .inr (.inl (w6 3)))), (q_clearing_leads, .inl (cI, 4, .inl w7))]) (wr := [(q, .inr (10, [.ref q_now, .ref q_clearing, .ref q_residues, .ref q_lifting, .ref q_guessed, .ref q_walk, .ref q_history, .ref q_book, .ref q_draws, .ref q_firstImage, .ref q_secondImage])), (q_now, .inr (3, [.int v_now_n, .int v_now_primeNumber, .ref q_now_numbers])), (q_now_numbers, .inl (cI, 20, .inl v_now_numbers))]) (k_runV (rest := []) hat hP hD hS hl.1 (c_X1_nearest q_clearing q_clearing_rows q_clearing_leads q_clearing_rows_r w2 w3 w4 v_clearing_width w5 w6 w7 F x1 r10 h11) [3, 4, 5, 6, 7, 8, 9] (by decide) rfl kw657 kw658 kw659 kw70 kw660 kdVX1_nearest ⟨rfl, rfl⟩ (by rw [hR]; exact ⟨Nat.le_of_ble_eq_true rfl, Nat.le_of_ble_eq_true rfl⟩) ⟨Nat.zero_le _, Nat.zero_le _⟩ 3 1 rfl rfl rfl rfl (Nat.le_of_ble_eq_true rfl) dX11_shortly_20) hat hP hD hS [3, 4, 5, 6, 7, 8, 9] rfl [0, 1, 2] rfl rfl rfl rfl rfl (by decide) (fun H locs hP hD hS => ?_)
    obtain ⟨c12, hf⟩ := kc_e hf
    refine lv_d2f hx hb dX11_shortly_23 (kq32_e c12) ?_
    obtain ⟨r13, h14, hf⟩ := kb1_e hf
    refine k_gl (nW := 10) (ws' := [(q, .inr (10, [.ref q_now, .ref q_clearing, .ref q_residues, .ref q_lifting, .ref q_guessed, .ref q_walk, .ref q_history, .ref q_book, .ref q_draws, .ref q_firstImage, .ref q_secondImage])), (q_now, .inr (3, [.int v_now_n, .int v_now_primeNumber, .ref q_now_numbers])), (q_now_numbers, .inl (cI, 20, .inl v_now_numbers)), (q_clearing, .inr (1, [.int w2, .int w3, .int w4, .ref q_clearing_rows, .int v_clearing_width, .long w5, .ref q_clearing_leads])), (q_clearing_rows, .inl (cQ, 4, .inr (.inr (.inr (.inr (kg q_clearing_rows_r)))))), (q_clearing_rows_r 0, .inl (cJ, 5, .inr (.inl (w6 0)))), (q_clearing_rows_r 1, .inl (cJ, 5, .inr (.inl (w6 1)))), (q_clearing_rows_r 2, .inl (cJ, 5, .inr (.inl (w6 2)))), (q_clearing_rows_r 3, .inl (cJ, 5, .inr (.inl (w6 3)))), (q_clearing_leads, .inl (cI, 4, .inl w7))]) (wr := [(q, .inr (10, [.ref q_now, .ref q_clearing, .ref q_residues, .ref q_lifting, .ref q_guessed, .ref q_walk, .ref q_history, .ref q_book, .ref q_draws, .ref q_firstImage, .ref q_secondImage])), (q_now, .inr (3, [.int v_now_n, .int v_now_primeNumber, .ref q_now_numbers])), (q_now_numbers, .inl (cI, 20, .inl v_now_numbers)), (q_clearing, .inr (1, [.int w2, .int w3, .int w4, .ref q_clearing_rows, .int v_clearing_width, .long w5, .ref q_clearing_leads])), (q_clearing_rows, .inl (cQ, 4, .inr (.inr (.inr (.inr (kg q_clearing_rows_r)))))), (q_clearing_rows_r 0, .inl (cJ, 5, .inr (.inl (w6 0)))), (q_clearing_rows_r 1, .inl (cJ, 5, .inr (.inl (w6 1)))), (q_clearing_rows_r 2, .inl (cJ, 5, .inr (.inl (w6 2)))), (q_clearing_rows_r 3, .inl (cJ, 5, .inr (.inl (w6 3)))), (q_clearing_leads, .inl (cI, 4, .inl w7))]) (k_runS (rest := []) hat hP hD hS hl.1 (c_X11_bitsOfFloat F (FP.d2f r10) r13 h14) [] (by decide) rfl kw675 kw676 kw67 kw677 kdX11_bitsOfFloat ⟨rfl, rfl⟩ (by rw [hR]; exact ⟨Nat.le_of_ble_eq_true rfl, Nat.le_of_ble_eq_true rfl⟩) ⟨Nat.zero_le _, Nat.zero_le _⟩ rfl rfl (Nat.le_of_ble_eq_true rfl) dX11_shortly_24) hat hP hD hS [] rfl [0, 1, 2, 3, 4, 5, 6, 7, 8, 9] rfl rfl rfl rfl rfl (by decide) (fun H locs hP hD hS => ?_)
    obtain ⟨rfl, rfl, rfl, rfl, rfl, rfl, rfl⟩ := ki7 hf
    rw [hQ]
    exact k_lret hat hP hS rfl dX11_shortly_27
  · have hf := kn_e hf c9
    refine lv_iload_n hx hb dX11_shortly_10 rfl (lv_at hl 0 rfl) ?_
    refine lv_i2l hx hb dX11_shortly_11 rfl ?_
    refine lv_goto (tgt := 27) hx hb dX11_shortly_12 (by decide) ?_
    obtain ⟨rfl, rfl, rfl, rfl, rfl, rfl, rfl⟩ := ki7 hf
    rw [hQ]
    exact k_lret hat hP hS rfl dX11_shortly_27
set_option maxHeartbeats 4000000 in
set_option maxRecDepth 100000 in
theorem c_X11_cut {l : Launch} {D : va_G} {cI cJ cQ : ClassId} {tp : Nat} (q : Nat) (q_now : Nat) (q_clearing : Nat) (q_residues : Nat) (q_lifting : Nat) (q_guessed : Nat) (q_walk : Nat) (q_history : Nat) (q_book : Nat) (q_draws : Nat) (q_firstImage : Nat) (q_secondImage : Nat) (q_now_numbers : Nat) (q_clearing_rows : Nat) (q_clearing_leads : Nat) (q_clearing_rows_r : Nat → Nat) (v_now_n : Int32) (v_now_primeNumber : Int32) (v_now_numbers : (Nat → Int32)) (v_clearing_n : Int32) (v_clearing_rank : Int32) (v_clearing_exchanges : Int32) (v_clearing_width : Int32) (v_clearing_scale : Int64) (v_clearing_rows : (Nat → Nat → Int64)) (v_clearing_leads : (Nat → Int32)) (F : Nat) (x1 : Int32) (r0 : Int64) (o_v_clearing_n : Int32) (o_v_clearing_rank : Int32) (o_v_clearing_exchanges : Int32) (o_v_clearing_scale : Int64) (o_v_clearing_rows : (Nat → Nat → Int64)) (o_v_clearing_leads : (Nat → Int32)) (hf : f_X11_cut F v_now_n v_now_numbers v_clearing_n v_clearing_rank v_clearing_exchanges v_clearing_width v_clearing_scale v_clearing_rows v_clearing_leads x1 = some (r0, o_v_clearing_n, o_v_clearing_rank, o_v_clearing_exchanges, o_v_clearing_scale, o_v_clearing_rows, o_v_clearing_leads)) : kM (fun A => kQl D A [(q, .inr (10, [.ref q_now, .ref q_clearing, .ref q_residues, .ref q_lifting, .ref q_guessed, .ref q_walk, .ref q_history, .ref q_book, .ref q_draws, .ref q_firstImage, .ref q_secondImage])), (q_now, .inr (3, [.int v_now_n, .int v_now_primeNumber, .ref q_now_numbers])), (q_now_numbers, .inl (cI, 20, .inl v_now_numbers)), (q_clearing, .inr (1, [.int o_v_clearing_n, .int o_v_clearing_rank, .int o_v_clearing_exchanges, .ref q_clearing_rows, .int v_clearing_width, .long o_v_clearing_scale, .ref q_clearing_leads])), (q_clearing_rows, .inl (cQ, 4, .inr (.inr (.inr (.inr (kg q_clearing_rows_r)))))), (q_clearing_rows_r 0, .inl (cJ, 5, .inr (.inl (o_v_clearing_rows 0)))), (q_clearing_rows_r 1, .inl (cJ, 5, .inr (.inl (o_v_clearing_rows 1)))), (q_clearing_rows_r 2, .inl (cJ, 5, .inr (.inl (o_v_clearing_rows 2)))), (q_clearing_rows_r 3, .inl (cJ, 5, .inr (.inl (o_v_clearing_rows 3)))), (q_clearing_leads, .inl (cI, 4, .inl o_v_clearing_leads))] r0) (some .long) l yX11_cut cX11_cut 4 { frames := 6, cells := 0, slots := 0, locals := 139 } D cI cJ cQ tp [.ref q, .int x1] [(q, .inr (10, [.ref q_now, .ref q_clearing, .ref q_residues, .ref q_lifting, .ref q_guessed, .ref q_walk, .ref q_history, .ref q_book, .ref q_draws, .ref q_firstImage, .ref q_secondImage])), (q_now, .inr (3, [.int v_now_n, .int v_now_primeNumber, .ref q_now_numbers])), (q_now_numbers, .inl (cI, 20, .inl v_now_numbers)), (q_clearing, .inr (1, [.int v_clearing_n, .int v_clearing_rank, .int v_clearing_exchanges, .ref q_clearing_rows, .int v_clearing_width, .long v_clearing_scale, .ref q_clearing_leads])), (q_clearing_rows, .inl (cQ, 4, .inr (.inr (.inr (.inr (kg q_clearing_rows_r)))))), (q_clearing_rows_r 0, .inl (cJ, 5, .inr (.inl (v_clearing_rows 0)))), (q_clearing_rows_r 1, .inl (cJ, 5, .inr (.inl (v_clearing_rows 1)))), (q_clearing_rows_r 2, .inl (cJ, 5, .inr (.inl (v_clearing_rows 2)))), (q_clearing_rows_r 3, .inl (cJ, 5, .inr (.inl (v_clearing_rows 3)))), (q_clearing_leads, .inl (cI, 4, .inl v_clearing_leads))] := by
  refine kM_of (by decide +kernel) (Nat.le_of_ble_eq_true rfl) ?_
  intro p e s m args below meth c A ls R Q hR hQ hat hP hD hS hl
  obtain ⟨hx, hb, hr, hml, hown, hts, hT, hlk, hK, hA, hZ⟩ := id hat
  have hown : s.vm.findClass RX11 = some m.cls := hown
  have hl : lv_has ls 4 [(0, .ref q), (1, .int x1)] := hl
  unfold f_X11_cut at hf
  refine lv_aload_n hx hb dX11_cut_0 rfl (lv_at hl 0 rfl) ?_
  refine lv_iload_n hx hb dX11_cut_1 rfl (lv_at hl 1 rfl) ?_
  obtain ⟨r1, w2, w3, w4, w5, w6, w7, h8, hf⟩ := kb7_e hf
  refine k_gi (nW := 10) (ws' := [(q, .inr (10, [.ref q_now, .ref q_clearing, .ref q_residues, .ref q_lifting, .ref q_guessed, .ref q_walk, .ref q_history, .ref q_book, .ref q_draws, .ref q_firstImage, .ref q_secondImage])), (q_now, .inr (3, [.int v_now_n, .int v_now_primeNumber, .ref q_now_numbers])), (q_now_numbers, .inl (cI, 20, .inl v_now_numbers)), (q_clearing, .inr (1, [.int w2, .int w3, .int w4, .ref q_clearing_rows, .int v_clearing_width, .long w5, .ref q_clearing_leads])), (q_clearing_rows, .inl (cQ, 4, .inr (.inr (.inr (.inr (kg q_clearing_rows_r)))))), (q_clearing_rows_r 0, .inl (cJ, 5, .inr (.inl (w6 0)))), (q_clearing_rows_r 1, .inl (cJ, 5, .inr (.inl (w6 1)))), (q_clearing_rows_r 2, .inl (cJ, 5, .inr (.inl (w6 2)))), (q_clearing_rows_r 3, .inl (cJ, 5, .inr (.inl (w6 3)))), (q_clearing_leads, .inl (cI, 4, .inl w7))]) (wr := []) (k_runV (rest := []) hat hP hD hS hl.1 (c_X11_whyNoValue q q_now q_clearing q_residues q_lifting q_guessed q_walk q_history q_book q_draws q_firstImage q_secondImage q_now_numbers q_clearing_rows q_clearing_leads q_clearing_rows_r v_now_n v_now_primeNumber v_now_numbers v_clearing_n v_clearing_rank v_clearing_exchanges v_clearing_width v_clearing_scale v_clearing_rows v_clearing_leads F x1 r1 w2 w3 w4 w5 w6 w7 h8) [0, 1, 2, 3, 4, 5, 6, 7, 8, 9] (by decide) rfl kw653 kw655 kw12 kw67 kw656 kdVX11_whyNoValue ⟨rfl, rfl⟩ (by rw [hR]; exact ⟨Nat.le_of_ble_eq_true rfl, Nat.le_of_ble_eq_true rfl⟩) ⟨Nat.zero_le _, Nat.zero_le _⟩ 0 10 rfl rfl rfl rfl (Nat.le_of_ble_eq_true rfl) dX11_cut_2) hat hP hD hS [0, 1, 2, 3, 4, 5, 6, 7, 8, 9] rfl [] rfl rfl rfl rfl rfl (by decide) (fun H locs hP hD hS => ?_)
  refine lv_istore_n (lv' := [(2, .int r1), (0, .ref q), (1, .int x1)]) hx hb dX11_cut_5 rfl hl (by decide) rfl (fun ls hl => ?_)
  refine lv_iload_n hx hb dX11_cut_6 rfl (lv_at hl 0 rfl) ?_
  refine lv_if_eq (tgt := 13) hx hb dX11_cut_7 (by decide) (fun c9 => ?_) (fun c9 => ?_)
  · have hf := kp_e hf c9
    refine lv_aload_n hx hb dX11_cut_13 rfl (lv_at hl 1 rfl) ?_
    refine va_get (D := D) (ci := 10) (v := .ref q_clearing) (C := RX11) (T := TX11) (N := 11) hx hb hts kinX11 hown hK hP 0 rfl rfl 1 (by decide) (hts _ kw328) (fun _ h9 => h9) rfl dX11_cut_14 ?_
    refine lv_iload_n hx hb dX11_cut_17 rfl (lv_at hl 2 rfl) ?_
    obtain ⟨r10, h11, hf⟩ := kb1_e hf
    refine k_gd (nW := 10) (ws' := [(q, .inr (10, [.ref q_now, .ref q_clearing, .ref q_residues, .ref q_lifting, .ref q_guessed, .ref q_walk, .ref q_history, .ref q_book, .ref q_draws, .ref q_firstImage, .ref q_secondImage])), (q_now, .inr (3, [.int v_now_n, .int v_now_primeNumber, .ref q_now_numbers])), (q_now_numbers, .inl (cI, 20, .inl v_now_numbers)), (q_clearing, .inr (1, [.int w2, .int w3, .int w4, .ref q_clearing_rows, .int v_clearing_width, .long w5, .ref q_clearing_leads])), (q_clearing_rows, .inl (cQ, 4, .inr (.inr (.inr (.inr (kg q_clearing_rows_r)))))), (q_clearing_rows_r 0, .inl (cJ, 5, .inr (.inl (w6 0)))), (q_clearing_rows_r 1, .inl (cJ, 5, .inr (.inl (w6 1)))), (q_clearing_rows_r 2, .inl (cJ, 5, .inr (.inl (w6 2)))), (q_clearing_rows_r 3, .inl (cJ, 5, .inr (.inl (w6 3)))), (q_clearing_leads, .inl (cI, 4, .inl w7))]) (wr := [(q, .inr (10, [.ref q_now, .ref q_clearing, .ref q_residues, .ref q_lifting, .ref q_guessed, .ref q_walk, .ref q_history, .ref q_book, .ref q_draws, .ref q_firstImage, .ref q_secondImage])), (q_now, .inr (3, [.int v_now_n, .int v_now_primeNumber, .ref q_now_numbers])), (q_now_numbers, .inl (cI, 20, .inl v_now_numbers))]) (k_runV (rest := []) hat hP hD hS hl.1 (c_X1_nearest q_clearing q_clearing_rows q_clearing_leads q_clearing_rows_r w2 w3 w4 v_clearing_width w5 w6 w7 F x1 r10 h11) [3, 4, 5, 6, 7, 8, 9] (by decide) rfl kw657 kw658 kw659 kw70 kw660 kdVX1_nearest ⟨rfl, rfl⟩ (by rw [hR]; exact ⟨Nat.le_of_ble_eq_true rfl, Nat.le_of_ble_eq_true rfl⟩) ⟨Nat.zero_le _, Nat.zero_le _⟩ 3 1 rfl rfl rfl rfl (Nat.le_of_ble_eq_true rfl) dX11_cut_18) hat hP hD hS [3, 4, 5, 6, 7, 8, 9] rfl [0, 1, 2] rfl rfl rfl rfl rfl (by decide) (fun H locs hP hD hS => ?_)
    obtain ⟨c12, hf⟩ := kc_e hf
    refine lv_d2f hx hb dX11_cut_21 (kq32_e c12) ?_
    refine lv_ldcf hx hb hown (hts _ kw683) dX11_cut_22 ?_
    obtain ⟨c13, hf⟩ := kc_e hf
    refine lv_fmul hx hb dX11_cut_24 (kq32_e c13) ?_
    refine lv_topf (fun t14 et14 => ?_)
    have hf := kl_e hf t14 et14
    refine lv_fstore_n (lv' := [(3, .float t14), (2, .int r1), (0, .ref q), (1, .int x1)]) hx hb dX11_cut_25 rfl hl (by decide) rfl (fun ls hl => ?_)
    refine lv_fload_n hx hb dX11_cut_26 rfl (lv_at hl 0 rfl) ?_
    refine lv_f2i hx hb dX11_cut_27 ?_
    refine lv_i2l hx hb dX11_cut_28 rfl ?_
    refine lv_ldc2 hx hb hown (hts _ kw684) dX11_cut_29 ?_
    refine lv_ladd hx hb dX11_cut_32 ?_
    obtain ⟨rfl, rfl, rfl, rfl, rfl, rfl, rfl⟩ := ki7 hf
    rw [hQ]
    exact k_lret hat hP hS rfl dX11_cut_33
  · have hf := kn_e hf c9
    refine lv_iload_n hx hb dX11_cut_10 rfl (lv_at hl 0 rfl) ?_
    refine lv_i2l hx hb dX11_cut_11 rfl ?_
    obtain ⟨rfl, rfl, rfl, rfl, rfl, rfl, rfl⟩ := ki7 hf
    rw [hQ]
    exact k_lret hat hP hS rfl dX11_cut_12
set_option maxHeartbeats 4000000 in
set_option maxRecDepth 100000 in
theorem c_X3_writeTo {l : Launch} {D : va_G} {cI cJ cQ : ClassId} {tp : Nat} (q : Nat) (qa1 : Nat) (q_numbers : Nat) (na1 : Nat) (v_n : Int32) (v_primeNumber : Int32) (v_numbers : (Nat → Int32)) (va1 : (Nat → Int32)) (x2 : Int32) (o_va1 : (Nat → Int32)) (hf : f_X3_writeTo na1 v_n v_primeNumber v_numbers va1 x2 = some o_va1) : kM (fun A => kQv D A [(q, .inr (3, [.int v_n, .int v_primeNumber, .ref q_numbers])), (q_numbers, .inl (cI, 20, .inl v_numbers)), (qa1, .inl (cI, na1, .inl o_va1))]) none l yX3_writeTo cX3_writeTo 3 { frames := 1, cells := 0, slots := 0, locals := 40 } D cI cJ cQ tp [.ref q, .ref qa1, .int x2] [(q, .inr (3, [.int v_n, .int v_primeNumber, .ref q_numbers])), (q_numbers, .inl (cI, 20, .inl v_numbers)), (qa1, .inl (cI, na1, .inl va1))] := by
  refine kM_of (by decide +kernel) (Nat.le_of_ble_eq_true rfl) ?_
  intro p e s m args below meth c A ls R Q hR hQ hat hP hD hS hl
  obtain ⟨hx, hb, hr, hml, hown, hts, hT, hlk, hK, hA, hZ⟩ := id hat
  have hown : s.vm.findClass RX3 = some m.cls := hown
  have hl : lv_has ls 3 [(0, .ref q), (1, .ref qa1), (2, .int x2)] := hl
  unfold f_X3_writeTo at hf
  refine lv_aload_n hx hb dX3_writeTo_0 rfl (lv_at hl 1 rfl) ?_
  refine lv_iload_n hx hb dX3_writeTo_1 rfl (lv_at hl 2 rfl) ?_
  refine lv_aload_n hx hb dX3_writeTo_2 rfl (lv_at hl 0 rfl) ?_
  refine va_get (D := D) (ci := 3) (v := .int v_n) (C := RX3) (T := TX3) (N := 3) hx hb hts kinX3 hown hK hP 0 rfl rfl 0 (by decide) (hts _ kw104) (fun _ h9 => h9) rfl dX3_writeTo_3 ?_
  obtain ⟨c1, hf⟩ := kc_e hf
  refine va_iast hx hb hK hP hD hS 2 0 rfl rfl (kin_e c1) dX3_writeTo_6 (fun H locs hP hD hS => ?_)
  generalize ew2 : (upd va1 x2.toNatClampNeg v_n) = w2 at hP hD
  have hf := kl_e hf w2 ew2.symm
  have hP : va_P D vwCl [(q, .inr (3, [.int v_n, .int v_primeNumber, .ref q_numbers])), (q_numbers, .inl (cI, 20, .inl v_numbers)), (qa1, .inl (cI, na1, .inl w2))] H := hP
  have hD : va_D A [(q, .inr (3, [.int v_n, .int v_primeNumber, .ref q_numbers])), (q_numbers, .inl (cI, 20, .inl v_numbers)), (qa1, .inl (cI, na1, .inl w2))] := hD
  refine lv_aload_n hx hb dX3_writeTo_7 rfl (lv_at hl 1 rfl) ?_
  refine lv_iload_n hx hb dX3_writeTo_8 rfl (lv_at hl 2 rfl) ?_
  refine lv_iconst (v := 1) hx hb dX3_writeTo_9 (by decide) ?_
  refine lv_iadd hx hb dX3_writeTo_10 ?_
  refine lv_aload_n hx hb dX3_writeTo_11 rfl (lv_at hl 0 rfl) ?_
  refine va_get (D := D) (ci := 3) (v := .int v_primeNumber) (C := RX3) (T := TX3) (N := 3) hx hb hts kinX3 hown hK hP 0 rfl rfl 1 (by decide) (hts _ kw110) (fun _ h9 => h9) rfl dX3_writeTo_12 ?_
  obtain ⟨c3, hf⟩ := kc_e hf
  refine va_iast hx hb hK hP hD hS 2 0 rfl rfl (kin_e c3) dX3_writeTo_15 (fun H locs hP hD hS => ?_)
  generalize ew4 : (upd w2 (x2 + (1 : Int32)).toNatClampNeg v_primeNumber) = w4 at hP hD
  have hf := kl_e hf w4 ew4.symm
  have hP : va_P D vwCl [(q, .inr (3, [.int v_n, .int v_primeNumber, .ref q_numbers])), (q_numbers, .inl (cI, 20, .inl v_numbers)), (qa1, .inl (cI, na1, .inl w4))] H := hP
  have hD : va_D A [(q, .inr (3, [.int v_n, .int v_primeNumber, .ref q_numbers])), (q_numbers, .inl (cI, 20, .inl v_numbers)), (qa1, .inl (cI, na1, .inl w4))] := hD
  refine lv_aload_n hx hb dX3_writeTo_16 rfl (lv_at hl 0 rfl) ?_
  refine va_get (D := D) (ci := 3) (v := .ref q_numbers) (C := RX3) (T := TX3) (N := 3) hx hb hts kinX3 hown hK hP 0 rfl rfl 2 (by decide) (hts _ kw112) (fun _ h9 => h9) rfl dX3_writeTo_17 ?_
  refine lv_iconst (v := 0) hx hb dX3_writeTo_20 (by decide) ?_
  refine lv_aload_n hx hb dX3_writeTo_21 rfl (lv_at hl 1 rfl) ?_
  refine lv_iload_n hx hb dX3_writeTo_22 rfl (lv_at hl 2 rfl) ?_
  refine lv_iconst (v := 2) hx hb dX3_writeTo_23 (by decide) ?_
  refine lv_iadd hx hb dX3_writeTo_24 ?_
  refine lv_aload_n hx hb dX3_writeTo_25 rfl (lv_at hl 0 rfl) ?_
  refine va_get (D := D) (ci := 3) (v := .ref q_numbers) (C := RX3) (T := TX3) (N := 3) hx hb hts kinX3 hown hK hP 0 rfl rfl 2 (by decide) (hts _ kw112) (fun _ h9 => h9) rfl dX3_writeTo_26 ?_
  refine va_alen hx hb hK hP 1 0 rfl rfl (v := 20) rfl dX3_writeTo_29 ?_
  obtain ⟨c5, hf⟩ := kc_e hf
  refine va_copyi hx hb (hml.trans hl.1.symm) hown (hts _ kw697) (hts _ kw699) (hts _ kw698) (hts _ kw81) hK hP hD hS 1 2 0 0 rfl rfl rfl rfl rfl c5.1 c5.2.1 c5.2.2.1 c5.2.2.2.1 c5.2.2.2.2 (fun _ _ => rfl) (by rw [hR]; exact Nat.le_of_ble_eq_true rfl) (by rw [hR]; exact Nat.le_of_ble_eq_true rfl) dX3_writeTo_30 (fun H locs hP hD hS => ?_)
  generalize ew6 : (va_cpy v_numbers w4 (0 : Int32).toNatClampNeg (x2 + (2 : Int32)).toNatClampNeg (20 : Int32).toNatClampNeg) = w6 at hP hD
  have hf := kl_e hf w6 ew6.symm
  have hP : va_P D vwCl [(q, .inr (3, [.int v_n, .int v_primeNumber, .ref q_numbers])), (q_numbers, .inl (cI, 20, .inl v_numbers)), (qa1, .inl (cI, na1, .inl w6))] H := hP
  have hD : va_D A [(q, .inr (3, [.int v_n, .int v_primeNumber, .ref q_numbers])), (q_numbers, .inl (cI, 20, .inl v_numbers)), (qa1, .inl (cI, na1, .inl w6))] := hD
  obtain rfl := ki1 hf
  rw [hQ]
  exact k_vret hat hP hS dX3_writeTo_33
set_option maxHeartbeats 4000000 in
set_option maxRecDepth 100000 in
theorem c_X5_remember {l : Launch} {D : va_G} {cI cJ cQ : ClassId} {tp : Nat} (q : Nat) (qa1 : Nat) (q_store : Nat) (qa1_numbers : Nat) (v_count : Int32) (v_next : Int32) (v_store : (Nat → Int32)) (va1_n : Int32) (va1_primeNumber : Int32) (va1_numbers : (Nat → Int32)) (o_v_count : Int32) (o_v_next : Int32) (o_v_store : (Nat → Int32)) (hf : f_X5_remember v_count v_next v_store va1_n va1_primeNumber va1_numbers = some (o_v_count, o_v_next, o_v_store)) : kM (fun A => kQv D A [(q, .inr (5, [.int o_v_count, .int o_v_next, .ref q_store])), (q_store, .inl (cI, 352, .inl o_v_store)), (qa1, .inr (3, [.int va1_n, .int va1_primeNumber, .ref qa1_numbers])), (qa1_numbers, .inl (cI, 20, .inl va1_numbers))]) none l yX5_remember cX5_remember 2 { frames := 2, cells := 0, slots := 0, locals := 62 } D cI cJ cQ tp [.ref q, .ref qa1] [(q, .inr (5, [.int v_count, .int v_next, .ref q_store])), (q_store, .inl (cI, 352, .inl v_store)), (qa1, .inr (3, [.int va1_n, .int va1_primeNumber, .ref qa1_numbers])), (qa1_numbers, .inl (cI, 20, .inl va1_numbers))] := by
  refine kM_of (by decide +kernel) (Nat.le_of_ble_eq_true rfl) ?_
  intro p e s m args below meth c A ls R Q hR hQ hat hP hD hS hl
  obtain ⟨hx, hb, hr, hml, hown, hts, hT, hlk, hK, hA, hZ⟩ := id hat
  have hown : s.vm.findClass RX5 = some m.cls := hown
  have hl : lv_has ls 2 [(0, .ref q), (1, .ref qa1)] := hl
  unfold f_X5_remember at hf
  refine lv_aload_n hx hb dX5_remember_0 rfl (lv_at hl 1 rfl) ?_
  refine lv_aload_n hx hb dX5_remember_1 rfl (lv_at hl 0 rfl) ?_
  refine va_get (D := D) (ci := 5) (v := .ref q_store) (C := RX5) (T := TX5) (N := 3) hx hb hts kinX5 hown hK hP 0 rfl rfl 2 (by decide) (hts _ kw270) (fun _ h9 => h9) rfl dX5_remember_2 ?_
  refine lv_aload_n hx hb dX5_remember_5 rfl (lv_at hl 0 rfl) ?_
  refine va_get (D := D) (ci := 5) (v := .int v_next) (C := RX5) (T := TX5) (N := 3) hx hb hts kinX5 hown hK hP 0 rfl rfl 1 (by decide) (hts _ kw269) (fun _ h9 => h9) rfl dX5_remember_6 ?_
  refine lv_bipush (v := 22) hx hb dX5_remember_9 (by decide) ?_
  refine lv_imul hx hb dX5_remember_11 ?_
  obtain ⟨w1, h2, hf⟩ := kb1_e hf
  refine k_gv (nW := 4) (ws' := [(q, .inr (5, [.int v_count, .int v_next, .ref q_store])), (q_store, .inl (cI, 352, .inl w1)), (qa1, .inr (3, [.int va1_n, .int va1_primeNumber, .ref qa1_numbers])), (qa1_numbers, .inl (cI, 20, .inl va1_numbers))]) (wr := [(q, .inr (5, [.int v_count, .int v_next, .ref q_store]))]) (k_runV (rest := []) hat hP hD hS hl.1 (c_X3_writeTo qa1 q_store qa1_numbers 352 va1_n va1_primeNumber va1_numbers v_store (v_next * (22 : Int32)) w1 h2) [2, 3, 1] (by decide) rfl kw693 kw694 kw695 kw68 kw696 kdVX3_writeTo ⟨rfl, rfl⟩ (by rw [hR]; exact ⟨Nat.le_of_ble_eq_true rfl, Nat.le_of_ble_eq_true rfl⟩) ⟨Nat.zero_le _, Nat.zero_le _⟩ 2 3 rfl rfl rfl rfl (Nat.le_of_ble_eq_true rfl) dX5_remember_12) hat hP hD hS [2, 3, 1] rfl [0] rfl rfl rfl rfl rfl (by decide) (fun H locs hP hD hS => ?_)
  refine lv_aload_n hx hb dX5_remember_15 rfl (lv_at hl 0 rfl) ?_
  refine lv_aload_n hx hb dX5_remember_16 rfl (lv_at hl 0 rfl) ?_
  refine va_get (D := D) (ci := 5) (v := .int v_next) (C := RX5) (T := TX5) (N := 3) hx hb hts kinX5 hown hK hP 0 rfl rfl 1 (by decide) (hts _ kw269) (fun _ h9 => h9) rfl dX5_remember_17 ?_
  refine lv_iconst (v := 1) hx hb dX5_remember_20 (by decide) ?_
  refine lv_iadd hx hb dX5_remember_21 ?_
  refine lv_bipush (v := 16) hx hb dX5_remember_22 (by decide) ?_
  refine lv_irem hx hb dX5_remember_24 (by decide) ?_
  refine lv_topi (fun t3 et3 => ?_)
  have hf := kl_e hf t3 et3
  refine va_put (D := D) (ci := 5) (v := .int t3) (ty := .int) (C := RX5) (T := TX5) (N := 3) hx hb hts kinX5 tyX5 tyX5_ok nmX5 hown hK hP hD hS 0 rfl rfl 1 (by decide) (hts _ kw269) (fun _ h9 => h9) rfl (by decide +kernel) rfl rfl (Nat.le_of_ble_eq_true rfl) dX5_remember_25 (fun H locs hP hD hS => ?_)
  have hP : va_P D vwCl [(q, .inr (5, [.int v_count, .int t3, .ref q_store])), (q_store, .inl (cI, 352, .inl w1)), (qa1, .inr (3, [.int va1_n, .int va1_primeNumber, .ref qa1_numbers])), (qa1_numbers, .inl (cI, 20, .inl va1_numbers))] H := hP
  have hD : va_D A [(q, .inr (5, [.int v_count, .int t3, .ref q_store])), (q_store, .inl (cI, 352, .inl w1)), (qa1, .inr (3, [.int va1_n, .int va1_primeNumber, .ref qa1_numbers])), (qa1_numbers, .inl (cI, 20, .inl va1_numbers))] := hD
  refine lv_aload_n hx hb dX5_remember_28 rfl (lv_at hl 0 rfl) ?_
  refine lv_aload_n hx hb dX5_remember_29 rfl (lv_at hl 0 rfl) ?_
  refine va_get (D := D) (ci := 5) (v := .int v_count) (C := RX5) (T := TX5) (N := 3) hx hb hts kinX5 hown hK hP 0 rfl rfl 0 (by decide) (hts _ kw267) (fun _ h9 => h9) rfl dX5_remember_30 ?_
  refine lv_iconst (v := 1) hx hb dX5_remember_33 (by decide) ?_
  refine lv_iadd hx hb dX5_remember_34 ?_
  refine lv_bipush (v := 16) hx hb dX5_remember_35 (by decide) ?_
  refine va_mmin hx hb (hml.trans hl.1.symm) hown (hts _ kw700) (hts _ kw701) (hts _ kw80) (hts _ kw702) (by rw [hR]; exact Nat.le_of_ble_eq_true rfl) (by rw [hR]; exact Nat.le_of_ble_eq_true rfl) (Nat.zero_le _) (Nat.zero_le _) dX5_remember_37 ?_
  refine lv_topi (fun t4 et4 => ?_)
  have hf := kl_e hf t4 et4
  refine va_put (D := D) (ci := 5) (v := .int t4) (ty := .int) (C := RX5) (T := TX5) (N := 3) hx hb hts kinX5 tyX5 tyX5_ok nmX5 hown hK hP hD hS 0 rfl rfl 0 (by decide) (hts _ kw267) (fun _ h9 => h9) rfl (by decide +kernel) rfl rfl (Nat.le_of_ble_eq_true rfl) dX5_remember_40 (fun H locs hP hD hS => ?_)
  have hP : va_P D vwCl [(q, .inr (5, [.int t4, .int t3, .ref q_store])), (q_store, .inl (cI, 352, .inl w1)), (qa1, .inr (3, [.int va1_n, .int va1_primeNumber, .ref qa1_numbers])), (qa1_numbers, .inl (cI, 20, .inl va1_numbers))] H := hP
  have hD : va_D A [(q, .inr (5, [.int t4, .int t3, .ref q_store])), (q_store, .inl (cI, 352, .inl w1)), (qa1, .inr (3, [.int va1_n, .int va1_primeNumber, .ref qa1_numbers])), (qa1_numbers, .inl (cI, 20, .inl va1_numbers))] := hD
  obtain ⟨rfl, rfl, rfl⟩ := ki3 hf
  rw [hQ]
  exact k_vret hat hP hS dX5_remember_43
set_option maxHeartbeats 4000000 in
set_option maxRecDepth 100000 in
theorem c_X3_set {l : Launch} {D : va_G} {cI cJ cQ : ClassId} {tp : Nat} (q : Nat) (q_numbers : Nat) (v_n : Int32) (v_primeNumber : Int32) (v_numbers : (Nat → Int32)) (x1 : Int32) (x2 : Int32) (x3 : Int32) (o_v_numbers : (Nat → Int32)) (hf : f_X3_set v_numbers x1 x2 x3 = some o_v_numbers) : kM (fun A => kQv D A [(q, .inr (3, [.int v_n, .int v_primeNumber, .ref q_numbers])), (q_numbers, .inl (cI, 20, .inl o_v_numbers))]) none l yX3_set cX3_set 4 { frames := 0, cells := 0, slots := 0, locals := 0 } D cI cJ cQ tp [.ref q, .int x1, .int x2, .int x3] [(q, .inr (3, [.int v_n, .int v_primeNumber, .ref q_numbers])), (q_numbers, .inl (cI, 20, .inl v_numbers))] := by
  refine kM_of (by decide +kernel) (Nat.le_of_ble_eq_true rfl) ?_
  intro p e s m args below meth c A ls R Q hR hQ hat hP hD hS hl
  obtain ⟨hx, hb, hr, hml, hown, hts, hT, hlk, hK, hA, hZ⟩ := id hat
  have hown : s.vm.findClass RX3 = some m.cls := hown
  have hl : lv_has ls 4 [(0, .ref q), (1, .int x1), (2, .int x2), (3, .int x3)] := hl
  unfold f_X3_set at hf
  refine lv_aload_n hx hb dX3_set_0 rfl (lv_at hl 0 rfl) ?_
  refine va_get (D := D) (ci := 3) (v := .ref q_numbers) (C := RX3) (T := TX3) (N := 3) hx hb hts kinX3 hown hK hP 0 rfl rfl 2 (by decide) (hts _ kw112) (fun _ h9 => h9) rfl dX3_set_1 ?_
  refine lv_iload_n hx hb dX3_set_4 rfl (lv_at hl 1 rfl) ?_
  refine lv_iconst (v := 5) hx hb dX3_set_5 (by decide) ?_
  refine lv_imul hx hb dX3_set_6 ?_
  refine lv_iload_n hx hb dX3_set_7 rfl (lv_at hl 2 rfl) ?_
  refine lv_iadd hx hb dX3_set_8 ?_
  refine lv_iload_n hx hb dX3_set_9 rfl (lv_at hl 3 rfl) ?_
  obtain ⟨c1, hf⟩ := kc_e hf
  refine va_iast hx hb hK hP hD hS 1 0 rfl rfl (kin_e c1) dX3_set_10 (fun H locs hP hD hS => ?_)
  generalize ew2 : (upd v_numbers ((x1 * (5 : Int32)) + x2).toNatClampNeg x3) = w2 at hP hD
  have hf := kl_e hf w2 ew2.symm
  have hP : va_P D vwCl [(q, .inr (3, [.int v_n, .int v_primeNumber, .ref q_numbers])), (q_numbers, .inl (cI, 20, .inl w2))] H := hP
  have hD : va_D A [(q, .inr (3, [.int v_n, .int v_primeNumber, .ref q_numbers])), (q_numbers, .inl (cI, 20, .inl w2))] := hD
  obtain rfl := ki1 hf
  rw [hQ]
  exact k_vret hat hP hS dX3_set_11
set_option maxHeartbeats 4000000 in
set_option maxRecDepth 100000 in
theorem c_X3_begin {l : Launch} {D : va_G} {cI cJ cQ : ClassId} {tp : Nat} (q : Nat) (q_numbers : Nat) (v_n : Int32) (v_primeNumber : Int32) (v_numbers : (Nat → Int32)) (F : Nat) (x1 : Int32) (o_v_n : Int32) (o_v_numbers : (Nat → Int32)) (hf : f_X3_begin F v_n v_numbers x1 = some (o_v_n, o_v_numbers)) : kM (fun A => kQv D A [(q, .inr (3, [.int o_v_n, .int v_primeNumber, .ref q_numbers])), (q_numbers, .inl (cI, 20, .inl o_v_numbers))]) none l yX3_begin cX3_begin 4 { frames := 1, cells := 0, slots := 0, locals := 23 } D cI cJ cQ tp [.ref q, .int x1] [(q, .inr (3, [.int v_n, .int v_primeNumber, .ref q_numbers])), (q_numbers, .inl (cI, 20, .inl v_numbers))] := by
  refine kM_of (by decide +kernel) (Nat.le_of_ble_eq_true rfl) ?_
  intro p e s m args below meth c A ls R Q hR hQ hat hP hD hS hl
  obtain ⟨hx, hb, hr, hml, hown, hts, hT, hlk, hK, hA, hZ⟩ := id hat
  have hown : s.vm.findClass RX3 = some m.cls := hown
  have hl : lv_has ls 4 [(0, .ref q), (1, .int x1)] := hl
  have hL14 : ∀ (x2 : Int32) (v_n : Int32) (v_primeNumber : Int32) (fu : Nat) (x3 : Int32) (v_numbers : (Nat → Int32)) (o0 : (Nat → Int32)), L_X3_begin_14 x2 v_n fu x3 v_numbers = some o0 → (∀ (H : Heap) (locs : List Loc) (ls : Array Slot), va_P D vwCl [(q, .inr (3, [.int v_n, .int v_primeNumber, .ref q_numbers])), (q_numbers, .inl (cI, 20, .inl o0))] H → va_D A [(q, .inr (3, [.int v_n, .int v_primeNumber, .ref q_numbers])), (q_numbers, .inl (cI, 20, .inl o0))] → va_S A s.heap H locs → lv_has ls 4 [(0, .ref q), (2, .int x2)] → W p l e R s m args below meth c H locs 0 0 Q (F0 m 49 ls [])) → ∀ (H : Heap) (locs : List Loc) (ls : Array Slot), va_P D vwCl [(q, .inr (3, [.int v_n, .int v_primeNumber, .ref q_numbers])), (q_numbers, .inl (cI, 20, .inl v_numbers))] H → va_D A [(q, .inr (3, [.int v_n, .int v_primeNumber, .ref q_numbers])), (q_numbers, .inl (cI, 20, .inl v_numbers))] → va_S A s.heap H locs → lv_has ls 4 [(0, .ref q), (2, .int x2), (3, .int x3)] → W p l e R s m args below meth c H locs 0 0 Q (F0 m 14 ls []) := by
    intro x2 v_n v_primeNumber fu
    induction fu with
    | zero =>
      intro x3 v_numbers o0 hf
      cases hf
    | succ fu ih =>
      intro x3 v_numbers o0 hf hk0 H locs ls hP hD hS hl
      rw [L_X3_begin_14] at hf
      refine lv_iload_n hx hb dX3_begin_14 rfl (lv_at hl 2 rfl) ?_
      refine lv_iconst (v := 5) hx hb dX3_begin_15 (by decide) ?_
      refine lv_icmp_ge (tgt := 49) hx hb dX3_begin_16 (by decide) (fun c2 => ?_) (fun c2 => ?_)
      · have hf := kp_e hf c2
        obtain rfl := ki1 hf
        exact hk0 _ _ _ hP hD hS (lv_sub hl [0, 1] rfl)
      · have hf := kn_e hf c2
        refine lv_aload_n hx hb dX3_begin_19 rfl (lv_at hl 0 rfl) ?_
        refine lv_iload_n hx hb dX3_begin_20 rfl (lv_at hl 1 rfl) ?_
        refine lv_iload_n hx hb dX3_begin_21 rfl (lv_at hl 2 rfl) ?_
        refine lv_iload_n hx hb dX3_begin_22 rfl (lv_at hl 1 rfl) ?_
        refine lv_iload_n hx hb dX3_begin_23 rfl (lv_at hl 2 rfl) ?_
        refine lv_icmp_ne (tgt := 39) hx hb dX3_begin_24 (by decide) (fun c3 => ?_) (fun c3 => ?_)
        · have hf := kn_e hf c3
          refine lv_iconst (v := 0) hx hb dX3_begin_39 (by decide) ?_
          obtain ⟨w4, h5, hf⟩ := kb1_e hf
          refine k_gv (nW := 2) (ws' := [(q, .inr (3, [.int v_n, .int v_primeNumber, .ref q_numbers])), (q_numbers, .inl (cI, 20, .inl w4))]) (wr := []) (k_runV (rest := []) hat hP hD hS hl.1 (c_X3_set q q_numbers v_n v_primeNumber v_numbers x2 x3 (0 : Int32) w4 h5) [0, 1] (by decide) rfl kw100 kw101 kw102 kw68 kw103 kdVX3_set ⟨rfl, rfl⟩ (by rw [hR]; exact ⟨Nat.le_of_ble_eq_true rfl, Nat.le_of_ble_eq_true rfl⟩) ⟨Nat.zero_le _, Nat.zero_le _⟩ 0 3 rfl rfl rfl rfl (Nat.le_of_ble_eq_true rfl) dX3_begin_40) hat hP hD hS [0, 1] rfl [] rfl rfl rfl rfl rfl (by decide) (fun H locs hP hD hS => ?_)
          obtain ⟨t6, et6⟩ : ∃ z : Int32, z = (x3 + (1 : Int32)) := ⟨_, rfl⟩
          have hf := kl_e hf t6 et6
          refine lv_iinc (v := t6) (lv' := [(3, .int t6), (0, .ref q), (2, .int x2)]) hx hb dX3_begin_43 hl (k := 2) rfl (by rw [et6]; rfl) (by decide) rfl (fun ls hl => ?_)
          refine lv_goto (tgt := 14) hx hb dX3_begin_46 (by decide) ?_
          exact ih t6 w4 o0 hf hk0 _ _ _ hP hD hS (lv_sub hl [1, 2, 0] rfl)
        · have hf := kp_e hf c3
          refine lv_iload_n hx hb dX3_begin_27 rfl (lv_at hl 1 rfl) ?_
          refine lv_aload_n hx hb dX3_begin_28 rfl (lv_at hl 0 rfl) ?_
          refine va_get (D := D) (ci := 3) (v := .int v_n) (C := RX3) (T := TX3) (N := 3) hx hb hts kinX3 hown hK hP 0 rfl rfl 0 (by decide) (hts _ kw104) (fun _ h9 => h9) rfl dX3_begin_29 ?_
          refine lv_icmp_ge (tgt := 39) hx hb dX3_begin_32 (by decide) (fun c7 => ?_) (fun c7 => ?_)
          · have hf := kp_e hf c7
            refine lv_iconst (v := 0) hx hb dX3_begin_39 (by decide) ?_
            obtain ⟨w8, h9, hf⟩ := kb1_e hf
            refine k_gv (nW := 2) (ws' := [(q, .inr (3, [.int v_n, .int v_primeNumber, .ref q_numbers])), (q_numbers, .inl (cI, 20, .inl w8))]) (wr := []) (k_runV (rest := []) hat hP hD hS hl.1 (c_X3_set q q_numbers v_n v_primeNumber v_numbers x2 x3 (0 : Int32) w8 h9) [0, 1] (by decide) rfl kw100 kw101 kw102 kw68 kw103 kdVX3_set ⟨rfl, rfl⟩ (by rw [hR]; exact ⟨Nat.le_of_ble_eq_true rfl, Nat.le_of_ble_eq_true rfl⟩) ⟨Nat.zero_le _, Nat.zero_le _⟩ 0 3 rfl rfl rfl rfl (Nat.le_of_ble_eq_true rfl) dX3_begin_40) hat hP hD hS [0, 1] rfl [] rfl rfl rfl rfl rfl (by decide) (fun H locs hP hD hS => ?_)
            obtain ⟨t10, et10⟩ : ∃ z : Int32, z = (x3 + (1 : Int32)) := ⟨_, rfl⟩
            have hf := kl_e hf t10 et10
            refine lv_iinc (v := t10) (lv' := [(3, .int t10), (0, .ref q), (2, .int x2)]) hx hb dX3_begin_43 hl (k := 2) rfl (by rw [et10]; rfl) (by decide) rfl (fun ls hl => ?_)
            refine lv_goto (tgt := 14) hx hb dX3_begin_46 (by decide) ?_
            exact ih t10 w8 o0 hf hk0 _ _ _ hP hD hS (lv_sub hl [1, 2, 0] rfl)
          · have hf := kn_e hf c7
            refine lv_iconst (v := 1) hx hb dX3_begin_35 (by decide) ?_
            refine lv_goto (tgt := 40) hx hb dX3_begin_36 (by decide) ?_
            obtain ⟨w11, h12, hf⟩ := kb1_e hf
            refine k_gv (nW := 2) (ws' := [(q, .inr (3, [.int v_n, .int v_primeNumber, .ref q_numbers])), (q_numbers, .inl (cI, 20, .inl w11))]) (wr := []) (k_runV (rest := []) hat hP hD hS hl.1 (c_X3_set q q_numbers v_n v_primeNumber v_numbers x2 x3 (1 : Int32) w11 h12) [0, 1] (by decide) rfl kw100 kw101 kw102 kw68 kw103 kdVX3_set ⟨rfl, rfl⟩ (by rw [hR]; exact ⟨Nat.le_of_ble_eq_true rfl, Nat.le_of_ble_eq_true rfl⟩) ⟨Nat.zero_le _, Nat.zero_le _⟩ 0 3 rfl rfl rfl rfl (Nat.le_of_ble_eq_true rfl) dX3_begin_40) hat hP hD hS [0, 1] rfl [] rfl rfl rfl rfl rfl (by decide) (fun H locs hP hD hS => ?_)
            obtain ⟨t13, et13⟩ : ∃ z : Int32, z = (x3 + (1 : Int32)) := ⟨_, rfl⟩
            have hf := kl_e hf t13 et13
            refine lv_iinc (v := t13) (lv' := [(3, .int t13), (0, .ref q), (2, .int x2)]) hx hb dX3_begin_43 hl (k := 2) rfl (by rw [et13]; rfl) (by decide) rfl (fun ls hl => ?_)
            refine lv_goto (tgt := 14) hx hb dX3_begin_46 (by decide) ?_
            exact ih t13 w11 o0 hf hk0 _ _ _ hP hD hS (lv_sub hl [1, 2, 0] rfl)
  have hL7 : ∀ (v_n : Int32) (v_primeNumber : Int32) (fu : Nat) (x2 : Int32) (v_numbers : (Nat → Int32)) (o0 : (Nat → Int32)), L_X3_begin_7 F v_n fu x2 v_numbers = some o0 → (∀ (H : Heap) (locs : List Loc) (ls : Array Slot), va_P D vwCl [(q, .inr (3, [.int v_n, .int v_primeNumber, .ref q_numbers])), (q_numbers, .inl (cI, 20, .inl o0))] H → va_D A [(q, .inr (3, [.int v_n, .int v_primeNumber, .ref q_numbers])), (q_numbers, .inl (cI, 20, .inl o0))] → va_S A s.heap H locs → lv_has ls 4 [] → W p l e R s m args below meth c H locs 0 0 Q (F0 m 55 ls [])) → ∀ (H : Heap) (locs : List Loc) (ls : Array Slot), va_P D vwCl [(q, .inr (3, [.int v_n, .int v_primeNumber, .ref q_numbers])), (q_numbers, .inl (cI, 20, .inl v_numbers))] H → va_D A [(q, .inr (3, [.int v_n, .int v_primeNumber, .ref q_numbers])), (q_numbers, .inl (cI, 20, .inl v_numbers))] → va_S A s.heap H locs → lv_has ls 4 [(0, .ref q), (2, .int x2)] → W p l e R s m args below meth c H locs 0 0 Q (F0 m 7 ls []) := by
    intro v_n v_primeNumber fu
    induction fu with
    | zero =>
      intro x2 v_numbers o0 hf
      cases hf
    | succ fu ih =>
      intro x2 v_numbers o0 hf hk0 H locs ls hP hD hS hl
      rw [L_X3_begin_7] at hf
      refine lv_iload_n hx hb dX3_begin_7 rfl (lv_at hl 1 rfl) ?_
      refine lv_iconst (v := 4) hx hb dX3_begin_8 (by decide) ?_
      refine lv_icmp_ge (tgt := 55) hx hb dX3_begin_9 (by decide) (fun c1 => ?_) (fun c1 => ?_)
      · have hf := kp_e hf c1
        obtain rfl := ki1 hf
        exact hk0 _ _ _ hP hD hS (lv_sub hl [] rfl)
      · have hf := kn_e hf c1
        refine lv_iconst (v := 0) hx hb dX3_begin_12 (by decide) ?_
        refine lv_istore_n (lv' := [(3, .int (0 : Int32)), (0, .ref q), (2, .int x2)]) hx hb dX3_begin_13 rfl hl (by decide) rfl (fun ls hl => ?_)
        obtain ⟨w14, hu, hf⟩ := kb1_e hf
        refine hL14 x2 v_n v_primeNumber F (0 : Int32) v_numbers w14 hu (fun H locs ls hP hD hS hl => ?_) _ _ _ hP hD hS (lv_sub hl [1, 2, 0] rfl)
        obtain ⟨t15, et15⟩ : ∃ z : Int32, z = (x2 + (1 : Int32)) := ⟨_, rfl⟩
        have hf := kl_e hf t15 et15
        refine lv_iinc (v := t15) (lv' := [(2, .int t15), (0, .ref q)]) hx hb dX3_begin_49 hl (k := 1) rfl (by rw [et15]; rfl) (by decide) rfl (fun ls hl => ?_)
        refine lv_goto (tgt := 7) hx hb dX3_begin_52 (by decide) ?_
        exact ih t15 w14 o0 hf hk0 _ _ _ hP hD hS (lv_sub hl [1, 0] rfl)
  unfold f_X3_begin at hf
  refine lv_aload_n hx hb dX3_begin_0 rfl (lv_at hl 0 rfl) ?_
  refine lv_iload_n hx hb dX3_begin_1 rfl (lv_at hl 1 rfl) ?_
  refine va_put (D := D) (ci := 3) (v := .int x1) (ty := .int) (C := RX3) (T := TX3) (N := 3) hx hb hts kinX3 tyX3 tyX3_ok nmX3 hown hK hP hD hS 0 rfl rfl 0 (by decide) (hts _ kw104) (fun _ h9 => h9) rfl (by decide +kernel) rfl rfl (Nat.le_of_ble_eq_true rfl) dX3_begin_2 (fun H locs hP hD hS => ?_)
  have hP : va_P D vwCl [(q, .inr (3, [.int x1, .int v_primeNumber, .ref q_numbers])), (q_numbers, .inl (cI, 20, .inl v_numbers))] H := hP
  have hD : va_D A [(q, .inr (3, [.int x1, .int v_primeNumber, .ref q_numbers])), (q_numbers, .inl (cI, 20, .inl v_numbers))] := hD
  refine lv_iconst (v := 0) hx hb dX3_begin_5 (by decide) ?_
  refine lv_istore_n (lv' := [(2, .int (0 : Int32)), (0, .ref q), (1, .int x1)]) hx hb dX3_begin_6 rfl hl (by decide) rfl (fun ls hl => ?_)
  obtain ⟨w16, hu, hf⟩ := kb1_e hf
  refine hL7 x1 v_primeNumber F (0 : Int32) v_numbers w16 hu (fun H locs ls hP hD hS hl => ?_) _ _ _ hP hD hS (lv_sub hl [1, 0] rfl)
  obtain ⟨rfl, rfl⟩ := ki2 hf
  rw [hQ]
  exact k_vret hat hP hS dX3_begin_55
set_option maxHeartbeats 4000000 in
set_option maxRecDepth 100000 in
theorem c_X11_size {l : Launch} {D : va_G} {cI cJ cQ : ClassId} {tp : Nat} (q : Nat) (q_now : Nat) (q_clearing : Nat) (q_residues : Nat) (q_lifting : Nat) (q_guessed : Nat) (q_walk : Nat) (q_history : Nat) (q_book : Nat) (q_draws : Nat) (q_firstImage : Nat) (q_secondImage : Nat) (q_now_numbers : Nat) (q_history_store : Nat) (v_now_n : Int32) (v_now_primeNumber : Int32) (v_now_numbers : (Nat → Int32)) (v_history_count : Int32) (v_history_next : Int32) (v_history_store : (Nat → Int32)) (F : Nat) (x1 : Int32) (r0 : Int32) (o_v_now_n : Int32) (o_v_now_numbers : (Nat → Int32)) (o_v_history_count : Int32) (o_v_history_next : Int32) (o_v_history_store : (Nat → Int32)) (hf : f_X11_size F v_now_n v_now_primeNumber v_now_numbers v_history_count v_history_next v_history_store x1 = some (r0, o_v_now_n, o_v_now_numbers, o_v_history_count, o_v_history_next, o_v_history_store)) : kM (fun A => kQi D A [(q, .inr (10, [.ref q_now, .ref q_clearing, .ref q_residues, .ref q_lifting, .ref q_guessed, .ref q_walk, .ref q_history, .ref q_book, .ref q_draws, .ref q_firstImage, .ref q_secondImage])), (q_now, .inr (3, [.int o_v_now_n, .int v_now_primeNumber, .ref q_now_numbers])), (q_now_numbers, .inl (cI, 20, .inl o_v_now_numbers)), (q_history, .inr (5, [.int o_v_history_count, .int o_v_history_next, .ref q_history_store])), (q_history_store, .inl (cI, 352, .inl o_v_history_store))] r0) (some .int) l yX11_size cX11_size 3 { frames := 3, cells := 0, slots := 0, locals := 83 } D cI cJ cQ tp [.ref q, .int x1] [(q, .inr (10, [.ref q_now, .ref q_clearing, .ref q_residues, .ref q_lifting, .ref q_guessed, .ref q_walk, .ref q_history, .ref q_book, .ref q_draws, .ref q_firstImage, .ref q_secondImage])), (q_now, .inr (3, [.int v_now_n, .int v_now_primeNumber, .ref q_now_numbers])), (q_now_numbers, .inl (cI, 20, .inl v_now_numbers)), (q_history, .inr (5, [.int v_history_count, .int v_history_next, .ref q_history_store])), (q_history_store, .inl (cI, 352, .inl v_history_store))] := by
  refine kM_of (by decide +kernel) (Nat.le_of_ble_eq_true rfl) ?_
  intro p e s m args below meth c A ls R Q hR hQ hat hP hD hS hl
  obtain ⟨hx, hb, hr, hml, hown, hts, hT, hlk, hK, hA, hZ⟩ := id hat
  have hown : s.vm.findClass RX11 = some m.cls := hown
  have hl : lv_has ls 3 [(0, .ref q), (1, .int x1)] := hl
  unfold f_X11_size at hf
  refine lv_iload_n hx hb dX11_size_0 rfl (lv_at hl 1 rfl) ?_
  refine lv_iconst (v := 1) hx hb dX11_size_1 (by decide) ?_
  refine lv_icmp_lt (tgt := 10) hx hb dX11_size_2 (by decide) (fun c1 => ?_) (fun c1 => ?_)
  · have hf := kp_e hf c1
    refine lv_ldc hx hb hown (hts _ kw575) dX11_size_10 ?_
    obtain ⟨rfl, rfl, rfl, rfl, rfl, rfl⟩ := ki6 hf
    rw [hQ]
    exact k_iret hat hP hS rfl dX11_size_12
  · have hf := kn_e hf c1
    refine lv_iload_n hx hb dX11_size_5 rfl (lv_at hl 1 rfl) ?_
    refine lv_iconst (v := 4) hx hb dX11_size_6 (by decide) ?_
    refine lv_icmp_le (tgt := 13) hx hb dX11_size_7 (by decide) (fun c2 => ?_) (fun c2 => ?_)
    · have hf := kp_e hf c2
      refine lv_aload_n hx hb dX11_size_13 rfl (lv_at hl 0 rfl) ?_
      refine va_get (D := D) (ci := 10) (v := .ref q_history) (C := RX11) (T := TX11) (N := 11) hx hb hts kinX11 hown hK hP 0 rfl rfl 6 (by decide) (hts _ kw333) (fun _ h9 => h9) rfl dX11_size_14 ?_
      refine lv_aload_n hx hb dX11_size_17 rfl (lv_at hl 0 rfl) ?_
      refine va_get (D := D) (ci := 10) (v := .ref q_now) (C := RX11) (T := TX11) (N := 11) hx hb hts kinX11 hown hK hP 0 rfl rfl 0 (by decide) (hts _ kw327) (fun _ h9 => h9) rfl dX11_size_18 ?_
      obtain ⟨w3, w4, w5, h6, hf⟩ := kb3_e hf
      refine k_gv (nW := 5) (ws' := [(q, .inr (10, [.ref q_now, .ref q_clearing, .ref q_residues, .ref q_lifting, .ref q_guessed, .ref q_walk, .ref q_history, .ref q_book, .ref q_draws, .ref q_firstImage, .ref q_secondImage])), (q_now, .inr (3, [.int v_now_n, .int v_now_primeNumber, .ref q_now_numbers])), (q_now_numbers, .inl (cI, 20, .inl v_now_numbers)), (q_history, .inr (5, [.int w3, .int w4, .ref q_history_store])), (q_history_store, .inl (cI, 352, .inl w5))]) (wr := [(q, .inr (10, [.ref q_now, .ref q_clearing, .ref q_residues, .ref q_lifting, .ref q_guessed, .ref q_walk, .ref q_history, .ref q_book, .ref q_draws, .ref q_firstImage, .ref q_secondImage]))]) (k_runV (rest := []) hat hP hD hS hl.1 (c_X5_remember q_history q_now q_history_store q_now_numbers v_history_count v_history_next v_history_store v_now_n v_now_primeNumber v_now_numbers w3 w4 w5 h6) [3, 4, 1, 2] (by decide) rfl kw689 kw690 kw691 kw75 kw692 kdVX5_remember ⟨rfl, rfl⟩ (by rw [hR]; exact ⟨Nat.le_of_ble_eq_true rfl, Nat.le_of_ble_eq_true rfl⟩) ⟨Nat.zero_le _, Nat.zero_le _⟩ 3 5 rfl rfl rfl rfl (Nat.le_of_ble_eq_true rfl) dX11_size_21) hat hP hD hS [3, 4, 1, 2] rfl [0] rfl rfl rfl rfl rfl (by decide) (fun H locs hP hD hS => ?_)
      refine lv_aload_n hx hb dX11_size_24 rfl (lv_at hl 0 rfl) ?_
      refine va_get (D := D) (ci := 10) (v := .ref q_now) (C := RX11) (T := TX11) (N := 11) hx hb hts kinX11 hown hK hP 0 rfl rfl 0 (by decide) (hts _ kw327) (fun _ h9 => h9) rfl dX11_size_25 ?_
      refine va_get (D := D) (ci := 3) (v := .int v_now_n) (C := RX3) (T := TX3) (N := 3) hx hb hts kinX3 hown hK hP 1 rfl rfl 0 (by decide) (hts _ kw107) (fun _ h9 => h9) rfl dX11_size_28 ?_
      refine lv_istore_n (lv' := [(2, .int v_now_n), (0, .ref q), (1, .int x1)]) hx hb dX11_size_31 rfl hl (by decide) rfl (fun ls hl => ?_)
      refine lv_aload_n hx hb dX11_size_32 rfl (lv_at hl 1 rfl) ?_
      refine va_get (D := D) (ci := 10) (v := .ref q_now) (C := RX11) (T := TX11) (N := 11) hx hb hts kinX11 hown hK hP 0 rfl rfl 0 (by decide) (hts _ kw327) (fun _ h9 => h9) rfl dX11_size_33 ?_
      refine lv_iload_n hx hb dX11_size_36 rfl (lv_at hl 2 rfl) ?_
      obtain ⟨w7, w8, h9, hf⟩ := kb2_e hf
      refine k_gv (nW := 5) (ws' := [(q, .inr (10, [.ref q_now, .ref q_clearing, .ref q_residues, .ref q_lifting, .ref q_guessed, .ref q_walk, .ref q_history, .ref q_book, .ref q_draws, .ref q_firstImage, .ref q_secondImage])), (q_now, .inr (3, [.int w7, .int v_now_primeNumber, .ref q_now_numbers])), (q_now_numbers, .inl (cI, 20, .inl w8)), (q_history, .inr (5, [.int w3, .int w4, .ref q_history_store])), (q_history_store, .inl (cI, 352, .inl w5))]) (wr := [(q, .inr (10, [.ref q_now, .ref q_clearing, .ref q_residues, .ref q_lifting, .ref q_guessed, .ref q_walk, .ref q_history, .ref q_book, .ref q_draws, .ref q_firstImage, .ref q_secondImage])), (q_history, .inr (5, [.int w3, .int w4, .ref q_history_store])), (q_history_store, .inl (cI, 352, .inl w5))]) (k_runV (rest := []) hat hP hD hS hl.1 (c_X3_begin q_now q_now_numbers v_now_n v_now_primeNumber v_now_numbers F x1 w7 w8 h9) [1, 2] (by decide) rfl kw703 kw97 kw98 kw68 kw99 kdVX3_begin ⟨rfl, rfl⟩ (by rw [hR]; exact ⟨Nat.le_of_ble_eq_true rfl, Nat.le_of_ble_eq_true rfl⟩) ⟨Nat.zero_le _, Nat.zero_le _⟩ 1 3 rfl rfl rfl rfl (Nat.le_of_ble_eq_true rfl) dX11_size_37) hat hP hD hS [1, 2] rfl [0, 3, 4] rfl rfl rfl rfl rfl (by decide) (fun H locs hP hD hS => ?_)
      refine lv_iload_n hx hb dX11_size_40 rfl (lv_at hl 0 rfl) ?_
      obtain ⟨rfl, rfl, rfl, rfl, rfl, rfl⟩ := ki6 hf
      rw [hQ]
      exact k_iret hat hP hS rfl dX11_size_41
    · have hf := kn_e hf c2
      refine lv_ldc hx hb hown (hts _ kw575) dX11_size_10 ?_
      obtain ⟨rfl, rfl, rfl, rfl, rfl, rfl⟩ := ki6 hf
      rw [hQ]
      exact k_iret hat hP hS rfl dX11_size_12
set_option maxHeartbeats 4000000 in
set_option maxRecDepth 100000 in
theorem c_X11_change {l : Launch} {D : va_G} {cI cJ cQ : ClassId} {tp : Nat} (q : Nat) (q_now : Nat) (q_clearing : Nat) (q_residues : Nat) (q_lifting : Nat) (q_guessed : Nat) (q_walk : Nat) (q_history : Nat) (q_book : Nat) (q_draws : Nat) (q_firstImage : Nat) (q_secondImage : Nat) (q_now_numbers : Nat) (q_history_store : Nat) (v_now_n : Int32) (v_now_primeNumber : Int32) (v_now_numbers : (Nat → Int32)) (v_history_count : Int32) (v_history_next : Int32) (v_history_store : (Nat → Int32)) (x1 : Int32) (x2 : Int32) (x3 : Int32) (r0 : Int32) (o_v_now_numbers : (Nat → Int32)) (o_v_history_count : Int32) (o_v_history_next : Int32) (o_v_history_store : (Nat → Int32)) (hf : f_X11_change v_now_n v_now_primeNumber v_now_numbers v_history_count v_history_next v_history_store x1 x2 x3 = some (r0, o_v_now_numbers, o_v_history_count, o_v_history_next, o_v_history_store)) : kM (fun A => kQi D A [(q, .inr (10, [.ref q_now, .ref q_clearing, .ref q_residues, .ref q_lifting, .ref q_guessed, .ref q_walk, .ref q_history, .ref q_book, .ref q_draws, .ref q_firstImage, .ref q_secondImage])), (q_now, .inr (3, [.int v_now_n, .int v_now_primeNumber, .ref q_now_numbers])), (q_now_numbers, .inl (cI, 20, .inl o_v_now_numbers)), (q_history, .inr (5, [.int o_v_history_count, .int o_v_history_next, .ref q_history_store])), (q_history_store, .inl (cI, 352, .inl o_v_history_store))] r0) (some .int) l yX11_change cX11_change 5 { frames := 3, cells := 0, slots := 0, locals := 83 } D cI cJ cQ tp [.ref q, .int x1, .int x2, .int x3] [(q, .inr (10, [.ref q_now, .ref q_clearing, .ref q_residues, .ref q_lifting, .ref q_guessed, .ref q_walk, .ref q_history, .ref q_book, .ref q_draws, .ref q_firstImage, .ref q_secondImage])), (q_now, .inr (3, [.int v_now_n, .int v_now_primeNumber, .ref q_now_numbers])), (q_now_numbers, .inl (cI, 20, .inl v_now_numbers)), (q_history, .inr (5, [.int v_history_count, .int v_history_next, .ref q_history_store])), (q_history_store, .inl (cI, 352, .inl v_history_store))] := by
  refine kM_of (by decide +kernel) (Nat.le_of_ble_eq_true rfl) ?_
  intro p e s m args below meth c A ls R Q hR hQ hat hP hD hS hl
  obtain ⟨hx, hb, hr, hml, hown, hts, hT, hlk, hK, hA, hZ⟩ := id hat
  have hown : s.vm.findClass RX11 = some m.cls := hown
  have hl : lv_has ls 5 [(0, .ref q), (1, .int x1), (2, .int x2), (3, .int x3)] := hl
  unfold f_X11_change at hf
  refine lv_aload_n hx hb dX11_change_0 rfl (lv_at hl 0 rfl) ?_
  refine va_get (D := D) (ci := 10) (v := .ref q_history) (C := RX11) (T := TX11) (N := 11) hx hb hts kinX11 hown hK hP 0 rfl rfl 6 (by decide) (hts _ kw333) (fun _ h9 => h9) rfl dX11_change_1 ?_
  refine lv_aload_n hx hb dX11_change_4 rfl (lv_at hl 0 rfl) ?_
  refine va_get (D := D) (ci := 10) (v := .ref q_now) (C := RX11) (T := TX11) (N := 11) hx hb hts kinX11 hown hK hP 0 rfl rfl 0 (by decide) (hts _ kw327) (fun _ h9 => h9) rfl dX11_change_5 ?_
  obtain ⟨w1, w2, w3, h4, hf⟩ := kb3_e hf
  refine k_gv (nW := 5) (ws' := [(q, .inr (10, [.ref q_now, .ref q_clearing, .ref q_residues, .ref q_lifting, .ref q_guessed, .ref q_walk, .ref q_history, .ref q_book, .ref q_draws, .ref q_firstImage, .ref q_secondImage])), (q_now, .inr (3, [.int v_now_n, .int v_now_primeNumber, .ref q_now_numbers])), (q_now_numbers, .inl (cI, 20, .inl v_now_numbers)), (q_history, .inr (5, [.int w1, .int w2, .ref q_history_store])), (q_history_store, .inl (cI, 352, .inl w3))]) (wr := [(q, .inr (10, [.ref q_now, .ref q_clearing, .ref q_residues, .ref q_lifting, .ref q_guessed, .ref q_walk, .ref q_history, .ref q_book, .ref q_draws, .ref q_firstImage, .ref q_secondImage]))]) (k_runV (rest := []) hat hP hD hS hl.1 (c_X5_remember q_history q_now q_history_store q_now_numbers v_history_count v_history_next v_history_store v_now_n v_now_primeNumber v_now_numbers w1 w2 w3 h4) [3, 4, 1, 2] (by decide) rfl kw689 kw690 kw691 kw75 kw692 kdVX5_remember ⟨rfl, rfl⟩ (by rw [hR]; exact ⟨Nat.le_of_ble_eq_true rfl, Nat.le_of_ble_eq_true rfl⟩) ⟨Nat.zero_le _, Nat.zero_le _⟩ 3 5 rfl rfl rfl rfl (Nat.le_of_ble_eq_true rfl) dX11_change_8) hat hP hD hS [3, 4, 1, 2] rfl [0] rfl rfl rfl rfl rfl (by decide) (fun H locs hP hD hS => ?_)
  refine lv_aload_n hx hb dX11_change_11 rfl (lv_at hl 0 rfl) ?_
  refine va_get (D := D) (ci := 10) (v := .ref q_now) (C := RX11) (T := TX11) (N := 11) hx hb hts kinX11 hown hK hP 0 rfl rfl 0 (by decide) (hts _ kw327) (fun _ h9 => h9) rfl dX11_change_12 ?_
  refine lv_iload_n hx hb dX11_change_15 rfl (lv_at hl 1 rfl) ?_
  refine lv_iload_n hx hb dX11_change_16 rfl (lv_at hl 2 rfl) ?_
  obtain ⟨r5, h6, hf⟩ := kb1_e hf
  refine k_gi (nW := 5) (ws' := [(q, .inr (10, [.ref q_now, .ref q_clearing, .ref q_residues, .ref q_lifting, .ref q_guessed, .ref q_walk, .ref q_history, .ref q_book, .ref q_draws, .ref q_firstImage, .ref q_secondImage])), (q_now, .inr (3, [.int v_now_n, .int v_now_primeNumber, .ref q_now_numbers])), (q_now_numbers, .inl (cI, 20, .inl v_now_numbers)), (q_history, .inr (5, [.int w1, .int w2, .ref q_history_store])), (q_history_store, .inl (cI, 352, .inl w3))]) (wr := [(q, .inr (10, [.ref q_now, .ref q_clearing, .ref q_residues, .ref q_lifting, .ref q_guessed, .ref q_walk, .ref q_history, .ref q_book, .ref q_draws, .ref q_firstImage, .ref q_secondImage])), (q_history, .inr (5, [.int w1, .int w2, .ref q_history_store])), (q_history_store, .inl (cI, 352, .inl w3))]) (k_runV (rest := []) hat hP hD hS hl.1 (c_X3_number q_now q_now_numbers v_now_n v_now_primeNumber v_now_numbers x1 x2 r5 h6) [1, 2] (by decide) rfl kw585 kw380 kw381 kw68 kw382 kdVX3_number ⟨rfl, rfl⟩ (by rw [hR]; exact ⟨Nat.le_of_ble_eq_true rfl, Nat.le_of_ble_eq_true rfl⟩) ⟨Nat.zero_le _, Nat.zero_le _⟩ 1 3 rfl rfl rfl rfl (Nat.le_of_ble_eq_true rfl) dX11_change_17) hat hP hD hS [1, 2] rfl [0, 3, 4] rfl rfl rfl rfl rfl (by decide) (fun H locs hP hD hS => ?_)
  refine lv_istore (lv' := [(4, .int r5), (0, .ref q), (1, .int x1), (2, .int x2), (3, .int x3)]) hx hb dX11_change_20 hl (by decide) rfl (fun ls hl => ?_)
  refine lv_aload_n hx hb dX11_change_22 rfl (lv_at hl 1 rfl) ?_
  refine va_get (D := D) (ci := 10) (v := .ref q_now) (C := RX11) (T := TX11) (N := 11) hx hb hts kinX11 hown hK hP 0 rfl rfl 0 (by decide) (hts _ kw327) (fun _ h9 => h9) rfl dX11_change_23 ?_
  refine lv_iload_n hx hb dX11_change_26 rfl (lv_at hl 2 rfl) ?_
  refine lv_iload_n hx hb dX11_change_27 rfl (lv_at hl 3 rfl) ?_
  refine lv_iload_n hx hb dX11_change_28 rfl (lv_at hl 4 rfl) ?_
  obtain ⟨w7, h8, hf⟩ := kb1_e hf
  refine k_gv (nW := 5) (ws' := [(q, .inr (10, [.ref q_now, .ref q_clearing, .ref q_residues, .ref q_lifting, .ref q_guessed, .ref q_walk, .ref q_history, .ref q_book, .ref q_draws, .ref q_firstImage, .ref q_secondImage])), (q_now, .inr (3, [.int v_now_n, .int v_now_primeNumber, .ref q_now_numbers])), (q_now_numbers, .inl (cI, 20, .inl w7)), (q_history, .inr (5, [.int w1, .int w2, .ref q_history_store])), (q_history_store, .inl (cI, 352, .inl w3))]) (wr := [(q, .inr (10, [.ref q_now, .ref q_clearing, .ref q_residues, .ref q_lifting, .ref q_guessed, .ref q_walk, .ref q_history, .ref q_book, .ref q_draws, .ref q_firstImage, .ref q_secondImage])), (q_history, .inr (5, [.int w1, .int w2, .ref q_history_store])), (q_history_store, .inl (cI, 352, .inl w3))]) (k_runV (rest := []) hat hP hD hS hl.1 (c_X3_set q_now q_now_numbers v_now_n v_now_primeNumber v_now_numbers x1 x2 x3 w7 h8) [1, 2] (by decide) rfl kw712 kw101 kw102 kw68 kw103 kdVX3_set ⟨rfl, rfl⟩ (by rw [hR]; exact ⟨Nat.le_of_ble_eq_true rfl, Nat.le_of_ble_eq_true rfl⟩) ⟨Nat.zero_le _, Nat.zero_le _⟩ 1 3 rfl rfl rfl rfl (Nat.le_of_ble_eq_true rfl) dX11_change_29) hat hP hD hS [1, 2] rfl [0, 3, 4] rfl rfl rfl rfl rfl (by decide) (fun H locs hP hD hS => ?_)
  refine lv_iload hx hb dX11_change_32 (lv_at hl 0 rfl) ?_
  refine lv_bipush (v := 100) hx hb dX11_change_34 (by decide) ?_
  refine lv_iadd hx hb dX11_change_36 ?_
  obtain ⟨rfl, rfl, rfl, rfl, rfl⟩ := ki5 hf
  rw [hQ]
  exact k_iret hat hP hS rfl dX11_change_37
set_option maxHeartbeats 4000000 in
set_option maxRecDepth 100000 in
theorem c_X11_put {l : Launch} {D : va_G} {cI cJ cQ : ClassId} {tp : Nat} (q : Nat) (q_now : Nat) (q_clearing : Nat) (q_residues : Nat) (q_lifting : Nat) (q_guessed : Nat) (q_walk : Nat) (q_history : Nat) (q_book : Nat) (q_draws : Nat) (q_firstImage : Nat) (q_secondImage : Nat) (q_now_numbers : Nat) (q_history_store : Nat) (v_now_n : Int32) (v_now_primeNumber : Int32) (v_now_numbers : (Nat → Int32)) (v_history_count : Int32) (v_history_next : Int32) (v_history_store : (Nat → Int32)) (x1 : Int32) (x2 : Int32) (x3 : Int32) (r0 : Int32) (o_v_now_numbers : (Nat → Int32)) (o_v_history_count : Int32) (o_v_history_next : Int32) (o_v_history_store : (Nat → Int32)) (hf : f_X11_put v_now_n v_now_primeNumber v_now_numbers v_history_count v_history_next v_history_store x1 x2 x3 = some (r0, o_v_now_numbers, o_v_history_count, o_v_history_next, o_v_history_store)) : kM (fun A => kQi D A [(q, .inr (10, [.ref q_now, .ref q_clearing, .ref q_residues, .ref q_lifting, .ref q_guessed, .ref q_walk, .ref q_history, .ref q_book, .ref q_draws, .ref q_firstImage, .ref q_secondImage])), (q_now, .inr (3, [.int v_now_n, .int v_now_primeNumber, .ref q_now_numbers])), (q_now_numbers, .inl (cI, 20, .inl o_v_now_numbers)), (q_history, .inr (5, [.int o_v_history_count, .int o_v_history_next, .ref q_history_store])), (q_history_store, .inl (cI, 352, .inl o_v_history_store))] r0) (some .int) l yX11_put cX11_put 4 { frames := 4, cells := 0, slots := 0, locals := 107 } D cI cJ cQ tp [.ref q, .int x1, .int x2, .int x3] [(q, .inr (10, [.ref q_now, .ref q_clearing, .ref q_residues, .ref q_lifting, .ref q_guessed, .ref q_walk, .ref q_history, .ref q_book, .ref q_draws, .ref q_firstImage, .ref q_secondImage])), (q_now, .inr (3, [.int v_now_n, .int v_now_primeNumber, .ref q_now_numbers])), (q_now_numbers, .inl (cI, 20, .inl v_now_numbers)), (q_history, .inr (5, [.int v_history_count, .int v_history_next, .ref q_history_store])), (q_history_store, .inl (cI, 352, .inl v_history_store))] := by
  refine kM_of (by decide +kernel) (Nat.le_of_ble_eq_true rfl) ?_
  intro p e s m args below meth c A ls R Q hR hQ hat hP hD hS hl
  obtain ⟨hx, hb, hr, hml, hown, hts, hT, hlk, hK, hA, hZ⟩ := id hat
  have hown : s.vm.findClass RX11 = some m.cls := hown
  have hl : lv_has ls 4 [(0, .ref q), (1, .int x1), (2, .int x2), (3, .int x3)] := hl
  unfold f_X11_put at hf
  refine lv_aload_n hx hb dX11_put_0 rfl (lv_at hl 0 rfl) ?_
  refine va_get (D := D) (ci := 10) (v := .ref q_now) (C := RX11) (T := TX11) (N := 11) hx hb hts kinX11 hown hK hP 0 rfl rfl 0 (by decide) (hts _ kw327) (fun _ h9 => h9) rfl dX11_put_1 ?_
  refine lv_iload_n hx hb dX11_put_4 rfl (lv_at hl 1 rfl) ?_
  obtain ⟨r1, h2, hf⟩ := kb1_e hf
  refine k_gi (nW := 5) (ws' := [(q, .inr (10, [.ref q_now, .ref q_clearing, .ref q_residues, .ref q_lifting, .ref q_guessed, .ref q_walk, .ref q_history, .ref q_book, .ref q_draws, .ref q_firstImage, .ref q_secondImage])), (q_now, .inr (3, [.int v_now_n, .int v_now_primeNumber, .ref q_now_numbers])), (q_now_numbers, .inl (cI, 20, .inl v_now_numbers)), (q_history, .inr (5, [.int v_history_count, .int v_history_next, .ref q_history_store])), (q_history_store, .inl (cI, 352, .inl v_history_store))]) (wr := [(q, .inr (10, [.ref q_now, .ref q_clearing, .ref q_residues, .ref q_lifting, .ref q_guessed, .ref q_walk, .ref q_history, .ref q_book, .ref q_draws, .ref q_firstImage, .ref q_secondImage])), (q_now_numbers, .inl (cI, 20, .inl v_now_numbers)), (q_history, .inr (5, [.int v_history_count, .int v_history_next, .ref q_history_store])), (q_history_store, .inl (cI, 352, .inl v_history_store))]) (k_runV (rest := []) hat hP hD hS hl.1 (c_X3_has q_now q_now_numbers v_now_n v_now_primeNumber x1 r1 h2) [1] (by decide) rfl kw580 kw581 kw582 kw68 kw583 kdVX3_has ⟨rfl, rfl⟩ (by rw [hR]; exact ⟨Nat.le_of_ble_eq_true rfl, Nat.le_of_ble_eq_true rfl⟩) ⟨Nat.zero_le _, Nat.zero_le _⟩ 1 3 rfl rfl rfl rfl (Nat.le_of_ble_eq_true rfl) dX11_put_5) hat hP hD hS [1] rfl [0, 2, 3, 4] rfl rfl rfl rfl rfl (by decide) (fun H locs hP hD hS => ?_)
  refine lv_if_eq (tgt := 22) hx hb dX11_put_8 (by decide) (fun c3 => ?_) (fun c3 => ?_)
  · have hf := kp_e hf c3
    refine lv_ldc hx hb hown (hts _ kw584) dX11_put_22 ?_
    obtain ⟨rfl, rfl, rfl, rfl, rfl⟩ := ki5 hf
    rw [hQ]
    exact k_iret hat hP hS rfl dX11_put_24
  · have hf := kn_e hf c3
    refine lv_aload_n hx hb dX11_put_11 rfl (lv_at hl 0 rfl) ?_
    refine va_get (D := D) (ci := 10) (v := .ref q_now) (C := RX11) (T := TX11) (N := 11) hx hb hts kinX11 hown hK hP 0 rfl rfl 0 (by decide) (hts _ kw327) (fun _ h9 => h9) rfl dX11_put_12 ?_
    refine lv_iload_n hx hb dX11_put_15 rfl (lv_at hl 2 rfl) ?_
    obtain ⟨r4, h5, hf⟩ := kb1_e hf
    refine k_gi (nW := 5) (ws' := [(q, .inr (10, [.ref q_now, .ref q_clearing, .ref q_residues, .ref q_lifting, .ref q_guessed, .ref q_walk, .ref q_history, .ref q_book, .ref q_draws, .ref q_firstImage, .ref q_secondImage])), (q_now, .inr (3, [.int v_now_n, .int v_now_primeNumber, .ref q_now_numbers])), (q_now_numbers, .inl (cI, 20, .inl v_now_numbers)), (q_history, .inr (5, [.int v_history_count, .int v_history_next, .ref q_history_store])), (q_history_store, .inl (cI, 352, .inl v_history_store))]) (wr := [(q, .inr (10, [.ref q_now, .ref q_clearing, .ref q_residues, .ref q_lifting, .ref q_guessed, .ref q_walk, .ref q_history, .ref q_book, .ref q_draws, .ref q_firstImage, .ref q_secondImage])), (q_now_numbers, .inl (cI, 20, .inl v_now_numbers)), (q_history, .inr (5, [.int v_history_count, .int v_history_next, .ref q_history_store])), (q_history_store, .inl (cI, 352, .inl v_history_store))]) (k_runV (rest := []) hat hP hD hS hl.1 (c_X3_has q_now q_now_numbers v_now_n v_now_primeNumber x2 r4 h5) [1] (by decide) rfl kw580 kw581 kw582 kw68 kw583 kdVX3_has ⟨rfl, rfl⟩ (by rw [hR]; exact ⟨Nat.le_of_ble_eq_true rfl, Nat.le_of_ble_eq_true rfl⟩) ⟨Nat.zero_le _, Nat.zero_le _⟩ 1 3 rfl rfl rfl rfl (Nat.le_of_ble_eq_true rfl) dX11_put_16) hat hP hD hS [1] rfl [0, 2, 3, 4] rfl rfl rfl rfl rfl (by decide) (fun H locs hP hD hS => ?_)
    refine lv_if_ne (tgt := 25) hx hb dX11_put_19 (by decide) (fun c6 => ?_) (fun c6 => ?_)
    · have hf := kn_e hf c6
      refine lv_iload_n hx hb dX11_put_25 rfl (lv_at hl 3 rfl) ?_
      refine lv_bipush (v := -9) hx hb dX11_put_26 (by decide) ?_
      refine lv_icmp_lt (tgt := 37) hx hb dX11_put_28 (by decide) (fun c7 => ?_) (fun c7 => ?_)
      · have hf := kp_e hf c7
        refine lv_ldc hx hb hown (hts _ kw575) dX11_put_37 ?_
        obtain ⟨rfl, rfl, rfl, rfl, rfl⟩ := ki5 hf
        rw [hQ]
        exact k_iret hat hP hS rfl dX11_put_39
      · have hf := kn_e hf c7
        refine lv_iload_n hx hb dX11_put_31 rfl (lv_at hl 3 rfl) ?_
        refine lv_bipush (v := 9) hx hb dX11_put_32 (by decide) ?_
        refine lv_icmp_le (tgt := 40) hx hb dX11_put_34 (by decide) (fun c8 => ?_) (fun c8 => ?_)
        · have hf := kp_e hf c8
          refine lv_aload_n hx hb dX11_put_40 rfl (lv_at hl 0 rfl) ?_
          refine lv_iload_n hx hb dX11_put_41 rfl (lv_at hl 1 rfl) ?_
          refine lv_iload_n hx hb dX11_put_42 rfl (lv_at hl 2 rfl) ?_
          refine lv_iload_n hx hb dX11_put_43 rfl (lv_at hl 3 rfl) ?_
          obtain ⟨r9, w10, w11, w12, w13, h14, hf⟩ := kb5_e hf
          refine k_gi (nW := 5) (ws' := [(q, .inr (10, [.ref q_now, .ref q_clearing, .ref q_residues, .ref q_lifting, .ref q_guessed, .ref q_walk, .ref q_history, .ref q_book, .ref q_draws, .ref q_firstImage, .ref q_secondImage])), (q_now, .inr (3, [.int v_now_n, .int v_now_primeNumber, .ref q_now_numbers])), (q_now_numbers, .inl (cI, 20, .inl w10)), (q_history, .inr (5, [.int w11, .int w12, .ref q_history_store])), (q_history_store, .inl (cI, 352, .inl w13))]) (wr := []) (k_runV (rest := []) hat hP hD hS hl.1 (c_X11_change q q_now q_clearing q_residues q_lifting q_guessed q_walk q_history q_book q_draws q_firstImage q_secondImage q_now_numbers q_history_store v_now_n v_now_primeNumber v_now_numbers v_history_count v_history_next v_history_store x1 x2 x3 r9 w10 w11 w12 w13 h14) [0, 1, 2, 3, 4] (by decide) rfl kw708 kw710 kw13 kw67 kw711 kdVX11_change ⟨rfl, rfl⟩ (by rw [hR]; exact ⟨Nat.le_of_ble_eq_true rfl, Nat.le_of_ble_eq_true rfl⟩) ⟨Nat.zero_le _, Nat.zero_le _⟩ 0 10 rfl rfl rfl rfl (Nat.le_of_ble_eq_true rfl) dX11_put_44) hat hP hD hS [0, 1, 2, 3, 4] rfl [] rfl rfl rfl rfl rfl (by decide) (fun H locs hP hD hS => ?_)
          obtain ⟨rfl, rfl, rfl, rfl, rfl⟩ := ki5 hf
          rw [hQ]
          exact k_iret hat hP hS rfl dX11_put_47
        · have hf := kn_e hf c8
          refine lv_ldc hx hb hown (hts _ kw575) dX11_put_37 ?_
          obtain ⟨rfl, rfl, rfl, rfl, rfl⟩ := ki5 hf
          rw [hQ]
          exact k_iret hat hP hS rfl dX11_put_39
    · have hf := kp_e hf c6
      refine lv_ldc hx hb hown (hts _ kw584) dX11_put_22 ?_
      obtain ⟨rfl, rfl, rfl, rfl, rfl⟩ := ki5 hf
      rw [hQ]
      exact k_iret hat hP hS rfl dX11_put_24
set_option maxHeartbeats 4000000 in
set_option maxRecDepth 100000 in
theorem c_X11_side {l : Launch} {D : va_G} {cI cJ cQ : ClassId} {tp : Nat} (q : Nat) (q_now : Nat) (q_clearing : Nat) (q_residues : Nat) (q_lifting : Nat) (q_guessed : Nat) (q_walk : Nat) (q_history : Nat) (q_book : Nat) (q_draws : Nat) (q_firstImage : Nat) (q_secondImage : Nat) (q_now_numbers : Nat) (q_history_store : Nat) (v_now_n : Int32) (v_now_primeNumber : Int32) (v_now_numbers : (Nat → Int32)) (v_history_count : Int32) (v_history_next : Int32) (v_history_store : (Nat → Int32)) (x1 : Int32) (x2 : Int32) (r0 : Int32) (o_v_now_numbers : (Nat → Int32)) (o_v_history_count : Int32) (o_v_history_next : Int32) (o_v_history_store : (Nat → Int32)) (hf : f_X11_side v_now_n v_now_primeNumber v_now_numbers v_history_count v_history_next v_history_store x1 x2 = some (r0, o_v_now_numbers, o_v_history_count, o_v_history_next, o_v_history_store)) : kM (fun A => kQi D A [(q, .inr (10, [.ref q_now, .ref q_clearing, .ref q_residues, .ref q_lifting, .ref q_guessed, .ref q_walk, .ref q_history, .ref q_book, .ref q_draws, .ref q_firstImage, .ref q_secondImage])), (q_now, .inr (3, [.int v_now_n, .int v_now_primeNumber, .ref q_now_numbers])), (q_now_numbers, .inl (cI, 20, .inl o_v_now_numbers)), (q_history, .inr (5, [.int o_v_history_count, .int o_v_history_next, .ref q_history_store])), (q_history_store, .inl (cI, 352, .inl o_v_history_store))] r0) (some .int) l yX11_side cX11_side 3 { frames := 4, cells := 0, slots := 0, locals := 107 } D cI cJ cQ tp [.ref q, .int x1, .int x2] [(q, .inr (10, [.ref q_now, .ref q_clearing, .ref q_residues, .ref q_lifting, .ref q_guessed, .ref q_walk, .ref q_history, .ref q_book, .ref q_draws, .ref q_firstImage, .ref q_secondImage])), (q_now, .inr (3, [.int v_now_n, .int v_now_primeNumber, .ref q_now_numbers])), (q_now_numbers, .inl (cI, 20, .inl v_now_numbers)), (q_history, .inr (5, [.int v_history_count, .int v_history_next, .ref q_history_store])), (q_history_store, .inl (cI, 352, .inl v_history_store))] := by
  refine kM_of (by decide +kernel) (Nat.le_of_ble_eq_true rfl) ?_
  intro p e s m args below meth c A ls R Q hR hQ hat hP hD hS hl
  obtain ⟨hx, hb, hr, hml, hown, hts, hT, hlk, hK, hA, hZ⟩ := id hat
  have hown : s.vm.findClass RX11 = some m.cls := hown
  have hl : lv_has ls 3 [(0, .ref q), (1, .int x1), (2, .int x2)] := hl
  unfold f_X11_side at hf
  refine lv_aload_n hx hb dX11_side_0 rfl (lv_at hl 0 rfl) ?_
  refine va_get (D := D) (ci := 10) (v := .ref q_now) (C := RX11) (T := TX11) (N := 11) hx hb hts kinX11 hown hK hP 0 rfl rfl 0 (by decide) (hts _ kw327) (fun _ h9 => h9) rfl dX11_side_1 ?_
  refine lv_iload_n hx hb dX11_side_4 rfl (lv_at hl 1 rfl) ?_
  obtain ⟨r1, h2, hf⟩ := kb1_e hf
  refine k_gi (nW := 5) (ws' := [(q, .inr (10, [.ref q_now, .ref q_clearing, .ref q_residues, .ref q_lifting, .ref q_guessed, .ref q_walk, .ref q_history, .ref q_book, .ref q_draws, .ref q_firstImage, .ref q_secondImage])), (q_now, .inr (3, [.int v_now_n, .int v_now_primeNumber, .ref q_now_numbers])), (q_now_numbers, .inl (cI, 20, .inl v_now_numbers)), (q_history, .inr (5, [.int v_history_count, .int v_history_next, .ref q_history_store])), (q_history_store, .inl (cI, 352, .inl v_history_store))]) (wr := [(q, .inr (10, [.ref q_now, .ref q_clearing, .ref q_residues, .ref q_lifting, .ref q_guessed, .ref q_walk, .ref q_history, .ref q_book, .ref q_draws, .ref q_firstImage, .ref q_secondImage])), (q_now_numbers, .inl (cI, 20, .inl v_now_numbers)), (q_history, .inr (5, [.int v_history_count, .int v_history_next, .ref q_history_store])), (q_history_store, .inl (cI, 352, .inl v_history_store))]) (k_runV (rest := []) hat hP hD hS hl.1 (c_X3_has q_now q_now_numbers v_now_n v_now_primeNumber x1 r1 h2) [1] (by decide) rfl kw580 kw581 kw582 kw68 kw583 kdVX3_has ⟨rfl, rfl⟩ (by rw [hR]; exact ⟨Nat.le_of_ble_eq_true rfl, Nat.le_of_ble_eq_true rfl⟩) ⟨Nat.zero_le _, Nat.zero_le _⟩ 1 3 rfl rfl rfl rfl (Nat.le_of_ble_eq_true rfl) dX11_side_5) hat hP hD hS [1] rfl [0, 2, 3, 4] rfl rfl rfl rfl rfl (by decide) (fun H locs hP hD hS => ?_)
  refine lv_if_ne (tgt := 14) hx hb dX11_side_8 (by decide) (fun c3 => ?_) (fun c3 => ?_)
  · have hf := kn_e hf c3
    refine lv_iload_n hx hb dX11_side_14 rfl (lv_at hl 2 rfl) ?_
    refine lv_bipush (v := -99) hx hb dX11_side_15 (by decide) ?_
    refine lv_icmp_lt (tgt := 26) hx hb dX11_side_17 (by decide) (fun c4 => ?_) (fun c4 => ?_)
    · have hf := kp_e hf c4
      refine lv_ldc hx hb hown (hts _ kw575) dX11_side_26 ?_
      obtain ⟨rfl, rfl, rfl, rfl, rfl⟩ := ki5 hf
      rw [hQ]
      exact k_iret hat hP hS rfl dX11_side_28
    · have hf := kn_e hf c4
      refine lv_iload_n hx hb dX11_side_20 rfl (lv_at hl 2 rfl) ?_
      refine lv_bipush (v := 99) hx hb dX11_side_21 (by decide) ?_
      refine lv_icmp_le (tgt := 29) hx hb dX11_side_23 (by decide) (fun c5 => ?_) (fun c5 => ?_)
      · have hf := kp_e hf c5
        refine lv_aload_n hx hb dX11_side_29 rfl (lv_at hl 0 rfl) ?_
        refine lv_iload_n hx hb dX11_side_30 rfl (lv_at hl 1 rfl) ?_
        refine lv_iconst (v := 4) hx hb dX11_side_31 (by decide) ?_
        refine lv_iload_n hx hb dX11_side_32 rfl (lv_at hl 2 rfl) ?_
        obtain ⟨r6, w7, w8, w9, w10, h11, hf⟩ := kb5_e hf
        refine k_gi (nW := 5) (ws' := [(q, .inr (10, [.ref q_now, .ref q_clearing, .ref q_residues, .ref q_lifting, .ref q_guessed, .ref q_walk, .ref q_history, .ref q_book, .ref q_draws, .ref q_firstImage, .ref q_secondImage])), (q_now, .inr (3, [.int v_now_n, .int v_now_primeNumber, .ref q_now_numbers])), (q_now_numbers, .inl (cI, 20, .inl w7)), (q_history, .inr (5, [.int w8, .int w9, .ref q_history_store])), (q_history_store, .inl (cI, 352, .inl w10))]) (wr := []) (k_runV (rest := []) hat hP hD hS hl.1 (c_X11_change q q_now q_clearing q_residues q_lifting q_guessed q_walk q_history q_book q_draws q_firstImage q_secondImage q_now_numbers q_history_store v_now_n v_now_primeNumber v_now_numbers v_history_count v_history_next v_history_store x1 (4 : Int32) x2 r6 w7 w8 w9 w10 h11) [0, 1, 2, 3, 4] (by decide) rfl kw708 kw710 kw13 kw67 kw711 kdVX11_change ⟨rfl, rfl⟩ (by rw [hR]; exact ⟨Nat.le_of_ble_eq_true rfl, Nat.le_of_ble_eq_true rfl⟩) ⟨Nat.zero_le _, Nat.zero_le _⟩ 0 10 rfl rfl rfl rfl (Nat.le_of_ble_eq_true rfl) dX11_side_33) hat hP hD hS [0, 1, 2, 3, 4] rfl [] rfl rfl rfl rfl rfl (by decide) (fun H locs hP hD hS => ?_)
        obtain ⟨rfl, rfl, rfl, rfl, rfl⟩ := ki5 hf
        rw [hQ]
        exact k_iret hat hP hS rfl dX11_side_36
      · have hf := kn_e hf c5
        refine lv_ldc hx hb hown (hts _ kw575) dX11_side_26 ?_
        obtain ⟨rfl, rfl, rfl, rfl, rfl⟩ := ki5 hf
        rw [hQ]
        exact k_iret hat hP hS rfl dX11_side_28
  · have hf := kp_e hf c3
    refine lv_ldc hx hb hown (hts _ kw584) dX11_side_11 ?_
    obtain ⟨rfl, rfl, rfl, rfl, rfl⟩ := ki5 hf
    rw [hQ]
    exact k_iret hat hP hS rfl dX11_side_13
set_option maxHeartbeats 4000000 in
set_option maxRecDepth 100000 in
theorem c_X11_areNotTwoRows {l : Launch} {D : va_G} {cI cJ cQ : ClassId} {tp : Nat} (q : Nat) (q_now : Nat) (q_clearing : Nat) (q_residues : Nat) (q_lifting : Nat) (q_guessed : Nat) (q_walk : Nat) (q_history : Nat) (q_book : Nat) (q_draws : Nat) (q_firstImage : Nat) (q_secondImage : Nat) (q_now_numbers : Nat) (v_now_n : Int32) (v_now_primeNumber : Int32) (x1 : Int32) (x2 : Int32) (r0 : Int32) (hf : f_X11_areNotTwoRows v_now_n x1 x2 = some r0) : kM (fun A => kQi D A [(q, .inr (10, [.ref q_now, .ref q_clearing, .ref q_residues, .ref q_lifting, .ref q_guessed, .ref q_walk, .ref q_history, .ref q_book, .ref q_draws, .ref q_firstImage, .ref q_secondImage])), (q_now, .inr (3, [.int v_now_n, .int v_now_primeNumber, .ref q_now_numbers]))] r0) (some .boolean) l yX11_areNotTwoRows cX11_areNotTwoRows 3 { frames := 1, cells := 0, slots := 0, locals := 21 } D cI cJ cQ tp [.ref q, .int x1, .int x2] [(q, .inr (10, [.ref q_now, .ref q_clearing, .ref q_residues, .ref q_lifting, .ref q_guessed, .ref q_walk, .ref q_history, .ref q_book, .ref q_draws, .ref q_firstImage, .ref q_secondImage])), (q_now, .inr (3, [.int v_now_n, .int v_now_primeNumber, .ref q_now_numbers]))] := by
  refine kM_of (by decide +kernel) (Nat.le_of_ble_eq_true rfl) ?_
  intro p e s m args below meth c A ls R Q hR hQ hat hP hD hS hl
  obtain ⟨hx, hb, hr, hml, hown, hts, hT, hlk, hK, hA, hZ⟩ := id hat
  have hown : s.vm.findClass RX11 = some m.cls := hown
  have hl : lv_has ls 3 [(0, .ref q), (1, .int x1), (2, .int x2)] := hl
  unfold f_X11_areNotTwoRows at hf
  refine lv_aload_n hx hb dX11_areNotTwoRows_0 rfl (lv_at hl 0 rfl) ?_
  refine va_get (D := D) (ci := 10) (v := .ref q_now) (C := RX11) (T := TX11) (N := 11) hx hb hts kinX11 hown hK hP 0 rfl rfl 0 (by decide) (hts _ kw327) (fun _ h9 => h9) rfl dX11_areNotTwoRows_1 ?_
  refine lv_iload_n hx hb dX11_areNotTwoRows_4 rfl (lv_at hl 1 rfl) ?_
  obtain ⟨r1, h2, hf⟩ := kb1_e hf
  refine k_gi (nW := 2) (ws' := [(q, .inr (10, [.ref q_now, .ref q_clearing, .ref q_residues, .ref q_lifting, .ref q_guessed, .ref q_walk, .ref q_history, .ref q_book, .ref q_draws, .ref q_firstImage, .ref q_secondImage])), (q_now, .inr (3, [.int v_now_n, .int v_now_primeNumber, .ref q_now_numbers]))]) (wr := [(q, .inr (10, [.ref q_now, .ref q_clearing, .ref q_residues, .ref q_lifting, .ref q_guessed, .ref q_walk, .ref q_history, .ref q_book, .ref q_draws, .ref q_firstImage, .ref q_secondImage]))]) (k_runV (rest := []) hat hP hD hS hl.1 (c_X3_has q_now q_now_numbers v_now_n v_now_primeNumber x1 r1 h2) [1] (by decide) rfl kw580 kw581 kw582 kw68 kw583 kdVX3_has ⟨rfl, rfl⟩ (by rw [hR]; exact ⟨Nat.le_of_ble_eq_true rfl, Nat.le_of_ble_eq_true rfl⟩) ⟨Nat.zero_le _, Nat.zero_le _⟩ 1 3 rfl rfl rfl rfl (Nat.le_of_ble_eq_true rfl) dX11_areNotTwoRows_5) hat hP hD hS [1] rfl [0] rfl rfl rfl rfl rfl (by decide) (fun H locs hP hD hS => ?_)
  refine lv_if_eq (tgt := 27) hx hb dX11_areNotTwoRows_8 (by decide) (fun c3 => ?_) (fun c3 => ?_)
  · have hf := kp_e hf c3
    refine lv_iconst (v := 1) hx hb dX11_areNotTwoRows_27 (by decide) ?_
    refine lv_goto (tgt := 32) hx hb dX11_areNotTwoRows_28 (by decide) ?_
    obtain rfl := ki1 hf
    rw [hQ]
    exact k_zret hat hP hS rfl (by decide) dX11_areNotTwoRows_32
  · have hf := kn_e hf c3
    refine lv_aload_n hx hb dX11_areNotTwoRows_11 rfl (lv_at hl 0 rfl) ?_
    refine va_get (D := D) (ci := 10) (v := .ref q_now) (C := RX11) (T := TX11) (N := 11) hx hb hts kinX11 hown hK hP 0 rfl rfl 0 (by decide) (hts _ kw327) (fun _ h9 => h9) rfl dX11_areNotTwoRows_12 ?_
    refine lv_iload_n hx hb dX11_areNotTwoRows_15 rfl (lv_at hl 2 rfl) ?_
    obtain ⟨r4, h5, hf⟩ := kb1_e hf
    refine k_gi (nW := 2) (ws' := [(q, .inr (10, [.ref q_now, .ref q_clearing, .ref q_residues, .ref q_lifting, .ref q_guessed, .ref q_walk, .ref q_history, .ref q_book, .ref q_draws, .ref q_firstImage, .ref q_secondImage])), (q_now, .inr (3, [.int v_now_n, .int v_now_primeNumber, .ref q_now_numbers]))]) (wr := [(q, .inr (10, [.ref q_now, .ref q_clearing, .ref q_residues, .ref q_lifting, .ref q_guessed, .ref q_walk, .ref q_history, .ref q_book, .ref q_draws, .ref q_firstImage, .ref q_secondImage]))]) (k_runV (rest := []) hat hP hD hS hl.1 (c_X3_has q_now q_now_numbers v_now_n v_now_primeNumber x2 r4 h5) [1] (by decide) rfl kw580 kw581 kw582 kw68 kw583 kdVX3_has ⟨rfl, rfl⟩ (by rw [hR]; exact ⟨Nat.le_of_ble_eq_true rfl, Nat.le_of_ble_eq_true rfl⟩) ⟨Nat.zero_le _, Nat.zero_le _⟩ 1 3 rfl rfl rfl rfl (Nat.le_of_ble_eq_true rfl) dX11_areNotTwoRows_16) hat hP hD hS [1] rfl [0] rfl rfl rfl rfl rfl (by decide) (fun H locs hP hD hS => ?_)
    refine lv_if_eq (tgt := 27) hx hb dX11_areNotTwoRows_19 (by decide) (fun c6 => ?_) (fun c6 => ?_)
    · have hf := kp_e hf c6
      refine lv_iconst (v := 1) hx hb dX11_areNotTwoRows_27 (by decide) ?_
      refine lv_goto (tgt := 32) hx hb dX11_areNotTwoRows_28 (by decide) ?_
      obtain rfl := ki1 hf
      rw [hQ]
      exact k_zret hat hP hS rfl (by decide) dX11_areNotTwoRows_32
    · have hf := kn_e hf c6
      refine lv_iload_n hx hb dX11_areNotTwoRows_22 rfl (lv_at hl 1 rfl) ?_
      refine lv_iload_n hx hb dX11_areNotTwoRows_23 rfl (lv_at hl 2 rfl) ?_
      refine lv_icmp_ne (tgt := 31) hx hb dX11_areNotTwoRows_24 (by decide) (fun c7 => ?_) (fun c7 => ?_)
      · have hf := kn_e hf c7
        refine lv_iconst (v := 0) hx hb dX11_areNotTwoRows_31 (by decide) ?_
        obtain rfl := ki1 hf
        rw [hQ]
        exact k_zret hat hP hS rfl (by decide) dX11_areNotTwoRows_32
      · have hf := kp_e hf c7
        refine lv_iconst (v := 1) hx hb dX11_areNotTwoRows_27 (by decide) ?_
        refine lv_goto (tgt := 32) hx hb dX11_areNotTwoRows_28 (by decide) ?_
        obtain rfl := ki1 hf
        rw [hQ]
        exact k_zret hat hP hS rfl (by decide) dX11_areNotTwoRows_32
