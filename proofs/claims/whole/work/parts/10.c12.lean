set_option maxHeartbeats 4000000 in
set_option maxRecDepth 100000 in
theorem c_X1_clearColumn {l : Launch} {D : va_G} {cI cJ cQ : ClassId} {tp : Nat} (q : Nat) (q_rows : Nat) (q_leads : Nat) (q_rows_r : Nat → Nat) (v_n : Int32) (v_rank : Int32) (v_exchanges : Int32) (v_width : Int32) (v_scale : Int64) (v_rows : (Nat → Nat → Int64)) (v_leads : (Nat → Int32)) (F : Nat) (x1 : Int32) (o_v_scale : Int64) (o_v_rows : (Nat → Nat → Int64)) (o_v_leads : (Nat → Int32)) (hf : f_X1_clearColumn F v_n v_rank v_scale v_rows v_leads x1 = some (o_v_scale, o_v_rows, o_v_leads)) : kM (fun A => kQv D A [(q, .inr (1, [.int v_n, .int v_rank, .int v_exchanges, .ref q_rows, .int v_width, .long o_v_scale, .ref q_leads])), (q_rows, .inl (cQ, 4, .inr (.inr (.inr (.inr (kg q_rows_r)))))), (q_rows_r 0, .inl (cJ, 5, .inr (.inl (o_v_rows 0)))), (q_rows_r 1, .inl (cJ, 5, .inr (.inl (o_v_rows 1)))), (q_rows_r 2, .inl (cJ, 5, .inr (.inl (o_v_rows 2)))), (q_rows_r 3, .inl (cJ, 5, .inr (.inl (o_v_rows 3)))), (q_leads, .inl (cI, 4, .inl o_v_leads))]) none l yX1_clearColumn cX1_clearColumn 3 { frames := 2, cells := 0, slots := 0, locals := 50 } D cI cJ cQ tp [.ref q, .int x1] [(q, .inr (1, [.int v_n, .int v_rank, .int v_exchanges, .ref q_rows, .int v_width, .long v_scale, .ref q_leads])), (q_rows, .inl (cQ, 4, .inr (.inr (.inr (.inr (kg q_rows_r)))))), (q_rows_r 0, .inl (cJ, 5, .inr (.inl (v_rows 0)))), (q_rows_r 1, .inl (cJ, 5, .inr (.inl (v_rows 1)))), (q_rows_r 2, .inl (cJ, 5, .inr (.inl (v_rows 2)))), (q_rows_r 3, .inl (cJ, 5, .inr (.inl (v_rows 3)))), (q_leads, .inl (cI, 4, .inl v_leads))] := by
  refine kM_of (by decide +kernel) (Nat.le_of_ble_eq_true rfl) ?_
  intro p e s m args below meth c A ls R Q hR hQ hat hP hD hS hl
  obtain ⟨hx, hb, hr, hml, hown, hts, hT, hlk, hK, hA, hZ⟩ := id hat
  have hown : s.vm.findClass RX1 = some m.cls := hown
  have hl : lv_has ls 3 [(0, .ref q), (1, .int x1)] := hl
  have hL2 : ∀ (x1 : Int32) (v_n : Int32) (v_rank : Int32) (v_exchanges : Int32) (v_width : Int32) (v_scale : Int64) (v_leads : (Nat → Int32)) (fu : Nat) (x2 : Int32) (v_rows : (Nat → Nat → Int64)) (o0 : (Nat → Nat → Int64)), L_X1_clearColumn_2 F x1 v_n v_rank v_scale fu x2 v_rows = some o0 → (∀ (H : Heap) (locs : List Loc) (ls : Array Slot), va_P D vwCl [(q, .inr (1, [.int v_n, .int v_rank, .int v_exchanges, .ref q_rows, .int v_width, .long v_scale, .ref q_leads])), (q_rows, .inl (cQ, 4, .inr (.inr (.inr (.inr (kg q_rows_r)))))), (q_rows_r 0, .inl (cJ, 5, .inr (.inl (o0 0)))), (q_rows_r 1, .inl (cJ, 5, .inr (.inl (o0 1)))), (q_rows_r 2, .inl (cJ, 5, .inr (.inl (o0 2)))), (q_rows_r 3, .inl (cJ, 5, .inr (.inl (o0 3)))), (q_leads, .inl (cI, 4, .inl v_leads))] H → va_D A [(q, .inr (1, [.int v_n, .int v_rank, .int v_exchanges, .ref q_rows, .int v_width, .long v_scale, .ref q_leads])), (q_rows, .inl (cQ, 4, .inr (.inr (.inr (.inr (kg q_rows_r)))))), (q_rows_r 0, .inl (cJ, 5, .inr (.inl (o0 0)))), (q_rows_r 1, .inl (cJ, 5, .inr (.inl (o0 1)))), (q_rows_r 2, .inl (cJ, 5, .inr (.inl (o0 2)))), (q_rows_r 3, .inl (cJ, 5, .inr (.inl (o0 3)))), (q_leads, .inl (cI, 4, .inl v_leads))] → va_S A s.heap H locs → lv_has ls 3 [(0, .ref q), (1, .int x1)] → W p l e R s m args below meth c H locs 0 0 Q (F0 m 30 ls [])) → ∀ (H : Heap) (locs : List Loc) (ls : Array Slot), va_P D vwCl [(q, .inr (1, [.int v_n, .int v_rank, .int v_exchanges, .ref q_rows, .int v_width, .long v_scale, .ref q_leads])), (q_rows, .inl (cQ, 4, .inr (.inr (.inr (.inr (kg q_rows_r)))))), (q_rows_r 0, .inl (cJ, 5, .inr (.inl (v_rows 0)))), (q_rows_r 1, .inl (cJ, 5, .inr (.inl (v_rows 1)))), (q_rows_r 2, .inl (cJ, 5, .inr (.inl (v_rows 2)))), (q_rows_r 3, .inl (cJ, 5, .inr (.inl (v_rows 3)))), (q_leads, .inl (cI, 4, .inl v_leads))] H → va_D A [(q, .inr (1, [.int v_n, .int v_rank, .int v_exchanges, .ref q_rows, .int v_width, .long v_scale, .ref q_leads])), (q_rows, .inl (cQ, 4, .inr (.inr (.inr (.inr (kg q_rows_r)))))), (q_rows_r 0, .inl (cJ, 5, .inr (.inl (v_rows 0)))), (q_rows_r 1, .inl (cJ, 5, .inr (.inl (v_rows 1)))), (q_rows_r 2, .inl (cJ, 5, .inr (.inl (v_rows 2)))), (q_rows_r 3, .inl (cJ, 5, .inr (.inl (v_rows 3)))), (q_leads, .inl (cI, 4, .inl v_leads))] → va_S A s.heap H locs → lv_has ls 3 [(0, .ref q), (1, .int x1), (2, .int x2)] → W p l e R s m args below meth c H locs 0 0 Q (F0 m 2 ls []) := by
    intro x1 v_n v_rank v_exchanges v_width v_scale v_leads fu
    induction fu with
    | zero =>
      intro x2 v_rows o0 hf
      cases hf
    | succ fu ih =>
      intro x2 v_rows o0 hf hk0 H locs ls hP hD hS hl
      rw [L_X1_clearColumn_2] at hf
      refine lv_iload_n hx hb dX1_clearColumn_2 rfl (lv_at hl 2 rfl) ?_
      refine lv_aload_n hx hb dX1_clearColumn_3 rfl (lv_at hl 0 rfl) ?_
      refine va_get (D := D) (ci := 1) (v := .int v_n) (C := RX1) (T := TX1) (N := 7) hx hb hts kinX1 hown hK hP 0 rfl rfl 0 (by decide) (hts _ kw134) (u_same (hts _ kw135)) rfl dX1_clearColumn_4 ?_
      refine lv_icmp_ge (tgt := 30) hx hb dX1_clearColumn_7 (by decide) (fun c1 => ?_) (fun c1 => ?_)
      · have hf := kp_e hf c1
        obtain rfl := ki1 hf
        exact hk0 _ _ _ hP hD hS (lv_sub hl [0, 1] rfl)
      · have hf := kn_e hf c1
        refine lv_iload_n hx hb dX1_clearColumn_10 rfl (lv_at hl 2 rfl) ?_
        refine lv_aload_n hx hb dX1_clearColumn_11 rfl (lv_at hl 0 rfl) ?_
        refine va_get (D := D) (ci := 1) (v := .int v_rank) (C := RX1) (T := TX1) (N := 7) hx hb hts kinX1 hown hK hP 0 rfl rfl 1 (by decide) (hts _ kw142) (u_same (hts _ kw143)) rfl dX1_clearColumn_12 ?_
        refine lv_icmp_eq (tgt := 24) hx hb dX1_clearColumn_15 (by decide) (fun c2 => ?_) (fun c2 => ?_)
        · have hf := kp_e hf c2
          obtain ⟨t3, et3⟩ : ∃ z : Int32, z = (x2 + (1 : Int32)) := ⟨_, rfl⟩
          have hf := kl_e hf t3 et3
          refine lv_iinc (v := t3) (lv' := [(2, .int t3), (0, .ref q), (1, .int x1)]) hx hb dX1_clearColumn_24 hl (k := 2) rfl (by rw [et3]; rfl) (by decide) rfl (fun ls hl => ?_)
          refine lv_goto (tgt := 2) hx hb dX1_clearColumn_27 (by decide) ?_
          exact ih t3 v_rows o0 hf hk0 _ _ _ hP hD hS (lv_sub hl [1, 2, 0] rfl)
        · have hf := kn_e hf c2
          refine lv_aload_n hx hb dX1_clearColumn_18 rfl (lv_at hl 0 rfl) ?_
          refine lv_iload_n hx hb dX1_clearColumn_19 rfl (lv_at hl 2 rfl) ?_
          refine lv_iload_n hx hb dX1_clearColumn_20 rfl (lv_at hl 1 rfl) ?_
          obtain ⟨w4, h5, hf⟩ := kb1_e hf
          refine k_gv (nW := 7) (ws' := [(q, .inr (1, [.int v_n, .int v_rank, .int v_exchanges, .ref q_rows, .int v_width, .long v_scale, .ref q_leads])), (q_rows, .inl (cQ, 4, .inr (.inr (.inr (.inr (kg q_rows_r)))))), (q_rows_r 0, .inl (cJ, 5, .inr (.inl (w4 0)))), (q_rows_r 1, .inl (cJ, 5, .inr (.inl (w4 1)))), (q_rows_r 2, .inl (cJ, 5, .inr (.inl (w4 2)))), (q_rows_r 3, .inl (cJ, 5, .inr (.inl (w4 3)))), (q_leads, .inl (cI, 4, .inl v_leads))]) (wr := [(q_leads, .inl (cI, 4, .inl v_leads))]) (k_runV (rest := []) hat hP hD hS hl.1 (c_X1_clearRow q q_rows q_leads q_rows_r v_n v_rank v_exchanges v_width v_scale v_rows F x2 x1 w4 h5) [0, 1, 2, 3, 4, 5] (by decide) rfl kw403 kw405 kw1 kw70 kw406 kdVX1_clearRow ⟨rfl, rfl⟩ (by rw [hR]; exact ⟨Nat.le_of_ble_eq_true rfl, Nat.le_of_ble_eq_true rfl⟩) ⟨Nat.zero_le _, Nat.zero_le _⟩ 0 1 rfl rfl rfl rfl (Nat.le_of_ble_eq_true rfl) dX1_clearColumn_21) hat hP hD hS [0, 1, 2, 3, 4, 5] rfl [6] rfl rfl rfl rfl rfl (by decide) (fun H locs hP hD hS => ?_)
          obtain ⟨t6, et6⟩ : ∃ z : Int32, z = (x2 + (1 : Int32)) := ⟨_, rfl⟩
          have hf := kl_e hf t6 et6
          refine lv_iinc (v := t6) (lv' := [(2, .int t6), (0, .ref q), (1, .int x1)]) hx hb dX1_clearColumn_24 hl (k := 2) rfl (by rw [et6]; rfl) (by decide) rfl (fun ls hl => ?_)
          refine lv_goto (tgt := 2) hx hb dX1_clearColumn_27 (by decide) ?_
          exact ih t6 w4 o0 hf hk0 _ _ _ hP hD hS (lv_sub hl [1, 2, 0] rfl)
  unfold f_X1_clearColumn at hf
  refine lv_iconst (v := 0) hx hb dX1_clearColumn_0 (by decide) ?_
  refine lv_istore_n (lv' := [(2, .int (0 : Int32)), (0, .ref q), (1, .int x1)]) hx hb dX1_clearColumn_1 rfl hl (by decide) rfl (fun ls hl => ?_)
  obtain ⟨w7, hu, hf⟩ := kb1_e hf
  refine hL2 x1 v_n v_rank v_exchanges v_width v_scale v_leads F (0 : Int32) v_rows w7 hu (fun H locs ls hP hD hS hl => ?_) _ _ _ hP hD hS (lv_sub hl [1, 2, 0] rfl)
  refine lv_aload_n hx hb dX1_clearColumn_30 rfl (lv_at hl 0 rfl) ?_
  refine lv_aload_n hx hb dX1_clearColumn_31 rfl (lv_at hl 0 rfl) ?_
  refine va_get (D := D) (ci := 1) (v := .ref q_rows) (C := RX1) (T := TX1) (N := 7) hx hb hts kinX1 hown hK hP 0 rfl rfl 3 (by decide) (hts _ kw150) (u_same (hts _ kw151)) rfl dX1_clearColumn_32 ?_
  refine lv_aload_n hx hb dX1_clearColumn_35 rfl (lv_at hl 0 rfl) ?_
  refine va_get (D := D) (ci := 1) (v := .int v_rank) (C := RX1) (T := TX1) (N := 7) hx hb hts kinX1 hown hK hP 0 rfl rfl 1 (by decide) (hts _ kw142) (u_same (hts _ kw143)) rfl dX1_clearColumn_36 ?_
  obtain ⟨c8, hf⟩ := kc_e hf
  refine k_gld hx hb hK hP 1 rfl c8 dX1_clearColumn_39 ?_
  refine lv_iload_n hx hb dX1_clearColumn_40 rfl (lv_at hl 1 rfl) ?_
  obtain ⟨c9, hf⟩ := kc_e hf
  refine k_rld hx hb hK hP 2 (fun k hk => (co_4 (P := fun k => ([(q, .inr (1, [.int v_n, .int v_rank, .int v_exchanges, .ref q_rows, .int v_width, .long v_scale, .ref q_leads])), (q_rows, .inl (cQ, 4, .inr (.inr (.inr (.inr (kg q_rows_r)))))), (q_rows_r 0, .inl (cJ, 5, .inr (.inl (w7 0)))), (q_rows_r 1, .inl (cJ, 5, .inr (.inl (w7 1)))), (q_rows_r 2, .inl (cJ, 5, .inr (.inl (w7 2)))), (q_rows_r 3, .inl (cJ, 5, .inr (.inl (w7 3)))), (q_leads, .inl (cI, 4, .inl v_leads))] : va_W)[2 + k]? = some (q_rows_r k, .inl (cJ, 5, .inr (.inl (w7 k))))) rfl rfl rfl rfl) hk) (kin_nat c8) c9 dX1_clearColumn_41 ?_
  refine lv_topl (fun t10 et10 => ?_)
  have hf := kl_e hf t10 et10
  refine va_put (D := D) (ci := 1) (v := .long t10) (ty := .long) (C := RX1) (T := TX1) (N := 7) hx hb hts kinX1 tyX1 tyX1_ok nmX1 hown hK hP hD hS 0 rfl rfl 5 (by decide) (hts _ kw132) (fun _ h9 => h9) rfl (by decide +kernel) rfl rfl (Nat.le_of_ble_eq_true rfl) dX1_clearColumn_42 (fun H locs hP hD hS => ?_)
  have hP : va_P D vwCl [(q, .inr (1, [.int v_n, .int v_rank, .int v_exchanges, .ref q_rows, .int v_width, .long t10, .ref q_leads])), (q_rows, .inl (cQ, 4, .inr (.inr (.inr (.inr (kg q_rows_r)))))), (q_rows_r 0, .inl (cJ, 5, .inr (.inl (w7 0)))), (q_rows_r 1, .inl (cJ, 5, .inr (.inl (w7 1)))), (q_rows_r 2, .inl (cJ, 5, .inr (.inl (w7 2)))), (q_rows_r 3, .inl (cJ, 5, .inr (.inl (w7 3)))), (q_leads, .inl (cI, 4, .inl v_leads))] H := hP
  have hD : va_D A [(q, .inr (1, [.int v_n, .int v_rank, .int v_exchanges, .ref q_rows, .int v_width, .long t10, .ref q_leads])), (q_rows, .inl (cQ, 4, .inr (.inr (.inr (.inr (kg q_rows_r)))))), (q_rows_r 0, .inl (cJ, 5, .inr (.inl (w7 0)))), (q_rows_r 1, .inl (cJ, 5, .inr (.inl (w7 1)))), (q_rows_r 2, .inl (cJ, 5, .inr (.inl (w7 2)))), (q_rows_r 3, .inl (cJ, 5, .inr (.inl (w7 3)))), (q_leads, .inl (cI, 4, .inl v_leads))] := hD
  refine lv_aload_n hx hb dX1_clearColumn_45 rfl (lv_at hl 0 rfl) ?_
  refine va_get (D := D) (ci := 1) (v := .ref q_leads) (C := RX1) (T := TX1) (N := 7) hx hb hts kinX1 hown hK hP 0 rfl rfl 6 (by decide) (hts _ kw133) (fun _ h9 => h9) rfl dX1_clearColumn_46 ?_
  refine lv_aload_n hx hb dX1_clearColumn_49 rfl (lv_at hl 0 rfl) ?_
  refine va_get (D := D) (ci := 1) (v := .int v_rank) (C := RX1) (T := TX1) (N := 7) hx hb hts kinX1 hown hK hP 0 rfl rfl 1 (by decide) (hts _ kw142) (u_same (hts _ kw143)) rfl dX1_clearColumn_50 ?_
  refine lv_iload_n hx hb dX1_clearColumn_53 rfl (lv_at hl 1 rfl) ?_
  obtain ⟨c11, hf⟩ := kc_e hf
  refine va_iast hx hb hK hP hD hS 6 0 rfl rfl (kin_e c11) dX1_clearColumn_54 (fun H locs hP hD hS => ?_)
  generalize ew12 : (upd v_leads v_rank.toNatClampNeg x1) = w12 at hP hD
  have hf := kl_e hf w12 ew12.symm
  have hP : va_P D vwCl [(q, .inr (1, [.int v_n, .int v_rank, .int v_exchanges, .ref q_rows, .int v_width, .long t10, .ref q_leads])), (q_rows, .inl (cQ, 4, .inr (.inr (.inr (.inr (kg q_rows_r)))))), (q_rows_r 0, .inl (cJ, 5, .inr (.inl (w7 0)))), (q_rows_r 1, .inl (cJ, 5, .inr (.inl (w7 1)))), (q_rows_r 2, .inl (cJ, 5, .inr (.inl (w7 2)))), (q_rows_r 3, .inl (cJ, 5, .inr (.inl (w7 3)))), (q_leads, .inl (cI, 4, .inl w12))] H := hP
  have hD : va_D A [(q, .inr (1, [.int v_n, .int v_rank, .int v_exchanges, .ref q_rows, .int v_width, .long t10, .ref q_leads])), (q_rows, .inl (cQ, 4, .inr (.inr (.inr (.inr (kg q_rows_r)))))), (q_rows_r 0, .inl (cJ, 5, .inr (.inl (w7 0)))), (q_rows_r 1, .inl (cJ, 5, .inr (.inl (w7 1)))), (q_rows_r 2, .inl (cJ, 5, .inr (.inl (w7 2)))), (q_rows_r 3, .inl (cJ, 5, .inr (.inl (w7 3)))), (q_leads, .inl (cI, 4, .inl w12))] := hD
  obtain ⟨rfl, rfl, rfl⟩ := ki3 hf
  rw [hQ]
  exact k_vret hat hP hS dX1_clearColumn_55
set_option maxHeartbeats 4000000 in
set_option maxRecDepth 100000 in
theorem c_X9_clearColumns_C {l : Launch} {D : va_G} {cI cJ cQ : ClassId} {tp : Nat} (q : Nat) (q_rows : Nat) (q_leads : Nat) (q_rows_r : Nat → Nat) (v_n : Int32) (v_rank : Int32) (v_exchanges : Int32) (v_width : Int32) (v_scale : Int64) (v_rows : (Nat → Nat → Int64)) (v_leads : (Nat → Int32)) (F : Nat) (o_v_rank : Int32) (o_v_exchanges : Int32) (o_v_scale : Int64) (o_v_rows : (Nat → Nat → Int64)) (o_v_leads : (Nat → Int32)) (hf : f_X9_clearColumns_C F v_n v_rank v_exchanges v_width v_scale v_rows v_leads = some (o_v_rank, o_v_exchanges, o_v_scale, o_v_rows, o_v_leads)) : kM (fun A => kQv D A [(q, .inr (1, [.int v_n, .int o_v_rank, .int o_v_exchanges, .ref q_rows, .int v_width, .long o_v_scale, .ref q_leads])), (q_rows, .inl (cQ, 4, .inr (.inr (.inr (.inr (kg q_rows_r)))))), (q_rows_r 0, .inl (cJ, 5, .inr (.inl (o_v_rows 0)))), (q_rows_r 1, .inl (cJ, 5, .inr (.inl (o_v_rows 1)))), (q_rows_r 2, .inl (cJ, 5, .inr (.inl (o_v_rows 2)))), (q_rows_r 3, .inl (cJ, 5, .inr (.inl (o_v_rows 3)))), (q_leads, .inl (cI, 4, .inl o_v_leads))]) none l yX9_clearColumns cX9_clearColumns 2 { frames := 3, cells := 0, slots := 0, locals := 72 } D cI cJ cQ tp [.ref q] [(q, .inr (1, [.int v_n, .int v_rank, .int v_exchanges, .ref q_rows, .int v_width, .long v_scale, .ref q_leads])), (q_rows, .inl (cQ, 4, .inr (.inr (.inr (.inr (kg q_rows_r)))))), (q_rows_r 0, .inl (cJ, 5, .inr (.inl (v_rows 0)))), (q_rows_r 1, .inl (cJ, 5, .inr (.inl (v_rows 1)))), (q_rows_r 2, .inl (cJ, 5, .inr (.inl (v_rows 2)))), (q_rows_r 3, .inl (cJ, 5, .inr (.inl (v_rows 3)))), (q_leads, .inl (cI, 4, .inl v_leads))] := by
  refine kM_of (by decide +kernel) (Nat.le_of_ble_eq_true rfl) ?_
  intro p e s m args below meth c A ls R Q hR hQ hat hP hD hS hl
  obtain ⟨hx, hb, hr, hml, hown, hts, hT, hlk, hK, hA, hZ⟩ := id hat
  have hown : s.vm.findClass RX9 = some m.cls := hown
  have hl : lv_has ls 2 [(0, .ref q)] := hl
  have hL12 : ∀ (v_n : Int32) (v_width : Int32) (fu : Nat) (x1 : Int32) (v_rank : Int32) (v_exchanges : Int32) (v_scale : Int64) (v_rows : (Nat → Nat → Int64)) (v_leads : (Nat → Int32)) (o0 : Int32) (o1 : Int32) (o2 : Int64) (o3 : (Nat → Nat → Int64)) (o4 : (Nat → Int32)), L_X9_clearColumns_C_12 F v_n v_width fu x1 v_rank v_exchanges v_scale v_rows v_leads = some (o0, o1, o2, o3, o4) → (∀ (H : Heap) (locs : List Loc) (ls : Array Slot), va_P D vwCl [(q, .inr (1, [.int v_n, .int o0, .int o1, .ref q_rows, .int v_width, .long o2, .ref q_leads])), (q_rows, .inl (cQ, 4, .inr (.inr (.inr (.inr (kg q_rows_r)))))), (q_rows_r 0, .inl (cJ, 5, .inr (.inl (o3 0)))), (q_rows_r 1, .inl (cJ, 5, .inr (.inl (o3 1)))), (q_rows_r 2, .inl (cJ, 5, .inr (.inl (o3 2)))), (q_rows_r 3, .inl (cJ, 5, .inr (.inl (o3 3)))), (q_leads, .inl (cI, 4, .inl o4))] H → va_D A [(q, .inr (1, [.int v_n, .int o0, .int o1, .ref q_rows, .int v_width, .long o2, .ref q_leads])), (q_rows, .inl (cQ, 4, .inr (.inr (.inr (.inr (kg q_rows_r)))))), (q_rows_r 0, .inl (cJ, 5, .inr (.inl (o3 0)))), (q_rows_r 1, .inl (cJ, 5, .inr (.inl (o3 1)))), (q_rows_r 2, .inl (cJ, 5, .inr (.inl (o3 2)))), (q_rows_r 3, .inl (cJ, 5, .inr (.inl (o3 3)))), (q_leads, .inl (cI, 4, .inl o4))] → va_S A s.heap H locs → lv_has ls 2 [] → W p l e R s m args below meth c H locs 0 0 Q (F0 m 49 ls [])) → ∀ (H : Heap) (locs : List Loc) (ls : Array Slot), va_P D vwCl [(q, .inr (1, [.int v_n, .int v_rank, .int v_exchanges, .ref q_rows, .int v_width, .long v_scale, .ref q_leads])), (q_rows, .inl (cQ, 4, .inr (.inr (.inr (.inr (kg q_rows_r)))))), (q_rows_r 0, .inl (cJ, 5, .inr (.inl (v_rows 0)))), (q_rows_r 1, .inl (cJ, 5, .inr (.inl (v_rows 1)))), (q_rows_r 2, .inl (cJ, 5, .inr (.inl (v_rows 2)))), (q_rows_r 3, .inl (cJ, 5, .inr (.inl (v_rows 3)))), (q_leads, .inl (cI, 4, .inl v_leads))] H → va_D A [(q, .inr (1, [.int v_n, .int v_rank, .int v_exchanges, .ref q_rows, .int v_width, .long v_scale, .ref q_leads])), (q_rows, .inl (cQ, 4, .inr (.inr (.inr (.inr (kg q_rows_r)))))), (q_rows_r 0, .inl (cJ, 5, .inr (.inl (v_rows 0)))), (q_rows_r 1, .inl (cJ, 5, .inr (.inl (v_rows 1)))), (q_rows_r 2, .inl (cJ, 5, .inr (.inl (v_rows 2)))), (q_rows_r 3, .inl (cJ, 5, .inr (.inl (v_rows 3)))), (q_leads, .inl (cI, 4, .inl v_leads))] → va_S A s.heap H locs → lv_has ls 2 [(0, .ref q), (1, .int x1)] → W p l e R s m args below meth c H locs 0 0 Q (F0 m 12 ls []) := by
    intro v_n v_width fu
    induction fu with
    | zero =>
      intro x1 v_rank v_exchanges v_scale v_rows v_leads o0 o1 o2 o3 o4 hf
      cases hf
    | succ fu ih =>
      intro x1 v_rank v_exchanges v_scale v_rows v_leads o0 o1 o2 o3 o4 hf hk0 H locs ls hP hD hS hl
      rw [L_X9_clearColumns_C_12] at hf
      refine lv_iload_n hx hb dX9_clearColumns_12 rfl (lv_at hl 1 rfl) ?_
      refine lv_aload_n hx hb dX9_clearColumns_13 rfl (lv_at hl 0 rfl) ?_
      refine va_get (D := D) (ci := 1) (v := .int v_n) (C := RX1) (T := TX1) (N := 7) hx hb hts kinX1 hown hK hP 0 rfl rfl 0 (by decide) (hts _ kw138) (fun _ h9 => h9) rfl dX9_clearColumns_14 ?_
      refine lv_icmp_ge (tgt := 49) hx hb dX9_clearColumns_17 (by decide) (fun c1 => ?_) (fun c1 => ?_)
      · have hf := kp_e hf c1
        obtain ⟨rfl, rfl, rfl, rfl, rfl⟩ := ki5 hf
        exact hk0 _ _ _ hP hD hS (lv_sub hl [] rfl)
      · have hf := kn_e hf c1
        refine lv_aload_n hx hb dX9_clearColumns_20 rfl (lv_at hl 0 rfl) ?_
        refine lv_iload_n hx hb dX9_clearColumns_21 rfl (lv_at hl 1 rfl) ?_
        obtain ⟨r2, w3, w4, h5, hf⟩ := kb3_e hf
        refine k_gi (nW := 7) (ws' := [(q, .inr (1, [.int v_n, .int v_rank, .int w3, .ref q_rows, .int v_width, .long v_scale, .ref q_leads])), (q_rows, .inl (cQ, 4, .inr (.inr (.inr (.inr (kg q_rows_r)))))), (q_rows_r 0, .inl (cJ, 5, .inr (.inl (w4 0)))), (q_rows_r 1, .inl (cJ, 5, .inr (.inl (w4 1)))), (q_rows_r 2, .inl (cJ, 5, .inr (.inl (w4 2)))), (q_rows_r 3, .inl (cJ, 5, .inr (.inl (w4 3)))), (q_leads, .inl (cI, 4, .inl v_leads))]) (wr := [(q_leads, .inl (cI, 4, .inl v_leads))]) (k_runU (rest := []) hat hP hD hS hl.1 (c_X9_raise_C q q_rows q_leads q_rows_r v_n v_rank v_exchanges v_width v_scale v_rows F x1 r2 w3 w4 h5) [0, 1, 2, 3, 4, 5] (by decide) rfl (cu_X9_clearColumns_X9_raise_X1 hat (by rw [hR]; exact ⟨Nat.le_of_ble_eq_true rfl, Nat.le_of_ble_eq_true rfl⟩)) ⟨Nat.zero_le _, Nat.zero_le _⟩ 0 1 rfl rfl rfl rfl (Nat.le_of_ble_eq_true rfl) dX9_clearColumns_22) hat hP hD hS [0, 1, 2, 3, 4, 5] rfl [6] rfl rfl rfl rfl rfl (by decide) (fun H locs hP hD hS => ?_)
        refine lv_if_eq (tgt := 43) hx hb dX9_clearColumns_25 (by decide) (fun c6 => ?_) (fun c6 => ?_)
        · have hf := kp_e hf c6
          obtain ⟨t7, et7⟩ : ∃ z : Int32, z = (x1 + (1 : Int32)) := ⟨_, rfl⟩
          have hf := kl_e hf t7 et7
          refine lv_iinc (v := t7) (lv' := [(1, .int t7), (0, .ref q)]) hx hb dX9_clearColumns_43 hl (k := 1) rfl (by rw [et7]; rfl) (by decide) rfl (fun ls hl => ?_)
          refine lv_goto (tgt := 12) hx hb dX9_clearColumns_46 (by decide) ?_
          exact ih t7 v_rank w3 v_scale w4 v_leads o0 o1 o2 o3 o4 hf hk0 _ _ _ hP hD hS (lv_sub hl [1, 0] rfl)
        · have hf := kn_e hf c6
          refine lv_aload_n hx hb dX9_clearColumns_28 rfl (lv_at hl 0 rfl) ?_
          refine lv_iload_n hx hb dX9_clearColumns_29 rfl (lv_at hl 1 rfl) ?_
          obtain ⟨w8, w9, w10, h11, hf⟩ := kb3_e hf
          refine k_gv (nW := 7) (ws' := [(q, .inr (1, [.int v_n, .int v_rank, .int w3, .ref q_rows, .int v_width, .long w8, .ref q_leads])), (q_rows, .inl (cQ, 4, .inr (.inr (.inr (.inr (kg q_rows_r)))))), (q_rows_r 0, .inl (cJ, 5, .inr (.inl (w9 0)))), (q_rows_r 1, .inl (cJ, 5, .inr (.inl (w9 1)))), (q_rows_r 2, .inl (cJ, 5, .inr (.inl (w9 2)))), (q_rows_r 3, .inl (cJ, 5, .inr (.inl (w9 3)))), (q_leads, .inl (cI, 4, .inl w10))]) (wr := []) (k_runU (rest := []) hat hP hD hS hl.1 (c_X1_clearColumn q q_rows q_leads q_rows_r v_n v_rank w3 v_width v_scale w4 v_leads F x1 w8 w9 w10 h11) [0, 1, 2, 3, 4, 5, 6] (by decide) rfl (cu_X9_clearColumns_X1_clearColumn_X1 hat (by rw [hR]; exact ⟨Nat.le_of_ble_eq_true rfl, Nat.le_of_ble_eq_true rfl⟩)) ⟨Nat.zero_le _, Nat.zero_le _⟩ 0 1 rfl rfl rfl rfl (Nat.le_of_ble_eq_true rfl) dX9_clearColumns_30) hat hP hD hS [0, 1, 2, 3, 4, 5, 6] rfl [] rfl rfl rfl rfl rfl (by decide) (fun H locs hP hD hS => ?_)
          refine lv_aload_n hx hb dX9_clearColumns_33 rfl (lv_at hl 0 rfl) ?_
          refine lv_dup hx hb dX9_clearColumns_34 rfl ?_
          refine va_get (D := D) (ci := 1) (v := .int v_rank) (C := RX1) (T := TX1) (N := 7) hx hb hts kinX1 hown hK hP 0 rfl rfl 1 (by decide) (hts _ kw139) (fun _ h9 => h9) rfl dX9_clearColumns_35 ?_
          refine lv_iconst (v := 1) hx hb dX9_clearColumns_38 (by decide) ?_
          refine lv_iadd hx hb dX9_clearColumns_39 ?_
          refine lv_topi (fun t12 et12 => ?_)
          have hf := kl_e hf t12 et12
          refine va_put (D := D) (ci := 1) (v := .int t12) (ty := .int) (C := RX1) (T := TX1) (N := 7) hx hb hts kinX1 tyX1 tyX1_ok nmX1 hown hK hP hD hS 0 rfl rfl 1 (by decide) (hts _ kw139) (fun _ h9 => h9) rfl (by decide +kernel) rfl rfl (Nat.le_of_ble_eq_true rfl) dX9_clearColumns_40 (fun H locs hP hD hS => ?_)
          have hP : va_P D vwCl [(q, .inr (1, [.int v_n, .int t12, .int w3, .ref q_rows, .int v_width, .long w8, .ref q_leads])), (q_rows, .inl (cQ, 4, .inr (.inr (.inr (.inr (kg q_rows_r)))))), (q_rows_r 0, .inl (cJ, 5, .inr (.inl (w9 0)))), (q_rows_r 1, .inl (cJ, 5, .inr (.inl (w9 1)))), (q_rows_r 2, .inl (cJ, 5, .inr (.inl (w9 2)))), (q_rows_r 3, .inl (cJ, 5, .inr (.inl (w9 3)))), (q_leads, .inl (cI, 4, .inl w10))] H := hP
          have hD : va_D A [(q, .inr (1, [.int v_n, .int t12, .int w3, .ref q_rows, .int v_width, .long w8, .ref q_leads])), (q_rows, .inl (cQ, 4, .inr (.inr (.inr (.inr (kg q_rows_r)))))), (q_rows_r 0, .inl (cJ, 5, .inr (.inl (w9 0)))), (q_rows_r 1, .inl (cJ, 5, .inr (.inl (w9 1)))), (q_rows_r 2, .inl (cJ, 5, .inr (.inl (w9 2)))), (q_rows_r 3, .inl (cJ, 5, .inr (.inl (w9 3)))), (q_leads, .inl (cI, 4, .inl w10))] := hD
          obtain ⟨t13, et13⟩ : ∃ z : Int32, z = (x1 + (1 : Int32)) := ⟨_, rfl⟩
          have hf := kl_e hf t13 et13
          refine lv_iinc (v := t13) (lv' := [(1, .int t13), (0, .ref q)]) hx hb dX9_clearColumns_43 hl (k := 1) rfl (by rw [et13]; rfl) (by decide) rfl (fun ls hl => ?_)
          refine lv_goto (tgt := 12) hx hb dX9_clearColumns_46 (by decide) ?_
          exact ih t13 t12 w3 w8 w9 w10 o0 o1 o2 o3 o4 hf hk0 _ _ _ hP hD hS (lv_sub hl [1, 0] rfl)
  unfold f_X9_clearColumns_C at hf
  refine lv_aload_n hx hb dX9_clearColumns_0 rfl (lv_at hl 0 rfl) ?_
  refine lv_iconst (v := 0) hx hb dX9_clearColumns_1 (by decide) ?_
  refine va_put (D := D) (ci := 1) (v := .int (0 : Int32)) (ty := .int) (C := RX1) (T := TX1) (N := 7) hx hb hts kinX1 tyX1 tyX1_ok nmX1 hown hK hP hD hS 0 rfl rfl 1 (by decide) (hts _ kw139) (fun _ h9 => h9) rfl (by decide +kernel) rfl rfl (Nat.le_of_ble_eq_true rfl) dX9_clearColumns_2 (fun H locs hP hD hS => ?_)
  have hP : va_P D vwCl [(q, .inr (1, [.int v_n, .int (0 : Int32), .int v_exchanges, .ref q_rows, .int v_width, .long v_scale, .ref q_leads])), (q_rows, .inl (cQ, 4, .inr (.inr (.inr (.inr (kg q_rows_r)))))), (q_rows_r 0, .inl (cJ, 5, .inr (.inl (v_rows 0)))), (q_rows_r 1, .inl (cJ, 5, .inr (.inl (v_rows 1)))), (q_rows_r 2, .inl (cJ, 5, .inr (.inl (v_rows 2)))), (q_rows_r 3, .inl (cJ, 5, .inr (.inl (v_rows 3)))), (q_leads, .inl (cI, 4, .inl v_leads))] H := hP
  have hD : va_D A [(q, .inr (1, [.int v_n, .int (0 : Int32), .int v_exchanges, .ref q_rows, .int v_width, .long v_scale, .ref q_leads])), (q_rows, .inl (cQ, 4, .inr (.inr (.inr (.inr (kg q_rows_r)))))), (q_rows_r 0, .inl (cJ, 5, .inr (.inl (v_rows 0)))), (q_rows_r 1, .inl (cJ, 5, .inr (.inl (v_rows 1)))), (q_rows_r 2, .inl (cJ, 5, .inr (.inl (v_rows 2)))), (q_rows_r 3, .inl (cJ, 5, .inr (.inl (v_rows 3)))), (q_leads, .inl (cI, 4, .inl v_leads))] := hD
  refine lv_aload_n hx hb dX9_clearColumns_5 rfl (lv_at hl 0 rfl) ?_
  refine lv_iconst (v := 0) hx hb dX9_clearColumns_6 (by decide) ?_
  refine va_put (D := D) (ci := 1) (v := .int (0 : Int32)) (ty := .int) (C := RX1) (T := TX1) (N := 7) hx hb hts kinX1 tyX1 tyX1_ok nmX1 hown hK hP hD hS 0 rfl rfl 2 (by decide) (hts _ kw146) (fun _ h9 => h9) rfl (by decide +kernel) rfl rfl (Nat.le_of_ble_eq_true rfl) dX9_clearColumns_7 (fun H locs hP hD hS => ?_)
  have hP : va_P D vwCl [(q, .inr (1, [.int v_n, .int (0 : Int32), .int (0 : Int32), .ref q_rows, .int v_width, .long v_scale, .ref q_leads])), (q_rows, .inl (cQ, 4, .inr (.inr (.inr (.inr (kg q_rows_r)))))), (q_rows_r 0, .inl (cJ, 5, .inr (.inl (v_rows 0)))), (q_rows_r 1, .inl (cJ, 5, .inr (.inl (v_rows 1)))), (q_rows_r 2, .inl (cJ, 5, .inr (.inl (v_rows 2)))), (q_rows_r 3, .inl (cJ, 5, .inr (.inl (v_rows 3)))), (q_leads, .inl (cI, 4, .inl v_leads))] H := hP
  have hD : va_D A [(q, .inr (1, [.int v_n, .int (0 : Int32), .int (0 : Int32), .ref q_rows, .int v_width, .long v_scale, .ref q_leads])), (q_rows, .inl (cQ, 4, .inr (.inr (.inr (.inr (kg q_rows_r)))))), (q_rows_r 0, .inl (cJ, 5, .inr (.inl (v_rows 0)))), (q_rows_r 1, .inl (cJ, 5, .inr (.inl (v_rows 1)))), (q_rows_r 2, .inl (cJ, 5, .inr (.inl (v_rows 2)))), (q_rows_r 3, .inl (cJ, 5, .inr (.inl (v_rows 3)))), (q_leads, .inl (cI, 4, .inl v_leads))] := hD
  refine lv_iconst (v := 0) hx hb dX9_clearColumns_10 (by decide) ?_
  refine lv_istore_n (lv' := [(1, .int (0 : Int32)), (0, .ref q)]) hx hb dX9_clearColumns_11 rfl hl (by decide) rfl (fun ls hl => ?_)
  obtain ⟨w14, w15, w16, w17, w18, hu, hf⟩ := kb5_e hf
  refine hL12 v_n v_width F (0 : Int32) (0 : Int32) (0 : Int32) v_scale v_rows v_leads w14 w15 w16 w17 w18 hu (fun H locs ls hP hD hS hl => ?_) _ _ _ hP hD hS (lv_sub hl [1, 0] rfl)
  obtain ⟨rfl, rfl, rfl, rfl, rfl⟩ := ki5 hf
  rw [hQ]
  exact k_vret hat hP hS dX9_clearColumns_49
set_option maxHeartbeats 4000000 in
set_option maxRecDepth 100000 in
theorem c_X1_clear {l : Launch} {D : va_G} {cI cJ cQ : ClassId} {tp : Nat} (q : Nat) (qa1 : Nat) (q_rows : Nat) (q_leads : Nat) (q_rows_r : Nat → Nat) (qa1_numbers : Nat) (v_n : Int32) (v_rank : Int32) (v_exchanges : Int32) (v_width : Int32) (v_scale : Int64) (v_rows : (Nat → Nat → Int64)) (v_leads : (Nat → Int32)) (va1_n : Int32) (va1_primeNumber : Int32) (va1_numbers : (Nat → Int32)) (F : Nat) (o_v_n : Int32) (o_v_rank : Int32) (o_v_exchanges : Int32) (o_v_scale : Int64) (o_v_rows : (Nat → Nat → Int64)) (o_v_leads : (Nat → Int32)) (hf : f_X1_clear F v_n v_rank v_exchanges v_width v_scale v_rows v_leads va1_n va1_numbers = some (o_v_n, o_v_rank, o_v_exchanges, o_v_scale, o_v_rows, o_v_leads)) : kM (fun A => kQv D A [(q, .inr (1, [.int o_v_n, .int o_v_rank, .int o_v_exchanges, .ref q_rows, .int v_width, .long o_v_scale, .ref q_leads])), (q_rows, .inl (cQ, 4, .inr (.inr (.inr (.inr (kg q_rows_r)))))), (q_rows_r 0, .inl (cJ, 5, .inr (.inl (o_v_rows 0)))), (q_rows_r 1, .inl (cJ, 5, .inr (.inl (o_v_rows 1)))), (q_rows_r 2, .inl (cJ, 5, .inr (.inl (o_v_rows 2)))), (q_rows_r 3, .inl (cJ, 5, .inr (.inl (o_v_rows 3)))), (q_leads, .inl (cI, 4, .inl o_v_leads)), (qa1, .inr (3, [.int va1_n, .int va1_primeNumber, .ref qa1_numbers])), (qa1_numbers, .inl (cI, 20, .inl va1_numbers))]) none l yX1_clear cX1_clear 4 { frames := 4, cells := 0, slots := 0, locals := 93 } D cI cJ cQ tp [.ref q, .ref qa1] [(q, .inr (1, [.int v_n, .int v_rank, .int v_exchanges, .ref q_rows, .int v_width, .long v_scale, .ref q_leads])), (q_rows, .inl (cQ, 4, .inr (.inr (.inr (.inr (kg q_rows_r)))))), (q_rows_r 0, .inl (cJ, 5, .inr (.inl (v_rows 0)))), (q_rows_r 1, .inl (cJ, 5, .inr (.inl (v_rows 1)))), (q_rows_r 2, .inl (cJ, 5, .inr (.inl (v_rows 2)))), (q_rows_r 3, .inl (cJ, 5, .inr (.inl (v_rows 3)))), (q_leads, .inl (cI, 4, .inl v_leads)), (qa1, .inr (3, [.int va1_n, .int va1_primeNumber, .ref qa1_numbers])), (qa1_numbers, .inl (cI, 20, .inl va1_numbers))] := by
  refine kM_of (by decide +kernel) (Nat.le_of_ble_eq_true rfl) ?_
  intro p e s m args below meth c A ls R Q hR hQ hat hP hD hS hl
  obtain ⟨hx, hb, hr, hml, hown, hts, hT, hlk, hK, hA, hZ⟩ := id hat
  have hown : s.vm.findClass RX1 = some m.cls := hown
  have hl : lv_has ls 4 [(0, .ref q), (1, .ref qa1)] := hl
  have hL22 : ∀ (x2 : Int32) (v_n : Int32) (v_rank : Int32) (v_exchanges : Int32) (v_width : Int32) (v_scale : Int64) (v_leads : (Nat → Int32)) (va1_n : Int32) (va1_primeNumber : Int32) (va1_numbers : (Nat → Int32)) (fu : Nat) (x3 : Int32) (v_rows : (Nat → Nat → Int64)) (o0 : (Nat → Nat → Int64)), L_X1_clear_22 x2 va1_numbers fu x3 v_rows = some o0 → (∀ (H : Heap) (locs : List Loc) (ls : Array Slot), va_P D vwCl [(q, .inr (1, [.int v_n, .int v_rank, .int v_exchanges, .ref q_rows, .int v_width, .long v_scale, .ref q_leads])), (q_rows, .inl (cQ, 4, .inr (.inr (.inr (.inr (kg q_rows_r)))))), (q_rows_r 0, .inl (cJ, 5, .inr (.inl (o0 0)))), (q_rows_r 1, .inl (cJ, 5, .inr (.inl (o0 1)))), (q_rows_r 2, .inl (cJ, 5, .inr (.inl (o0 2)))), (q_rows_r 3, .inl (cJ, 5, .inr (.inl (o0 3)))), (q_leads, .inl (cI, 4, .inl v_leads)), (qa1, .inr (3, [.int va1_n, .int va1_primeNumber, .ref qa1_numbers])), (qa1_numbers, .inl (cI, 20, .inl va1_numbers))] H → va_D A [(q, .inr (1, [.int v_n, .int v_rank, .int v_exchanges, .ref q_rows, .int v_width, .long v_scale, .ref q_leads])), (q_rows, .inl (cQ, 4, .inr (.inr (.inr (.inr (kg q_rows_r)))))), (q_rows_r 0, .inl (cJ, 5, .inr (.inl (o0 0)))), (q_rows_r 1, .inl (cJ, 5, .inr (.inl (o0 1)))), (q_rows_r 2, .inl (cJ, 5, .inr (.inl (o0 2)))), (q_rows_r 3, .inl (cJ, 5, .inr (.inl (o0 3)))), (q_leads, .inl (cI, 4, .inl v_leads)), (qa1, .inr (3, [.int va1_n, .int va1_primeNumber, .ref qa1_numbers])), (qa1_numbers, .inl (cI, 20, .inl va1_numbers))] → va_S A s.heap H locs → lv_has ls 4 [(0, .ref q), (1, .ref qa1), (2, .int x2)] → W p l e R s m args below meth c H locs 0 0 Q (F0 m 48 ls [])) → ∀ (H : Heap) (locs : List Loc) (ls : Array Slot), va_P D vwCl [(q, .inr (1, [.int v_n, .int v_rank, .int v_exchanges, .ref q_rows, .int v_width, .long v_scale, .ref q_leads])), (q_rows, .inl (cQ, 4, .inr (.inr (.inr (.inr (kg q_rows_r)))))), (q_rows_r 0, .inl (cJ, 5, .inr (.inl (v_rows 0)))), (q_rows_r 1, .inl (cJ, 5, .inr (.inl (v_rows 1)))), (q_rows_r 2, .inl (cJ, 5, .inr (.inl (v_rows 2)))), (q_rows_r 3, .inl (cJ, 5, .inr (.inl (v_rows 3)))), (q_leads, .inl (cI, 4, .inl v_leads)), (qa1, .inr (3, [.int va1_n, .int va1_primeNumber, .ref qa1_numbers])), (qa1_numbers, .inl (cI, 20, .inl va1_numbers))] H → va_D A [(q, .inr (1, [.int v_n, .int v_rank, .int v_exchanges, .ref q_rows, .int v_width, .long v_scale, .ref q_leads])), (q_rows, .inl (cQ, 4, .inr (.inr (.inr (.inr (kg q_rows_r)))))), (q_rows_r 0, .inl (cJ, 5, .inr (.inl (v_rows 0)))), (q_rows_r 1, .inl (cJ, 5, .inr (.inl (v_rows 1)))), (q_rows_r 2, .inl (cJ, 5, .inr (.inl (v_rows 2)))), (q_rows_r 3, .inl (cJ, 5, .inr (.inl (v_rows 3)))), (q_leads, .inl (cI, 4, .inl v_leads)), (qa1, .inr (3, [.int va1_n, .int va1_primeNumber, .ref qa1_numbers])), (qa1_numbers, .inl (cI, 20, .inl va1_numbers))] → va_S A s.heap H locs → lv_has ls 4 [(0, .ref q), (1, .ref qa1), (2, .int x2), (3, .int x3)] → W p l e R s m args below meth c H locs 0 0 Q (F0 m 22 ls []) := by
    intro x2 v_n v_rank v_exchanges v_width v_scale v_leads va1_n va1_primeNumber va1_numbers fu
    induction fu with
    | zero =>
      intro x3 v_rows o0 hf
      cases hf
    | succ fu ih =>
      intro x3 v_rows o0 hf hk0 H locs ls hP hD hS hl
      rw [L_X1_clear_22] at hf
      refine lv_iload_n hx hb dX1_clear_22 rfl (lv_at hl 3 rfl) ?_
      refine lv_iconst (v := 5) hx hb dX1_clear_23 (by decide) ?_
      refine lv_icmp_ge (tgt := 48) hx hb dX1_clear_24 (by decide) (fun c2 => ?_) (fun c2 => ?_)
      · have hf := kp_e hf c2
        obtain rfl := ki1 hf
        exact hk0 _ _ _ hP hD hS (lv_sub hl [0, 1, 2] rfl)
      · have hf := kn_e hf c2
        refine lv_aload_n hx hb dX1_clear_27 rfl (lv_at hl 0 rfl) ?_
        refine va_get (D := D) (ci := 1) (v := .ref q_rows) (C := RX1) (T := TX1) (N := 7) hx hb hts kinX1 hown hK hP 0 rfl rfl 3 (by decide) (hts _ kw150) (u_same (hts _ kw151)) rfl dX1_clear_28 ?_
        refine lv_iload_n hx hb dX1_clear_31 rfl (lv_at hl 2 rfl) ?_
        obtain ⟨c3, hf⟩ := kc_e hf
        refine k_gld hx hb hK hP 1 rfl c3 dX1_clear_32 ?_
        refine lv_iload_n hx hb dX1_clear_33 rfl (lv_at hl 3 rfl) ?_
        refine lv_aload_n hx hb dX1_clear_34 rfl (lv_at hl 1 rfl) ?_
        refine lv_iload_n hx hb dX1_clear_35 rfl (lv_at hl 2 rfl) ?_
        refine lv_iload_n hx hb dX1_clear_36 rfl (lv_at hl 3 rfl) ?_
        obtain ⟨r4, h5, hf⟩ := kb1_e hf
        refine k_gi (nW := 9) (ws' := [(q, .inr (1, [.int v_n, .int v_rank, .int v_exchanges, .ref q_rows, .int v_width, .long v_scale, .ref q_leads])), (q_rows, .inl (cQ, 4, .inr (.inr (.inr (.inr (kg q_rows_r)))))), (q_rows_r 0, .inl (cJ, 5, .inr (.inl (v_rows 0)))), (q_rows_r 1, .inl (cJ, 5, .inr (.inl (v_rows 1)))), (q_rows_r 2, .inl (cJ, 5, .inr (.inl (v_rows 2)))), (q_rows_r 3, .inl (cJ, 5, .inr (.inl (v_rows 3)))), (q_leads, .inl (cI, 4, .inl v_leads)), (qa1, .inr (3, [.int va1_n, .int va1_primeNumber, .ref qa1_numbers])), (qa1_numbers, .inl (cI, 20, .inl va1_numbers))]) (wr := [(q, .inr (1, [.int v_n, .int v_rank, .int v_exchanges, .ref q_rows, .int v_width, .long v_scale, .ref q_leads])), (q_rows, .inl (cQ, 4, .inr (.inr (.inr (.inr (kg q_rows_r)))))), (q_rows_r 0, .inl (cJ, 5, .inr (.inl (v_rows 0)))), (q_rows_r 1, .inl (cJ, 5, .inr (.inl (v_rows 1)))), (q_rows_r 2, .inl (cJ, 5, .inr (.inl (v_rows 2)))), (q_rows_r 3, .inl (cJ, 5, .inr (.inl (v_rows 3)))), (q_leads, .inl (cI, 4, .inl v_leads))]) (k_runV (rest := [.int x3, .ref (q_rows_r x2.toNatClampNeg)]) hat hP hD hS hl.1 (c_X3_number qa1 qa1_numbers va1_n va1_primeNumber va1_numbers x2 x3 r4 h5) [7, 8] (by decide) rfl kw379 kw380 kw381 kw68 kw382 kdVX3_number ⟨rfl, rfl⟩ (by rw [hR]; exact ⟨Nat.le_of_ble_eq_true rfl, Nat.le_of_ble_eq_true rfl⟩) ⟨Nat.zero_le _, Nat.zero_le _⟩ 7 3 rfl rfl rfl rfl (Nat.le_of_ble_eq_true rfl) dX1_clear_37) hat hP hD hS [7, 8] rfl [0, 1, 2, 3, 4, 5, 6] rfl rfl rfl rfl rfl (by decide) (fun H locs hP hD hS => ?_)
        refine lv_i2l hx hb dX1_clear_40 rfl ?_
        obtain ⟨c6, hf⟩ := kc_e hf
        refine k_rst (ws' := fun M9 => [(q, .inr (1, [.int v_n, .int v_rank, .int v_exchanges, .ref q_rows, .int v_width, .long v_scale, .ref q_leads])), (q_rows, .inl (cQ, 4, .inr (.inr (.inr (.inr (kg q_rows_r)))))), (q_rows_r 0, .inl (cJ, 5, .inr (.inl (M9 0)))), (q_rows_r 1, .inl (cJ, 5, .inr (.inl (M9 1)))), (q_rows_r 2, .inl (cJ, 5, .inr (.inl (M9 2)))), (q_rows_r 3, .inl (cJ, 5, .inr (.inl (M9 3)))), (q_leads, .inl (cI, 4, .inl v_leads)), (qa1, .inr (3, [.int va1_n, .int va1_primeNumber, .ref qa1_numbers])), (qa1_numbers, .inl (cI, 20, .inl va1_numbers))]) hx hb hK hP hD hS 2 (fun k hk => (co_4 (P := fun k => ([(q, .inr (1, [.int v_n, .int v_rank, .int v_exchanges, .ref q_rows, .int v_width, .long v_scale, .ref q_leads])), (q_rows, .inl (cQ, 4, .inr (.inr (.inr (.inr (kg q_rows_r)))))), (q_rows_r 0, .inl (cJ, 5, .inr (.inl (v_rows 0)))), (q_rows_r 1, .inl (cJ, 5, .inr (.inl (v_rows 1)))), (q_rows_r 2, .inl (cJ, 5, .inr (.inl (v_rows 2)))), (q_rows_r 3, .inl (cJ, 5, .inr (.inl (v_rows 3)))), (q_leads, .inl (cI, 4, .inl v_leads)), (qa1, .inr (3, [.int va1_n, .int va1_primeNumber, .ref qa1_numbers])), (qa1_numbers, .inl (cI, 20, .inl va1_numbers))] : va_W)[2 + k]? = some (q_rows_r k, .inl (cJ, 5, .inr (.inl (v_rows k))))) rfl rfl rfl rfl) hk) (fun k hk => (co_4 (P := fun k => ∀ f : Nat → Int64, ([(q, .inr (1, [.int v_n, .int v_rank, .int v_exchanges, .ref q_rows, .int v_width, .long v_scale, .ref q_leads])), (q_rows, .inl (cQ, 4, .inr (.inr (.inr (.inr (kg q_rows_r)))))), (q_rows_r 0, .inl (cJ, 5, .inr (.inl (v_rows 0)))), (q_rows_r 1, .inl (cJ, 5, .inr (.inl (v_rows 1)))), (q_rows_r 2, .inl (cJ, 5, .inr (.inl (v_rows 2)))), (q_rows_r 3, .inl (cJ, 5, .inr (.inl (v_rows 3)))), (q_leads, .inl (cI, 4, .inl v_leads)), (qa1, .inr (3, [.int va1_n, .int va1_primeNumber, .ref qa1_numbers])), (qa1_numbers, .inl (cI, 20, .inl va1_numbers))] : va_W).set (2 + k) (q_rows_r k, .inl (cJ, 5, .inr (.inl f))) = (fun M9 : Nat → Nat → Int64 => ([(q, .inr (1, [.int v_n, .int v_rank, .int v_exchanges, .ref q_rows, .int v_width, .long v_scale, .ref q_leads])), (q_rows, .inl (cQ, 4, .inr (.inr (.inr (.inr (kg q_rows_r)))))), (q_rows_r 0, .inl (cJ, 5, .inr (.inl (M9 0)))), (q_rows_r 1, .inl (cJ, 5, .inr (.inl (M9 1)))), (q_rows_r 2, .inl (cJ, 5, .inr (.inl (M9 2)))), (q_rows_r 3, .inl (cJ, 5, .inr (.inl (M9 3)))), (q_leads, .inl (cI, 4, .inl v_leads)), (qa1, .inr (3, [.int va1_n, .int va1_primeNumber, .ref qa1_numbers])), (qa1_numbers, .inl (cI, 20, .inl va1_numbers))] : va_W)) (ku v_rows k f)) (fun _ => rfl) (fun _ => rfl) (fun _ => rfl) (fun _ => rfl)) hk) (kin_nat c3) c6 dX1_clear_41 (fun H locs hP hD hS => ?_)
        generalize ew7 : (ku v_rows (x2.toNatClampNeg) (vp_updL (v_rows (x2.toNatClampNeg)) x3.toNatClampNeg (r4.toInt64))) = w7 at hP hD
        have hf := kl_e hf w7 ew7.symm
        have hP : va_P D vwCl [(q, .inr (1, [.int v_n, .int v_rank, .int v_exchanges, .ref q_rows, .int v_width, .long v_scale, .ref q_leads])), (q_rows, .inl (cQ, 4, .inr (.inr (.inr (.inr (kg q_rows_r)))))), (q_rows_r 0, .inl (cJ, 5, .inr (.inl (w7 0)))), (q_rows_r 1, .inl (cJ, 5, .inr (.inl (w7 1)))), (q_rows_r 2, .inl (cJ, 5, .inr (.inl (w7 2)))), (q_rows_r 3, .inl (cJ, 5, .inr (.inl (w7 3)))), (q_leads, .inl (cI, 4, .inl v_leads)), (qa1, .inr (3, [.int va1_n, .int va1_primeNumber, .ref qa1_numbers])), (qa1_numbers, .inl (cI, 20, .inl va1_numbers))] H := hP
        have hD : va_D A [(q, .inr (1, [.int v_n, .int v_rank, .int v_exchanges, .ref q_rows, .int v_width, .long v_scale, .ref q_leads])), (q_rows, .inl (cQ, 4, .inr (.inr (.inr (.inr (kg q_rows_r)))))), (q_rows_r 0, .inl (cJ, 5, .inr (.inl (w7 0)))), (q_rows_r 1, .inl (cJ, 5, .inr (.inl (w7 1)))), (q_rows_r 2, .inl (cJ, 5, .inr (.inl (w7 2)))), (q_rows_r 3, .inl (cJ, 5, .inr (.inl (w7 3)))), (q_leads, .inl (cI, 4, .inl v_leads)), (qa1, .inr (3, [.int va1_n, .int va1_primeNumber, .ref qa1_numbers])), (qa1_numbers, .inl (cI, 20, .inl va1_numbers))] := hD
        obtain ⟨t8, et8⟩ : ∃ z : Int32, z = (x3 + (1 : Int32)) := ⟨_, rfl⟩
        have hf := kl_e hf t8 et8
        refine lv_iinc (v := t8) (lv' := [(3, .int t8), (0, .ref q), (1, .ref qa1), (2, .int x2)]) hx hb dX1_clear_42 hl (k := 3) rfl (by rw [et8]; rfl) (by decide) rfl (fun ls hl => ?_)
        refine lv_goto (tgt := 22) hx hb dX1_clear_45 (by decide) ?_
        exact ih t8 w7 o0 hf hk0 _ _ _ hP hD hS (lv_sub hl [1, 2, 3, 0] rfl)
  have hL15 : ∀ (v_n : Int32) (v_rank : Int32) (v_exchanges : Int32) (v_width : Int32) (v_scale : Int64) (v_leads : (Nat → Int32)) (va1_n : Int32) (va1_primeNumber : Int32) (va1_numbers : (Nat → Int32)) (fu : Nat) (x2 : Int32) (v_rows : (Nat → Nat → Int64)) (o0 : (Nat → Nat → Int64)), L_X1_clear_15 F va1_numbers fu x2 v_rows = some o0 → (∀ (H : Heap) (locs : List Loc) (ls : Array Slot), va_P D vwCl [(q, .inr (1, [.int v_n, .int v_rank, .int v_exchanges, .ref q_rows, .int v_width, .long v_scale, .ref q_leads])), (q_rows, .inl (cQ, 4, .inr (.inr (.inr (.inr (kg q_rows_r)))))), (q_rows_r 0, .inl (cJ, 5, .inr (.inl (o0 0)))), (q_rows_r 1, .inl (cJ, 5, .inr (.inl (o0 1)))), (q_rows_r 2, .inl (cJ, 5, .inr (.inl (o0 2)))), (q_rows_r 3, .inl (cJ, 5, .inr (.inl (o0 3)))), (q_leads, .inl (cI, 4, .inl v_leads)), (qa1, .inr (3, [.int va1_n, .int va1_primeNumber, .ref qa1_numbers])), (qa1_numbers, .inl (cI, 20, .inl va1_numbers))] H → va_D A [(q, .inr (1, [.int v_n, .int v_rank, .int v_exchanges, .ref q_rows, .int v_width, .long v_scale, .ref q_leads])), (q_rows, .inl (cQ, 4, .inr (.inr (.inr (.inr (kg q_rows_r)))))), (q_rows_r 0, .inl (cJ, 5, .inr (.inl (o0 0)))), (q_rows_r 1, .inl (cJ, 5, .inr (.inl (o0 1)))), (q_rows_r 2, .inl (cJ, 5, .inr (.inl (o0 2)))), (q_rows_r 3, .inl (cJ, 5, .inr (.inl (o0 3)))), (q_leads, .inl (cI, 4, .inl v_leads)), (qa1, .inr (3, [.int va1_n, .int va1_primeNumber, .ref qa1_numbers])), (qa1_numbers, .inl (cI, 20, .inl va1_numbers))] → va_S A s.heap H locs → lv_has ls 4 [(0, .ref q)] → W p l e R s m args below meth c H locs 0 0 Q (F0 m 54 ls [])) → ∀ (H : Heap) (locs : List Loc) (ls : Array Slot), va_P D vwCl [(q, .inr (1, [.int v_n, .int v_rank, .int v_exchanges, .ref q_rows, .int v_width, .long v_scale, .ref q_leads])), (q_rows, .inl (cQ, 4, .inr (.inr (.inr (.inr (kg q_rows_r)))))), (q_rows_r 0, .inl (cJ, 5, .inr (.inl (v_rows 0)))), (q_rows_r 1, .inl (cJ, 5, .inr (.inl (v_rows 1)))), (q_rows_r 2, .inl (cJ, 5, .inr (.inl (v_rows 2)))), (q_rows_r 3, .inl (cJ, 5, .inr (.inl (v_rows 3)))), (q_leads, .inl (cI, 4, .inl v_leads)), (qa1, .inr (3, [.int va1_n, .int va1_primeNumber, .ref qa1_numbers])), (qa1_numbers, .inl (cI, 20, .inl va1_numbers))] H → va_D A [(q, .inr (1, [.int v_n, .int v_rank, .int v_exchanges, .ref q_rows, .int v_width, .long v_scale, .ref q_leads])), (q_rows, .inl (cQ, 4, .inr (.inr (.inr (.inr (kg q_rows_r)))))), (q_rows_r 0, .inl (cJ, 5, .inr (.inl (v_rows 0)))), (q_rows_r 1, .inl (cJ, 5, .inr (.inl (v_rows 1)))), (q_rows_r 2, .inl (cJ, 5, .inr (.inl (v_rows 2)))), (q_rows_r 3, .inl (cJ, 5, .inr (.inl (v_rows 3)))), (q_leads, .inl (cI, 4, .inl v_leads)), (qa1, .inr (3, [.int va1_n, .int va1_primeNumber, .ref qa1_numbers])), (qa1_numbers, .inl (cI, 20, .inl va1_numbers))] → va_S A s.heap H locs → lv_has ls 4 [(0, .ref q), (1, .ref qa1), (2, .int x2)] → W p l e R s m args below meth c H locs 0 0 Q (F0 m 15 ls []) := by
    intro v_n v_rank v_exchanges v_width v_scale v_leads va1_n va1_primeNumber va1_numbers fu
    induction fu with
    | zero =>
      intro x2 v_rows o0 hf
      cases hf
    | succ fu ih =>
      intro x2 v_rows o0 hf hk0 H locs ls hP hD hS hl
      rw [L_X1_clear_15] at hf
      refine lv_iload_n hx hb dX1_clear_15 rfl (lv_at hl 2 rfl) ?_
      refine lv_iconst (v := 4) hx hb dX1_clear_16 (by decide) ?_
      refine lv_icmp_ge (tgt := 54) hx hb dX1_clear_17 (by decide) (fun c1 => ?_) (fun c1 => ?_)
      · have hf := kp_e hf c1
        obtain rfl := ki1 hf
        exact hk0 _ _ _ hP hD hS (lv_sub hl [0] rfl)
      · have hf := kn_e hf c1
        refine lv_iconst (v := 0) hx hb dX1_clear_20 (by decide) ?_
        refine lv_istore_n (lv' := [(3, .int (0 : Int32)), (0, .ref q), (1, .ref qa1), (2, .int x2)]) hx hb dX1_clear_21 rfl hl (by decide) rfl (fun ls hl => ?_)
        obtain ⟨w9, hu, hf⟩ := kb1_e hf
        refine hL22 x2 v_n v_rank v_exchanges v_width v_scale v_leads va1_n va1_primeNumber va1_numbers F (0 : Int32) v_rows w9 hu (fun H locs ls hP hD hS hl => ?_) _ _ _ hP hD hS (lv_sub hl [1, 2, 3, 0] rfl)
        obtain ⟨t10, et10⟩ : ∃ z : Int32, z = (x2 + (1 : Int32)) := ⟨_, rfl⟩
        have hf := kl_e hf t10 et10
        refine lv_iinc (v := t10) (lv' := [(2, .int t10), (0, .ref q), (1, .ref qa1)]) hx hb dX1_clear_48 hl (k := 2) rfl (by rw [et10]; rfl) (by decide) rfl (fun ls hl => ?_)
        refine lv_goto (tgt := 15) hx hb dX1_clear_51 (by decide) ?_
        exact ih t10 w9 o0 hf hk0 _ _ _ hP hD hS (lv_sub hl [1, 2, 0] rfl)
  unfold f_X1_clear at hf
  refine lv_aload_n hx hb dX1_clear_0 rfl (lv_at hl 0 rfl) ?_
  refine lv_aload_n hx hb dX1_clear_1 rfl (lv_at hl 1 rfl) ?_
  refine va_get (D := D) (ci := 3) (v := .int va1_n) (C := RX3) (T := TX3) (N := 3) hx hb hts kinX3 hown hK hP 7 rfl rfl 0 (by decide) (hts _ kw105) (fun _ h9 => h9) rfl dX1_clear_2 ?_
  refine va_put (D := D) (ci := 1) (v := .int va1_n) (ty := .int) (C := RX1) (T := TX1) (N := 7) hx hb hts kinX1 tyX1 tyX1_ok nmX1 hown hK hP hD hS 0 rfl rfl 0 (by decide) (hts _ kw134) (u_same (hts _ kw135)) rfl (by decide +kernel) rfl rfl (Nat.le_of_ble_eq_true rfl) dX1_clear_5 (fun H locs hP hD hS => ?_)
  have hP : va_P D vwCl [(q, .inr (1, [.int va1_n, .int v_rank, .int v_exchanges, .ref q_rows, .int v_width, .long v_scale, .ref q_leads])), (q_rows, .inl (cQ, 4, .inr (.inr (.inr (.inr (kg q_rows_r)))))), (q_rows_r 0, .inl (cJ, 5, .inr (.inl (v_rows 0)))), (q_rows_r 1, .inl (cJ, 5, .inr (.inl (v_rows 1)))), (q_rows_r 2, .inl (cJ, 5, .inr (.inl (v_rows 2)))), (q_rows_r 3, .inl (cJ, 5, .inr (.inl (v_rows 3)))), (q_leads, .inl (cI, 4, .inl v_leads)), (qa1, .inr (3, [.int va1_n, .int va1_primeNumber, .ref qa1_numbers])), (qa1_numbers, .inl (cI, 20, .inl va1_numbers))] H := hP
  have hD : va_D A [(q, .inr (1, [.int va1_n, .int v_rank, .int v_exchanges, .ref q_rows, .int v_width, .long v_scale, .ref q_leads])), (q_rows, .inl (cQ, 4, .inr (.inr (.inr (.inr (kg q_rows_r)))))), (q_rows_r 0, .inl (cJ, 5, .inr (.inl (v_rows 0)))), (q_rows_r 1, .inl (cJ, 5, .inr (.inl (v_rows 1)))), (q_rows_r 2, .inl (cJ, 5, .inr (.inl (v_rows 2)))), (q_rows_r 3, .inl (cJ, 5, .inr (.inl (v_rows 3)))), (q_leads, .inl (cI, 4, .inl v_leads)), (qa1, .inr (3, [.int va1_n, .int va1_primeNumber, .ref qa1_numbers])), (qa1_numbers, .inl (cI, 20, .inl va1_numbers))] := hD
  refine lv_aload_n hx hb dX1_clear_8 rfl (lv_at hl 0 rfl) ?_
  refine lv_lconst (v := 1) hx hb dX1_clear_9 (by decide) ?_
  refine va_put (D := D) (ci := 1) (v := .long (1 : Int64)) (ty := .long) (C := RX1) (T := TX1) (N := 7) hx hb hts kinX1 tyX1 tyX1_ok nmX1 hown hK hP hD hS 0 rfl rfl 5 (by decide) (hts _ kw132) (fun _ h9 => h9) rfl (by decide +kernel) rfl rfl (Nat.le_of_ble_eq_true rfl) dX1_clear_10 (fun H locs hP hD hS => ?_)
  have hP : va_P D vwCl [(q, .inr (1, [.int va1_n, .int v_rank, .int v_exchanges, .ref q_rows, .int v_width, .long (1 : Int64), .ref q_leads])), (q_rows, .inl (cQ, 4, .inr (.inr (.inr (.inr (kg q_rows_r)))))), (q_rows_r 0, .inl (cJ, 5, .inr (.inl (v_rows 0)))), (q_rows_r 1, .inl (cJ, 5, .inr (.inl (v_rows 1)))), (q_rows_r 2, .inl (cJ, 5, .inr (.inl (v_rows 2)))), (q_rows_r 3, .inl (cJ, 5, .inr (.inl (v_rows 3)))), (q_leads, .inl (cI, 4, .inl v_leads)), (qa1, .inr (3, [.int va1_n, .int va1_primeNumber, .ref qa1_numbers])), (qa1_numbers, .inl (cI, 20, .inl va1_numbers))] H := hP
  have hD : va_D A [(q, .inr (1, [.int va1_n, .int v_rank, .int v_exchanges, .ref q_rows, .int v_width, .long (1 : Int64), .ref q_leads])), (q_rows, .inl (cQ, 4, .inr (.inr (.inr (.inr (kg q_rows_r)))))), (q_rows_r 0, .inl (cJ, 5, .inr (.inl (v_rows 0)))), (q_rows_r 1, .inl (cJ, 5, .inr (.inl (v_rows 1)))), (q_rows_r 2, .inl (cJ, 5, .inr (.inl (v_rows 2)))), (q_rows_r 3, .inl (cJ, 5, .inr (.inl (v_rows 3)))), (q_leads, .inl (cI, 4, .inl v_leads)), (qa1, .inr (3, [.int va1_n, .int va1_primeNumber, .ref qa1_numbers])), (qa1_numbers, .inl (cI, 20, .inl va1_numbers))] := hD
  refine lv_iconst (v := 0) hx hb dX1_clear_13 (by decide) ?_
  refine lv_istore_n (lv' := [(2, .int (0 : Int32)), (0, .ref q), (1, .ref qa1)]) hx hb dX1_clear_14 rfl hl (by decide) rfl (fun ls hl => ?_)
  obtain ⟨w11, hu, hf⟩ := kb1_e hf
  refine hL15 va1_n v_rank v_exchanges v_width (1 : Int64) v_leads va1_n va1_primeNumber va1_numbers F (0 : Int32) v_rows w11 hu (fun H locs ls hP hD hS hl => ?_) _ _ _ hP hD hS (lv_sub hl [1, 2, 0] rfl)
  refine lv_aload_n hx hb dX1_clear_54 rfl (lv_at hl 0 rfl) ?_
  obtain ⟨w12, w13, w14, w15, w16, h17, hf⟩ := kb5_e hf
  refine k_gv (nW := 9) (ws' := [(q, .inr (1, [.int va1_n, .int w12, .int w13, .ref q_rows, .int v_width, .long w14, .ref q_leads])), (q_rows, .inl (cQ, 4, .inr (.inr (.inr (.inr (kg q_rows_r)))))), (q_rows_r 0, .inl (cJ, 5, .inr (.inl (w15 0)))), (q_rows_r 1, .inl (cJ, 5, .inr (.inl (w15 1)))), (q_rows_r 2, .inl (cJ, 5, .inr (.inl (w15 2)))), (q_rows_r 3, .inl (cJ, 5, .inr (.inl (w15 3)))), (q_leads, .inl (cI, 4, .inl w16)), (qa1, .inr (3, [.int va1_n, .int va1_primeNumber, .ref qa1_numbers])), (qa1_numbers, .inl (cI, 20, .inl va1_numbers))]) (wr := [(qa1, .inr (3, [.int va1_n, .int va1_primeNumber, .ref qa1_numbers])), (qa1_numbers, .inl (cI, 20, .inl va1_numbers))]) (k_runU (rest := []) hat hP hD hS hl.1 (c_X9_clearColumns_C q q_rows q_leads q_rows_r va1_n v_rank v_exchanges v_width (1 : Int64) w11 v_leads F w12 w13 w14 w15 w16 h17) [0, 1, 2, 3, 4, 5, 6] (by decide) rfl (cu_X1_clear_X9_clearColumns_X1 hat (by rw [hR]; exact ⟨Nat.le_of_ble_eq_true rfl, Nat.le_of_ble_eq_true rfl⟩)) ⟨Nat.zero_le _, Nat.zero_le _⟩ 0 1 rfl rfl rfl rfl (Nat.le_of_ble_eq_true rfl) dX1_clear_55) hat hP hD hS [0, 1, 2, 3, 4, 5, 6] rfl [7, 8] rfl rfl rfl rfl rfl (by decide) (fun H locs hP hD hS => ?_)
  obtain ⟨rfl, rfl, rfl, rfl, rfl, rfl⟩ := ki6 hf
  rw [hQ]
  exact k_vret hat hP hS dX1_clear_58
set_option maxHeartbeats 4000000 in
set_option maxRecDepth 100000 in
theorem c_X1_determinant {l : Launch} {D : va_G} {cI cJ cQ : ClassId} {tp : Nat} (q : Nat) (q_rows : Nat) (q_leads : Nat) (v_n : Int32) (v_rank : Int32) (v_exchanges : Int32) (v_width : Int32) (v_scale : Int64) (r0 : Int64) (hf : f_X1_determinant v_n v_rank v_exchanges v_scale = some r0) : kM (fun A => kQl D A [(q, .inr (1, [.int v_n, .int v_rank, .int v_exchanges, .ref q_rows, .int v_width, .long v_scale, .ref q_leads]))] r0) (some .long) l yX1_determinant cX1_determinant 1 { frames := 0, cells := 0, slots := 0, locals := 0 } D cI cJ cQ tp [.ref q] [(q, .inr (1, [.int v_n, .int v_rank, .int v_exchanges, .ref q_rows, .int v_width, .long v_scale, .ref q_leads]))] := by
  refine kM_of (by decide +kernel) (Nat.le_of_ble_eq_true rfl) ?_
  intro p e s m args below meth c A ls R Q hR hQ hat hP hD hS hl
  obtain ⟨hx, hb, hr, hml, hown, hts, hT, hlk, hK, hA, hZ⟩ := id hat
  have hown : s.vm.findClass RX1 = some m.cls := hown
  have hl : lv_has ls 1 [(0, .ref q)] := hl
  unfold f_X1_determinant at hf
  refine lv_aload_n hx hb dX1_determinant_0 rfl (lv_at hl 0 rfl) ?_
  refine va_get (D := D) (ci := 1) (v := .int v_rank) (C := RX1) (T := TX1) (N := 7) hx hb hts kinX1 hown hK hP 0 rfl rfl 1 (by decide) (hts _ kw142) (u_same (hts _ kw143)) rfl dX1_determinant_1 ?_
  refine lv_aload_n hx hb dX1_determinant_4 rfl (lv_at hl 0 rfl) ?_
  refine va_get (D := D) (ci := 1) (v := .int v_n) (C := RX1) (T := TX1) (N := 7) hx hb hts kinX1 hown hK hP 0 rfl rfl 0 (by decide) (hts _ kw134) (u_same (hts _ kw135)) rfl dX1_determinant_5 ?_
  refine lv_icmp_ge (tgt := 13) hx hb dX1_determinant_8 (by decide) (fun c1 => ?_) (fun c1 => ?_)
  · have hf := kp_e hf c1
    refine lv_aload_n hx hb dX1_determinant_13 rfl (lv_at hl 0 rfl) ?_
    refine va_get (D := D) (ci := 1) (v := .int v_exchanges) (C := RX1) (T := TX1) (N := 7) hx hb hts kinX1 hown hK hP 0 rfl rfl 2 (by decide) (hts _ kw147) (u_same (hts _ kw148)) rfl dX1_determinant_14 ?_
    refine lv_iconst (v := 2) hx hb dX1_determinant_17 (by decide) ?_
    refine lv_irem hx hb dX1_determinant_18 (by decide) ?_
    refine lv_if_ne (tgt := 29) hx hb dX1_determinant_19 (by decide) (fun c2 => ?_) (fun c2 => ?_)
    · have hf := kn_e hf c2
      refine lv_aload_n hx hb dX1_determinant_29 rfl (lv_at hl 0 rfl) ?_
      refine va_get (D := D) (ci := 1) (v := .long v_scale) (C := RX1) (T := TX1) (N := 7) hx hb hts kinX1 hown hK hP 0 rfl rfl 5 (by decide) (hts _ kw132) (fun _ h9 => h9) rfl dX1_determinant_30 ?_
      refine lv_lneg hx hb dX1_determinant_33 ?_
      obtain rfl := ki1 hf
      rw [hQ]
      exact k_lret hat hP hS rfl dX1_determinant_34
    · have hf := kp_e hf c2
      refine lv_aload_n hx hb dX1_determinant_22 rfl (lv_at hl 0 rfl) ?_
      refine va_get (D := D) (ci := 1) (v := .long v_scale) (C := RX1) (T := TX1) (N := 7) hx hb hts kinX1 hown hK hP 0 rfl rfl 5 (by decide) (hts _ kw132) (fun _ h9 => h9) rfl dX1_determinant_23 ?_
      refine lv_goto (tgt := 34) hx hb dX1_determinant_26 (by decide) ?_
      obtain rfl := ki1 hf
      rw [hQ]
      exact k_lret hat hP hS rfl dX1_determinant_34
  · have hf := kn_e hf c1
    refine lv_lconst (v := 0) hx hb dX1_determinant_11 (by decide) ?_
    obtain rfl := ki1 hf
    rw [hQ]
    exact k_lret hat hP hS rfl dX1_determinant_12
set_option maxHeartbeats 4000000 in
set_option maxRecDepth 100000 in
theorem c_X9_fitsSide_C {l : Launch} {D : va_G} {cI cJ cQ : ClassId} {tp : Nat} (q : Nat) (q_rows : Nat) (q_leads : Nat) (q_rows_r : Nat → Nat) (v_n : Int32) (v_rank : Int32) (v_exchanges : Int32) (v_width : Int32) (v_scale : Int64) (v_rows : (Nat → Nat → Int64)) (F : Nat) (r0 : Int32) (hf : f_X9_fitsSide_C F v_n v_rank v_rows = some r0) : kM (fun A => kQi D A [(q, .inr (1, [.int v_n, .int v_rank, .int v_exchanges, .ref q_rows, .int v_width, .long v_scale, .ref q_leads])), (q_rows, .inl (cQ, 4, .inr (.inr (.inr (.inr (kg q_rows_r)))))), (q_rows_r 0, .inl (cJ, 5, .inr (.inl (v_rows 0)))), (q_rows_r 1, .inl (cJ, 5, .inr (.inl (v_rows 1)))), (q_rows_r 2, .inl (cJ, 5, .inr (.inl (v_rows 2)))), (q_rows_r 3, .inl (cJ, 5, .inr (.inl (v_rows 3))))] r0) (some .boolean) l yX9_fitsSide cX9_fitsSide 2 { frames := 0, cells := 0, slots := 0, locals := 0 } D cI cJ cQ tp [.ref q] [(q, .inr (1, [.int v_n, .int v_rank, .int v_exchanges, .ref q_rows, .int v_width, .long v_scale, .ref q_leads])), (q_rows, .inl (cQ, 4, .inr (.inr (.inr (.inr (kg q_rows_r)))))), (q_rows_r 0, .inl (cJ, 5, .inr (.inl (v_rows 0)))), (q_rows_r 1, .inl (cJ, 5, .inr (.inl (v_rows 1)))), (q_rows_r 2, .inl (cJ, 5, .inr (.inl (v_rows 2)))), (q_rows_r 3, .inl (cJ, 5, .inr (.inl (v_rows 3))))] := by
  refine kM_of (by decide +kernel) (Nat.le_of_ble_eq_true rfl) ?_
  intro p e s m args below meth c A ls R Q hR hQ hat hP hD hS hl
  obtain ⟨hx, hb, hr, hml, hown, hts, hT, hlk, hK, hA, hZ⟩ := id hat
  have hown : s.vm.findClass RX9 = some m.cls := hown
  have hl : lv_has ls 2 [(0, .ref q)] := hl
  have hL5 : ∀ (v_n : Int32) (v_rank : Int32) (v_exchanges : Int32) (v_width : Int32) (v_scale : Int64) (v_rows : (Nat → Nat → Int64)) (fu : Nat) (x1 : Int32) (u : Unit ⊕ Unit), L_X9_fitsSide_C_5 v_n v_rows fu x1 = some u → (u = .inl () → ∀ (H : Heap) (locs : List Loc) (ls : Array Slot), va_P D vwCl [(q, .inr (1, [.int v_n, .int v_rank, .int v_exchanges, .ref q_rows, .int v_width, .long v_scale, .ref q_leads])), (q_rows, .inl (cQ, 4, .inr (.inr (.inr (.inr (kg q_rows_r)))))), (q_rows_r 0, .inl (cJ, 5, .inr (.inl (v_rows 0)))), (q_rows_r 1, .inl (cJ, 5, .inr (.inl (v_rows 1)))), (q_rows_r 2, .inl (cJ, 5, .inr (.inl (v_rows 2)))), (q_rows_r 3, .inl (cJ, 5, .inr (.inl (v_rows 3))))] H → va_D A [(q, .inr (1, [.int v_n, .int v_rank, .int v_exchanges, .ref q_rows, .int v_width, .long v_scale, .ref q_leads])), (q_rows, .inl (cQ, 4, .inr (.inr (.inr (.inr (kg q_rows_r)))))), (q_rows_r 0, .inl (cJ, 5, .inr (.inl (v_rows 0)))), (q_rows_r 1, .inl (cJ, 5, .inr (.inl (v_rows 1)))), (q_rows_r 2, .inl (cJ, 5, .inr (.inl (v_rows 2)))), (q_rows_r 3, .inl (cJ, 5, .inr (.inl (v_rows 3))))] → va_S A s.heap H locs → lv_has ls 2 [] → W p l e R s m args below meth c H locs 0 0 Q (F0 m 26 ls [])) → (u = .inr () → ∀ (H : Heap) (locs : List Loc) (ls : Array Slot), va_P D vwCl [(q, .inr (1, [.int v_n, .int v_rank, .int v_exchanges, .ref q_rows, .int v_width, .long v_scale, .ref q_leads])), (q_rows, .inl (cQ, 4, .inr (.inr (.inr (.inr (kg q_rows_r)))))), (q_rows_r 0, .inl (cJ, 5, .inr (.inl (v_rows 0)))), (q_rows_r 1, .inl (cJ, 5, .inr (.inl (v_rows 1)))), (q_rows_r 2, .inl (cJ, 5, .inr (.inl (v_rows 2)))), (q_rows_r 3, .inl (cJ, 5, .inr (.inl (v_rows 3))))] H → va_D A [(q, .inr (1, [.int v_n, .int v_rank, .int v_exchanges, .ref q_rows, .int v_width, .long v_scale, .ref q_leads])), (q_rows, .inl (cQ, 4, .inr (.inr (.inr (.inr (kg q_rows_r)))))), (q_rows_r 0, .inl (cJ, 5, .inr (.inl (v_rows 0)))), (q_rows_r 1, .inl (cJ, 5, .inr (.inl (v_rows 1)))), (q_rows_r 2, .inl (cJ, 5, .inr (.inl (v_rows 2)))), (q_rows_r 3, .inl (cJ, 5, .inr (.inl (v_rows 3))))] → va_S A s.heap H locs → lv_has ls 2 [] → W p l e R s m args below meth c H locs 0 0 Q (F0 m 34 ls [])) → ∀ (H : Heap) (locs : List Loc) (ls : Array Slot), va_P D vwCl [(q, .inr (1, [.int v_n, .int v_rank, .int v_exchanges, .ref q_rows, .int v_width, .long v_scale, .ref q_leads])), (q_rows, .inl (cQ, 4, .inr (.inr (.inr (.inr (kg q_rows_r)))))), (q_rows_r 0, .inl (cJ, 5, .inr (.inl (v_rows 0)))), (q_rows_r 1, .inl (cJ, 5, .inr (.inl (v_rows 1)))), (q_rows_r 2, .inl (cJ, 5, .inr (.inl (v_rows 2)))), (q_rows_r 3, .inl (cJ, 5, .inr (.inl (v_rows 3))))] H → va_D A [(q, .inr (1, [.int v_n, .int v_rank, .int v_exchanges, .ref q_rows, .int v_width, .long v_scale, .ref q_leads])), (q_rows, .inl (cQ, 4, .inr (.inr (.inr (.inr (kg q_rows_r)))))), (q_rows_r 0, .inl (cJ, 5, .inr (.inl (v_rows 0)))), (q_rows_r 1, .inl (cJ, 5, .inr (.inl (v_rows 1)))), (q_rows_r 2, .inl (cJ, 5, .inr (.inl (v_rows 2)))), (q_rows_r 3, .inl (cJ, 5, .inr (.inl (v_rows 3))))] → va_S A s.heap H locs → lv_has ls 2 [(0, .ref q), (1, .int x1)] → W p l e R s m args below meth c H locs 0 0 Q (F0 m 5 ls []) := by
    intro v_n v_rank v_exchanges v_width v_scale v_rows fu
    induction fu with
    | zero =>
      intro x1 u hf
      cases hf
    | succ fu ih =>
      intro x1 u hf hk0 hk1 H locs ls hP hD hS hl
      rw [L_X9_fitsSide_C_5] at hf
      refine lv_iload_n hx hb dX9_fitsSide_5 rfl (lv_at hl 1 rfl) ?_
      refine lv_aload_n hx hb dX9_fitsSide_6 rfl (lv_at hl 0 rfl) ?_
      refine va_get (D := D) (ci := 1) (v := .int v_n) (C := RX1) (T := TX1) (N := 7) hx hb hts kinX1 hown hK hP 0 rfl rfl 0 (by decide) (hts _ kw138) (fun _ h9 => h9) rfl dX9_fitsSide_7 ?_
      refine lv_icmp_ge (tgt := 34) hx hb dX9_fitsSide_10 (by decide) (fun c1 => ?_) (fun c1 => ?_)
      · have hf := kp_e hf c1
        exact hk1  (Option.some.inj hf).symm _ _ _ hP hD hS (lv_sub hl [] rfl)
      · have hf := kn_e hf c1
        refine lv_aload_n hx hb dX9_fitsSide_13 rfl (lv_at hl 0 rfl) ?_
        refine va_get (D := D) (ci := 1) (v := .ref q_rows) (C := RX1) (T := TX1) (N := 7) hx hb hts kinX1 hown hK hP 0 rfl rfl 3 (by decide) (hts _ kw149) (fun _ h9 => h9) rfl dX9_fitsSide_14 ?_
        refine lv_iload_n hx hb dX9_fitsSide_17 rfl (lv_at hl 1 rfl) ?_
        obtain ⟨c2, hf⟩ := kc_e hf
        refine k_gld hx hb hK hP 1 rfl c2 dX9_fitsSide_18 ?_
        refine lv_iconst (v := 4) hx hb dX9_fitsSide_19 (by decide) ?_
        obtain ⟨c3, hf⟩ := kc_e hf
        refine k_rld hx hb hK hP 2 (fun k hk => (co_4 (P := fun k => ([(q, .inr (1, [.int v_n, .int v_rank, .int v_exchanges, .ref q_rows, .int v_width, .long v_scale, .ref q_leads])), (q_rows, .inl (cQ, 4, .inr (.inr (.inr (.inr (kg q_rows_r)))))), (q_rows_r 0, .inl (cJ, 5, .inr (.inl (v_rows 0)))), (q_rows_r 1, .inl (cJ, 5, .inr (.inl (v_rows 1)))), (q_rows_r 2, .inl (cJ, 5, .inr (.inl (v_rows 2)))), (q_rows_r 3, .inl (cJ, 5, .inr (.inl (v_rows 3))))] : va_W)[2 + k]? = some (q_rows_r k, .inl (cJ, 5, .inr (.inl (v_rows k))))) rfl rfl rfl rfl) hk) (kin_nat c2) c3 dX9_fitsSide_20 ?_
        refine lv_lconst (v := 0) hx hb dX9_fitsSide_21 (by decide) ?_
        refine k_lcmp_eq (tgt := 28) hx hb dX9_fitsSide_22 dX9_fitsSide_23 (by decide) (fun c4 => ?_) (fun c4 => ?_)
        · have hf := kp_e hf c4
          obtain ⟨t5, et5⟩ : ∃ z : Int32, z = (x1 + (1 : Int32)) := ⟨_, rfl⟩
          have hf := kl_e hf t5 et5
          refine lv_iinc (v := t5) (lv' := [(1, .int t5), (0, .ref q)]) hx hb dX9_fitsSide_28 hl (k := 1) rfl (by rw [et5]; rfl) (by decide) rfl (fun ls hl => ?_)
          refine lv_goto (tgt := 5) hx hb dX9_fitsSide_31 (by decide) ?_
          exact ih t5 u hf hk0 hk1 _ _ _ hP hD hS (lv_sub hl [1, 0] rfl)
        · have hf := kn_e hf c4
          exact hk0  (Option.some.inj hf).symm _ _ _ hP hD hS (lv_sub hl [] rfl)
  unfold f_X9_fitsSide_C at hf
  refine lv_aload_n hx hb dX9_fitsSide_0 rfl (lv_at hl 0 rfl) ?_
  refine va_get (D := D) (ci := 1) (v := .int v_rank) (C := RX1) (T := TX1) (N := 7) hx hb hts kinX1 hown hK hP 0 rfl rfl 1 (by decide) (hts _ kw139) (fun _ h9 => h9) rfl dX9_fitsSide_1 ?_
  refine lv_istore_n (lv' := [(1, .int v_rank), (0, .ref q)]) hx hb dX9_fitsSide_4 rfl hl (by decide) rfl (fun ls hl => ?_)
  obtain ⟨u6, hu, hf0, hf1⟩ := ks_e hf
  refine hL5 v_n v_rank v_exchanges v_width v_scale v_rows F v_rank u6 hu (fun hu2 H locs ls hP hD hS hl => ?_) (fun hu2 H locs ls hP hD hS hl => ?_) _ _ _ hP hD hS (lv_sub hl [1, 0] rfl)
  · have hf := hf0 _ hu2
    refine lv_iconst (v := 0) hx hb dX9_fitsSide_26 (by decide) ?_
    obtain rfl := ki1 hf
    rw [hQ]
    exact k_zret hat hP hS rfl (by decide) dX9_fitsSide_27
  · have hf := hf1 _ hu2
    refine lv_iconst (v := 1) hx hb dX9_fitsSide_34 (by decide) ?_
    obtain rfl := ki1 hf
    rw [hQ]
    exact k_zret hat hP hS rfl (by decide) dX9_fitsSide_35
set_option maxHeartbeats 4000000 in
set_option maxRecDepth 100000 in
theorem c_X1_wideRank {l : Launch} {D : va_G} {cI cJ cQ : ClassId} {tp : Nat} (q : Nat) (q_rows : Nat) (q_leads : Nat) (q_rows_r : Nat → Nat) (v_n : Int32) (v_rank : Int32) (v_exchanges : Int32) (v_width : Int32) (v_scale : Int64) (v_rows : (Nat → Nat → Int64)) (F : Nat) (r0 : Int32) (hf : f_X1_wideRank F v_n v_rank v_rows = some r0) : kM (fun A => kQi D A [(q, .inr (1, [.int v_n, .int v_rank, .int v_exchanges, .ref q_rows, .int v_width, .long v_scale, .ref q_leads])), (q_rows, .inl (cQ, 4, .inr (.inr (.inr (.inr (kg q_rows_r)))))), (q_rows_r 0, .inl (cJ, 5, .inr (.inl (v_rows 0)))), (q_rows_r 1, .inl (cJ, 5, .inr (.inl (v_rows 1)))), (q_rows_r 2, .inl (cJ, 5, .inr (.inl (v_rows 2)))), (q_rows_r 3, .inl (cJ, 5, .inr (.inl (v_rows 3))))] r0) (some .int) l yX1_wideRank cX1_wideRank 1 { frames := 1, cells := 0, slots := 0, locals := 21 } D cI cJ cQ tp [.ref q] [(q, .inr (1, [.int v_n, .int v_rank, .int v_exchanges, .ref q_rows, .int v_width, .long v_scale, .ref q_leads])), (q_rows, .inl (cQ, 4, .inr (.inr (.inr (.inr (kg q_rows_r)))))), (q_rows_r 0, .inl (cJ, 5, .inr (.inl (v_rows 0)))), (q_rows_r 1, .inl (cJ, 5, .inr (.inl (v_rows 1)))), (q_rows_r 2, .inl (cJ, 5, .inr (.inl (v_rows 2)))), (q_rows_r 3, .inl (cJ, 5, .inr (.inl (v_rows 3))))] := by
  refine kM_of (by decide +kernel) (Nat.le_of_ble_eq_true rfl) ?_
  intro p e s m args below meth c A ls R Q hR hQ hat hP hD hS hl
  obtain ⟨hx, hb, hr, hml, hown, hts, hT, hlk, hK, hA, hZ⟩ := id hat
  have hown : s.vm.findClass RX1 = some m.cls := hown
  have hl : lv_has ls 1 [(0, .ref q)] := hl
  unfold f_X1_wideRank at hf
  refine lv_aload_n hx hb dX1_wideRank_0 rfl (lv_at hl 0 rfl) ?_
  obtain ⟨r1, h2, hf⟩ := kb1_e hf
  refine k_gi (nW := 6) (ws' := [(q, .inr (1, [.int v_n, .int v_rank, .int v_exchanges, .ref q_rows, .int v_width, .long v_scale, .ref q_leads])), (q_rows, .inl (cQ, 4, .inr (.inr (.inr (.inr (kg q_rows_r)))))), (q_rows_r 0, .inl (cJ, 5, .inr (.inl (v_rows 0)))), (q_rows_r 1, .inl (cJ, 5, .inr (.inl (v_rows 1)))), (q_rows_r 2, .inl (cJ, 5, .inr (.inl (v_rows 2)))), (q_rows_r 3, .inl (cJ, 5, .inr (.inl (v_rows 3))))]) (wr := []) (k_runU (rest := []) hat hP hD hS hl.1 (c_X9_fitsSide_C q q_rows q_leads q_rows_r v_n v_rank v_exchanges v_width v_scale v_rows F r1 h2) [0, 1, 2, 3, 4, 5] (by decide) rfl (cu_X1_wideRank_X9_fitsSide_X1 hat (by rw [hR]; exact ⟨Nat.le_of_ble_eq_true rfl, Nat.le_of_ble_eq_true rfl⟩)) ⟨Nat.zero_le _, Nat.zero_le _⟩ 0 1 rfl rfl rfl rfl (Nat.le_of_ble_eq_true rfl) dX1_wideRank_1) hat hP hD hS [0, 1, 2, 3, 4, 5] rfl [] rfl rfl rfl rfl rfl (by decide) (fun H locs hP hD hS => ?_)
  refine lv_if_eq (tgt := 14) hx hb dX1_wideRank_4 (by decide) (fun c3 => ?_) (fun c3 => ?_)
  · have hf := kp_e hf c3
    refine lv_aload_n hx hb dX1_wideRank_14 rfl (lv_at hl 0 rfl) ?_
    refine va_get (D := D) (ci := 1) (v := .int v_rank) (C := RX1) (T := TX1) (N := 7) hx hb hts kinX1 hown hK hP 0 rfl rfl 1 (by decide) (hts _ kw142) (u_same (hts _ kw143)) rfl dX1_wideRank_15 ?_
    refine lv_iconst (v := 1) hx hb dX1_wideRank_18 (by decide) ?_
    refine lv_iadd hx hb dX1_wideRank_19 ?_
    obtain rfl := ki1 hf
    rw [hQ]
    exact k_iret hat hP hS rfl dX1_wideRank_20
  · have hf := kn_e hf c3
    refine lv_aload_n hx hb dX1_wideRank_7 rfl (lv_at hl 0 rfl) ?_
    refine va_get (D := D) (ci := 1) (v := .int v_rank) (C := RX1) (T := TX1) (N := 7) hx hb hts kinX1 hown hK hP 0 rfl rfl 1 (by decide) (hts _ kw142) (u_same (hts _ kw143)) rfl dX1_wideRank_8 ?_
    refine lv_goto (tgt := 20) hx hb dX1_wideRank_11 (by decide) ?_
    obtain rfl := ki1 hf
    rw [hQ]
    exact k_iret hat hP hS rfl dX1_wideRank_20
set_option maxHeartbeats 4000000 in
set_option maxRecDepth 100000 in
theorem c_X1_kind {l : Launch} {D : va_G} {cI cJ cQ : ClassId} {tp : Nat} (q : Nat) (q_rows : Nat) (q_leads : Nat) (q_rows_r : Nat → Nat) (v_n : Int32) (v_rank : Int32) (v_exchanges : Int32) (v_width : Int32) (v_scale : Int64) (v_rows : (Nat → Nat → Int64)) (F : Nat) (r0 : Int32) (hf : f_X1_kind F v_n v_rank v_rows = some r0) : kM (fun A => kQi D A [(q, .inr (1, [.int v_n, .int v_rank, .int v_exchanges, .ref q_rows, .int v_width, .long v_scale, .ref q_leads])), (q_rows, .inl (cQ, 4, .inr (.inr (.inr (.inr (kg q_rows_r)))))), (q_rows_r 0, .inl (cJ, 5, .inr (.inl (v_rows 0)))), (q_rows_r 1, .inl (cJ, 5, .inr (.inl (v_rows 1)))), (q_rows_r 2, .inl (cJ, 5, .inr (.inl (v_rows 2)))), (q_rows_r 3, .inl (cJ, 5, .inr (.inl (v_rows 3))))] r0) (some .int) l yX1_kind cX1_kind 1 { frames := 1, cells := 0, slots := 0, locals := 21 } D cI cJ cQ tp [.ref q] [(q, .inr (1, [.int v_n, .int v_rank, .int v_exchanges, .ref q_rows, .int v_width, .long v_scale, .ref q_leads])), (q_rows, .inl (cQ, 4, .inr (.inr (.inr (.inr (kg q_rows_r)))))), (q_rows_r 0, .inl (cJ, 5, .inr (.inl (v_rows 0)))), (q_rows_r 1, .inl (cJ, 5, .inr (.inl (v_rows 1)))), (q_rows_r 2, .inl (cJ, 5, .inr (.inl (v_rows 2)))), (q_rows_r 3, .inl (cJ, 5, .inr (.inl (v_rows 3))))] := by
  refine kM_of (by decide +kernel) (Nat.le_of_ble_eq_true rfl) ?_
  intro p e s m args below meth c A ls R Q hR hQ hat hP hD hS hl
  obtain ⟨hx, hb, hr, hml, hown, hts, hT, hlk, hK, hA, hZ⟩ := id hat
  have hown : s.vm.findClass RX1 = some m.cls := hown
  have hl : lv_has ls 1 [(0, .ref q)] := hl
  unfold f_X1_kind at hf
  refine lv_aload_n hx hb dX1_kind_0 rfl (lv_at hl 0 rfl) ?_
  obtain ⟨r1, h2, hf⟩ := kb1_e hf
  refine k_gi (nW := 6) (ws' := [(q, .inr (1, [.int v_n, .int v_rank, .int v_exchanges, .ref q_rows, .int v_width, .long v_scale, .ref q_leads])), (q_rows, .inl (cQ, 4, .inr (.inr (.inr (.inr (kg q_rows_r)))))), (q_rows_r 0, .inl (cJ, 5, .inr (.inl (v_rows 0)))), (q_rows_r 1, .inl (cJ, 5, .inr (.inl (v_rows 1)))), (q_rows_r 2, .inl (cJ, 5, .inr (.inl (v_rows 2)))), (q_rows_r 3, .inl (cJ, 5, .inr (.inl (v_rows 3))))]) (wr := []) (k_runU (rest := []) hat hP hD hS hl.1 (c_X9_fitsSide_C q q_rows q_leads q_rows_r v_n v_rank v_exchanges v_width v_scale v_rows F r1 h2) [0, 1, 2, 3, 4, 5] (by decide) rfl (cu_X1_kind_X9_fitsSide_X1 hat (by rw [hR]; exact ⟨Nat.le_of_ble_eq_true rfl, Nat.le_of_ble_eq_true rfl⟩)) ⟨Nat.zero_le _, Nat.zero_le _⟩ 0 1 rfl rfl rfl rfl (Nat.le_of_ble_eq_true rfl) dX1_kind_1) hat hP hD hS [0, 1, 2, 3, 4, 5] rfl [] rfl rfl rfl rfl rfl (by decide) (fun H locs hP hD hS => ?_)
  refine lv_if_ne (tgt := 9) hx hb dX1_kind_4 (by decide) (fun c3 => ?_) (fun c3 => ?_)
  · have hf := kn_e hf c3
    refine lv_aload_n hx hb dX1_kind_9 rfl (lv_at hl 0 rfl) ?_
    refine va_get (D := D) (ci := 1) (v := .int v_rank) (C := RX1) (T := TX1) (N := 7) hx hb hts kinX1 hown hK hP 0 rfl rfl 1 (by decide) (hts _ kw142) (u_same (hts _ kw143)) rfl dX1_kind_10 ?_
    refine lv_aload_n hx hb dX1_kind_13 rfl (lv_at hl 0 rfl) ?_
    refine va_get (D := D) (ci := 1) (v := .int v_n) (C := RX1) (T := TX1) (N := 7) hx hb hts kinX1 hown hK hP 0 rfl rfl 0 (by decide) (hts _ kw134) (u_same (hts _ kw135)) rfl dX1_kind_14 ?_
    refine lv_icmp_ne (tgt := 24) hx hb dX1_kind_17 (by decide) (fun c4 => ?_) (fun c4 => ?_)
    · have hf := kn_e hf c4
      refine lv_iconst (v := 2) hx hb dX1_kind_24 (by decide) ?_
      obtain rfl := ki1 hf
      rw [hQ]
      exact k_iret hat hP hS rfl dX1_kind_25
    · have hf := kp_e hf c4
      refine lv_iconst (v := 1) hx hb dX1_kind_20 (by decide) ?_
      refine lv_goto (tgt := 25) hx hb dX1_kind_21 (by decide) ?_
      obtain rfl := ki1 hf
      rw [hQ]
      exact k_iret hat hP hS rfl dX1_kind_25
  · have hf := kp_e hf c3
    refine lv_iconst (v := 0) hx hb dX1_kind_7 (by decide) ?_
    obtain rfl := ki1 hf
    rw [hQ]
    exact k_iret hat hP hS rfl dX1_kind_8
set_option maxHeartbeats 4000000 in
set_option maxRecDepth 100000 in
theorem c_X1_leading {l : Launch} {D : va_G} {cI cJ cQ : ClassId} {tp : Nat} (q : Nat) (q_rows : Nat) (q_leads : Nat) (v_n : Int32) (v_rank : Int32) (v_exchanges : Int32) (v_width : Int32) (v_scale : Int64) (v_leads : (Nat → Int32)) (F : Nat) (r0 : Int32) (hf : f_X1_leading F v_rank v_leads = some r0) : kM (fun A => kQi D A [(q, .inr (1, [.int v_n, .int v_rank, .int v_exchanges, .ref q_rows, .int v_width, .long v_scale, .ref q_leads])), (q_leads, .inl (cI, 4, .inl v_leads))] r0) (some .int) l yX1_leading cX1_leading 3 { frames := 0, cells := 0, slots := 0, locals := 0 } D cI cJ cQ tp [.ref q] [(q, .inr (1, [.int v_n, .int v_rank, .int v_exchanges, .ref q_rows, .int v_width, .long v_scale, .ref q_leads])), (q_leads, .inl (cI, 4, .inl v_leads))] := by
  refine kM_of (by decide +kernel) (Nat.le_of_ble_eq_true rfl) ?_
  intro p e s m args below meth c A ls R Q hR hQ hat hP hD hS hl
  obtain ⟨hx, hb, hr, hml, hown, hts, hT, hlk, hK, hA, hZ⟩ := id hat
  have hown : s.vm.findClass RX1 = some m.cls := hown
  have hl : lv_has ls 3 [(0, .ref q)] := hl
  have hL4 : ∀ (v_n : Int32) (v_rank : Int32) (v_exchanges : Int32) (v_width : Int32) (v_scale : Int64) (v_leads : (Nat → Int32)) (fu : Nat) (x1 : Int32) (x2 : Int32) (o0 : Int32), L_X1_leading_4 v_rank v_leads fu x1 x2 = some o0 → (∀ (H : Heap) (locs : List Loc) (ls : Array Slot), va_P D vwCl [(q, .inr (1, [.int v_n, .int v_rank, .int v_exchanges, .ref q_rows, .int v_width, .long v_scale, .ref q_leads])), (q_leads, .inl (cI, 4, .inl v_leads))] H → va_D A [(q, .inr (1, [.int v_n, .int v_rank, .int v_exchanges, .ref q_rows, .int v_width, .long v_scale, .ref q_leads])), (q_leads, .inl (cI, 4, .inl v_leads))] → va_S A s.heap H locs → lv_has ls 3 [(1, .int o0)] → W p l e R s m args below meth c H locs 0 0 Q (F0 m 29 ls [])) → ∀ (H : Heap) (locs : List Loc) (ls : Array Slot), va_P D vwCl [(q, .inr (1, [.int v_n, .int v_rank, .int v_exchanges, .ref q_rows, .int v_width, .long v_scale, .ref q_leads])), (q_leads, .inl (cI, 4, .inl v_leads))] H → va_D A [(q, .inr (1, [.int v_n, .int v_rank, .int v_exchanges, .ref q_rows, .int v_width, .long v_scale, .ref q_leads])), (q_leads, .inl (cI, 4, .inl v_leads))] → va_S A s.heap H locs → lv_has ls 3 [(0, .ref q), (1, .int x1), (2, .int x2)] → W p l e R s m args below meth c H locs 0 0 Q (F0 m 4 ls []) := by
    intro v_n v_rank v_exchanges v_width v_scale v_leads fu
    induction fu with
    | zero =>
      intro x1 x2 o0 hf
      cases hf
    | succ fu ih =>
      intro x1 x2 o0 hf hk0 H locs ls hP hD hS hl
      rw [L_X1_leading_4] at hf
      refine lv_iload_n hx hb dX1_leading_4 rfl (lv_at hl 2 rfl) ?_
      refine lv_aload_n hx hb dX1_leading_5 rfl (lv_at hl 0 rfl) ?_
      refine va_get (D := D) (ci := 1) (v := .int v_rank) (C := RX1) (T := TX1) (N := 7) hx hb hts kinX1 hown hK hP 0 rfl rfl 1 (by decide) (hts _ kw142) (u_same (hts _ kw143)) rfl dX1_leading_6 ?_
      refine lv_icmp_ge (tgt := 29) hx hb dX1_leading_9 (by decide) (fun c1 => ?_) (fun c1 => ?_)
      · have hf := kp_e hf c1
        obtain rfl := ki1 hf
        exact hk0 _ _ _ hP hD hS (lv_sub hl [1] rfl)
      · have hf := kn_e hf c1
        refine lv_iload_n hx hb dX1_leading_12 rfl (lv_at hl 1 rfl) ?_
        refine lv_iconst (v := 1) hx hb dX1_leading_13 (by decide) ?_
        refine lv_aload_n hx hb dX1_leading_14 rfl (lv_at hl 0 rfl) ?_
        refine va_get (D := D) (ci := 1) (v := .ref q_leads) (C := RX1) (T := TX1) (N := 7) hx hb hts kinX1 hown hK hP 0 rfl rfl 6 (by decide) (hts _ kw133) (fun _ h9 => h9) rfl dX1_leading_15 ?_
        refine lv_iload_n hx hb dX1_leading_18 rfl (lv_at hl 2 rfl) ?_
        obtain ⟨c2, hf⟩ := kc_e hf
        refine va_iald hx hb hK hP 1 0 rfl rfl (kin_e c2) dX1_leading_19 ?_
        refine lv_ishl hx hb dX1_leading_20 ?_
        refine lv_ior hx hb dX1_leading_21 ?_
        refine lv_topi (fun t3 et3 => ?_)
        have hf := kl_e hf t3 et3
        refine lv_istore_n (lv' := [(1, .int t3), (0, .ref q), (2, .int x2)]) hx hb dX1_leading_22 rfl hl (by decide) rfl (fun ls hl => ?_)
        obtain ⟨t4, et4⟩ : ∃ z : Int32, z = (x2 + (1 : Int32)) := ⟨_, rfl⟩
        have hf := kl_e hf t4 et4
        refine lv_iinc (v := t4) (lv' := [(2, .int t4), (1, .int t3), (0, .ref q)]) hx hb dX1_leading_23 hl (k := 2) rfl (by rw [et4]; rfl) (by decide) rfl (fun ls hl => ?_)
        refine lv_goto (tgt := 4) hx hb dX1_leading_26 (by decide) ?_
        exact ih t3 t4 o0 hf hk0 _ _ _ hP hD hS (lv_sub hl [2, 1, 0] rfl)
  unfold f_X1_leading at hf
  refine lv_iconst (v := 0) hx hb dX1_leading_0 (by decide) ?_
  refine lv_istore_n (lv' := [(1, .int (0 : Int32)), (0, .ref q)]) hx hb dX1_leading_1 rfl hl (by decide) rfl (fun ls hl => ?_)
  refine lv_iconst (v := 0) hx hb dX1_leading_2 (by decide) ?_
  refine lv_istore_n (lv' := [(2, .int (0 : Int32)), (1, .int (0 : Int32)), (0, .ref q)]) hx hb dX1_leading_3 rfl hl (by decide) rfl (fun ls hl => ?_)
  obtain ⟨y5, hu, hf⟩ := kb1_e hf
  refine hL4 v_n v_rank v_exchanges v_width v_scale v_leads F (0 : Int32) (0 : Int32) y5 hu (fun H locs ls hP hD hS hl => ?_) _ _ _ hP hD hS (lv_sub hl [2, 1, 0] rfl)
  refine lv_iload_n hx hb dX1_leading_29 rfl (lv_at hl 0 rfl) ?_
  obtain rfl := ki1 hf
  rw [hQ]
  exact k_iret hat hP hS rfl dX1_leading_30
set_option maxHeartbeats 4000000 in
set_option maxRecDepth 100000 in
theorem c_X11_gcd {l : Launch} {D : va_G} {cI cJ cQ : ClassId} {tp : Nat} (F : Nat) (x0 : Int64) (x2 : Int64) (r0 : Int64) (hf : f_X11_gcd F x0 x2 = some r0) : kM (fun A => kQl D A [] r0) (some .long) l yX11_gcd cX11_gcd 11 { frames := 1, cells := 0, slots := 0, locals := 40 } D cI cJ cQ tp [.long x0, .long x2] [] := by
  refine kM_of (by decide +kernel) (Nat.le_of_ble_eq_true rfl) ?_
  intro p e s m args below meth c A ls R Q hR hQ hat hP hD hS hl
  obtain ⟨hx, hb, hr, hml, hown, hts, hT, hlk, hK, hA, hZ⟩ := id hat
  have hown : s.vm.findClass RX11 = some m.cls := hown
  have hl : lv_has ls 11 [(0, .long x0), (2, .long x2)] := hl
  have hL15 : ∀ (fu : Nat) (x4 : Int64) (x6 : Int64) (x8 : Int32) (o0 : Int64), L_X11_gcd_15 fu x4 x6 x8 = some o0 → (∀ (H : Heap) (locs : List Loc) (ls : Array Slot), va_P D vwCl [] H → va_D A [] → va_S A s.heap H locs → lv_has ls 11 [(4, .long o0)] → W p l e R s m args below meth c H locs 0 0 Q (F0 m 51 ls [])) → ∀ (H : Heap) (locs : List Loc) (ls : Array Slot), va_P D vwCl [] H → va_D A [] → va_S A s.heap H locs → lv_has ls 11 [(4, .long x4), (6, .long x6), (8, .int x8)] → W p l e R s m args below meth c H locs 0 0 Q (F0 m 15 ls []) := by
    intro fu
    induction fu with
    | zero =>
      intro x4 x6 x8 o0 hf
      cases hf
    | succ fu ih =>
      intro x4 x6 x8 o0 hf hk0 H locs ls hP hD hS hl
      rw [L_X11_gcd_15] at hf
      refine lv_iload hx hb dX11_gcd_15 (lv_at hl 2 rfl) ?_
      refine lv_sipush (v := 200) hx hb dX11_gcd_17 (by decide) ?_
      refine lv_icmp_ge (tgt := 51) hx hb dX11_gcd_20 (by decide) (fun c3 => ?_) (fun c3 => ?_)
      · have hf := kp_e hf c3
        obtain rfl := ki1 hf
        exact hk0 _ _ _ hP hD hS (lv_sub hl [0] rfl)
      · have hf := kn_e hf c3
        refine lv_lload hx hb dX11_gcd_23 (lv_at hl 1 rfl) ?_
        refine lv_lconst (v := 0) hx hb dX11_gcd_25 (by decide) ?_
        refine k_lcmp_eq (tgt := 51) hx hb dX11_gcd_26 dX11_gcd_27 (by decide) (fun c4 => ?_) (fun c4 => ?_)
        · have hf := kp_e hf c4
          obtain rfl := ki1 hf
          exact hk0 _ _ _ hP hD hS (lv_sub hl [0] rfl)
        · have hf := kn_e hf c4
          refine lv_lload hx hb dX11_gcd_30 (lv_at hl 0 rfl) ?_
          refine lv_lload hx hb dX11_gcd_32 (lv_at hl 1 rfl) ?_
          obtain ⟨c5, hf⟩ := kc_e hf
          refine lv_lrem hx hb dX11_gcd_34 c5 ?_
          refine lv_topl (fun t6 et6 => ?_)
          have hf := kl_e hf t6 et6
          refine lv_lstore (lv' := [(9, .long t6), (4, .long x4), (6, .long x6), (8, .int x8)]) hx hb dX11_gcd_35 hl (by decide) rfl (fun ls hl => ?_)
          refine lv_lload hx hb dX11_gcd_37 (lv_at hl 2 rfl) ?_
          refine lv_lstore (lv' := [(4, .long x6), (9, .long t6), (6, .long x6), (8, .int x8)]) hx hb dX11_gcd_39 hl (by decide) rfl (fun ls hl => ?_)
          refine lv_lload hx hb dX11_gcd_41 (lv_at hl 1 rfl) ?_
          refine lv_lstore (lv' := [(6, .long t6), (4, .long x6), (9, .long t6), (8, .int x8)]) hx hb dX11_gcd_43 hl (by decide) rfl (fun ls hl => ?_)
          obtain ⟨t7, et7⟩ : ∃ z : Int32, z = (x8 + (1 : Int32)) := ⟨_, rfl⟩
          have hf := kl_e hf t7 et7
          refine lv_iinc (v := t7) (lv' := [(8, .int t7), (6, .long t6), (4, .long x6), (9, .long t6)]) hx hb dX11_gcd_45 hl (k := 3) rfl (by rw [et7]; rfl) (by decide) rfl (fun ls hl => ?_)
          refine lv_goto (tgt := 15) hx hb dX11_gcd_48 (by decide) ?_
          exact ih x6 t6 t7 o0 hf hk0 _ _ _ hP hD hS (lv_sub hl [2, 1, 0] rfl)
  unfold f_X11_gcd at hf
  refine lv_lload_n hx hb dX11_gcd_0 rfl (lv_at hl 0 rfl) ?_
  refine va_mabs_long hx hb (hml.trans hl.1.symm) hown (hts _ kw461) (hts _ kw456) (hts _ kw80) (hts _ kw457) (by rw [hR]; exact Nat.le_of_ble_eq_true rfl) (by rw [hR]; exact Nat.le_of_ble_eq_true rfl) (Nat.zero_le _) (Nat.zero_le _) dX11_gcd_1 ?_
  refine lv_topl (fun t1 et1 => ?_)
  have hf := kl_e hf t1 et1
  refine lv_lstore (lv' := [(4, .long t1), (0, .long x0), (2, .long x2)]) hx hb dX11_gcd_4 hl (by decide) rfl (fun ls hl => ?_)
  refine lv_lload_n hx hb dX11_gcd_6 rfl (lv_at hl 2 rfl) ?_
  refine va_mabs_long hx hb (hml.trans hl.1.symm) hown (hts _ kw461) (hts _ kw456) (hts _ kw80) (hts _ kw457) (by rw [hR]; exact Nat.le_of_ble_eq_true rfl) (by rw [hR]; exact Nat.le_of_ble_eq_true rfl) (Nat.zero_le _) (Nat.zero_le _) dX11_gcd_7 ?_
  refine lv_topl (fun t2 et2 => ?_)
  have hf := kl_e hf t2 et2
  refine lv_lstore (lv' := [(6, .long t2), (4, .long t1), (0, .long x0), (2, .long x2)]) hx hb dX11_gcd_10 hl (by decide) rfl (fun ls hl => ?_)
  refine lv_iconst (v := 0) hx hb dX11_gcd_12 (by decide) ?_
  refine lv_istore (lv' := [(8, .int (0 : Int32)), (6, .long t2), (4, .long t1), (0, .long x0), (2, .long x2)]) hx hb dX11_gcd_13 hl (by decide) rfl (fun ls hl => ?_)
  obtain ⟨y8, hu, hf⟩ := kb1_e hf
  refine hL15 F t1 t2 (0 : Int32) y8 hu (fun H locs ls hP hD hS hl => ?_) _ _ _ hP hD hS (lv_sub hl [2, 1, 0] rfl)
  refine lv_lload hx hb dX11_gcd_51 (lv_at hl 0 rfl) ?_
  obtain rfl := ki1 hf
  rw [hQ]
  exact k_lret hat hP hS rfl dX11_gcd_53
set_option maxHeartbeats 4000000 in
set_option maxRecDepth 100000 in
theorem c_X1_below {l : Launch} {D : va_G} {cI cJ cQ : ClassId} {tp : Nat} (q : Nat) (q_rows : Nat) (q_leads : Nat) (q_rows_r : Nat → Nat) (v_n : Int32) (v_rank : Int32) (v_exchanges : Int32) (v_width : Int32) (v_scale : Int64) (v_rows : (Nat → Nat → Int64)) (F : Nat) (x1 : Int32) (x2 : Int32) (r0 : Int64) (hf : f_X1_below F v_scale v_rows x1 x2 = some r0) : kM (fun A => kQl D A [(q, .inr (1, [.int v_n, .int v_rank, .int v_exchanges, .ref q_rows, .int v_width, .long v_scale, .ref q_leads])), (q_rows, .inl (cQ, 4, .inr (.inr (.inr (.inr (kg q_rows_r)))))), (q_rows_r 0, .inl (cJ, 5, .inr (.inl (v_rows 0)))), (q_rows_r 1, .inl (cJ, 5, .inr (.inl (v_rows 1)))), (q_rows_r 2, .inl (cJ, 5, .inr (.inl (v_rows 2)))), (q_rows_r 3, .inl (cJ, 5, .inr (.inl (v_rows 3))))] r0) (some .long) l yX1_below cX1_below 3 { frames := 2, cells := 0, slots := 0, locals := 70 } D cI cJ cQ tp [.ref q, .int x1, .int x2] [(q, .inr (1, [.int v_n, .int v_rank, .int v_exchanges, .ref q_rows, .int v_width, .long v_scale, .ref q_leads])), (q_rows, .inl (cQ, 4, .inr (.inr (.inr (.inr (kg q_rows_r)))))), (q_rows_r 0, .inl (cJ, 5, .inr (.inl (v_rows 0)))), (q_rows_r 1, .inl (cJ, 5, .inr (.inl (v_rows 1)))), (q_rows_r 2, .inl (cJ, 5, .inr (.inl (v_rows 2)))), (q_rows_r 3, .inl (cJ, 5, .inr (.inl (v_rows 3))))] := by
  refine kM_of (by decide +kernel) (Nat.le_of_ble_eq_true rfl) ?_
  intro p e s m args below meth c A ls R Q hR hQ hat hP hD hS hl
  obtain ⟨hx, hb, hr, hml, hown, hts, hT, hlk, hK, hA, hZ⟩ := id hat
  have hown : s.vm.findClass RX1 = some m.cls := hown
  have hl : lv_has ls 3 [(0, .ref q), (1, .int x1), (2, .int x2)] := hl
  unfold f_X1_below at hf
  refine lv_aload_n hx hb dX1_below_0 rfl (lv_at hl 0 rfl) ?_
  refine va_get (D := D) (ci := 1) (v := .long v_scale) (C := RX1) (T := TX1) (N := 7) hx hb hts kinX1 hown hK hP 0 rfl rfl 5 (by decide) (hts _ kw132) (fun _ h9 => h9) rfl dX1_below_1 ?_
  refine va_mabs_long hx hb (hml.trans hl.1.symm) hown (hts _ kw455) (hts _ kw456) (hts _ kw80) (hts _ kw457) (by rw [hR]; exact Nat.le_of_ble_eq_true rfl) (by rw [hR]; exact Nat.le_of_ble_eq_true rfl) (Nat.zero_le _) (Nat.zero_le _) dX1_below_4 ?_
  refine lv_aload_n hx hb dX1_below_7 rfl (lv_at hl 0 rfl) ?_
  refine va_get (D := D) (ci := 1) (v := .ref q_rows) (C := RX1) (T := TX1) (N := 7) hx hb hts kinX1 hown hK hP 0 rfl rfl 3 (by decide) (hts _ kw150) (u_same (hts _ kw151)) rfl dX1_below_8 ?_
  refine lv_iload_n hx hb dX1_below_11 rfl (lv_at hl 1 rfl) ?_
  obtain ⟨c1, hf⟩ := kc_e hf
  refine k_gld hx hb hK hP 1 rfl c1 dX1_below_12 ?_
  refine lv_iload_n hx hb dX1_below_13 rfl (lv_at hl 2 rfl) ?_
  obtain ⟨c2, hf⟩ := kc_e hf
  refine k_rld hx hb hK hP 2 (fun k hk => (co_4 (P := fun k => ([(q, .inr (1, [.int v_n, .int v_rank, .int v_exchanges, .ref q_rows, .int v_width, .long v_scale, .ref q_leads])), (q_rows, .inl (cQ, 4, .inr (.inr (.inr (.inr (kg q_rows_r)))))), (q_rows_r 0, .inl (cJ, 5, .inr (.inl (v_rows 0)))), (q_rows_r 1, .inl (cJ, 5, .inr (.inl (v_rows 1)))), (q_rows_r 2, .inl (cJ, 5, .inr (.inl (v_rows 2)))), (q_rows_r 3, .inl (cJ, 5, .inr (.inl (v_rows 3))))] : va_W)[2 + k]? = some (q_rows_r k, .inl (cJ, 5, .inr (.inl (v_rows k))))) rfl rfl rfl rfl) hk) (kin_nat c1) c2 dX1_below_14 ?_
  refine lv_aload_n hx hb dX1_below_15 rfl (lv_at hl 0 rfl) ?_
  refine va_get (D := D) (ci := 1) (v := .long v_scale) (C := RX1) (T := TX1) (N := 7) hx hb hts kinX1 hown hK hP 0 rfl rfl 5 (by decide) (hts _ kw132) (fun _ h9 => h9) rfl dX1_below_16 ?_
  obtain ⟨r3, h4, hf⟩ := kb1_e hf
  refine k_gl (nW := 6) (ws' := [(q, .inr (1, [.int v_n, .int v_rank, .int v_exchanges, .ref q_rows, .int v_width, .long v_scale, .ref q_leads])), (q_rows, .inl (cQ, 4, .inr (.inr (.inr (.inr (kg q_rows_r)))))), (q_rows_r 0, .inl (cJ, 5, .inr (.inl (v_rows 0)))), (q_rows_r 1, .inl (cJ, 5, .inr (.inl (v_rows 1)))), (q_rows_r 2, .inl (cJ, 5, .inr (.inl (v_rows 2)))), (q_rows_r 3, .inl (cJ, 5, .inr (.inl (v_rows 3))))]) (wr := [(q, .inr (1, [.int v_n, .int v_rank, .int v_exchanges, .ref q_rows, .int v_width, .long v_scale, .ref q_leads])), (q_rows, .inl (cQ, 4, .inr (.inr (.inr (.inr (kg q_rows_r)))))), (q_rows_r 0, .inl (cJ, 5, .inr (.inl (v_rows 0)))), (q_rows_r 1, .inl (cJ, 5, .inr (.inl (v_rows 1)))), (q_rows_r 2, .inl (cJ, 5, .inr (.inl (v_rows 2)))), (q_rows_r 3, .inl (cJ, 5, .inr (.inl (v_rows 3))))]) (k_runSN (rest := [.long (if 0 < v_scale then v_scale else -v_scale)]) hat hP hD hS hl.1 (c_X11_gcd F (v_rows x1.toNatClampNeg x2.toNatClampNeg) v_scale r3 h4) [] (by decide) rfl kw458 kw459 kw67 kw460 kdX11_gcd ⟨rfl, rfl⟩ (by rw [hR]; exact ⟨Nat.le_of_ble_eq_true rfl, Nat.le_of_ble_eq_true rfl⟩) ⟨Nat.zero_le _, Nat.zero_le _⟩ rfl rfl (Nat.le_of_ble_eq_true rfl) dX1_below_19) hat hP hD hS [] rfl [0, 1, 2, 3, 4, 5] rfl rfl rfl rfl rfl (by decide) (fun H locs hP hD hS => ?_)
  obtain ⟨r5, h6, hf⟩ := kb1_e hf
  refine k_gl (nW := 6) (ws' := [(q, .inr (1, [.int v_n, .int v_rank, .int v_exchanges, .ref q_rows, .int v_width, .long v_scale, .ref q_leads])), (q_rows, .inl (cQ, 4, .inr (.inr (.inr (.inr (kg q_rows_r)))))), (q_rows_r 0, .inl (cJ, 5, .inr (.inl (v_rows 0)))), (q_rows_r 1, .inl (cJ, 5, .inr (.inl (v_rows 1)))), (q_rows_r 2, .inl (cJ, 5, .inr (.inl (v_rows 2)))), (q_rows_r 3, .inl (cJ, 5, .inr (.inl (v_rows 3))))]) (wr := [(q, .inr (1, [.int v_n, .int v_rank, .int v_exchanges, .ref q_rows, .int v_width, .long v_scale, .ref q_leads])), (q_rows, .inl (cQ, 4, .inr (.inr (.inr (.inr (kg q_rows_r)))))), (q_rows_r 0, .inl (cJ, 5, .inr (.inl (v_rows 0)))), (q_rows_r 1, .inl (cJ, 5, .inr (.inl (v_rows 1)))), (q_rows_r 2, .inl (cJ, 5, .inr (.inl (v_rows 2)))), (q_rows_r 3, .inl (cJ, 5, .inr (.inl (v_rows 3))))]) (k_runSN (rest := []) hat hP hD hS hl.1 (c_X11_quotient (if 0 < v_scale then v_scale else -v_scale) r3 r5 h6) [] (by decide) rfl kw407 kw408 kw67 kw409 kdX11_quotient ⟨rfl, rfl⟩ (by rw [hR]; exact ⟨Nat.le_of_ble_eq_true rfl, Nat.le_of_ble_eq_true rfl⟩) ⟨Nat.zero_le _, Nat.zero_le _⟩ rfl rfl (Nat.le_of_ble_eq_true rfl) dX1_below_22) hat hP hD hS [] rfl [0, 1, 2, 3, 4, 5] rfl rfl rfl rfl rfl (by decide) (fun H locs hP hD hS => ?_)
  obtain rfl := ki1 hf
  rw [hQ]
  exact k_lret hat hP hS rfl dX1_below_25
set_option maxHeartbeats 4000000 in
set_option maxRecDepth 100000 in
theorem c_X1_isBroken {l : Launch} {D : va_G} {cI cJ cQ : ClassId} {tp : Nat} (q : Nat) (q_rows : Nat) (q_leads : Nat) (q_rows_r : Nat → Nat) (v_n : Int32) (v_rank : Int32) (v_exchanges : Int32) (v_width : Int32) (v_scale : Int64) (v_rows : (Nat → Nat → Int64)) (F : Nat) (x1 : Int32) (r0 : Int32) (hf : f_X1_isBroken F v_n v_scale v_rows x1 = some r0) : kM (fun A => kQi D A [(q, .inr (1, [.int v_n, .int v_rank, .int v_exchanges, .ref q_rows, .int v_width, .long v_scale, .ref q_leads])), (q_rows, .inl (cQ, 4, .inr (.inr (.inr (.inr (kg q_rows_r)))))), (q_rows_r 0, .inl (cJ, 5, .inr (.inl (v_rows 0)))), (q_rows_r 1, .inl (cJ, 5, .inr (.inl (v_rows 1)))), (q_rows_r 2, .inl (cJ, 5, .inr (.inl (v_rows 2)))), (q_rows_r 3, .inl (cJ, 5, .inr (.inl (v_rows 3))))] r0) (some .boolean) l yX1_isBroken cX1_isBroken 3 { frames := 3, cells := 0, slots := 0, locals := 92 } D cI cJ cQ tp [.ref q, .int x1] [(q, .inr (1, [.int v_n, .int v_rank, .int v_exchanges, .ref q_rows, .int v_width, .long v_scale, .ref q_leads])), (q_rows, .inl (cQ, 4, .inr (.inr (.inr (.inr (kg q_rows_r)))))), (q_rows_r 0, .inl (cJ, 5, .inr (.inl (v_rows 0)))), (q_rows_r 1, .inl (cJ, 5, .inr (.inl (v_rows 1)))), (q_rows_r 2, .inl (cJ, 5, .inr (.inl (v_rows 2)))), (q_rows_r 3, .inl (cJ, 5, .inr (.inl (v_rows 3))))] := by
  refine kM_of (by decide +kernel) (Nat.le_of_ble_eq_true rfl) ?_
  intro p e s m args below meth c A ls R Q hR hQ hat hP hD hS hl
  obtain ⟨hx, hb, hr, hml, hown, hts, hT, hlk, hK, hA, hZ⟩ := id hat
  have hown : s.vm.findClass RX1 = some m.cls := hown
  have hl : lv_has ls 3 [(0, .ref q), (1, .int x1)] := hl
  have hL2 : ∀ (x1 : Int32) (v_n : Int32) (v_rank : Int32) (v_exchanges : Int32) (v_width : Int32) (v_scale : Int64) (v_rows : (Nat → Nat → Int64)) (fu : Nat) (x2 : Int32) (u : Unit ⊕ Unit), L_X1_isBroken_2 F x1 v_n v_scale v_rows fu x2 = some u → (u = .inl () → ∀ (H : Heap) (locs : List Loc) (ls : Array Slot), va_P D vwCl [(q, .inr (1, [.int v_n, .int v_rank, .int v_exchanges, .ref q_rows, .int v_width, .long v_scale, .ref q_leads])), (q_rows, .inl (cQ, 4, .inr (.inr (.inr (.inr (kg q_rows_r)))))), (q_rows_r 0, .inl (cJ, 5, .inr (.inl (v_rows 0)))), (q_rows_r 1, .inl (cJ, 5, .inr (.inl (v_rows 1)))), (q_rows_r 2, .inl (cJ, 5, .inr (.inl (v_rows 2)))), (q_rows_r 3, .inl (cJ, 5, .inr (.inl (v_rows 3))))] H → va_D A [(q, .inr (1, [.int v_n, .int v_rank, .int v_exchanges, .ref q_rows, .int v_width, .long v_scale, .ref q_leads])), (q_rows, .inl (cQ, 4, .inr (.inr (.inr (.inr (kg q_rows_r)))))), (q_rows_r 0, .inl (cJ, 5, .inr (.inl (v_rows 0)))), (q_rows_r 1, .inl (cJ, 5, .inr (.inl (v_rows 1)))), (q_rows_r 2, .inl (cJ, 5, .inr (.inl (v_rows 2)))), (q_rows_r 3, .inl (cJ, 5, .inr (.inl (v_rows 3))))] → va_S A s.heap H locs → lv_has ls 3 [] → W p l e R s m args below meth c H locs 0 0 Q (F0 m 21 ls [])) → (u = .inr () → ∀ (H : Heap) (locs : List Loc) (ls : Array Slot), va_P D vwCl [(q, .inr (1, [.int v_n, .int v_rank, .int v_exchanges, .ref q_rows, .int v_width, .long v_scale, .ref q_leads])), (q_rows, .inl (cQ, 4, .inr (.inr (.inr (.inr (kg q_rows_r)))))), (q_rows_r 0, .inl (cJ, 5, .inr (.inl (v_rows 0)))), (q_rows_r 1, .inl (cJ, 5, .inr (.inl (v_rows 1)))), (q_rows_r 2, .inl (cJ, 5, .inr (.inl (v_rows 2)))), (q_rows_r 3, .inl (cJ, 5, .inr (.inl (v_rows 3))))] H → va_D A [(q, .inr (1, [.int v_n, .int v_rank, .int v_exchanges, .ref q_rows, .int v_width, .long v_scale, .ref q_leads])), (q_rows, .inl (cQ, 4, .inr (.inr (.inr (.inr (kg q_rows_r)))))), (q_rows_r 0, .inl (cJ, 5, .inr (.inl (v_rows 0)))), (q_rows_r 1, .inl (cJ, 5, .inr (.inl (v_rows 1)))), (q_rows_r 2, .inl (cJ, 5, .inr (.inl (v_rows 2)))), (q_rows_r 3, .inl (cJ, 5, .inr (.inl (v_rows 3))))] → va_S A s.heap H locs → lv_has ls 3 [] → W p l e R s m args below meth c H locs 0 0 Q (F0 m 29 ls [])) → ∀ (H : Heap) (locs : List Loc) (ls : Array Slot), va_P D vwCl [(q, .inr (1, [.int v_n, .int v_rank, .int v_exchanges, .ref q_rows, .int v_width, .long v_scale, .ref q_leads])), (q_rows, .inl (cQ, 4, .inr (.inr (.inr (.inr (kg q_rows_r)))))), (q_rows_r 0, .inl (cJ, 5, .inr (.inl (v_rows 0)))), (q_rows_r 1, .inl (cJ, 5, .inr (.inl (v_rows 1)))), (q_rows_r 2, .inl (cJ, 5, .inr (.inl (v_rows 2)))), (q_rows_r 3, .inl (cJ, 5, .inr (.inl (v_rows 3))))] H → va_D A [(q, .inr (1, [.int v_n, .int v_rank, .int v_exchanges, .ref q_rows, .int v_width, .long v_scale, .ref q_leads])), (q_rows, .inl (cQ, 4, .inr (.inr (.inr (.inr (kg q_rows_r)))))), (q_rows_r 0, .inl (cJ, 5, .inr (.inl (v_rows 0)))), (q_rows_r 1, .inl (cJ, 5, .inr (.inl (v_rows 1)))), (q_rows_r 2, .inl (cJ, 5, .inr (.inl (v_rows 2)))), (q_rows_r 3, .inl (cJ, 5, .inr (.inl (v_rows 3))))] → va_S A s.heap H locs → lv_has ls 3 [(0, .ref q), (1, .int x1), (2, .int x2)] → W p l e R s m args below meth c H locs 0 0 Q (F0 m 2 ls []) := by
    intro x1 v_n v_rank v_exchanges v_width v_scale v_rows fu
    induction fu with
    | zero =>
      intro x2 u hf
      cases hf
    | succ fu ih =>
      intro x2 u hf hk0 hk1 H locs ls hP hD hS hl
      rw [L_X1_isBroken_2] at hf
      refine lv_iload_n hx hb dX1_isBroken_2 rfl (lv_at hl 2 rfl) ?_
      refine lv_aload_n hx hb dX1_isBroken_3 rfl (lv_at hl 0 rfl) ?_
      refine va_get (D := D) (ci := 1) (v := .int v_n) (C := RX1) (T := TX1) (N := 7) hx hb hts kinX1 hown hK hP 0 rfl rfl 0 (by decide) (hts _ kw134) (u_same (hts _ kw135)) rfl dX1_isBroken_4 ?_
      refine lv_icmp_ge (tgt := 29) hx hb dX1_isBroken_7 (by decide) (fun c1 => ?_) (fun c1 => ?_)
      · have hf := kp_e hf c1
        exact hk1  (Option.some.inj hf).symm _ _ _ hP hD hS (lv_sub hl [] rfl)
      · have hf := kn_e hf c1
        refine lv_aload_n hx hb dX1_isBroken_10 rfl (lv_at hl 0 rfl) ?_
        refine lv_iload_n hx hb dX1_isBroken_11 rfl (lv_at hl 1 rfl) ?_
        refine lv_iload_n hx hb dX1_isBroken_12 rfl (lv_at hl 2 rfl) ?_
        obtain ⟨r2, h3, hf⟩ := kb1_e hf
        refine k_gl (nW := 6) (ws' := [(q, .inr (1, [.int v_n, .int v_rank, .int v_exchanges, .ref q_rows, .int v_width, .long v_scale, .ref q_leads])), (q_rows, .inl (cQ, 4, .inr (.inr (.inr (.inr (kg q_rows_r)))))), (q_rows_r 0, .inl (cJ, 5, .inr (.inl (v_rows 0)))), (q_rows_r 1, .inl (cJ, 5, .inr (.inl (v_rows 1)))), (q_rows_r 2, .inl (cJ, 5, .inr (.inl (v_rows 2)))), (q_rows_r 3, .inl (cJ, 5, .inr (.inl (v_rows 3))))]) (wr := []) (k_runV (rest := []) hat hP hD hS hl.1 (c_X1_below q q_rows q_leads q_rows_r v_n v_rank v_exchanges v_width v_scale v_rows F x1 x2 r2 h3) [0, 1, 2, 3, 4, 5] (by decide) rfl kw451 kw452 kw453 kw70 kw454 kdVX1_below ⟨rfl, rfl⟩ (by rw [hR]; exact ⟨Nat.le_of_ble_eq_true rfl, Nat.le_of_ble_eq_true rfl⟩) ⟨Nat.zero_le _, Nat.zero_le _⟩ 0 1 rfl rfl rfl rfl (Nat.le_of_ble_eq_true rfl) dX1_isBroken_13) hat hP hD hS [0, 1, 2, 3, 4, 5] rfl [] rfl rfl rfl rfl rfl (by decide) (fun H locs hP hD hS => ?_)
        refine lv_lconst (v := 1) hx hb dX1_isBroken_16 (by decide) ?_
        refine k_lcmp_eq (tgt := 23) hx hb dX1_isBroken_17 dX1_isBroken_18 (by decide) (fun c4 => ?_) (fun c4 => ?_)
        · have hf := kp_e hf c4
          obtain ⟨t5, et5⟩ : ∃ z : Int32, z = (x2 + (1 : Int32)) := ⟨_, rfl⟩
          have hf := kl_e hf t5 et5
          refine lv_iinc (v := t5) (lv' := [(2, .int t5), (0, .ref q), (1, .int x1)]) hx hb dX1_isBroken_23 hl (k := 2) rfl (by rw [et5]; rfl) (by decide) rfl (fun ls hl => ?_)
          refine lv_goto (tgt := 2) hx hb dX1_isBroken_26 (by decide) ?_
          exact ih t5 u hf hk0 hk1 _ _ _ hP hD hS (lv_sub hl [1, 2, 0] rfl)
        · have hf := kn_e hf c4
          exact hk0  (Option.some.inj hf).symm _ _ _ hP hD hS (lv_sub hl [] rfl)
  unfold f_X1_isBroken at hf
  refine lv_iconst (v := 0) hx hb dX1_isBroken_0 (by decide) ?_
  refine lv_istore_n (lv' := [(2, .int (0 : Int32)), (0, .ref q), (1, .int x1)]) hx hb dX1_isBroken_1 rfl hl (by decide) rfl (fun ls hl => ?_)
  obtain ⟨u6, hu, hf0, hf1⟩ := ks_e hf
  refine hL2 x1 v_n v_rank v_exchanges v_width v_scale v_rows F (0 : Int32) u6 hu (fun hu2 H locs ls hP hD hS hl => ?_) (fun hu2 H locs ls hP hD hS hl => ?_) _ _ _ hP hD hS (lv_sub hl [1, 2, 0] rfl)
  · have hf := hf0 _ hu2
    refine lv_iconst (v := 1) hx hb dX1_isBroken_21 (by decide) ?_
    obtain rfl := ki1 hf
    rw [hQ]
    exact k_zret hat hP hS rfl (by decide) dX1_isBroken_22
  · have hf := hf1 _ hu2
    refine lv_iconst (v := 0) hx hb dX1_isBroken_29 (by decide) ?_
    obtain rfl := ki1 hf
    rw [hQ]
    exact k_zret hat hP hS rfl (by decide) dX1_isBroken_30
set_option maxHeartbeats 4000000 in
set_option maxRecDepth 100000 in
theorem c_X1_broken {l : Launch} {D : va_G} {cI cJ cQ : ClassId} {tp : Nat} (q : Nat) (q_rows : Nat) (q_leads : Nat) (q_rows_r : Nat → Nat) (v_n : Int32) (v_rank : Int32) (v_exchanges : Int32) (v_width : Int32) (v_scale : Int64) (v_rows : (Nat → Nat → Int64)) (F : Nat) (r0 : Int32) (hf : f_X1_broken F v_n v_rank v_scale v_rows = some r0) : kM (fun A => kQi D A [(q, .inr (1, [.int v_n, .int v_rank, .int v_exchanges, .ref q_rows, .int v_width, .long v_scale, .ref q_leads])), (q_rows, .inl (cQ, 4, .inr (.inr (.inr (.inr (kg q_rows_r)))))), (q_rows_r 0, .inl (cJ, 5, .inr (.inl (v_rows 0)))), (q_rows_r 1, .inl (cJ, 5, .inr (.inl (v_rows 1)))), (q_rows_r 2, .inl (cJ, 5, .inr (.inl (v_rows 2)))), (q_rows_r 3, .inl (cJ, 5, .inr (.inl (v_rows 3))))] r0) (some .int) l yX1_broken cX1_broken 3 { frames := 4, cells := 0, slots := 0, locals := 114 } D cI cJ cQ tp [.ref q] [(q, .inr (1, [.int v_n, .int v_rank, .int v_exchanges, .ref q_rows, .int v_width, .long v_scale, .ref q_leads])), (q_rows, .inl (cQ, 4, .inr (.inr (.inr (.inr (kg q_rows_r)))))), (q_rows_r 0, .inl (cJ, 5, .inr (.inl (v_rows 0)))), (q_rows_r 1, .inl (cJ, 5, .inr (.inl (v_rows 1)))), (q_rows_r 2, .inl (cJ, 5, .inr (.inl (v_rows 2)))), (q_rows_r 3, .inl (cJ, 5, .inr (.inl (v_rows 3))))] := by
  refine kM_of (by decide +kernel) (Nat.le_of_ble_eq_true rfl) ?_
  intro p e s m args below meth c A ls R Q hR hQ hat hP hD hS hl
  obtain ⟨hx, hb, hr, hml, hown, hts, hT, hlk, hK, hA, hZ⟩ := id hat
  have hown : s.vm.findClass RX1 = some m.cls := hown
  have hl : lv_has ls 3 [(0, .ref q)] := hl
  have hL4 : ∀ (v_n : Int32) (v_rank : Int32) (v_exchanges : Int32) (v_width : Int32) (v_scale : Int64) (v_rows : (Nat → Nat → Int64)) (fu : Nat) (x1 : Int32) (x2 : Int32) (o0 : Int32), L_X1_broken_4 F v_n v_rank v_scale v_rows fu x1 x2 = some o0 → (∀ (H : Heap) (locs : List Loc) (ls : Array Slot), va_P D vwCl [(q, .inr (1, [.int v_n, .int v_rank, .int v_exchanges, .ref q_rows, .int v_width, .long v_scale, .ref q_leads])), (q_rows, .inl (cQ, 4, .inr (.inr (.inr (.inr (kg q_rows_r)))))), (q_rows_r 0, .inl (cJ, 5, .inr (.inl (v_rows 0)))), (q_rows_r 1, .inl (cJ, 5, .inr (.inl (v_rows 1)))), (q_rows_r 2, .inl (cJ, 5, .inr (.inl (v_rows 2)))), (q_rows_r 3, .inl (cJ, 5, .inr (.inl (v_rows 3))))] H → va_D A [(q, .inr (1, [.int v_n, .int v_rank, .int v_exchanges, .ref q_rows, .int v_width, .long v_scale, .ref q_leads])), (q_rows, .inl (cQ, 4, .inr (.inr (.inr (.inr (kg q_rows_r)))))), (q_rows_r 0, .inl (cJ, 5, .inr (.inl (v_rows 0)))), (q_rows_r 1, .inl (cJ, 5, .inr (.inl (v_rows 1)))), (q_rows_r 2, .inl (cJ, 5, .inr (.inl (v_rows 2)))), (q_rows_r 3, .inl (cJ, 5, .inr (.inl (v_rows 3))))] → va_S A s.heap H locs → lv_has ls 3 [(1, .int o0)] → W p l e R s m args below meth c H locs 0 0 Q (F0 m 29 ls [])) → ∀ (H : Heap) (locs : List Loc) (ls : Array Slot), va_P D vwCl [(q, .inr (1, [.int v_n, .int v_rank, .int v_exchanges, .ref q_rows, .int v_width, .long v_scale, .ref q_leads])), (q_rows, .inl (cQ, 4, .inr (.inr (.inr (.inr (kg q_rows_r)))))), (q_rows_r 0, .inl (cJ, 5, .inr (.inl (v_rows 0)))), (q_rows_r 1, .inl (cJ, 5, .inr (.inl (v_rows 1)))), (q_rows_r 2, .inl (cJ, 5, .inr (.inl (v_rows 2)))), (q_rows_r 3, .inl (cJ, 5, .inr (.inl (v_rows 3))))] H → va_D A [(q, .inr (1, [.int v_n, .int v_rank, .int v_exchanges, .ref q_rows, .int v_width, .long v_scale, .ref q_leads])), (q_rows, .inl (cQ, 4, .inr (.inr (.inr (.inr (kg q_rows_r)))))), (q_rows_r 0, .inl (cJ, 5, .inr (.inl (v_rows 0)))), (q_rows_r 1, .inl (cJ, 5, .inr (.inl (v_rows 1)))), (q_rows_r 2, .inl (cJ, 5, .inr (.inl (v_rows 2)))), (q_rows_r 3, .inl (cJ, 5, .inr (.inl (v_rows 3))))] → va_S A s.heap H locs → lv_has ls 3 [(0, .ref q), (1, .int x1), (2, .int x2)] → W p l e R s m args below meth c H locs 0 0 Q (F0 m 4 ls []) := by
    intro v_n v_rank v_exchanges v_width v_scale v_rows fu
    induction fu with
    | zero =>
      intro x1 x2 o0 hf
      cases hf
    | succ fu ih =>
      intro x1 x2 o0 hf hk0 H locs ls hP hD hS hl
      rw [L_X1_broken_4] at hf
      refine lv_iload_n hx hb dX1_broken_4 rfl (lv_at hl 2 rfl) ?_
      refine lv_aload_n hx hb dX1_broken_5 rfl (lv_at hl 0 rfl) ?_
      refine va_get (D := D) (ci := 1) (v := .int v_rank) (C := RX1) (T := TX1) (N := 7) hx hb hts kinX1 hown hK hP 0 rfl rfl 1 (by decide) (hts _ kw142) (u_same (hts _ kw143)) rfl dX1_broken_6 ?_
      refine lv_icmp_ge (tgt := 29) hx hb dX1_broken_9 (by decide) (fun c1 => ?_) (fun c1 => ?_)
      · have hf := kp_e hf c1
        obtain rfl := ki1 hf
        exact hk0 _ _ _ hP hD hS (lv_sub hl [1] rfl)
      · have hf := kn_e hf c1
        refine lv_aload_n hx hb dX1_broken_12 rfl (lv_at hl 0 rfl) ?_
        refine lv_iload_n hx hb dX1_broken_13 rfl (lv_at hl 2 rfl) ?_
        obtain ⟨r2, h3, hf⟩ := kb1_e hf
        refine k_gi (nW := 6) (ws' := [(q, .inr (1, [.int v_n, .int v_rank, .int v_exchanges, .ref q_rows, .int v_width, .long v_scale, .ref q_leads])), (q_rows, .inl (cQ, 4, .inr (.inr (.inr (.inr (kg q_rows_r)))))), (q_rows_r 0, .inl (cJ, 5, .inr (.inl (v_rows 0)))), (q_rows_r 1, .inl (cJ, 5, .inr (.inl (v_rows 1)))), (q_rows_r 2, .inl (cJ, 5, .inr (.inl (v_rows 2)))), (q_rows_r 3, .inl (cJ, 5, .inr (.inl (v_rows 3))))]) (wr := []) (k_runV (rest := []) hat hP hD hS hl.1 (c_X1_isBroken q q_rows q_leads q_rows_r v_n v_rank v_exchanges v_width v_scale v_rows F x2 r2 h3) [0, 1, 2, 3, 4, 5] (by decide) rfl kw447 kw449 kw3 kw70 kw450 kdVX1_isBroken ⟨rfl, rfl⟩ (by rw [hR]; exact ⟨Nat.le_of_ble_eq_true rfl, Nat.le_of_ble_eq_true rfl⟩) ⟨Nat.zero_le _, Nat.zero_le _⟩ 0 1 rfl rfl rfl rfl (Nat.le_of_ble_eq_true rfl) dX1_broken_14) hat hP hD hS [0, 1, 2, 3, 4, 5] rfl [] rfl rfl rfl rfl rfl (by decide) (fun H locs hP hD hS => ?_)
        refine lv_if_eq (tgt := 23) hx hb dX1_broken_17 (by decide) (fun c4 => ?_) (fun c4 => ?_)
        · have hf := kp_e hf c4
          obtain ⟨t5, et5⟩ : ∃ z : Int32, z = (x2 + (1 : Int32)) := ⟨_, rfl⟩
          have hf := kl_e hf t5 et5
          refine lv_iinc (v := t5) (lv' := [(2, .int t5), (0, .ref q), (1, .int x1)]) hx hb dX1_broken_23 hl (k := 2) rfl (by rw [et5]; rfl) (by decide) rfl (fun ls hl => ?_)
          refine lv_goto (tgt := 4) hx hb dX1_broken_26 (by decide) ?_
          exact ih x1 t5 o0 hf hk0 _ _ _ hP hD hS (lv_sub hl [1, 2, 0] rfl)
        · have hf := kn_e hf c4
          obtain ⟨t6, et6⟩ : ∃ z : Int32, z = (x1 + (1 : Int32)) := ⟨_, rfl⟩
          have hf := kl_e hf t6 et6
          refine lv_iinc (v := t6) (lv' := [(1, .int t6), (0, .ref q), (2, .int x2)]) hx hb dX1_broken_20 hl (k := 1) rfl (by rw [et6]; rfl) (by decide) rfl (fun ls hl => ?_)
          obtain ⟨t7, et7⟩ : ∃ z : Int32, z = (x2 + (1 : Int32)) := ⟨_, rfl⟩
          have hf := kl_e hf t7 et7
          refine lv_iinc (v := t7) (lv' := [(2, .int t7), (1, .int t6), (0, .ref q)]) hx hb dX1_broken_23 hl (k := 2) rfl (by rw [et7]; rfl) (by decide) rfl (fun ls hl => ?_)
          refine lv_goto (tgt := 4) hx hb dX1_broken_26 (by decide) ?_
          exact ih t6 t7 o0 hf hk0 _ _ _ hP hD hS (lv_sub hl [2, 1, 0] rfl)
  unfold f_X1_broken at hf
  refine lv_iconst (v := 0) hx hb dX1_broken_0 (by decide) ?_
  refine lv_istore_n (lv' := [(1, .int (0 : Int32)), (0, .ref q)]) hx hb dX1_broken_1 rfl hl (by decide) rfl (fun ls hl => ?_)
  refine lv_iconst (v := 0) hx hb dX1_broken_2 (by decide) ?_
  refine lv_istore_n (lv' := [(2, .int (0 : Int32)), (1, .int (0 : Int32)), (0, .ref q)]) hx hb dX1_broken_3 rfl hl (by decide) rfl (fun ls hl => ?_)
  obtain ⟨y8, hu, hf⟩ := kb1_e hf
  refine hL4 v_n v_rank v_exchanges v_width v_scale v_rows F (0 : Int32) (0 : Int32) y8 hu (fun H locs ls hP hD hS hl => ?_) _ _ _ hP hD hS (lv_sub hl [2, 1, 0] rfl)
  refine lv_iload_n hx hb dX1_broken_29 rfl (lv_at hl 0 rfl) ?_
  obtain rfl := ki1 hf
  rw [hQ]
  exact k_iret hat hP hS rfl dX1_broken_30
set_option maxHeartbeats 4000000 in
set_option maxRecDepth 100000 in
theorem c_X11_leftOver {l : Launch} {D : va_G} {cI cJ cQ : ClassId} {tp : Nat} (x0 : Int64) (x2 : Int32) (r0 : Int32) (hf : f_X11_leftOver x0 x2 = some r0) : kM (fun A => kQi D A [] r0) (some .int) l yX11_leftOver cX11_leftOver 5 { frames := 0, cells := 0, slots := 0, locals := 0 } D cI cJ cQ tp [.long x0, .int x2] [] := by
  refine kM_of (by decide +kernel) (Nat.le_of_ble_eq_true rfl) ?_
  intro p e s m args below meth c A ls R Q hR hQ hat hP hD hS hl
  obtain ⟨hx, hb, hr, hml, hown, hts, hT, hlk, hK, hA, hZ⟩ := id hat
  have hown : s.vm.findClass RX11 = some m.cls := hown
  have hl : lv_has ls 5 [(0, .long x0), (2, .int x2)] := hl
  unfold f_X11_leftOver at hf
  refine lv_iload_n hx hb dX11_leftOver_0 rfl (lv_at hl 1 rfl) ?_
  refine lv_if_ne (tgt := 6) hx hb dX11_leftOver_1 (by decide) (fun c1 => ?_) (fun c1 => ?_)
  · have hf := kn_e hf c1
    refine lv_lload_n hx hb dX11_leftOver_6 rfl (lv_at hl 0 rfl) ?_
    refine lv_iload_n hx hb dX11_leftOver_7 rfl (lv_at hl 1 rfl) ?_
    refine lv_i2l hx hb dX11_leftOver_8 rfl ?_
    obtain ⟨c2, hf⟩ := kc_e hf
    refine lv_lrem hx hb dX11_leftOver_9 c2 ?_
    refine lv_topl (fun t3 et3 => ?_)
    have hf := kl_e hf t3 et3
    refine lv_lstore_n (lv' := [(3, .long t3), (0, .long x0), (2, .int x2)]) hx hb dX11_leftOver_10 rfl hl (by decide) rfl (fun ls hl => ?_)
    refine lv_lload_n hx hb dX11_leftOver_11 rfl (lv_at hl 0 rfl) ?_
    refine lv_lconst (v := 0) hx hb dX11_leftOver_12 (by decide) ?_
    refine k_lcmp_ge (tgt := 24) hx hb dX11_leftOver_13 dX11_leftOver_14 (by decide) (fun c4 => ?_) (fun c4 => ?_)
    · have hf := kp_e hf c4
      refine lv_lload_n hx hb dX11_leftOver_24 rfl (lv_at hl 0 rfl) ?_
      refine lv_l2i hx hb dX11_leftOver_25 rfl ?_
      obtain rfl := ki1 hf
      rw [hQ]
      exact k_iret hat hP hS rfl dX11_leftOver_26
    · have hf := kn_e hf c4
      refine lv_lload_n hx hb dX11_leftOver_17 rfl (lv_at hl 0 rfl) ?_
      refine lv_iload_n hx hb dX11_leftOver_18 rfl (lv_at hl 2 rfl) ?_
      refine lv_i2l hx hb dX11_leftOver_19 rfl ?_
      refine lv_ladd hx hb dX11_leftOver_20 ?_
      refine lv_goto (tgt := 25) hx hb dX11_leftOver_21 (by decide) ?_
      refine lv_l2i hx hb dX11_leftOver_25 rfl ?_
      obtain rfl := ki1 hf
      rw [hQ]
      exact k_iret hat hP hS rfl dX11_leftOver_26
  · have hf := kp_e hf c1
    refine lv_iconst (v := 0) hx hb dX11_leftOver_4 (by decide) ?_
    obtain rfl := ki1 hf
    rw [hQ]
    exact k_iret hat hP hS rfl dX11_leftOver_5
set_option maxHeartbeats 4000000 in
set_option maxRecDepth 100000 in
theorem c_X11_badPrimes {l : Launch} {D : va_G} {cI cJ cQ : ClassId} {tp : Nat} (F : Nat) (x0 : Int64) (r0 : Int32) (hf : f_X11_badPrimes F x0 = some r0) : kM (fun A => kQi D A [] r0) (some .int) l yX11_badPrimes cX11_badPrimes 7 { frames := 1, cells := 0, slots := 0, locals := 24 } D cI cJ cQ tp [.long x0] [] := by
  refine kM_of (by decide +kernel) (Nat.le_of_ble_eq_true rfl) ?_
  intro p e s m args below meth c A ls R Q hR hQ hat hP hD hS hl
  obtain ⟨hx, hb, hr, hml, hown, hts, hT, hlk, hK, hA, hZ⟩ := id hat
  have hown : s.vm.findClass RX11 = some m.cls := hown
  have hl : lv_has ls 7 [(0, .long x0)] := hl
  have hL13 : ∀ (x0 : Int64) (x4 : Int32) (fu : Nat) (x2 : Int32) (x5 : Int32) (o0 : Int32), L_X11_badPrimes_13 x0 x4 fu x2 x5 = some o0 → (∀ (H : Heap) (locs : List Loc) (ls : Array Slot), va_P D vwCl [] H → va_D A [] → va_S A s.heap H locs → lv_has ls 7 [(2, .int o0)] → W p l e R s m args below meth c H locs 0 0 Q (F0 m 44 ls [])) → ∀ (H : Heap) (locs : List Loc) (ls : Array Slot), va_P D vwCl [] H → va_D A [] → va_S A s.heap H locs → lv_has ls 7 [(0, .long x0), (2, .int x2), (3, .ref tp), (4, .int x4), (5, .int x5)] → W p l e R s m args below meth c H locs 0 0 Q (F0 m 13 ls []) := by
    intro x0 x4 fu
    induction fu with
    | zero =>
      intro x2 x5 o0 hf
      cases hf
    | succ fu ih =>
      intro x2 x5 o0 hf hk0 H locs ls hP hD hS hl
      rw [L_X11_badPrimes_13] at hf
      refine lv_iload hx hb dX11_badPrimes_13 (lv_at hl 4 rfl) ?_
      refine lv_iload hx hb dX11_badPrimes_15 (lv_at hl 3 rfl) ?_
      refine lv_icmp_ge (tgt := 44) hx hb dX11_badPrimes_17 (by decide) (fun c1 => ?_) (fun c1 => ?_)
      · have hf := kp_e hf c1
        obtain rfl := ki1 hf
        exact hk0 _ _ _ hP hD hS (lv_sub hl [1] rfl)
      · have hf := kn_e hf c1
        refine lv_aload_n hx hb dX11_badPrimes_20 rfl (lv_at hl 2 rfl) ?_
        refine lv_iload hx hb dX11_badPrimes_21 (lv_at hl 4 rfl) ?_
        obtain ⟨c2, hf⟩ := kc_e hf
        refine va_ti hx hb hZ.2 hS (kin_e c2) rfl dX11_badPrimes_23 ?_
        refine lv_topi (fun t3 et3 => ?_)
        have hf := kl_e hf t3 et3
        refine lv_istore (lv' := [(6, .int t3), (0, .long x0), (2, .int x2), (3, .ref tp), (4, .int x4), (5, .int x5)]) hx hb dX11_badPrimes_24 hl (by decide) rfl (fun ls hl => ?_)
        refine lv_lload_n hx hb dX11_badPrimes_26 rfl (lv_at hl 1 rfl) ?_
        refine lv_iload hx hb dX11_badPrimes_27 (lv_at hl 0 rfl) ?_
        obtain ⟨r4, h5, hf⟩ := kb1_e hf
        refine k_gi (nW := 0) (ws' := []) (wr := []) (k_runS (rest := []) hat hP hD hS hl.1 (c_X11_leftOver x0 t3 r4 h5) [] (by decide) rfl kw466 kw418 kw67 kw419 kdX11_leftOver ⟨rfl, rfl⟩ (by rw [hR]; exact ⟨Nat.le_of_ble_eq_true rfl, Nat.le_of_ble_eq_true rfl⟩) ⟨Nat.zero_le _, Nat.zero_le _⟩ rfl rfl (Nat.le_of_ble_eq_true rfl) dX11_badPrimes_29) hat hP hD hS [] rfl [] rfl rfl rfl rfl rfl (by decide) (fun H locs hP hD hS => ?_)
        refine lv_if_ne (tgt := 38) hx hb dX11_badPrimes_32 (by decide) (fun c6 => ?_) (fun c6 => ?_)
        · have hf := kn_e hf c6
          obtain ⟨t7, et7⟩ : ∃ z : Int32, z = (x5 + (1 : Int32)) := ⟨_, rfl⟩
          have hf := kl_e hf t7 et7
          refine lv_iinc (v := t7) (lv' := [(5, .int t7), (6, .int t3), (0, .long x0), (2, .int x2), (3, .ref tp), (4, .int x4)]) hx hb dX11_badPrimes_38 hl (k := 5) rfl (by rw [et7]; rfl) (by decide) rfl (fun ls hl => ?_)
          refine lv_goto (tgt := 13) hx hb dX11_badPrimes_41 (by decide) ?_
          exact ih x2 t7 o0 hf hk0 _ _ _ hP hD hS (lv_sub hl [2, 3, 4, 5, 0] rfl)
        · have hf := kp_e hf c6
          obtain ⟨t8, et8⟩ : ∃ z : Int32, z = (x2 + (1 : Int32)) := ⟨_, rfl⟩
          have hf := kl_e hf t8 et8
          refine lv_iinc (v := t8) (lv' := [(2, .int t8), (6, .int t3), (0, .long x0), (3, .ref tp), (4, .int x4), (5, .int x5)]) hx hb dX11_badPrimes_35 hl (k := 2) rfl (by rw [et8]; rfl) (by decide) rfl (fun ls hl => ?_)
          obtain ⟨t9, et9⟩ : ∃ z : Int32, z = (x5 + (1 : Int32)) := ⟨_, rfl⟩
          have hf := kl_e hf t9 et9
          refine lv_iinc (v := t9) (lv' := [(5, .int t9), (2, .int t8), (6, .int t3), (0, .long x0), (3, .ref tp), (4, .int x4)]) hx hb dX11_badPrimes_38 hl (k := 5) rfl (by rw [et9]; rfl) (by decide) rfl (fun ls hl => ?_)
          refine lv_goto (tgt := 13) hx hb dX11_badPrimes_41 (by decide) ?_
          exact ih t8 t9 o0 hf hk0 _ _ _ hP hD hS (lv_sub hl [3, 1, 4, 5, 0] rfl)
  unfold f_X11_badPrimes at hf
  refine lv_iconst (v := 0) hx hb dX11_badPrimes_0 (by decide) ?_
  refine lv_istore_n (lv' := [(2, .int (0 : Int32)), (0, .long x0)]) hx hb dX11_badPrimes_1 rfl hl (by decide) rfl (fun ls hl => ?_)
  refine va_gets hx hb hZ.1 hS hown (hts _ kw465) (fun _ h9 => h9) dX11_badPrimes_2 ?_
  refine lv_astore_n (lv' := [(3, .ref tp), (2, .int (0 : Int32)), (0, .long x0)]) hx hb dX11_badPrimes_5 rfl hl (by decide) rfl (fun ls hl => ?_)
  refine lv_aload_n hx hb dX11_badPrimes_6 rfl (lv_at hl 0 rfl) ?_
  refine va_tlen hx hb hZ.2 hS (v := 25) (by decide) dX11_badPrimes_7 ?_
  refine lv_istore (lv' := [(4, .int (25 : Int32)), (3, .ref tp), (2, .int (0 : Int32)), (0, .long x0)]) hx hb dX11_badPrimes_8 hl (by decide) rfl (fun ls hl => ?_)
  refine lv_iconst (v := 0) hx hb dX11_badPrimes_10 (by decide) ?_
  refine lv_istore (lv' := [(5, .int (0 : Int32)), (4, .int (25 : Int32)), (3, .ref tp), (2, .int (0 : Int32)), (0, .long x0)]) hx hb dX11_badPrimes_11 hl (by decide) rfl (fun ls hl => ?_)
  obtain ⟨y10, hu, hf⟩ := kb1_e hf
  refine hL13 x0 (25 : Int32) F (0 : Int32) (0 : Int32) y10 hu (fun H locs ls hP hD hS hl => ?_) _ _ _ hP hD hS (lv_sub hl [4, 3, 2, 1, 0] rfl)
  refine lv_iload_n hx hb dX11_badPrimes_44 rfl (lv_at hl 0 rfl) ?_
  obtain rfl := ki1 hf
  rw [hQ]
  exact k_iret hat hP hS rfl dX11_badPrimes_45
