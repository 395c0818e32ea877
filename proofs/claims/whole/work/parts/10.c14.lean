set_option maxHeartbeats 4000000 in
set_option maxRecDepth 100000 in
theorem c_X8_clear {l : Launch} {D : va_G} {cI cJ cQ : ClassId} {tp : Nat} (q : Nat) (qa1 : Nat) (q_rows : Nat) (q_rows_r : Nat → Nat) (qa1_numbers : Nat) (v_n : Int32) (v_rank : Int32) (v_exchanges : Int32) (v_width : Int32) (v_p : Int32) (v_rows : (Nat → Nat → Int64)) (va1_n : Int32) (va1_primeNumber : Int32) (va1_numbers : (Nat → Int32)) (F : Nat) (o_v_n : Int32) (o_v_rank : Int32) (o_v_exchanges : Int32) (o_v_p : Int32) (o_v_rows : (Nat → Nat → Int64)) (hf : f_X8_clear F v_n v_rank v_exchanges v_width v_p v_rows va1_n va1_primeNumber va1_numbers = some (o_v_n, o_v_rank, o_v_exchanges, o_v_p, o_v_rows)) : kM (fun A => kQv D A [(q, .inr (8, [.int o_v_n, .int o_v_rank, .int o_v_exchanges, .ref q_rows, .int v_width, .int o_v_p])), (q_rows, .inl (cQ, 4, .inr (.inr (.inr (.inr (kg q_rows_r)))))), (q_rows_r 0, .inl (cJ, 9, .inr (.inl (o_v_rows 0)))), (q_rows_r 1, .inl (cJ, 9, .inr (.inl (o_v_rows 1)))), (q_rows_r 2, .inl (cJ, 9, .inr (.inl (o_v_rows 2)))), (q_rows_r 3, .inl (cJ, 9, .inr (.inl (o_v_rows 3)))), (qa1, .inr (3, [.int va1_n, .int va1_primeNumber, .ref qa1_numbers])), (qa1_numbers, .inl (cI, 20, .inl va1_numbers))]) none l yX8_clear cX8_clear 4 { frames := 4, cells := 0, slots := 0, locals := 94 } D cI cJ cQ tp [.ref q, .ref qa1] [(q, .inr (8, [.int v_n, .int v_rank, .int v_exchanges, .ref q_rows, .int v_width, .int v_p])), (q_rows, .inl (cQ, 4, .inr (.inr (.inr (.inr (kg q_rows_r)))))), (q_rows_r 0, .inl (cJ, 9, .inr (.inl (v_rows 0)))), (q_rows_r 1, .inl (cJ, 9, .inr (.inl (v_rows 1)))), (q_rows_r 2, .inl (cJ, 9, .inr (.inl (v_rows 2)))), (q_rows_r 3, .inl (cJ, 9, .inr (.inl (v_rows 3)))), (qa1, .inr (3, [.int va1_n, .int va1_primeNumber, .ref qa1_numbers])), (qa1_numbers, .inl (cI, 20, .inl va1_numbers))] := by
  refine kM_of (by decide +kernel) (Nat.le_of_ble_eq_true rfl) ?_
  intro p e s m args below meth c A ls R Q hR hQ hat hP hD hS hl
  obtain ⟨hx, hb, hr, hml, hown, hts, hT, hlk, hK, hA, hZ⟩ := id hat
  have hown : s.vm.findClass RX8 = some m.cls := hown
  have hl : lv_has ls 4 [(0, .ref q), (1, .ref qa1)] := hl
  have hL25 : ∀ (x2 : Int32) (v_n : Int32) (v_rank : Int32) (v_exchanges : Int32) (v_width : Int32) (v_p : Int32) (va1_n : Int32) (va1_primeNumber : Int32) (va1_numbers : (Nat → Int32)) (fu : Nat) (x3 : Int32) (v_rows : (Nat → Nat → Int64)) (o0 : (Nat → Nat → Int64)), L_X8_clear_25 x2 v_p va1_numbers fu x3 v_rows = some o0 → (∀ (H : Heap) (locs : List Loc) (ls : Array Slot), va_P D vwCl [(q, .inr (8, [.int v_n, .int v_rank, .int v_exchanges, .ref q_rows, .int v_width, .int v_p])), (q_rows, .inl (cQ, 4, .inr (.inr (.inr (.inr (kg q_rows_r)))))), (q_rows_r 0, .inl (cJ, 9, .inr (.inl (o0 0)))), (q_rows_r 1, .inl (cJ, 9, .inr (.inl (o0 1)))), (q_rows_r 2, .inl (cJ, 9, .inr (.inl (o0 2)))), (q_rows_r 3, .inl (cJ, 9, .inr (.inl (o0 3)))), (qa1, .inr (3, [.int va1_n, .int va1_primeNumber, .ref qa1_numbers])), (qa1_numbers, .inl (cI, 20, .inl va1_numbers))] H → va_D A [(q, .inr (8, [.int v_n, .int v_rank, .int v_exchanges, .ref q_rows, .int v_width, .int v_p])), (q_rows, .inl (cQ, 4, .inr (.inr (.inr (.inr (kg q_rows_r)))))), (q_rows_r 0, .inl (cJ, 9, .inr (.inl (o0 0)))), (q_rows_r 1, .inl (cJ, 9, .inr (.inl (o0 1)))), (q_rows_r 2, .inl (cJ, 9, .inr (.inl (o0 2)))), (q_rows_r 3, .inl (cJ, 9, .inr (.inl (o0 3)))), (qa1, .inr (3, [.int va1_n, .int va1_primeNumber, .ref qa1_numbers])), (qa1_numbers, .inl (cI, 20, .inl va1_numbers))] → va_S A s.heap H locs → lv_has ls 4 [(0, .ref q), (1, .ref qa1), (2, .int x2)] → W p l e R s m args below meth c H locs 0 0 Q (F0 m 59 ls [])) → ∀ (H : Heap) (locs : List Loc) (ls : Array Slot), va_P D vwCl [(q, .inr (8, [.int v_n, .int v_rank, .int v_exchanges, .ref q_rows, .int v_width, .int v_p])), (q_rows, .inl (cQ, 4, .inr (.inr (.inr (.inr (kg q_rows_r)))))), (q_rows_r 0, .inl (cJ, 9, .inr (.inl (v_rows 0)))), (q_rows_r 1, .inl (cJ, 9, .inr (.inl (v_rows 1)))), (q_rows_r 2, .inl (cJ, 9, .inr (.inl (v_rows 2)))), (q_rows_r 3, .inl (cJ, 9, .inr (.inl (v_rows 3)))), (qa1, .inr (3, [.int va1_n, .int va1_primeNumber, .ref qa1_numbers])), (qa1_numbers, .inl (cI, 20, .inl va1_numbers))] H → va_D A [(q, .inr (8, [.int v_n, .int v_rank, .int v_exchanges, .ref q_rows, .int v_width, .int v_p])), (q_rows, .inl (cQ, 4, .inr (.inr (.inr (.inr (kg q_rows_r)))))), (q_rows_r 0, .inl (cJ, 9, .inr (.inl (v_rows 0)))), (q_rows_r 1, .inl (cJ, 9, .inr (.inl (v_rows 1)))), (q_rows_r 2, .inl (cJ, 9, .inr (.inl (v_rows 2)))), (q_rows_r 3, .inl (cJ, 9, .inr (.inl (v_rows 3)))), (qa1, .inr (3, [.int va1_n, .int va1_primeNumber, .ref qa1_numbers])), (qa1_numbers, .inl (cI, 20, .inl va1_numbers))] → va_S A s.heap H locs → lv_has ls 4 [(0, .ref q), (1, .ref qa1), (2, .int x2), (3, .int x3)] → W p l e R s m args below meth c H locs 0 0 Q (F0 m 25 ls []) := by
    intro x2 v_n v_rank v_exchanges v_width v_p va1_n va1_primeNumber va1_numbers fu
    induction fu with
    | zero =>
      intro x3 v_rows o0 hf
      cases hf
    | succ fu ih =>
      intro x3 v_rows o0 hf hk0 H locs ls hP hD hS hl
      rw [L_X8_clear_25] at hf
      refine lv_iload_n hx hb dX8_clear_25 rfl (lv_at hl 3 rfl) ?_
      refine lv_iconst (v := 5) hx hb dX8_clear_26 (by decide) ?_
      refine lv_icmp_ge (tgt := 59) hx hb dX8_clear_27 (by decide) (fun c4 => ?_) (fun c4 => ?_)
      · have hf := kp_e hf c4
        obtain rfl := ki1 hf
        exact hk0 _ _ _ hP hD hS (lv_sub hl [0, 1, 2] rfl)
      · have hf := kn_e hf c4
        refine lv_aload_n hx hb dX8_clear_30 rfl (lv_at hl 0 rfl) ?_
        refine va_get (D := D) (ci := 8) (v := .ref q_rows) (C := RX8) (T := TX8) (N := 6) hx hb hts kinX8 hown hK hP 0 rfl rfl 3 (by decide) (hts _ kw152) (u_same (hts _ kw153)) rfl dX8_clear_31 ?_
        refine lv_iload_n hx hb dX8_clear_34 rfl (lv_at hl 2 rfl) ?_
        obtain ⟨c5, hf⟩ := kc_e hf
        refine k_gld hx hb hK hP 1 rfl c5 dX8_clear_35 ?_
        refine lv_iload_n hx hb dX8_clear_36 rfl (lv_at hl 3 rfl) ?_
        refine lv_aload_n hx hb dX8_clear_37 rfl (lv_at hl 1 rfl) ?_
        refine lv_iload_n hx hb dX8_clear_38 rfl (lv_at hl 2 rfl) ?_
        refine lv_iload_n hx hb dX8_clear_39 rfl (lv_at hl 3 rfl) ?_
        obtain ⟨r6, h7, hf⟩ := kb1_e hf
        refine k_gi (nW := 8) (ws' := [(q, .inr (8, [.int v_n, .int v_rank, .int v_exchanges, .ref q_rows, .int v_width, .int v_p])), (q_rows, .inl (cQ, 4, .inr (.inr (.inr (.inr (kg q_rows_r)))))), (q_rows_r 0, .inl (cJ, 9, .inr (.inl (v_rows 0)))), (q_rows_r 1, .inl (cJ, 9, .inr (.inl (v_rows 1)))), (q_rows_r 2, .inl (cJ, 9, .inr (.inl (v_rows 2)))), (q_rows_r 3, .inl (cJ, 9, .inr (.inl (v_rows 3)))), (qa1, .inr (3, [.int va1_n, .int va1_primeNumber, .ref qa1_numbers])), (qa1_numbers, .inl (cI, 20, .inl va1_numbers))]) (wr := [(q, .inr (8, [.int v_n, .int v_rank, .int v_exchanges, .ref q_rows, .int v_width, .int v_p])), (q_rows, .inl (cQ, 4, .inr (.inr (.inr (.inr (kg q_rows_r)))))), (q_rows_r 0, .inl (cJ, 9, .inr (.inl (v_rows 0)))), (q_rows_r 1, .inl (cJ, 9, .inr (.inl (v_rows 1)))), (q_rows_r 2, .inl (cJ, 9, .inr (.inl (v_rows 2)))), (q_rows_r 3, .inl (cJ, 9, .inr (.inl (v_rows 3))))]) (k_runV (rest := [.int x3, .ref (q_rows_r x2.toNatClampNeg)]) hat hP hD hS hl.1 (c_X3_number qa1 qa1_numbers va1_n va1_primeNumber va1_numbers x2 x3 r6 h7) [6, 7] (by decide) rfl kw480 kw380 kw381 kw68 kw382 kdVX3_number ⟨rfl, rfl⟩ (by rw [hR]; exact ⟨Nat.le_of_ble_eq_true rfl, Nat.le_of_ble_eq_true rfl⟩) ⟨Nat.zero_le _, Nat.zero_le _⟩ 6 3 rfl rfl rfl rfl (Nat.le_of_ble_eq_true rfl) dX8_clear_40) hat hP hD hS [6, 7] rfl [0, 1, 2, 3, 4, 5] rfl rfl rfl rfl rfl (by decide) (fun H locs hP hD hS => ?_)
        refine lv_i2l hx hb dX8_clear_43 rfl ?_
        refine lv_aload_n hx hb dX8_clear_44 rfl (lv_at hl 0 rfl) ?_
        refine va_get (D := D) (ci := 8) (v := .int v_p) (C := RX8) (T := TX8) (N := 6) hx hb hts kinX8 hown hK hP 0 rfl rfl 5 (by decide) (hts _ kw177) (fun _ h9 => h9) rfl dX8_clear_45 ?_
        obtain ⟨r8, h9, hf⟩ := kb1_e hf
        refine k_gi (nW := 8) (ws' := [(q, .inr (8, [.int v_n, .int v_rank, .int v_exchanges, .ref q_rows, .int v_width, .int v_p])), (q_rows, .inl (cQ, 4, .inr (.inr (.inr (.inr (kg q_rows_r)))))), (q_rows_r 0, .inl (cJ, 9, .inr (.inl (v_rows 0)))), (q_rows_r 1, .inl (cJ, 9, .inr (.inl (v_rows 1)))), (q_rows_r 2, .inl (cJ, 9, .inr (.inl (v_rows 2)))), (q_rows_r 3, .inl (cJ, 9, .inr (.inl (v_rows 3)))), (qa1, .inr (3, [.int va1_n, .int va1_primeNumber, .ref qa1_numbers])), (qa1_numbers, .inl (cI, 20, .inl va1_numbers))]) (wr := [(q, .inr (8, [.int v_n, .int v_rank, .int v_exchanges, .ref q_rows, .int v_width, .int v_p])), (q_rows, .inl (cQ, 4, .inr (.inr (.inr (.inr (kg q_rows_r)))))), (q_rows_r 0, .inl (cJ, 9, .inr (.inl (v_rows 0)))), (q_rows_r 1, .inl (cJ, 9, .inr (.inl (v_rows 1)))), (q_rows_r 2, .inl (cJ, 9, .inr (.inl (v_rows 2)))), (q_rows_r 3, .inl (cJ, 9, .inr (.inl (v_rows 3)))), (qa1, .inr (3, [.int va1_n, .int va1_primeNumber, .ref qa1_numbers])), (qa1_numbers, .inl (cI, 20, .inl va1_numbers))]) (k_runSN (rest := [.int x3, .ref (q_rows_r x2.toNatClampNeg)]) hat hP hD hS hl.1 (c_X11_leftOver (r6.toInt64) v_p r8 h9) [] (by decide) rfl kw417 kw418 kw67 kw419 kdX11_leftOver ⟨rfl, rfl⟩ (by rw [hR]; exact ⟨Nat.le_of_ble_eq_true rfl, Nat.le_of_ble_eq_true rfl⟩) ⟨Nat.zero_le _, Nat.zero_le _⟩ rfl rfl (Nat.le_of_ble_eq_true rfl) dX8_clear_48) hat hP hD hS [] rfl [0, 1, 2, 3, 4, 5, 6, 7] rfl rfl rfl rfl rfl (by decide) (fun H locs hP hD hS => ?_)
        refine lv_i2l hx hb dX8_clear_51 rfl ?_
        obtain ⟨c10, hf⟩ := kc_e hf
        refine k_rst (ws' := fun M9 => [(q, .inr (8, [.int v_n, .int v_rank, .int v_exchanges, .ref q_rows, .int v_width, .int v_p])), (q_rows, .inl (cQ, 4, .inr (.inr (.inr (.inr (kg q_rows_r)))))), (q_rows_r 0, .inl (cJ, 9, .inr (.inl (M9 0)))), (q_rows_r 1, .inl (cJ, 9, .inr (.inl (M9 1)))), (q_rows_r 2, .inl (cJ, 9, .inr (.inl (M9 2)))), (q_rows_r 3, .inl (cJ, 9, .inr (.inl (M9 3)))), (qa1, .inr (3, [.int va1_n, .int va1_primeNumber, .ref qa1_numbers])), (qa1_numbers, .inl (cI, 20, .inl va1_numbers))]) hx hb hK hP hD hS 2 (fun k hk => (co_4 (P := fun k => ([(q, .inr (8, [.int v_n, .int v_rank, .int v_exchanges, .ref q_rows, .int v_width, .int v_p])), (q_rows, .inl (cQ, 4, .inr (.inr (.inr (.inr (kg q_rows_r)))))), (q_rows_r 0, .inl (cJ, 9, .inr (.inl (v_rows 0)))), (q_rows_r 1, .inl (cJ, 9, .inr (.inl (v_rows 1)))), (q_rows_r 2, .inl (cJ, 9, .inr (.inl (v_rows 2)))), (q_rows_r 3, .inl (cJ, 9, .inr (.inl (v_rows 3)))), (qa1, .inr (3, [.int va1_n, .int va1_primeNumber, .ref qa1_numbers])), (qa1_numbers, .inl (cI, 20, .inl va1_numbers))] : va_W)[2 + k]? = some (q_rows_r k, .inl (cJ, 9, .inr (.inl (v_rows k))))) rfl rfl rfl rfl) hk) (fun k hk => (co_4 (P := fun k => ∀ f : Nat → Int64, ([(q, .inr (8, [.int v_n, .int v_rank, .int v_exchanges, .ref q_rows, .int v_width, .int v_p])), (q_rows, .inl (cQ, 4, .inr (.inr (.inr (.inr (kg q_rows_r)))))), (q_rows_r 0, .inl (cJ, 9, .inr (.inl (v_rows 0)))), (q_rows_r 1, .inl (cJ, 9, .inr (.inl (v_rows 1)))), (q_rows_r 2, .inl (cJ, 9, .inr (.inl (v_rows 2)))), (q_rows_r 3, .inl (cJ, 9, .inr (.inl (v_rows 3)))), (qa1, .inr (3, [.int va1_n, .int va1_primeNumber, .ref qa1_numbers])), (qa1_numbers, .inl (cI, 20, .inl va1_numbers))] : va_W).set (2 + k) (q_rows_r k, .inl (cJ, 9, .inr (.inl f))) = (fun M9 : Nat → Nat → Int64 => ([(q, .inr (8, [.int v_n, .int v_rank, .int v_exchanges, .ref q_rows, .int v_width, .int v_p])), (q_rows, .inl (cQ, 4, .inr (.inr (.inr (.inr (kg q_rows_r)))))), (q_rows_r 0, .inl (cJ, 9, .inr (.inl (M9 0)))), (q_rows_r 1, .inl (cJ, 9, .inr (.inl (M9 1)))), (q_rows_r 2, .inl (cJ, 9, .inr (.inl (M9 2)))), (q_rows_r 3, .inl (cJ, 9, .inr (.inl (M9 3)))), (qa1, .inr (3, [.int va1_n, .int va1_primeNumber, .ref qa1_numbers])), (qa1_numbers, .inl (cI, 20, .inl va1_numbers))] : va_W)) (ku v_rows k f)) (fun _ => rfl) (fun _ => rfl) (fun _ => rfl) (fun _ => rfl)) hk) (kin_nat c5) c10 dX8_clear_52 (fun H locs hP hD hS => ?_)
        generalize ew11 : (ku v_rows (x2.toNatClampNeg) (vp_updL (v_rows (x2.toNatClampNeg)) x3.toNatClampNeg (r8.toInt64))) = w11 at hP hD
        have hf := kl_e hf w11 ew11.symm
        have hP : va_P D vwCl [(q, .inr (8, [.int v_n, .int v_rank, .int v_exchanges, .ref q_rows, .int v_width, .int v_p])), (q_rows, .inl (cQ, 4, .inr (.inr (.inr (.inr (kg q_rows_r)))))), (q_rows_r 0, .inl (cJ, 9, .inr (.inl (w11 0)))), (q_rows_r 1, .inl (cJ, 9, .inr (.inl (w11 1)))), (q_rows_r 2, .inl (cJ, 9, .inr (.inl (w11 2)))), (q_rows_r 3, .inl (cJ, 9, .inr (.inl (w11 3)))), (qa1, .inr (3, [.int va1_n, .int va1_primeNumber, .ref qa1_numbers])), (qa1_numbers, .inl (cI, 20, .inl va1_numbers))] H := hP
        have hD : va_D A [(q, .inr (8, [.int v_n, .int v_rank, .int v_exchanges, .ref q_rows, .int v_width, .int v_p])), (q_rows, .inl (cQ, 4, .inr (.inr (.inr (.inr (kg q_rows_r)))))), (q_rows_r 0, .inl (cJ, 9, .inr (.inl (w11 0)))), (q_rows_r 1, .inl (cJ, 9, .inr (.inl (w11 1)))), (q_rows_r 2, .inl (cJ, 9, .inr (.inl (w11 2)))), (q_rows_r 3, .inl (cJ, 9, .inr (.inl (w11 3)))), (qa1, .inr (3, [.int va1_n, .int va1_primeNumber, .ref qa1_numbers])), (qa1_numbers, .inl (cI, 20, .inl va1_numbers))] := hD
        obtain ⟨t12, et12⟩ : ∃ z : Int32, z = (x3 + (1 : Int32)) := ⟨_, rfl⟩
        have hf := kl_e hf t12 et12
        refine lv_iinc (v := t12) (lv' := [(3, .int t12), (0, .ref q), (1, .ref qa1), (2, .int x2)]) hx hb dX8_clear_53 hl (k := 3) rfl (by rw [et12]; rfl) (by decide) rfl (fun ls hl => ?_)
        refine lv_goto (tgt := 25) hx hb dX8_clear_56 (by decide) ?_
        exact ih t12 w11 o0 hf hk0 _ _ _ hP hD hS (lv_sub hl [1, 2, 3, 0] rfl)
  have hL61 : ∀ (x2 : Int32) (v_n : Int32) (v_rank : Int32) (v_exchanges : Int32) (v_width : Int32) (v_p : Int32) (va1_n : Int32) (va1_primeNumber : Int32) (va1_numbers : (Nat → Int32)) (fu : Nat) (x3 : Int32) (v_rows : (Nat → Nat → Int64)) (o0 : (Nat → Nat → Int64)), L_X8_clear_61 x2 fu x3 v_rows = some o0 → (∀ (H : Heap) (locs : List Loc) (ls : Array Slot), va_P D vwCl [(q, .inr (8, [.int v_n, .int v_rank, .int v_exchanges, .ref q_rows, .int v_width, .int v_p])), (q_rows, .inl (cQ, 4, .inr (.inr (.inr (.inr (kg q_rows_r)))))), (q_rows_r 0, .inl (cJ, 9, .inr (.inl (o0 0)))), (q_rows_r 1, .inl (cJ, 9, .inr (.inl (o0 1)))), (q_rows_r 2, .inl (cJ, 9, .inr (.inl (o0 2)))), (q_rows_r 3, .inl (cJ, 9, .inr (.inl (o0 3)))), (qa1, .inr (3, [.int va1_n, .int va1_primeNumber, .ref qa1_numbers])), (qa1_numbers, .inl (cI, 20, .inl va1_numbers))] H → va_D A [(q, .inr (8, [.int v_n, .int v_rank, .int v_exchanges, .ref q_rows, .int v_width, .int v_p])), (q_rows, .inl (cQ, 4, .inr (.inr (.inr (.inr (kg q_rows_r)))))), (q_rows_r 0, .inl (cJ, 9, .inr (.inl (o0 0)))), (q_rows_r 1, .inl (cJ, 9, .inr (.inl (o0 1)))), (q_rows_r 2, .inl (cJ, 9, .inr (.inl (o0 2)))), (q_rows_r 3, .inl (cJ, 9, .inr (.inl (o0 3)))), (qa1, .inr (3, [.int va1_n, .int va1_primeNumber, .ref qa1_numbers])), (qa1_numbers, .inl (cI, 20, .inl va1_numbers))] → va_S A s.heap H locs → lv_has ls 4 [(0, .ref q), (1, .ref qa1), (2, .int x2)] → W p l e R s m args below meth c H locs 0 0 Q (F0 m 93 ls [])) → ∀ (H : Heap) (locs : List Loc) (ls : Array Slot), va_P D vwCl [(q, .inr (8, [.int v_n, .int v_rank, .int v_exchanges, .ref q_rows, .int v_width, .int v_p])), (q_rows, .inl (cQ, 4, .inr (.inr (.inr (.inr (kg q_rows_r)))))), (q_rows_r 0, .inl (cJ, 9, .inr (.inl (v_rows 0)))), (q_rows_r 1, .inl (cJ, 9, .inr (.inl (v_rows 1)))), (q_rows_r 2, .inl (cJ, 9, .inr (.inl (v_rows 2)))), (q_rows_r 3, .inl (cJ, 9, .inr (.inl (v_rows 3)))), (qa1, .inr (3, [.int va1_n, .int va1_primeNumber, .ref qa1_numbers])), (qa1_numbers, .inl (cI, 20, .inl va1_numbers))] H → va_D A [(q, .inr (8, [.int v_n, .int v_rank, .int v_exchanges, .ref q_rows, .int v_width, .int v_p])), (q_rows, .inl (cQ, 4, .inr (.inr (.inr (.inr (kg q_rows_r)))))), (q_rows_r 0, .inl (cJ, 9, .inr (.inl (v_rows 0)))), (q_rows_r 1, .inl (cJ, 9, .inr (.inl (v_rows 1)))), (q_rows_r 2, .inl (cJ, 9, .inr (.inl (v_rows 2)))), (q_rows_r 3, .inl (cJ, 9, .inr (.inl (v_rows 3)))), (qa1, .inr (3, [.int va1_n, .int va1_primeNumber, .ref qa1_numbers])), (qa1_numbers, .inl (cI, 20, .inl va1_numbers))] → va_S A s.heap H locs → lv_has ls 4 [(0, .ref q), (1, .ref qa1), (2, .int x2), (3, .int x3)] → W p l e R s m args below meth c H locs 0 0 Q (F0 m 61 ls []) := by
    intro x2 v_n v_rank v_exchanges v_width v_p va1_n va1_primeNumber va1_numbers fu
    induction fu with
    | zero =>
      intro x3 v_rows o0 hf
      cases hf
    | succ fu ih =>
      intro x3 v_rows o0 hf hk0 H locs ls hP hD hS hl
      rw [L_X8_clear_61] at hf
      refine lv_iload_n hx hb dX8_clear_61 rfl (lv_at hl 3 rfl) ?_
      refine lv_bipush (v := 9) hx hb dX8_clear_62 (by decide) ?_
      refine lv_icmp_ge (tgt := 93) hx hb dX8_clear_64 (by decide) (fun c14 => ?_) (fun c14 => ?_)
      · have hf := kp_e hf c14
        obtain rfl := ki1 hf
        exact hk0 _ _ _ hP hD hS (lv_sub hl [0, 1, 2] rfl)
      · have hf := kn_e hf c14
        refine lv_aload_n hx hb dX8_clear_67 rfl (lv_at hl 0 rfl) ?_
        refine va_get (D := D) (ci := 8) (v := .ref q_rows) (C := RX8) (T := TX8) (N := 6) hx hb hts kinX8 hown hK hP 0 rfl rfl 3 (by decide) (hts _ kw152) (u_same (hts _ kw153)) rfl dX8_clear_68 ?_
        refine lv_iload_n hx hb dX8_clear_71 rfl (lv_at hl 2 rfl) ?_
        obtain ⟨c15, hf⟩ := kc_e hf
        refine k_gld hx hb hK hP 1 rfl c15 dX8_clear_72 ?_
        refine lv_iload_n hx hb dX8_clear_73 rfl (lv_at hl 3 rfl) ?_
        refine lv_iload_n hx hb dX8_clear_74 rfl (lv_at hl 3 rfl) ?_
        refine lv_iconst (v := 5) hx hb dX8_clear_75 (by decide) ?_
        refine lv_isub hx hb dX8_clear_76 ?_
        refine lv_iload_n hx hb dX8_clear_77 rfl (lv_at hl 2 rfl) ?_
        refine lv_icmp_ne (tgt := 85) hx hb dX8_clear_78 (by decide) (fun c16 => ?_) (fun c16 => ?_)
        · have hf := kn_e hf c16
          refine lv_lconst (v := 0) hx hb dX8_clear_85 (by decide) ?_
          obtain ⟨c17, hf⟩ := kc_e hf
          refine k_rst (ws' := fun M9 => [(q, .inr (8, [.int v_n, .int v_rank, .int v_exchanges, .ref q_rows, .int v_width, .int v_p])), (q_rows, .inl (cQ, 4, .inr (.inr (.inr (.inr (kg q_rows_r)))))), (q_rows_r 0, .inl (cJ, 9, .inr (.inl (M9 0)))), (q_rows_r 1, .inl (cJ, 9, .inr (.inl (M9 1)))), (q_rows_r 2, .inl (cJ, 9, .inr (.inl (M9 2)))), (q_rows_r 3, .inl (cJ, 9, .inr (.inl (M9 3)))), (qa1, .inr (3, [.int va1_n, .int va1_primeNumber, .ref qa1_numbers])), (qa1_numbers, .inl (cI, 20, .inl va1_numbers))]) hx hb hK hP hD hS 2 (fun k hk => (co_4 (P := fun k => ([(q, .inr (8, [.int v_n, .int v_rank, .int v_exchanges, .ref q_rows, .int v_width, .int v_p])), (q_rows, .inl (cQ, 4, .inr (.inr (.inr (.inr (kg q_rows_r)))))), (q_rows_r 0, .inl (cJ, 9, .inr (.inl (v_rows 0)))), (q_rows_r 1, .inl (cJ, 9, .inr (.inl (v_rows 1)))), (q_rows_r 2, .inl (cJ, 9, .inr (.inl (v_rows 2)))), (q_rows_r 3, .inl (cJ, 9, .inr (.inl (v_rows 3)))), (qa1, .inr (3, [.int va1_n, .int va1_primeNumber, .ref qa1_numbers])), (qa1_numbers, .inl (cI, 20, .inl va1_numbers))] : va_W)[2 + k]? = some (q_rows_r k, .inl (cJ, 9, .inr (.inl (v_rows k))))) rfl rfl rfl rfl) hk) (fun k hk => (co_4 (P := fun k => ∀ f : Nat → Int64, ([(q, .inr (8, [.int v_n, .int v_rank, .int v_exchanges, .ref q_rows, .int v_width, .int v_p])), (q_rows, .inl (cQ, 4, .inr (.inr (.inr (.inr (kg q_rows_r)))))), (q_rows_r 0, .inl (cJ, 9, .inr (.inl (v_rows 0)))), (q_rows_r 1, .inl (cJ, 9, .inr (.inl (v_rows 1)))), (q_rows_r 2, .inl (cJ, 9, .inr (.inl (v_rows 2)))), (q_rows_r 3, .inl (cJ, 9, .inr (.inl (v_rows 3)))), (qa1, .inr (3, [.int va1_n, .int va1_primeNumber, .ref qa1_numbers])), (qa1_numbers, .inl (cI, 20, .inl va1_numbers))] : va_W).set (2 + k) (q_rows_r k, .inl (cJ, 9, .inr (.inl f))) = (fun M9 : Nat → Nat → Int64 => ([(q, .inr (8, [.int v_n, .int v_rank, .int v_exchanges, .ref q_rows, .int v_width, .int v_p])), (q_rows, .inl (cQ, 4, .inr (.inr (.inr (.inr (kg q_rows_r)))))), (q_rows_r 0, .inl (cJ, 9, .inr (.inl (M9 0)))), (q_rows_r 1, .inl (cJ, 9, .inr (.inl (M9 1)))), (q_rows_r 2, .inl (cJ, 9, .inr (.inl (M9 2)))), (q_rows_r 3, .inl (cJ, 9, .inr (.inl (M9 3)))), (qa1, .inr (3, [.int va1_n, .int va1_primeNumber, .ref qa1_numbers])), (qa1_numbers, .inl (cI, 20, .inl va1_numbers))] : va_W)) (ku v_rows k f)) (fun _ => rfl) (fun _ => rfl) (fun _ => rfl) (fun _ => rfl)) hk) (kin_nat c15) c17 dX8_clear_86 (fun H locs hP hD hS => ?_)
          generalize ew18 : (ku v_rows (x2.toNatClampNeg) (vp_updL (v_rows (x2.toNatClampNeg)) x3.toNatClampNeg (0 : Int64))) = w18 at hP hD
          have hf := kl_e hf w18 ew18.symm
          have hP : va_P D vwCl [(q, .inr (8, [.int v_n, .int v_rank, .int v_exchanges, .ref q_rows, .int v_width, .int v_p])), (q_rows, .inl (cQ, 4, .inr (.inr (.inr (.inr (kg q_rows_r)))))), (q_rows_r 0, .inl (cJ, 9, .inr (.inl (w18 0)))), (q_rows_r 1, .inl (cJ, 9, .inr (.inl (w18 1)))), (q_rows_r 2, .inl (cJ, 9, .inr (.inl (w18 2)))), (q_rows_r 3, .inl (cJ, 9, .inr (.inl (w18 3)))), (qa1, .inr (3, [.int va1_n, .int va1_primeNumber, .ref qa1_numbers])), (qa1_numbers, .inl (cI, 20, .inl va1_numbers))] H := hP
          have hD : va_D A [(q, .inr (8, [.int v_n, .int v_rank, .int v_exchanges, .ref q_rows, .int v_width, .int v_p])), (q_rows, .inl (cQ, 4, .inr (.inr (.inr (.inr (kg q_rows_r)))))), (q_rows_r 0, .inl (cJ, 9, .inr (.inl (w18 0)))), (q_rows_r 1, .inl (cJ, 9, .inr (.inl (w18 1)))), (q_rows_r 2, .inl (cJ, 9, .inr (.inl (w18 2)))), (q_rows_r 3, .inl (cJ, 9, .inr (.inl (w18 3)))), (qa1, .inr (3, [.int va1_n, .int va1_primeNumber, .ref qa1_numbers])), (qa1_numbers, .inl (cI, 20, .inl va1_numbers))] := hD
          obtain ⟨t19, et19⟩ : ∃ z : Int32, z = (x3 + (1 : Int32)) := ⟨_, rfl⟩
          have hf := kl_e hf t19 et19
          refine lv_iinc (v := t19) (lv' := [(3, .int t19), (0, .ref q), (1, .ref qa1), (2, .int x2)]) hx hb dX8_clear_87 hl (k := 3) rfl (by rw [et19]; rfl) (by decide) rfl (fun ls hl => ?_)
          refine lv_goto (tgt := 61) hx hb dX8_clear_90 (by decide) ?_
          exact ih t19 w18 o0 hf hk0 _ _ _ hP hD hS (lv_sub hl [1, 2, 3, 0] rfl)
        · have hf := kp_e hf c16
          refine lv_lconst (v := 1) hx hb dX8_clear_81 (by decide) ?_
          refine lv_goto (tgt := 86) hx hb dX8_clear_82 (by decide) ?_
          obtain ⟨c20, hf⟩ := kc_e hf
          refine k_rst (ws' := fun M9 => [(q, .inr (8, [.int v_n, .int v_rank, .int v_exchanges, .ref q_rows, .int v_width, .int v_p])), (q_rows, .inl (cQ, 4, .inr (.inr (.inr (.inr (kg q_rows_r)))))), (q_rows_r 0, .inl (cJ, 9, .inr (.inl (M9 0)))), (q_rows_r 1, .inl (cJ, 9, .inr (.inl (M9 1)))), (q_rows_r 2, .inl (cJ, 9, .inr (.inl (M9 2)))), (q_rows_r 3, .inl (cJ, 9, .inr (.inl (M9 3)))), (qa1, .inr (3, [.int va1_n, .int va1_primeNumber, .ref qa1_numbers])), (qa1_numbers, .inl (cI, 20, .inl va1_numbers))]) hx hb hK hP hD hS 2 (fun k hk => (co_4 (P := fun k => ([(q, .inr (8, [.int v_n, .int v_rank, .int v_exchanges, .ref q_rows, .int v_width, .int v_p])), (q_rows, .inl (cQ, 4, .inr (.inr (.inr (.inr (kg q_rows_r)))))), (q_rows_r 0, .inl (cJ, 9, .inr (.inl (v_rows 0)))), (q_rows_r 1, .inl (cJ, 9, .inr (.inl (v_rows 1)))), (q_rows_r 2, .inl (cJ, 9, .inr (.inl (v_rows 2)))), (q_rows_r 3, .inl (cJ, 9, .inr (.inl (v_rows 3)))), (qa1, .inr (3, [.int va1_n, .int va1_primeNumber, .ref qa1_numbers])), (qa1_numbers, .inl (cI, 20, .inl va1_numbers))] : va_W)[2 + k]? = some (q_rows_r k, .inl (cJ, 9, .inr (.inl (v_rows k))))) rfl rfl rfl rfl) hk) (fun k hk => (co_4 (P := fun k => ∀ f : Nat → Int64, ([(q, .inr (8, [.int v_n, .int v_rank, .int v_exchanges, .ref q_rows, .int v_width, .int v_p])), (q_rows, .inl (cQ, 4, .inr (.inr (.inr (.inr (kg q_rows_r)))))), (q_rows_r 0, .inl (cJ, 9, .inr (.inl (v_rows 0)))), (q_rows_r 1, .inl (cJ, 9, .inr (.inl (v_rows 1)))), (q_rows_r 2, .inl (cJ, 9, .inr (.inl (v_rows 2)))), (q_rows_r 3, .inl (cJ, 9, .inr (.inl (v_rows 3)))), (qa1, .inr (3, [.int va1_n, .int va1_primeNumber, .ref qa1_numbers])), (qa1_numbers, .inl (cI, 20, .inl va1_numbers))] : va_W).set (2 + k) (q_rows_r k, .inl (cJ, 9, .inr (.inl f))) = (fun M9 : Nat → Nat → Int64 => ([(q, .inr (8, [.int v_n, .int v_rank, .int v_exchanges, .ref q_rows, .int v_width, .int v_p])), (q_rows, .inl (cQ, 4, .inr (.inr (.inr (.inr (kg q_rows_r)))))), (q_rows_r 0, .inl (cJ, 9, .inr (.inl (M9 0)))), (q_rows_r 1, .inl (cJ, 9, .inr (.inl (M9 1)))), (q_rows_r 2, .inl (cJ, 9, .inr (.inl (M9 2)))), (q_rows_r 3, .inl (cJ, 9, .inr (.inl (M9 3)))), (qa1, .inr (3, [.int va1_n, .int va1_primeNumber, .ref qa1_numbers])), (qa1_numbers, .inl (cI, 20, .inl va1_numbers))] : va_W)) (ku v_rows k f)) (fun _ => rfl) (fun _ => rfl) (fun _ => rfl) (fun _ => rfl)) hk) (kin_nat c15) c20 dX8_clear_86 (fun H locs hP hD hS => ?_)
          generalize ew21 : (ku v_rows (x2.toNatClampNeg) (vp_updL (v_rows (x2.toNatClampNeg)) x3.toNatClampNeg (1 : Int64))) = w21 at hP hD
          have hf := kl_e hf w21 ew21.symm
          have hP : va_P D vwCl [(q, .inr (8, [.int v_n, .int v_rank, .int v_exchanges, .ref q_rows, .int v_width, .int v_p])), (q_rows, .inl (cQ, 4, .inr (.inr (.inr (.inr (kg q_rows_r)))))), (q_rows_r 0, .inl (cJ, 9, .inr (.inl (w21 0)))), (q_rows_r 1, .inl (cJ, 9, .inr (.inl (w21 1)))), (q_rows_r 2, .inl (cJ, 9, .inr (.inl (w21 2)))), (q_rows_r 3, .inl (cJ, 9, .inr (.inl (w21 3)))), (qa1, .inr (3, [.int va1_n, .int va1_primeNumber, .ref qa1_numbers])), (qa1_numbers, .inl (cI, 20, .inl va1_numbers))] H := hP
          have hD : va_D A [(q, .inr (8, [.int v_n, .int v_rank, .int v_exchanges, .ref q_rows, .int v_width, .int v_p])), (q_rows, .inl (cQ, 4, .inr (.inr (.inr (.inr (kg q_rows_r)))))), (q_rows_r 0, .inl (cJ, 9, .inr (.inl (w21 0)))), (q_rows_r 1, .inl (cJ, 9, .inr (.inl (w21 1)))), (q_rows_r 2, .inl (cJ, 9, .inr (.inl (w21 2)))), (q_rows_r 3, .inl (cJ, 9, .inr (.inl (w21 3)))), (qa1, .inr (3, [.int va1_n, .int va1_primeNumber, .ref qa1_numbers])), (qa1_numbers, .inl (cI, 20, .inl va1_numbers))] := hD
          obtain ⟨t22, et22⟩ : ∃ z : Int32, z = (x3 + (1 : Int32)) := ⟨_, rfl⟩
          have hf := kl_e hf t22 et22
          refine lv_iinc (v := t22) (lv' := [(3, .int t22), (0, .ref q), (1, .ref qa1), (2, .int x2)]) hx hb dX8_clear_87 hl (k := 3) rfl (by rw [et22]; rfl) (by decide) rfl (fun ls hl => ?_)
          refine lv_goto (tgt := 61) hx hb dX8_clear_90 (by decide) ?_
          exact ih t22 w21 o0 hf hk0 _ _ _ hP hD hS (lv_sub hl [1, 2, 3, 0] rfl)
  have hL18 : ∀ (v_n : Int32) (v_rank : Int32) (v_exchanges : Int32) (v_width : Int32) (v_p : Int32) (va1_n : Int32) (va1_primeNumber : Int32) (va1_numbers : (Nat → Int32)) (fu : Nat) (x2 : Int32) (v_rows : (Nat → Nat → Int64)) (o0 : (Nat → Nat → Int64)), L_X8_clear_18 F v_p va1_numbers fu x2 v_rows = some o0 → (∀ (H : Heap) (locs : List Loc) (ls : Array Slot), va_P D vwCl [(q, .inr (8, [.int v_n, .int v_rank, .int v_exchanges, .ref q_rows, .int v_width, .int v_p])), (q_rows, .inl (cQ, 4, .inr (.inr (.inr (.inr (kg q_rows_r)))))), (q_rows_r 0, .inl (cJ, 9, .inr (.inl (o0 0)))), (q_rows_r 1, .inl (cJ, 9, .inr (.inl (o0 1)))), (q_rows_r 2, .inl (cJ, 9, .inr (.inl (o0 2)))), (q_rows_r 3, .inl (cJ, 9, .inr (.inl (o0 3)))), (qa1, .inr (3, [.int va1_n, .int va1_primeNumber, .ref qa1_numbers])), (qa1_numbers, .inl (cI, 20, .inl va1_numbers))] H → va_D A [(q, .inr (8, [.int v_n, .int v_rank, .int v_exchanges, .ref q_rows, .int v_width, .int v_p])), (q_rows, .inl (cQ, 4, .inr (.inr (.inr (.inr (kg q_rows_r)))))), (q_rows_r 0, .inl (cJ, 9, .inr (.inl (o0 0)))), (q_rows_r 1, .inl (cJ, 9, .inr (.inl (o0 1)))), (q_rows_r 2, .inl (cJ, 9, .inr (.inl (o0 2)))), (q_rows_r 3, .inl (cJ, 9, .inr (.inl (o0 3)))), (qa1, .inr (3, [.int va1_n, .int va1_primeNumber, .ref qa1_numbers])), (qa1_numbers, .inl (cI, 20, .inl va1_numbers))] → va_S A s.heap H locs → lv_has ls 4 [(0, .ref q)] → W p l e R s m args below meth c H locs 0 0 Q (F0 m 99 ls [])) → ∀ (H : Heap) (locs : List Loc) (ls : Array Slot), va_P D vwCl [(q, .inr (8, [.int v_n, .int v_rank, .int v_exchanges, .ref q_rows, .int v_width, .int v_p])), (q_rows, .inl (cQ, 4, .inr (.inr (.inr (.inr (kg q_rows_r)))))), (q_rows_r 0, .inl (cJ, 9, .inr (.inl (v_rows 0)))), (q_rows_r 1, .inl (cJ, 9, .inr (.inl (v_rows 1)))), (q_rows_r 2, .inl (cJ, 9, .inr (.inl (v_rows 2)))), (q_rows_r 3, .inl (cJ, 9, .inr (.inl (v_rows 3)))), (qa1, .inr (3, [.int va1_n, .int va1_primeNumber, .ref qa1_numbers])), (qa1_numbers, .inl (cI, 20, .inl va1_numbers))] H → va_D A [(q, .inr (8, [.int v_n, .int v_rank, .int v_exchanges, .ref q_rows, .int v_width, .int v_p])), (q_rows, .inl (cQ, 4, .inr (.inr (.inr (.inr (kg q_rows_r)))))), (q_rows_r 0, .inl (cJ, 9, .inr (.inl (v_rows 0)))), (q_rows_r 1, .inl (cJ, 9, .inr (.inl (v_rows 1)))), (q_rows_r 2, .inl (cJ, 9, .inr (.inl (v_rows 2)))), (q_rows_r 3, .inl (cJ, 9, .inr (.inl (v_rows 3)))), (qa1, .inr (3, [.int va1_n, .int va1_primeNumber, .ref qa1_numbers])), (qa1_numbers, .inl (cI, 20, .inl va1_numbers))] → va_S A s.heap H locs → lv_has ls 4 [(0, .ref q), (1, .ref qa1), (2, .int x2)] → W p l e R s m args below meth c H locs 0 0 Q (F0 m 18 ls []) := by
    intro v_n v_rank v_exchanges v_width v_p va1_n va1_primeNumber va1_numbers fu
    induction fu with
    | zero =>
      intro x2 v_rows o0 hf
      cases hf
    | succ fu ih =>
      intro x2 v_rows o0 hf hk0 H locs ls hP hD hS hl
      rw [L_X8_clear_18] at hf
      refine lv_iload_n hx hb dX8_clear_18 rfl (lv_at hl 2 rfl) ?_
      refine lv_iconst (v := 4) hx hb dX8_clear_19 (by decide) ?_
      refine lv_icmp_ge (tgt := 99) hx hb dX8_clear_20 (by decide) (fun c3 => ?_) (fun c3 => ?_)
      · have hf := kp_e hf c3
        obtain rfl := ki1 hf
        exact hk0 _ _ _ hP hD hS (lv_sub hl [0] rfl)
      · have hf := kn_e hf c3
        refine lv_iconst (v := 0) hx hb dX8_clear_23 (by decide) ?_
        refine lv_istore_n (lv' := [(3, .int (0 : Int32)), (0, .ref q), (1, .ref qa1), (2, .int x2)]) hx hb dX8_clear_24 rfl hl (by decide) rfl (fun ls hl => ?_)
        obtain ⟨w13, hu, hf⟩ := kb1_e hf
        refine hL25 x2 v_n v_rank v_exchanges v_width v_p va1_n va1_primeNumber va1_numbers F (0 : Int32) v_rows w13 hu (fun H locs ls hP hD hS hl => ?_) _ _ _ hP hD hS (lv_sub hl [1, 2, 3, 0] rfl)
        refine lv_iconst (v := 5) hx hb dX8_clear_59 (by decide) ?_
        refine lv_istore_n (lv' := [(3, .int (5 : Int32)), (0, .ref q), (1, .ref qa1), (2, .int x2)]) hx hb dX8_clear_60 rfl hl (by decide) rfl (fun ls hl => ?_)
        obtain ⟨w23, hu, hf⟩ := kb1_e hf
        refine hL61 x2 v_n v_rank v_exchanges v_width v_p va1_n va1_primeNumber va1_numbers F (5 : Int32) w13 w23 hu (fun H locs ls hP hD hS hl => ?_) _ _ _ hP hD hS (lv_sub hl [1, 2, 3, 0] rfl)
        obtain ⟨t24, et24⟩ : ∃ z : Int32, z = (x2 + (1 : Int32)) := ⟨_, rfl⟩
        have hf := kl_e hf t24 et24
        refine lv_iinc (v := t24) (lv' := [(2, .int t24), (0, .ref q), (1, .ref qa1)]) hx hb dX8_clear_93 hl (k := 2) rfl (by rw [et24]; rfl) (by decide) rfl (fun ls hl => ?_)
        refine lv_goto (tgt := 18) hx hb dX8_clear_96 (by decide) ?_
        exact ih t24 w23 o0 hf hk0 _ _ _ hP hD hS (lv_sub hl [1, 2, 0] rfl)
  unfold f_X8_clear at hf
  refine lv_aload_n hx hb dX8_clear_0 rfl (lv_at hl 0 rfl) ?_
  refine lv_aload_n hx hb dX8_clear_1 rfl (lv_at hl 1 rfl) ?_
  refine va_get (D := D) (ci := 3) (v := .int va1_n) (C := RX3) (T := TX3) (N := 3) hx hb hts kinX3 hown hK hP 6 rfl rfl 0 (by decide) (hts _ kw106) (fun _ h9 => h9) rfl dX8_clear_2 ?_
  refine va_put (D := D) (ci := 8) (v := .int va1_n) (ty := .int) (C := RX8) (T := TX8) (N := 6) hx hb hts kinX8 tyX8 tyX8_ok nmX8 hown hK hP hD hS 0 rfl rfl 0 (by decide) (hts _ kw136) (u_same (hts _ kw137)) rfl (by decide +kernel) rfl rfl (Nat.le_of_ble_eq_true rfl) dX8_clear_5 (fun H locs hP hD hS => ?_)
  have hP : va_P D vwCl [(q, .inr (8, [.int va1_n, .int v_rank, .int v_exchanges, .ref q_rows, .int v_width, .int v_p])), (q_rows, .inl (cQ, 4, .inr (.inr (.inr (.inr (kg q_rows_r)))))), (q_rows_r 0, .inl (cJ, 9, .inr (.inl (v_rows 0)))), (q_rows_r 1, .inl (cJ, 9, .inr (.inl (v_rows 1)))), (q_rows_r 2, .inl (cJ, 9, .inr (.inl (v_rows 2)))), (q_rows_r 3, .inl (cJ, 9, .inr (.inl (v_rows 3)))), (qa1, .inr (3, [.int va1_n, .int va1_primeNumber, .ref qa1_numbers])), (qa1_numbers, .inl (cI, 20, .inl va1_numbers))] H := hP
  have hD : va_D A [(q, .inr (8, [.int va1_n, .int v_rank, .int v_exchanges, .ref q_rows, .int v_width, .int v_p])), (q_rows, .inl (cQ, 4, .inr (.inr (.inr (.inr (kg q_rows_r)))))), (q_rows_r 0, .inl (cJ, 9, .inr (.inl (v_rows 0)))), (q_rows_r 1, .inl (cJ, 9, .inr (.inl (v_rows 1)))), (q_rows_r 2, .inl (cJ, 9, .inr (.inl (v_rows 2)))), (q_rows_r 3, .inl (cJ, 9, .inr (.inl (v_rows 3)))), (qa1, .inr (3, [.int va1_n, .int va1_primeNumber, .ref qa1_numbers])), (qa1_numbers, .inl (cI, 20, .inl va1_numbers))] := hD
  refine lv_aload_n hx hb dX8_clear_8 rfl (lv_at hl 0 rfl) ?_
  refine lv_aload_n hx hb dX8_clear_9 rfl (lv_at hl 1 rfl) ?_
  obtain ⟨r1, h2, hf⟩ := kb1_e hf
  refine k_gi (nW := 8) (ws' := [(q, .inr (8, [.int va1_n, .int v_rank, .int v_exchanges, .ref q_rows, .int v_width, .int v_p])), (q_rows, .inl (cQ, 4, .inr (.inr (.inr (.inr (kg q_rows_r)))))), (q_rows_r 0, .inl (cJ, 9, .inr (.inl (v_rows 0)))), (q_rows_r 1, .inl (cJ, 9, .inr (.inl (v_rows 1)))), (q_rows_r 2, .inl (cJ, 9, .inr (.inl (v_rows 2)))), (q_rows_r 3, .inl (cJ, 9, .inr (.inl (v_rows 3)))), (qa1, .inr (3, [.int va1_n, .int va1_primeNumber, .ref qa1_numbers])), (qa1_numbers, .inl (cI, 20, .inl va1_numbers))]) (wr := [(q, .inr (8, [.int va1_n, .int v_rank, .int v_exchanges, .ref q_rows, .int v_width, .int v_p])), (q_rows, .inl (cQ, 4, .inr (.inr (.inr (.inr (kg q_rows_r)))))), (q_rows_r 0, .inl (cJ, 9, .inr (.inl (v_rows 0)))), (q_rows_r 1, .inl (cJ, 9, .inr (.inl (v_rows 1)))), (q_rows_r 2, .inl (cJ, 9, .inr (.inl (v_rows 2)))), (q_rows_r 3, .inl (cJ, 9, .inr (.inl (v_rows 3)))), (qa1_numbers, .inl (cI, 20, .inl va1_numbers))]) (k_runV (rest := [.ref q]) hat hP hD hS hl.1 (c_X3_p qa1 qa1_numbers va1_n va1_primeNumber r1 h2) [6] (by decide) rfl kw479 kw366 kw367 kw68 kw368 kdVX3_p ⟨rfl, rfl⟩ (by rw [hR]; exact ⟨Nat.le_of_ble_eq_true rfl, Nat.le_of_ble_eq_true rfl⟩) ⟨Nat.zero_le _, Nat.zero_le _⟩ 6 3 rfl rfl rfl rfl (Nat.le_of_ble_eq_true rfl) dX8_clear_10) hat hP hD hS [6] rfl [0, 1, 2, 3, 4, 5, 7] rfl rfl rfl rfl rfl (by decide) (fun H locs hP hD hS => ?_)
  refine va_put (D := D) (ci := 8) (v := .int r1) (ty := .int) (C := RX8) (T := TX8) (N := 6) hx hb hts kinX8 tyX8 tyX8_ok nmX8 hown hK hP hD hS 0 rfl rfl 5 (by decide) (hts _ kw177) (fun _ h9 => h9) rfl (by decide +kernel) rfl rfl (Nat.le_of_ble_eq_true rfl) dX8_clear_13 (fun H locs hP hD hS => ?_)
  have hP : va_P D vwCl [(q, .inr (8, [.int va1_n, .int v_rank, .int v_exchanges, .ref q_rows, .int v_width, .int r1])), (q_rows, .inl (cQ, 4, .inr (.inr (.inr (.inr (kg q_rows_r)))))), (q_rows_r 0, .inl (cJ, 9, .inr (.inl (v_rows 0)))), (q_rows_r 1, .inl (cJ, 9, .inr (.inl (v_rows 1)))), (q_rows_r 2, .inl (cJ, 9, .inr (.inl (v_rows 2)))), (q_rows_r 3, .inl (cJ, 9, .inr (.inl (v_rows 3)))), (qa1, .inr (3, [.int va1_n, .int va1_primeNumber, .ref qa1_numbers])), (qa1_numbers, .inl (cI, 20, .inl va1_numbers))] H := hP
  have hD : va_D A [(q, .inr (8, [.int va1_n, .int v_rank, .int v_exchanges, .ref q_rows, .int v_width, .int r1])), (q_rows, .inl (cQ, 4, .inr (.inr (.inr (.inr (kg q_rows_r)))))), (q_rows_r 0, .inl (cJ, 9, .inr (.inl (v_rows 0)))), (q_rows_r 1, .inl (cJ, 9, .inr (.inl (v_rows 1)))), (q_rows_r 2, .inl (cJ, 9, .inr (.inl (v_rows 2)))), (q_rows_r 3, .inl (cJ, 9, .inr (.inl (v_rows 3)))), (qa1, .inr (3, [.int va1_n, .int va1_primeNumber, .ref qa1_numbers])), (qa1_numbers, .inl (cI, 20, .inl va1_numbers))] := hD
  refine lv_iconst (v := 0) hx hb dX8_clear_16 (by decide) ?_
  refine lv_istore_n (lv' := [(2, .int (0 : Int32)), (0, .ref q), (1, .ref qa1)]) hx hb dX8_clear_17 rfl hl (by decide) rfl (fun ls hl => ?_)
  obtain ⟨w25, hu, hf⟩ := kb1_e hf
  refine hL18 va1_n v_rank v_exchanges v_width r1 va1_n va1_primeNumber va1_numbers F (0 : Int32) v_rows w25 hu (fun H locs ls hP hD hS hl => ?_) _ _ _ hP hD hS (lv_sub hl [1, 2, 0] rfl)
  refine lv_aload_n hx hb dX8_clear_99 rfl (lv_at hl 0 rfl) ?_
  obtain ⟨w26, w27, w28, h29, hf⟩ := kb3_e hf
  refine k_gv (nW := 8) (ws' := [(q, .inr (8, [.int va1_n, .int w26, .int w27, .ref q_rows, .int v_width, .int r1])), (q_rows, .inl (cQ, 4, .inr (.inr (.inr (.inr (kg q_rows_r)))))), (q_rows_r 0, .inl (cJ, 9, .inr (.inl (w28 0)))), (q_rows_r 1, .inl (cJ, 9, .inr (.inl (w28 1)))), (q_rows_r 2, .inl (cJ, 9, .inr (.inl (w28 2)))), (q_rows_r 3, .inl (cJ, 9, .inr (.inl (w28 3)))), (qa1, .inr (3, [.int va1_n, .int va1_primeNumber, .ref qa1_numbers])), (qa1_numbers, .inl (cI, 20, .inl va1_numbers))]) (wr := [(qa1, .inr (3, [.int va1_n, .int va1_primeNumber, .ref qa1_numbers])), (qa1_numbers, .inl (cI, 20, .inl va1_numbers))]) (k_runU (rest := []) hat hP hD hS hl.1 (c_X9_clearColumns_R q q_rows q_rows_r va1_n v_rank v_exchanges v_width r1 w25 F w26 w27 w28 h29) [0, 1, 2, 3, 4, 5] (by decide) rfl (cu_X8_clear_X9_clearColumns_X8 hat (by rw [hR]; exact ⟨Nat.le_of_ble_eq_true rfl, Nat.le_of_ble_eq_true rfl⟩)) ⟨Nat.zero_le _, Nat.zero_le _⟩ 0 8 rfl rfl rfl rfl (Nat.le_of_ble_eq_true rfl) dX8_clear_100) hat hP hD hS [0, 1, 2, 3, 4, 5] rfl [6, 7] rfl rfl rfl rfl rfl (by decide) (fun H locs hP hD hS => ?_)
  obtain ⟨rfl, rfl, rfl, rfl, rfl⟩ := ki5 hf
  rw [hQ]
  exact k_vret hat hP hS dX8_clear_103
set_option maxHeartbeats 4000000 in
set_option maxRecDepth 100000 in
theorem c_X11_primeIsBad {l : Launch} {D : va_G} {cI cJ cQ : ClassId} {tp : Nat} (q : Nat) (q_now : Nat) (q_clearing : Nat) (q_residues : Nat) (q_lifting : Nat) (q_guessed : Nat) (q_walk : Nat) (q_history : Nat) (q_book : Nat) (q_draws : Nat) (q_firstImage : Nat) (q_secondImage : Nat) (q_now_numbers : Nat) (q_residues_rows : Nat) (q_residues_rows_r : Nat → Nat) (v_now_n : Int32) (v_now_primeNumber : Int32) (v_now_numbers : (Nat → Int32)) (v_residues_n : Int32) (v_residues_rank : Int32) (v_residues_exchanges : Int32) (v_residues_width : Int32) (v_residues_p : Int32) (v_residues_rows : (Nat → Nat → Int64)) (F : Nat) (r0 : Int32) (o_v_residues_n : Int32) (o_v_residues_rank : Int32) (o_v_residues_exchanges : Int32) (o_v_residues_p : Int32) (o_v_residues_rows : (Nat → Nat → Int64)) (hf : f_X11_primeIsBad F v_now_n v_now_primeNumber v_now_numbers v_residues_n v_residues_rank v_residues_exchanges v_residues_width v_residues_p v_residues_rows = some (r0, o_v_residues_n, o_v_residues_rank, o_v_residues_exchanges, o_v_residues_p, o_v_residues_rows)) : kM (fun A => kQi D A [(q, .inr (10, [.ref q_now, .ref q_clearing, .ref q_residues, .ref q_lifting, .ref q_guessed, .ref q_walk, .ref q_history, .ref q_book, .ref q_draws, .ref q_firstImage, .ref q_secondImage])), (q_now, .inr (3, [.int v_now_n, .int v_now_primeNumber, .ref q_now_numbers])), (q_now_numbers, .inl (cI, 20, .inl v_now_numbers)), (q_residues, .inr (8, [.int o_v_residues_n, .int o_v_residues_rank, .int o_v_residues_exchanges, .ref q_residues_rows, .int v_residues_width, .int o_v_residues_p])), (q_residues_rows, .inl (cQ, 4, .inr (.inr (.inr (.inr (kg q_residues_rows_r)))))), (q_residues_rows_r 0, .inl (cJ, 9, .inr (.inl (o_v_residues_rows 0)))), (q_residues_rows_r 1, .inl (cJ, 9, .inr (.inl (o_v_residues_rows 1)))), (q_residues_rows_r 2, .inl (cJ, 9, .inr (.inl (o_v_residues_rows 2)))), (q_residues_rows_r 3, .inl (cJ, 9, .inr (.inl (o_v_residues_rows 3))))] r0) (some .boolean) l yX11_primeIsBad cX11_primeIsBad 1 { frames := 5, cells := 0, slots := 0, locals := 117 } D cI cJ cQ tp [.ref q] [(q, .inr (10, [.ref q_now, .ref q_clearing, .ref q_residues, .ref q_lifting, .ref q_guessed, .ref q_walk, .ref q_history, .ref q_book, .ref q_draws, .ref q_firstImage, .ref q_secondImage])), (q_now, .inr (3, [.int v_now_n, .int v_now_primeNumber, .ref q_now_numbers])), (q_now_numbers, .inl (cI, 20, .inl v_now_numbers)), (q_residues, .inr (8, [.int v_residues_n, .int v_residues_rank, .int v_residues_exchanges, .ref q_residues_rows, .int v_residues_width, .int v_residues_p])), (q_residues_rows, .inl (cQ, 4, .inr (.inr (.inr (.inr (kg q_residues_rows_r)))))), (q_residues_rows_r 0, .inl (cJ, 9, .inr (.inl (v_residues_rows 0)))), (q_residues_rows_r 1, .inl (cJ, 9, .inr (.inl (v_residues_rows 1)))), (q_residues_rows_r 2, .inl (cJ, 9, .inr (.inl (v_residues_rows 2)))), (q_residues_rows_r 3, .inl (cJ, 9, .inr (.inl (v_residues_rows 3))))] := by
  refine kM_of (by decide +kernel) (Nat.le_of_ble_eq_true rfl) ?_
  intro p e s m args below meth c A ls R Q hR hQ hat hP hD hS hl
  obtain ⟨hx, hb, hr, hml, hown, hts, hT, hlk, hK, hA, hZ⟩ := id hat
  have hown : s.vm.findClass RX11 = some m.cls := hown
  have hl : lv_has ls 1 [(0, .ref q)] := hl
  unfold f_X11_primeIsBad at hf
  refine lv_aload_n hx hb dX11_primeIsBad_0 rfl (lv_at hl 0 rfl) ?_
  refine va_get (D := D) (ci := 10) (v := .ref q_residues) (C := RX11) (T := TX11) (N := 11) hx hb hts kinX11 hown hK hP 0 rfl rfl 2 (by decide) (hts _ kw329) (fun _ h9 => h9) rfl dX11_primeIsBad_1 ?_
  refine lv_aload_n hx hb dX11_primeIsBad_4 rfl (lv_at hl 0 rfl) ?_
  refine va_get (D := D) (ci := 10) (v := .ref q_now) (C := RX11) (T := TX11) (N := 11) hx hb hts kinX11 hown hK hP 0 rfl rfl 0 (by decide) (hts _ kw327) (fun _ h9 => h9) rfl dX11_primeIsBad_5 ?_
  obtain ⟨w1, w2, w3, w4, w5, h6, hf⟩ := kb5_e hf
  refine k_gv (nW := 9) (ws' := [(q, .inr (10, [.ref q_now, .ref q_clearing, .ref q_residues, .ref q_lifting, .ref q_guessed, .ref q_walk, .ref q_history, .ref q_book, .ref q_draws, .ref q_firstImage, .ref q_secondImage])), (q_now, .inr (3, [.int v_now_n, .int v_now_primeNumber, .ref q_now_numbers])), (q_now_numbers, .inl (cI, 20, .inl v_now_numbers)), (q_residues, .inr (8, [.int w1, .int w2, .int w3, .ref q_residues_rows, .int v_residues_width, .int w4])), (q_residues_rows, .inl (cQ, 4, .inr (.inr (.inr (.inr (kg q_residues_rows_r)))))), (q_residues_rows_r 0, .inl (cJ, 9, .inr (.inl (w5 0)))), (q_residues_rows_r 1, .inl (cJ, 9, .inr (.inl (w5 1)))), (q_residues_rows_r 2, .inl (cJ, 9, .inr (.inl (w5 2)))), (q_residues_rows_r 3, .inl (cJ, 9, .inr (.inl (w5 3))))]) (wr := [(q, .inr (10, [.ref q_now, .ref q_clearing, .ref q_residues, .ref q_lifting, .ref q_guessed, .ref q_walk, .ref q_history, .ref q_book, .ref q_draws, .ref q_firstImage, .ref q_secondImage]))]) (k_runV (rest := []) hat hP hD hS hl.1 (c_X8_clear q_residues q_now q_residues_rows q_residues_rows_r q_now_numbers v_residues_n v_residues_rank v_residues_exchanges v_residues_width v_residues_p v_residues_rows v_now_n v_now_primeNumber v_now_numbers F w1 w2 w3 w4 w5 h6) [3, 4, 5, 6, 7, 8, 1, 2] (by decide) rfl kw475 kw476 kw477 kw71 kw478 kdVX8_clear ⟨rfl, rfl⟩ (by rw [hR]; exact ⟨Nat.le_of_ble_eq_true rfl, Nat.le_of_ble_eq_true rfl⟩) ⟨Nat.zero_le _, Nat.zero_le _⟩ 3 8 rfl rfl rfl rfl (Nat.le_of_ble_eq_true rfl) dX11_primeIsBad_8) hat hP hD hS [3, 4, 5, 6, 7, 8, 1, 2] rfl [0] rfl rfl rfl rfl rfl (by decide) (fun H locs hP hD hS => ?_)
  refine lv_aload_n hx hb dX11_primeIsBad_11 rfl (lv_at hl 0 rfl) ?_
  refine va_get (D := D) (ci := 10) (v := .ref q_residues) (C := RX11) (T := TX11) (N := 11) hx hb hts kinX11 hown hK hP 0 rfl rfl 2 (by decide) (hts _ kw329) (fun _ h9 => h9) rfl dX11_primeIsBad_12 ?_
  refine va_get (D := D) (ci := 8) (v := .int w2) (C := RX8) (T := TX8) (N := 6) hx hb hts kinX8 hown hK hP 3 rfl rfl 1 (by decide) (hts _ kw145) (u_same (hts _ kw141)) rfl dX11_primeIsBad_15 ?_
  refine lv_aload_n hx hb dX11_primeIsBad_18 rfl (lv_at hl 0 rfl) ?_
  refine va_get (D := D) (ci := 10) (v := .ref q_now) (C := RX11) (T := TX11) (N := 11) hx hb hts kinX11 hown hK hP 0 rfl rfl 0 (by decide) (hts _ kw327) (fun _ h9 => h9) rfl dX11_primeIsBad_19 ?_
  refine va_get (D := D) (ci := 3) (v := .int v_now_n) (C := RX3) (T := TX3) (N := 3) hx hb hts kinX3 hown hK hP 1 rfl rfl 0 (by decide) (hts _ kw107) (fun _ h9 => h9) rfl dX11_primeIsBad_22 ?_
  refine lv_icmp_ge (tgt := 32) hx hb dX11_primeIsBad_25 (by decide) (fun c7 => ?_) (fun c7 => ?_)
  · have hf := kp_e hf c7
    refine lv_iconst (v := 0) hx hb dX11_primeIsBad_32 (by decide) ?_
    obtain ⟨rfl, rfl, rfl, rfl, rfl, rfl⟩ := ki6 hf
    rw [hQ]
    exact k_zret hat hP hS rfl (by decide) dX11_primeIsBad_33
  · have hf := kn_e hf c7
    refine lv_iconst (v := 1) hx hb dX11_primeIsBad_28 (by decide) ?_
    refine lv_goto (tgt := 33) hx hb dX11_primeIsBad_29 (by decide) ?_
    obtain ⟨rfl, rfl, rfl, rfl, rfl, rfl⟩ := ki6 hf
    rw [hQ]
    exact k_zret hat hP hS rfl (by decide) dX11_primeIsBad_33
set_option maxHeartbeats 4000000 in
set_option maxRecDepth 100000 in
theorem c_X9_fitsSide_R {l : Launch} {D : va_G} {cI cJ cQ : ClassId} {tp : Nat} (q : Nat) (q_rows : Nat) (q_rows_r : Nat → Nat) (v_n : Int32) (v_rank : Int32) (v_exchanges : Int32) (v_width : Int32) (v_p : Int32) (v_rows : (Nat → Nat → Int64)) (F : Nat) (r0 : Int32) (hf : f_X9_fitsSide_R F v_n v_rank v_rows = some r0) : kM (fun A => kQi D A [(q, .inr (8, [.int v_n, .int v_rank, .int v_exchanges, .ref q_rows, .int v_width, .int v_p])), (q_rows, .inl (cQ, 4, .inr (.inr (.inr (.inr (kg q_rows_r)))))), (q_rows_r 0, .inl (cJ, 9, .inr (.inl (v_rows 0)))), (q_rows_r 1, .inl (cJ, 9, .inr (.inl (v_rows 1)))), (q_rows_r 2, .inl (cJ, 9, .inr (.inl (v_rows 2)))), (q_rows_r 3, .inl (cJ, 9, .inr (.inl (v_rows 3))))] r0) (some .boolean) l yX9_fitsSide cX9_fitsSide 2 { frames := 0, cells := 0, slots := 0, locals := 0 } D cI cJ cQ tp [.ref q] [(q, .inr (8, [.int v_n, .int v_rank, .int v_exchanges, .ref q_rows, .int v_width, .int v_p])), (q_rows, .inl (cQ, 4, .inr (.inr (.inr (.inr (kg q_rows_r)))))), (q_rows_r 0, .inl (cJ, 9, .inr (.inl (v_rows 0)))), (q_rows_r 1, .inl (cJ, 9, .inr (.inl (v_rows 1)))), (q_rows_r 2, .inl (cJ, 9, .inr (.inl (v_rows 2)))), (q_rows_r 3, .inl (cJ, 9, .inr (.inl (v_rows 3))))] := by
  refine kM_of (by decide +kernel) (Nat.le_of_ble_eq_true rfl) ?_
  intro p e s m args below meth c A ls R Q hR hQ hat hP hD hS hl
  obtain ⟨hx, hb, hr, hml, hown, hts, hT, hlk, hK, hA, hZ⟩ := id hat
  have hown : s.vm.findClass RX9 = some m.cls := hown
  have hl : lv_has ls 2 [(0, .ref q)] := hl
  have hL5 : ∀ (v_n : Int32) (v_rank : Int32) (v_exchanges : Int32) (v_width : Int32) (v_p : Int32) (v_rows : (Nat → Nat → Int64)) (fu : Nat) (x1 : Int32) (u : Unit ⊕ Unit), L_X9_fitsSide_R_5 v_n v_rows fu x1 = some u → (u = .inl () → ∀ (H : Heap) (locs : List Loc) (ls : Array Slot), va_P D vwCl [(q, .inr (8, [.int v_n, .int v_rank, .int v_exchanges, .ref q_rows, .int v_width, .int v_p])), (q_rows, .inl (cQ, 4, .inr (.inr (.inr (.inr (kg q_rows_r)))))), (q_rows_r 0, .inl (cJ, 9, .inr (.inl (v_rows 0)))), (q_rows_r 1, .inl (cJ, 9, .inr (.inl (v_rows 1)))), (q_rows_r 2, .inl (cJ, 9, .inr (.inl (v_rows 2)))), (q_rows_r 3, .inl (cJ, 9, .inr (.inl (v_rows 3))))] H → va_D A [(q, .inr (8, [.int v_n, .int v_rank, .int v_exchanges, .ref q_rows, .int v_width, .int v_p])), (q_rows, .inl (cQ, 4, .inr (.inr (.inr (.inr (kg q_rows_r)))))), (q_rows_r 0, .inl (cJ, 9, .inr (.inl (v_rows 0)))), (q_rows_r 1, .inl (cJ, 9, .inr (.inl (v_rows 1)))), (q_rows_r 2, .inl (cJ, 9, .inr (.inl (v_rows 2)))), (q_rows_r 3, .inl (cJ, 9, .inr (.inl (v_rows 3))))] → va_S A s.heap H locs → lv_has ls 2 [] → W p l e R s m args below meth c H locs 0 0 Q (F0 m 26 ls [])) → (u = .inr () → ∀ (H : Heap) (locs : List Loc) (ls : Array Slot), va_P D vwCl [(q, .inr (8, [.int v_n, .int v_rank, .int v_exchanges, .ref q_rows, .int v_width, .int v_p])), (q_rows, .inl (cQ, 4, .inr (.inr (.inr (.inr (kg q_rows_r)))))), (q_rows_r 0, .inl (cJ, 9, .inr (.inl (v_rows 0)))), (q_rows_r 1, .inl (cJ, 9, .inr (.inl (v_rows 1)))), (q_rows_r 2, .inl (cJ, 9, .inr (.inl (v_rows 2)))), (q_rows_r 3, .inl (cJ, 9, .inr (.inl (v_rows 3))))] H → va_D A [(q, .inr (8, [.int v_n, .int v_rank, .int v_exchanges, .ref q_rows, .int v_width, .int v_p])), (q_rows, .inl (cQ, 4, .inr (.inr (.inr (.inr (kg q_rows_r)))))), (q_rows_r 0, .inl (cJ, 9, .inr (.inl (v_rows 0)))), (q_rows_r 1, .inl (cJ, 9, .inr (.inl (v_rows 1)))), (q_rows_r 2, .inl (cJ, 9, .inr (.inl (v_rows 2)))), (q_rows_r 3, .inl (cJ, 9, .inr (.inl (v_rows 3))))] → va_S A s.heap H locs → lv_has ls 2 [] → W p l e R s m args below meth c H locs 0 0 Q (F0 m 34 ls [])) → ∀ (H : Heap) (locs : List Loc) (ls : Array Slot), va_P D vwCl [(q, .inr (8, [.int v_n, .int v_rank, .int v_exchanges, .ref q_rows, .int v_width, .int v_p])), (q_rows, .inl (cQ, 4, .inr (.inr (.inr (.inr (kg q_rows_r)))))), (q_rows_r 0, .inl (cJ, 9, .inr (.inl (v_rows 0)))), (q_rows_r 1, .inl (cJ, 9, .inr (.inl (v_rows 1)))), (q_rows_r 2, .inl (cJ, 9, .inr (.inl (v_rows 2)))), (q_rows_r 3, .inl (cJ, 9, .inr (.inl (v_rows 3))))] H → va_D A [(q, .inr (8, [.int v_n, .int v_rank, .int v_exchanges, .ref q_rows, .int v_width, .int v_p])), (q_rows, .inl (cQ, 4, .inr (.inr (.inr (.inr (kg q_rows_r)))))), (q_rows_r 0, .inl (cJ, 9, .inr (.inl (v_rows 0)))), (q_rows_r 1, .inl (cJ, 9, .inr (.inl (v_rows 1)))), (q_rows_r 2, .inl (cJ, 9, .inr (.inl (v_rows 2)))), (q_rows_r 3, .inl (cJ, 9, .inr (.inl (v_rows 3))))] → va_S A s.heap H locs → lv_has ls 2 [(0, .ref q), (1, .int x1)] → W p l e R s m args below meth c H locs 0 0 Q (F0 m 5 ls []) := by
    intro v_n v_rank v_exchanges v_width v_p v_rows fu
    induction fu with
    | zero =>
      intro x1 u hf
      cases hf
    | succ fu ih =>
      intro x1 u hf hk0 hk1 H locs ls hP hD hS hl
      rw [L_X9_fitsSide_R_5] at hf
      refine lv_iload_n hx hb dX9_fitsSide_5 rfl (lv_at hl 1 rfl) ?_
      refine lv_aload_n hx hb dX9_fitsSide_6 rfl (lv_at hl 0 rfl) ?_
      refine va_get (D := D) (ci := 8) (v := .int v_n) (C := RX8) (T := TX8) (N := 6) hx hb hts kinX8 hown hK hP 0 rfl rfl 0 (by decide) (hts _ kw138) (fun _ h9 => h9) rfl dX9_fitsSide_7 ?_
      refine lv_icmp_ge (tgt := 34) hx hb dX9_fitsSide_10 (by decide) (fun c1 => ?_) (fun c1 => ?_)
      · have hf := kp_e hf c1
        exact hk1  (Option.some.inj hf).symm _ _ _ hP hD hS (lv_sub hl [] rfl)
      · have hf := kn_e hf c1
        refine lv_aload_n hx hb dX9_fitsSide_13 rfl (lv_at hl 0 rfl) ?_
        refine va_get (D := D) (ci := 8) (v := .ref q_rows) (C := RX8) (T := TX8) (N := 6) hx hb hts kinX8 hown hK hP 0 rfl rfl 3 (by decide) (hts _ kw149) (fun _ h9 => h9) rfl dX9_fitsSide_14 ?_
        refine lv_iload_n hx hb dX9_fitsSide_17 rfl (lv_at hl 1 rfl) ?_
        obtain ⟨c2, hf⟩ := kc_e hf
        refine k_gld hx hb hK hP 1 rfl c2 dX9_fitsSide_18 ?_
        refine lv_iconst (v := 4) hx hb dX9_fitsSide_19 (by decide) ?_
        obtain ⟨c3, hf⟩ := kc_e hf
        refine k_rld hx hb hK hP 2 (fun k hk => (co_4 (P := fun k => ([(q, .inr (8, [.int v_n, .int v_rank, .int v_exchanges, .ref q_rows, .int v_width, .int v_p])), (q_rows, .inl (cQ, 4, .inr (.inr (.inr (.inr (kg q_rows_r)))))), (q_rows_r 0, .inl (cJ, 9, .inr (.inl (v_rows 0)))), (q_rows_r 1, .inl (cJ, 9, .inr (.inl (v_rows 1)))), (q_rows_r 2, .inl (cJ, 9, .inr (.inl (v_rows 2)))), (q_rows_r 3, .inl (cJ, 9, .inr (.inl (v_rows 3))))] : va_W)[2 + k]? = some (q_rows_r k, .inl (cJ, 9, .inr (.inl (v_rows k))))) rfl rfl rfl rfl) hk) (kin_nat c2) c3 dX9_fitsSide_20 ?_
        refine lv_lconst (v := 0) hx hb dX9_fitsSide_21 (by decide) ?_
        refine k_lcmp_eq (tgt := 28) hx hb dX9_fitsSide_22 dX9_fitsSide_23 (by decide) (fun c4 => ?_) (fun c4 => ?_)
        · have hf := kp_e hf c4
          obtain ⟨t5, et5⟩ : ∃ z : Int32, z = (x1 + (1 : Int32)) := ⟨_, rfl⟩
          have hf := kl_e hf t5 et5
          refine lv_iinc (v := t5) (lv' := [(1, .int t5), (0, .ref q)]) hx hb dX9_fitsSide_28 hl (k := 1) rfl (by rw [et5]; rfl) (by decide) rfl (fun ls hl => ?_)
          refine lv_goto (tgt := 5) hx hb dX9_fitsSide_31 (by decide) ?_
          exact ih t5 u hf hk0 hk1 _ _ _ hP hD hS (lv_sub hl [1, 0] rfl)
        · have hf := kn_e hf c4
          exact hk0  (Option.some.inj hf).symm _ _ _ hP hD hS (lv_sub hl [] rfl)
  unfold f_X9_fitsSide_R at hf
  refine lv_aload_n hx hb dX9_fitsSide_0 rfl (lv_at hl 0 rfl) ?_
  refine va_get (D := D) (ci := 8) (v := .int v_rank) (C := RX8) (T := TX8) (N := 6) hx hb hts kinX8 hown hK hP 0 rfl rfl 1 (by decide) (hts _ kw139) (fun _ h9 => h9) rfl dX9_fitsSide_1 ?_
  refine lv_istore_n (lv' := [(1, .int v_rank), (0, .ref q)]) hx hb dX9_fitsSide_4 rfl hl (by decide) rfl (fun ls hl => ?_)
  obtain ⟨u6, hu, hf0, hf1⟩ := ks_e hf
  refine hL5 v_n v_rank v_exchanges v_width v_p v_rows F v_rank u6 hu (fun hu2 H locs ls hP hD hS hl => ?_) (fun hu2 H locs ls hP hD hS hl => ?_) _ _ _ hP hD hS (lv_sub hl [1, 0] rfl)
  · have hf := hf0 _ hu2
    refine lv_iconst (v := 0) hx hb dX9_fitsSide_26 (by decide) ?_
    obtain rfl := ki1 hf
    rw [hQ]
    exact k_zret hat hP hS rfl (by decide) dX9_fitsSide_27
  · have hf := hf1 _ hu2
    refine lv_iconst (v := 1) hx hb dX9_fitsSide_34 (by decide) ?_
    obtain rfl := ki1 hf
    rw [hQ]
    exact k_zret hat hP hS rfl (by decide) dX9_fitsSide_35
set_option maxHeartbeats 4000000 in
set_option maxRecDepth 100000 in
theorem c_X8_ways {l : Launch} {D : va_G} {cI cJ cQ : ClassId} {tp : Nat} (q : Nat) (q_rows : Nat) (q_rows_r : Nat → Nat) (v_n : Int32) (v_rank : Int32) (v_exchanges : Int32) (v_width : Int32) (v_p : Int32) (v_rows : (Nat → Nat → Int64)) (F : Nat) (r0 : Int32) (hf : f_X8_ways F v_n v_rank v_p v_rows = some r0) : kM (fun A => kQi D A [(q, .inr (8, [.int v_n, .int v_rank, .int v_exchanges, .ref q_rows, .int v_width, .int v_p])), (q_rows, .inl (cQ, 4, .inr (.inr (.inr (.inr (kg q_rows_r)))))), (q_rows_r 0, .inl (cJ, 9, .inr (.inl (v_rows 0)))), (q_rows_r 1, .inl (cJ, 9, .inr (.inl (v_rows 1)))), (q_rows_r 2, .inl (cJ, 9, .inr (.inl (v_rows 2)))), (q_rows_r 3, .inl (cJ, 9, .inr (.inl (v_rows 3))))] r0) (some .int) l yX8_ways cX8_ways 3 { frames := 1, cells := 0, slots := 0, locals := 21 } D cI cJ cQ tp [.ref q] [(q, .inr (8, [.int v_n, .int v_rank, .int v_exchanges, .ref q_rows, .int v_width, .int v_p])), (q_rows, .inl (cQ, 4, .inr (.inr (.inr (.inr (kg q_rows_r)))))), (q_rows_r 0, .inl (cJ, 9, .inr (.inl (v_rows 0)))), (q_rows_r 1, .inl (cJ, 9, .inr (.inl (v_rows 1)))), (q_rows_r 2, .inl (cJ, 9, .inr (.inl (v_rows 2)))), (q_rows_r 3, .inl (cJ, 9, .inr (.inl (v_rows 3))))] := by
  refine kM_of (by decide +kernel) (Nat.le_of_ble_eq_true rfl) ?_
  intro p e s m args below meth c A ls R Q hR hQ hat hP hD hS hl
  obtain ⟨hx, hb, hr, hml, hown, hts, hT, hlk, hK, hA, hZ⟩ := id hat
  have hown : s.vm.findClass RX8 = some m.cls := hown
  have hl : lv_has ls 3 [(0, .ref q)] := hl
  have hL16 : ∀ (v_n : Int32) (v_rank : Int32) (v_exchanges : Int32) (v_width : Int32) (v_p : Int32) (v_rows : (Nat → Nat → Int64)) (fu : Nat) (x1 : Int32) (x2 : Int32) (o0 : Int32), L_X8_ways_16 v_n v_p fu x1 x2 = some o0 → (∀ (H : Heap) (locs : List Loc) (ls : Array Slot), va_P D vwCl [(q, .inr (8, [.int v_n, .int v_rank, .int v_exchanges, .ref q_rows, .int v_width, .int v_p])), (q_rows, .inl (cQ, 4, .inr (.inr (.inr (.inr (kg q_rows_r)))))), (q_rows_r 0, .inl (cJ, 9, .inr (.inl (v_rows 0)))), (q_rows_r 1, .inl (cJ, 9, .inr (.inl (v_rows 1)))), (q_rows_r 2, .inl (cJ, 9, .inr (.inl (v_rows 2)))), (q_rows_r 3, .inl (cJ, 9, .inr (.inl (v_rows 3))))] H → va_D A [(q, .inr (8, [.int v_n, .int v_rank, .int v_exchanges, .ref q_rows, .int v_width, .int v_p])), (q_rows, .inl (cQ, 4, .inr (.inr (.inr (.inr (kg q_rows_r)))))), (q_rows_r 0, .inl (cJ, 9, .inr (.inl (v_rows 0)))), (q_rows_r 1, .inl (cJ, 9, .inr (.inl (v_rows 1)))), (q_rows_r 2, .inl (cJ, 9, .inr (.inl (v_rows 2)))), (q_rows_r 3, .inl (cJ, 9, .inr (.inl (v_rows 3))))] → va_S A s.heap H locs → lv_has ls 3 [(1, .int o0)] → W p l e R s m args below meth c H locs 0 0 Q (F0 m 37 ls [])) → ∀ (H : Heap) (locs : List Loc) (ls : Array Slot), va_P D vwCl [(q, .inr (8, [.int v_n, .int v_rank, .int v_exchanges, .ref q_rows, .int v_width, .int v_p])), (q_rows, .inl (cQ, 4, .inr (.inr (.inr (.inr (kg q_rows_r)))))), (q_rows_r 0, .inl (cJ, 9, .inr (.inl (v_rows 0)))), (q_rows_r 1, .inl (cJ, 9, .inr (.inl (v_rows 1)))), (q_rows_r 2, .inl (cJ, 9, .inr (.inl (v_rows 2)))), (q_rows_r 3, .inl (cJ, 9, .inr (.inl (v_rows 3))))] H → va_D A [(q, .inr (8, [.int v_n, .int v_rank, .int v_exchanges, .ref q_rows, .int v_width, .int v_p])), (q_rows, .inl (cQ, 4, .inr (.inr (.inr (.inr (kg q_rows_r)))))), (q_rows_r 0, .inl (cJ, 9, .inr (.inl (v_rows 0)))), (q_rows_r 1, .inl (cJ, 9, .inr (.inl (v_rows 1)))), (q_rows_r 2, .inl (cJ, 9, .inr (.inl (v_rows 2)))), (q_rows_r 3, .inl (cJ, 9, .inr (.inl (v_rows 3))))] → va_S A s.heap H locs → lv_has ls 3 [(0, .ref q), (1, .int x1), (2, .int x2)] → W p l e R s m args below meth c H locs 0 0 Q (F0 m 16 ls []) := by
    intro v_n v_rank v_exchanges v_width v_p v_rows fu
    induction fu with
    | zero =>
      intro x1 x2 o0 hf
      cases hf
    | succ fu ih =>
      intro x1 x2 o0 hf hk0 H locs ls hP hD hS hl
      rw [L_X8_ways_16] at hf
      refine lv_iload_n hx hb dX8_ways_16 rfl (lv_at hl 2 rfl) ?_
      refine lv_aload_n hx hb dX8_ways_17 rfl (lv_at hl 0 rfl) ?_
      refine va_get (D := D) (ci := 8) (v := .int v_n) (C := RX8) (T := TX8) (N := 6) hx hb hts kinX8 hown hK hP 0 rfl rfl 0 (by decide) (hts _ kw136) (u_same (hts _ kw137)) rfl dX8_ways_18 ?_
      refine lv_icmp_ge (tgt := 37) hx hb dX8_ways_21 (by decide) (fun c4 => ?_) (fun c4 => ?_)
      · have hf := kp_e hf c4
        obtain rfl := ki1 hf
        exact hk0 _ _ _ hP hD hS (lv_sub hl [1] rfl)
      · have hf := kn_e hf c4
        refine lv_iload_n hx hb dX8_ways_24 rfl (lv_at hl 1 rfl) ?_
        refine lv_aload_n hx hb dX8_ways_25 rfl (lv_at hl 0 rfl) ?_
        refine va_get (D := D) (ci := 8) (v := .int v_p) (C := RX8) (T := TX8) (N := 6) hx hb hts kinX8 hown hK hP 0 rfl rfl 5 (by decide) (hts _ kw177) (fun _ h9 => h9) rfl dX8_ways_26 ?_
        refine lv_imul hx hb dX8_ways_29 ?_
        refine lv_topi (fun t5 et5 => ?_)
        have hf := kl_e hf t5 et5
        refine lv_istore_n (lv' := [(1, .int t5), (0, .ref q), (2, .int x2)]) hx hb dX8_ways_30 rfl hl (by decide) rfl (fun ls hl => ?_)
        obtain ⟨t6, et6⟩ : ∃ z : Int32, z = (x2 + (1 : Int32)) := ⟨_, rfl⟩
        have hf := kl_e hf t6 et6
        refine lv_iinc (v := t6) (lv' := [(2, .int t6), (1, .int t5), (0, .ref q)]) hx hb dX8_ways_31 hl (k := 2) rfl (by rw [et6]; rfl) (by decide) rfl (fun ls hl => ?_)
        refine lv_goto (tgt := 16) hx hb dX8_ways_34 (by decide) ?_
        exact ih t5 t6 o0 hf hk0 _ _ _ hP hD hS (lv_sub hl [2, 1, 0] rfl)
  unfold f_X8_ways at hf
  refine lv_aload_n hx hb dX8_ways_0 rfl (lv_at hl 0 rfl) ?_
  obtain ⟨r1, h2, hf⟩ := kb1_e hf
  refine k_gi (nW := 6) (ws' := [(q, .inr (8, [.int v_n, .int v_rank, .int v_exchanges, .ref q_rows, .int v_width, .int v_p])), (q_rows, .inl (cQ, 4, .inr (.inr (.inr (.inr (kg q_rows_r)))))), (q_rows_r 0, .inl (cJ, 9, .inr (.inl (v_rows 0)))), (q_rows_r 1, .inl (cJ, 9, .inr (.inl (v_rows 1)))), (q_rows_r 2, .inl (cJ, 9, .inr (.inl (v_rows 2)))), (q_rows_r 3, .inl (cJ, 9, .inr (.inl (v_rows 3))))]) (wr := []) (k_runU (rest := []) hat hP hD hS hl.1 (c_X9_fitsSide_R q q_rows q_rows_r v_n v_rank v_exchanges v_width v_p v_rows F r1 h2) [0, 1, 2, 3, 4, 5] (by decide) rfl (cu_X8_ways_X9_fitsSide_X8 hat (by rw [hR]; exact ⟨Nat.le_of_ble_eq_true rfl, Nat.le_of_ble_eq_true rfl⟩)) ⟨Nat.zero_le _, Nat.zero_le _⟩ 0 8 rfl rfl rfl rfl (Nat.le_of_ble_eq_true rfl) dX8_ways_1) hat hP hD hS [0, 1, 2, 3, 4, 5] rfl [] rfl rfl rfl rfl rfl (by decide) (fun H locs hP hD hS => ?_)
  refine lv_if_ne (tgt := 9) hx hb dX8_ways_4 (by decide) (fun c3 => ?_) (fun c3 => ?_)
  · have hf := kn_e hf c3
    refine lv_iconst (v := 1) hx hb dX8_ways_9 (by decide) ?_
    refine lv_istore_n (lv' := [(1, .int (1 : Int32)), (0, .ref q)]) hx hb dX8_ways_10 rfl hl (by decide) rfl (fun ls hl => ?_)
    refine lv_aload_n hx hb dX8_ways_11 rfl (lv_at hl 1 rfl) ?_
    refine va_get (D := D) (ci := 8) (v := .int v_rank) (C := RX8) (T := TX8) (N := 6) hx hb hts kinX8 hown hK hP 0 rfl rfl 1 (by decide) (hts _ kw140) (u_same (hts _ kw141)) rfl dX8_ways_12 ?_
    refine lv_istore_n (lv' := [(2, .int v_rank), (1, .int (1 : Int32)), (0, .ref q)]) hx hb dX8_ways_15 rfl hl (by decide) rfl (fun ls hl => ?_)
    obtain ⟨y7, hu, hf⟩ := kb1_e hf
    refine hL16 v_n v_rank v_exchanges v_width v_p v_rows F (1 : Int32) v_rank y7 hu (fun H locs ls hP hD hS hl => ?_) _ _ _ hP hD hS (lv_sub hl [2, 1, 0] rfl)
    refine lv_iload_n hx hb dX8_ways_37 rfl (lv_at hl 0 rfl) ?_
    obtain rfl := ki1 hf
    rw [hQ]
    exact k_iret hat hP hS rfl dX8_ways_38
  · have hf := kp_e hf c3
    refine lv_iconst (v := 0) hx hb dX8_ways_7 (by decide) ?_
    obtain rfl := ki1 hf
    rw [hQ]
    exact k_iret hat hP hS rfl dX8_ways_8
set_option maxHeartbeats 4000000 in
set_option maxRecDepth 100000 in
theorem c_X11_toldByPrime {l : Launch} {D : va_G} {cI cJ cQ : ClassId} {tp : Nat} (q : Nat) (q_now : Nat) (q_clearing : Nat) (q_residues : Nat) (q_lifting : Nat) (q_guessed : Nat) (q_walk : Nat) (q_history : Nat) (q_book : Nat) (q_draws : Nat) (q_firstImage : Nat) (q_secondImage : Nat) (q_now_numbers : Nat) (q_residues_rows : Nat) (q_residues_rows_r : Nat → Nat) (v_now_n : Int32) (v_now_primeNumber : Int32) (v_now_numbers : (Nat → Int32)) (v_residues_n : Int32) (v_residues_rank : Int32) (v_residues_exchanges : Int32) (v_residues_width : Int32) (v_residues_p : Int32) (v_residues_rows : (Nat → Nat → Int64)) (F : Nat) (x1 : Int32) (r0 : Int32) (o_v_residues_n : Int32) (o_v_residues_rank : Int32) (o_v_residues_exchanges : Int32) (o_v_residues_p : Int32) (o_v_residues_rows : (Nat → Nat → Int64)) (hf : f_X11_toldByPrime F v_now_n v_now_primeNumber v_now_numbers v_residues_n v_residues_rank v_residues_exchanges v_residues_width v_residues_p v_residues_rows x1 = some (r0, o_v_residues_n, o_v_residues_rank, o_v_residues_exchanges, o_v_residues_p, o_v_residues_rows)) : kM (fun A => kQi D A [(q, .inr (10, [.ref q_now, .ref q_clearing, .ref q_residues, .ref q_lifting, .ref q_guessed, .ref q_walk, .ref q_history, .ref q_book, .ref q_draws, .ref q_firstImage, .ref q_secondImage])), (q_now, .inr (3, [.int v_now_n, .int v_now_primeNumber, .ref q_now_numbers])), (q_now_numbers, .inl (cI, 20, .inl v_now_numbers)), (q_residues, .inr (8, [.int o_v_residues_n, .int o_v_residues_rank, .int o_v_residues_exchanges, .ref q_residues_rows, .int v_residues_width, .int o_v_residues_p])), (q_residues_rows, .inl (cQ, 4, .inr (.inr (.inr (.inr (kg q_residues_rows_r)))))), (q_residues_rows_r 0, .inl (cJ, 9, .inr (.inl (o_v_residues_rows 0)))), (q_residues_rows_r 1, .inl (cJ, 9, .inr (.inl (o_v_residues_rows 1)))), (q_residues_rows_r 2, .inl (cJ, 9, .inr (.inl (o_v_residues_rows 2)))), (q_residues_rows_r 3, .inl (cJ, 9, .inr (.inl (o_v_residues_rows 3))))] r0) (some .int) l yX11_toldByPrime cX11_toldByPrime 3 { frames := 6, cells := 0, slots := 0, locals := 137 } D cI cJ cQ tp [.ref q, .int x1] [(q, .inr (10, [.ref q_now, .ref q_clearing, .ref q_residues, .ref q_lifting, .ref q_guessed, .ref q_walk, .ref q_history, .ref q_book, .ref q_draws, .ref q_firstImage, .ref q_secondImage])), (q_now, .inr (3, [.int v_now_n, .int v_now_primeNumber, .ref q_now_numbers])), (q_now_numbers, .inl (cI, 20, .inl v_now_numbers)), (q_residues, .inr (8, [.int v_residues_n, .int v_residues_rank, .int v_residues_exchanges, .ref q_residues_rows, .int v_residues_width, .int v_residues_p])), (q_residues_rows, .inl (cQ, 4, .inr (.inr (.inr (.inr (kg q_residues_rows_r)))))), (q_residues_rows_r 0, .inl (cJ, 9, .inr (.inl (v_residues_rows 0)))), (q_residues_rows_r 1, .inl (cJ, 9, .inr (.inl (v_residues_rows 1)))), (q_residues_rows_r 2, .inl (cJ, 9, .inr (.inl (v_residues_rows 2)))), (q_residues_rows_r 3, .inl (cJ, 9, .inr (.inl (v_residues_rows 3))))] := by
  refine kM_of (by decide +kernel) (Nat.le_of_ble_eq_true rfl) ?_
  intro p e s m args below meth c A ls R Q hR hQ hat hP hD hS hl
  obtain ⟨hx, hb, hr, hml, hown, hts, hT, hlk, hK, hA, hZ⟩ := id hat
  have hown : s.vm.findClass RX11 = some m.cls := hown
  have hl : lv_has ls 3 [(0, .ref q), (1, .int x1)] := hl
  unfold f_X11_toldByPrime at hf
  refine lv_aload_n hx hb dX11_toldByPrime_0 rfl (lv_at hl 0 rfl) ?_
  obtain ⟨r1, w2, w3, w4, w5, w6, h7, hf⟩ := kb6_e hf
  refine k_gi (nW := 9) (ws' := [(q, .inr (10, [.ref q_now, .ref q_clearing, .ref q_residues, .ref q_lifting, .ref q_guessed, .ref q_walk, .ref q_history, .ref q_book, .ref q_draws, .ref q_firstImage, .ref q_secondImage])), (q_now, .inr (3, [.int v_now_n, .int v_now_primeNumber, .ref q_now_numbers])), (q_now_numbers, .inl (cI, 20, .inl v_now_numbers)), (q_residues, .inr (8, [.int w2, .int w3, .int w4, .ref q_residues_rows, .int v_residues_width, .int w5])), (q_residues_rows, .inl (cQ, 4, .inr (.inr (.inr (.inr (kg q_residues_rows_r)))))), (q_residues_rows_r 0, .inl (cJ, 9, .inr (.inl (w6 0)))), (q_residues_rows_r 1, .inl (cJ, 9, .inr (.inl (w6 1)))), (q_residues_rows_r 2, .inl (cJ, 9, .inr (.inl (w6 2)))), (q_residues_rows_r 3, .inl (cJ, 9, .inr (.inl (w6 3))))]) (wr := []) (k_runV (rest := []) hat hP hD hS hl.1 (c_X11_primeIsBad q q_now q_clearing q_residues q_lifting q_guessed q_walk q_history q_book q_draws q_firstImage q_secondImage q_now_numbers q_residues_rows q_residues_rows_r v_now_n v_now_primeNumber v_now_numbers v_residues_n v_residues_rank v_residues_exchanges v_residues_width v_residues_p v_residues_rows F r1 w2 w3 w4 w5 w6 h7) [0, 1, 2, 3, 4, 5, 6, 7, 8] (by decide) rfl kw471 kw473 kw5 kw67 kw474 kdVX11_primeIsBad ⟨rfl, rfl⟩ (by rw [hR]; exact ⟨Nat.le_of_ble_eq_true rfl, Nat.le_of_ble_eq_true rfl⟩) ⟨Nat.zero_le _, Nat.zero_le _⟩ 0 10 rfl rfl rfl rfl (Nat.le_of_ble_eq_true rfl) dX11_toldByPrime_1) hat hP hD hS [0, 1, 2, 3, 4, 5, 6, 7, 8] rfl [] rfl rfl rfl rfl rfl (by decide) (fun H locs hP hD hS => ?_)
  refine lv_istore_n (lv' := [(2, .int r1), (0, .ref q), (1, .int x1)]) hx hb dX11_toldByPrime_4 rfl hl (by decide) rfl (fun ls hl => ?_)
  refine lv_iload_n hx hb dX11_toldByPrime_5 rfl (lv_at hl 2 rfl) ?_
  by_cases c8 : x1 = 8
  · have hf := kp_e hf c8
    refine lv_lookup (tgt := 32) hx hb dX11_toldByPrime_6 (by decide) (off := 26) (by rw [c8]; rfl) (by decide) ?_
    refine lv_iload_n hx hb dX11_toldByPrime_32 rfl (lv_at hl 0 rfl) ?_
    refine lv_if_eq (tgt := 40) hx hb dX11_toldByPrime_33 (by decide) (fun c9 => ?_) (fun c9 => ?_)
    · have hf := kp_e hf c9
      refine lv_iconst (v := 0) hx hb dX11_toldByPrime_40 (by decide) ?_
      obtain ⟨rfl, rfl, rfl, rfl, rfl, rfl⟩ := ki6 hf
      rw [hQ]
      exact k_iret hat hP hS rfl dX11_toldByPrime_41
    · have hf := kn_e hf c9
      refine lv_iconst (v := 1) hx hb dX11_toldByPrime_36 (by decide) ?_
      refine lv_goto (tgt := 41) hx hb dX11_toldByPrime_37 (by decide) ?_
      obtain ⟨rfl, rfl, rfl, rfl, rfl, rfl⟩ := ki6 hf
      rw [hQ]
      exact k_iret hat hP hS rfl dX11_toldByPrime_41
  · have hf := kn_e hf c8
    by_cases c10 : x1 = 10
    · have hf := kp_e hf c10
      refine lv_lookup (tgt := 42) hx hb dX11_toldByPrime_6 (by decide) (off := 36) (by rw [c10]; rfl) (by decide) ?_
      refine lv_aload_n hx hb dX11_toldByPrime_42 rfl (lv_at hl 1 rfl) ?_
      refine va_get (D := D) (ci := 10) (v := .ref q_residues) (C := RX11) (T := TX11) (N := 11) hx hb hts kinX11 hown hK hP 0 rfl rfl 2 (by decide) (hts _ kw329) (fun _ h9 => h9) rfl dX11_toldByPrime_43 ?_
      refine va_get (D := D) (ci := 8) (v := .int w3) (C := RX8) (T := TX8) (N := 6) hx hb hts kinX8 hown hK hP 3 rfl rfl 1 (by decide) (hts _ kw145) (u_same (hts _ kw141)) rfl dX11_toldByPrime_46 ?_
      obtain ⟨rfl, rfl, rfl, rfl, rfl, rfl⟩ := ki6 hf
      rw [hQ]
      exact k_iret hat hP hS rfl dX11_toldByPrime_49
    · have hf := kn_e hf c10
      have c8_ : x1.toInt ≠ 8 := fun h9 => c8 (Int32.toInt_inj.mp (h9.trans (by decide)))
      have c10_ : x1.toInt ≠ 10 := fun h9 => c10 (Int32.toInt_inj.mp (h9.trans (by decide)))
      refine lv_lookup (tgt := 50) hx hb dX11_toldByPrime_6 (by decide) (off := 44) (by simp [Op.lookupswitch.offset, Ne.symm c8_, Ne.symm c10_]) (by decide) ?_
      refine lv_aload_n hx hb dX11_toldByPrime_50 rfl (lv_at hl 1 rfl) ?_
      refine va_get (D := D) (ci := 10) (v := .ref q_residues) (C := RX11) (T := TX11) (N := 11) hx hb hts kinX11 hown hK hP 0 rfl rfl 2 (by decide) (hts _ kw329) (fun _ h9 => h9) rfl dX11_toldByPrime_51 ?_
      obtain ⟨r11, h12, hf⟩ := kb1_e hf
      refine k_gi (nW := 9) (ws' := [(q, .inr (10, [.ref q_now, .ref q_clearing, .ref q_residues, .ref q_lifting, .ref q_guessed, .ref q_walk, .ref q_history, .ref q_book, .ref q_draws, .ref q_firstImage, .ref q_secondImage])), (q_now, .inr (3, [.int v_now_n, .int v_now_primeNumber, .ref q_now_numbers])), (q_now_numbers, .inl (cI, 20, .inl v_now_numbers)), (q_residues, .inr (8, [.int w2, .int w3, .int w4, .ref q_residues_rows, .int v_residues_width, .int w5])), (q_residues_rows, .inl (cQ, 4, .inr (.inr (.inr (.inr (kg q_residues_rows_r)))))), (q_residues_rows_r 0, .inl (cJ, 9, .inr (.inl (w6 0)))), (q_residues_rows_r 1, .inl (cJ, 9, .inr (.inl (w6 1)))), (q_residues_rows_r 2, .inl (cJ, 9, .inr (.inl (w6 2)))), (q_residues_rows_r 3, .inl (cJ, 9, .inr (.inl (w6 3))))]) (wr := [(q, .inr (10, [.ref q_now, .ref q_clearing, .ref q_residues, .ref q_lifting, .ref q_guessed, .ref q_walk, .ref q_history, .ref q_book, .ref q_draws, .ref q_firstImage, .ref q_secondImage])), (q_now, .inr (3, [.int v_now_n, .int v_now_primeNumber, .ref q_now_numbers])), (q_now_numbers, .inl (cI, 20, .inl v_now_numbers))]) (k_runV (rest := []) hat hP hD hS hl.1 (c_X8_ways q_residues q_residues_rows q_residues_rows_r w2 w3 w4 v_residues_width w5 w6 F r11 h12) [3, 4, 5, 6, 7, 8] (by decide) rfl kw484 kw485 kw486 kw71 kw487 kdVX8_ways ⟨rfl, rfl⟩ (by rw [hR]; exact ⟨Nat.le_of_ble_eq_true rfl, Nat.le_of_ble_eq_true rfl⟩) ⟨Nat.zero_le _, Nat.zero_le _⟩ 3 8 rfl rfl rfl rfl (Nat.le_of_ble_eq_true rfl) dX11_toldByPrime_54) hat hP hD hS [3, 4, 5, 6, 7, 8] rfl [0, 1, 2] rfl rfl rfl rfl rfl (by decide) (fun H locs hP hD hS => ?_)
      obtain ⟨rfl, rfl, rfl, rfl, rfl, rfl⟩ := ki6 hf
      rw [hQ]
      exact k_iret hat hP hS rfl dX11_toldByPrime_57
set_option maxHeartbeats 4000000 in
set_option maxRecDepth 100000 in
theorem c_X3_squares {l : Launch} {D : va_G} {cI cJ cQ : ClassId} {tp : Nat} (q : Nat) (q_numbers : Nat) (v_n : Int32) (v_primeNumber : Int32) (v_numbers : (Nat → Int32)) (F : Nat) (x1 : Int32) (r0 : Int64) (hf : f_X3_squares F v_numbers x1 = some r0) : kM (fun A => kQl D A [(q, .inr (3, [.int v_n, .int v_primeNumber, .ref q_numbers])), (q_numbers, .inl (cI, 20, .inl v_numbers))] r0) (some .long) l yX3_squares cX3_squares 5 { frames := 1, cells := 0, slots := 0, locals := 22 } D cI cJ cQ tp [.ref q, .int x1] [(q, .inr (3, [.int v_n, .int v_primeNumber, .ref q_numbers])), (q_numbers, .inl (cI, 20, .inl v_numbers))] := by
  refine kM_of (by decide +kernel) (Nat.le_of_ble_eq_true rfl) ?_
  intro p e s m args below meth c A ls R Q hR hQ hat hP hD hS hl
  obtain ⟨hx, hb, hr, hml, hown, hts, hT, hlk, hK, hA, hZ⟩ := id hat
  have hown : s.vm.findClass RX3 = some m.cls := hown
  have hl : lv_has ls 5 [(0, .ref q), (1, .int x1)] := hl
  have hL5 : ∀ (x1 : Int32) (v_n : Int32) (v_primeNumber : Int32) (v_numbers : (Nat → Int32)) (fu : Nat) (x2 : Int64) (x4 : Int32) (o0 : Int64), L_X3_squares_5 x1 v_numbers fu x2 x4 = some o0 → (∀ (H : Heap) (locs : List Loc) (ls : Array Slot), va_P D vwCl [(q, .inr (3, [.int v_n, .int v_primeNumber, .ref q_numbers])), (q_numbers, .inl (cI, 20, .inl v_numbers))] H → va_D A [(q, .inr (3, [.int v_n, .int v_primeNumber, .ref q_numbers])), (q_numbers, .inl (cI, 20, .inl v_numbers))] → va_S A s.heap H locs → lv_has ls 5 [(2, .long o0)] → W p l e R s m args below meth c H locs 0 0 Q (F0 m 36 ls [])) → ∀ (H : Heap) (locs : List Loc) (ls : Array Slot), va_P D vwCl [(q, .inr (3, [.int v_n, .int v_primeNumber, .ref q_numbers])), (q_numbers, .inl (cI, 20, .inl v_numbers))] H → va_D A [(q, .inr (3, [.int v_n, .int v_primeNumber, .ref q_numbers])), (q_numbers, .inl (cI, 20, .inl v_numbers))] → va_S A s.heap H locs → lv_has ls 5 [(0, .ref q), (1, .int x1), (2, .long x2), (4, .int x4)] → W p l e R s m args below meth c H locs 0 0 Q (F0 m 5 ls []) := by
    intro x1 v_n v_primeNumber v_numbers fu
    induction fu with
    | zero =>
      intro x2 x4 o0 hf
      cases hf
    | succ fu ih =>
      intro x2 x4 o0 hf hk0 H locs ls hP hD hS hl
      rw [L_X3_squares_5] at hf
      refine lv_iload hx hb dX3_squares_5 (lv_at hl 3 rfl) ?_
      refine lv_iconst (v := 5) hx hb dX3_squares_7 (by decide) ?_
      refine lv_icmp_ge (tgt := 36) hx hb dX3_squares_8 (by decide) (fun c1 => ?_) (fun c1 => ?_)
      · have hf := kp_e hf c1
        obtain rfl := ki1 hf
        exact hk0 _ _ _ hP hD hS (lv_sub hl [2] rfl)
      · have hf := kn_e hf c1
        refine lv_lload_n hx hb dX3_squares_11 rfl (lv_at hl 2 rfl) ?_
        refine lv_aload_n hx hb dX3_squares_12 rfl (lv_at hl 0 rfl) ?_
        refine lv_iload_n hx hb dX3_squares_13 rfl (lv_at hl 1 rfl) ?_
        refine lv_iload hx hb dX3_squares_14 (lv_at hl 3 rfl) ?_
        obtain ⟨r2, h3, hf⟩ := kb1_e hf
        refine k_gi (nW := 2) (ws' := [(q, .inr (3, [.int v_n, .int v_primeNumber, .ref q_numbers])), (q_numbers, .inl (cI, 20, .inl v_numbers))]) (wr := []) (k_runV (rest := [.long x2]) hat hP hD hS hl.1 (c_X3_number q q_numbers v_n v_primeNumber v_numbers x1 x4 r2 h3) [0, 1] (by decide) rfl kw504 kw380 kw381 kw68 kw382 kdVX3_number ⟨rfl, rfl⟩ (by rw [hR]; exact ⟨Nat.le_of_ble_eq_true rfl, Nat.le_of_ble_eq_true rfl⟩) ⟨Nat.zero_le _, Nat.zero_le _⟩ 0 3 rfl rfl rfl rfl (Nat.le_of_ble_eq_true rfl) dX3_squares_16) hat hP hD hS [0, 1] rfl [] rfl rfl rfl rfl rfl (by decide) (fun H locs hP hD hS => ?_)
        refine lv_aload_n hx hb dX3_squares_19 rfl (lv_at hl 0 rfl) ?_
        refine lv_iload_n hx hb dX3_squares_20 rfl (lv_at hl 1 rfl) ?_
        refine lv_iload hx hb dX3_squares_21 (lv_at hl 3 rfl) ?_
        obtain ⟨r4, h5, hf⟩ := kb1_e hf
        refine k_gi (nW := 2) (ws' := [(q, .inr (3, [.int v_n, .int v_primeNumber, .ref q_numbers])), (q_numbers, .inl (cI, 20, .inl v_numbers))]) (wr := []) (k_runV (rest := [.int r2, .long x2]) hat hP hD hS hl.1 (c_X3_number q q_numbers v_n v_primeNumber v_numbers x1 x4 r4 h5) [0, 1] (by decide) rfl kw504 kw380 kw381 kw68 kw382 kdVX3_number ⟨rfl, rfl⟩ (by rw [hR]; exact ⟨Nat.le_of_ble_eq_true rfl, Nat.le_of_ble_eq_true rfl⟩) ⟨Nat.zero_le _, Nat.zero_le _⟩ 0 3 rfl rfl rfl rfl (Nat.le_of_ble_eq_true rfl) dX3_squares_23) hat hP hD hS [0, 1] rfl [] rfl rfl rfl rfl rfl (by decide) (fun H locs hP hD hS => ?_)
        refine lv_imul hx hb dX3_squares_26 ?_
        refine lv_i2l hx hb dX3_squares_27 rfl ?_
        refine lv_ladd hx hb dX3_squares_28 ?_
        refine lv_topl (fun t6 et6 => ?_)
        have hf := kl_e hf t6 et6
        refine lv_lstore_n (lv' := [(2, .long t6), (0, .ref q), (1, .int x1), (4, .int x4)]) hx hb dX3_squares_29 rfl hl (by decide) rfl (fun ls hl => ?_)
        obtain ⟨t7, et7⟩ : ∃ z : Int32, z = (x4 + (1 : Int32)) := ⟨_, rfl⟩
        have hf := kl_e hf t7 et7
        refine lv_iinc (v := t7) (lv' := [(4, .int t7), (2, .long t6), (0, .ref q), (1, .int x1)]) hx hb dX3_squares_30 hl (k := 3) rfl (by rw [et7]; rfl) (by decide) rfl (fun ls hl => ?_)
        refine lv_goto (tgt := 5) hx hb dX3_squares_33 (by decide) ?_
        exact ih t6 t7 o0 hf hk0 _ _ _ hP hD hS (lv_sub hl [2, 3, 1, 0] rfl)
  unfold f_X3_squares at hf
  refine lv_lconst (v := 0) hx hb dX3_squares_0 (by decide) ?_
  refine lv_lstore_n (lv' := [(2, .long (0 : Int64)), (0, .ref q), (1, .int x1)]) hx hb dX3_squares_1 rfl hl (by decide) rfl (fun ls hl => ?_)
  refine lv_iconst (v := 0) hx hb dX3_squares_2 (by decide) ?_
  refine lv_istore (lv' := [(4, .int (0 : Int32)), (2, .long (0 : Int64)), (0, .ref q), (1, .int x1)]) hx hb dX3_squares_3 hl (by decide) rfl (fun ls hl => ?_)
  obtain ⟨y8, hu, hf⟩ := kb1_e hf
  refine hL5 x1 v_n v_primeNumber v_numbers F (0 : Int64) (0 : Int32) y8 hu (fun H locs ls hP hD hS hl => ?_) _ _ _ hP hD hS (lv_sub hl [2, 3, 1, 0] rfl)
  refine lv_lload_n hx hb dX3_squares_36 rfl (lv_at hl 0 rfl) ?_
  obtain rfl := ki1 hf
  rw [hQ]
  exact k_lret hat hP hS rfl dX3_squares_37
set_option maxHeartbeats 4000000 in
set_option maxRecDepth 100000 in
theorem c_X11_sure {l : Launch} {D : va_G} {cI cJ cQ : ClassId} {tp : Nat} (q : Nat) (q_now : Nat) (q_clearing : Nat) (q_residues : Nat) (q_lifting : Nat) (q_guessed : Nat) (q_walk : Nat) (q_history : Nat) (q_book : Nat) (q_draws : Nat) (q_firstImage : Nat) (q_secondImage : Nat) (q_now_numbers : Nat) (v_now_n : Int32) (v_now_primeNumber : Int32) (v_now_numbers : (Nat → Int32)) (F : Nat) (r0 : Int32) (hf : f_X11_sure F v_now_n v_now_primeNumber v_now_numbers = some r0) : kM (fun A => kQi D A [(q, .inr (10, [.ref q_now, .ref q_clearing, .ref q_residues, .ref q_lifting, .ref q_guessed, .ref q_walk, .ref q_history, .ref q_book, .ref q_draws, .ref q_firstImage, .ref q_secondImage])), (q_now, .inr (3, [.int v_now_n, .int v_now_primeNumber, .ref q_now_numbers])), (q_now_numbers, .inl (cI, 20, .inl v_now_numbers))] r0) (some .int) l yX11_sure cX11_sure 6 { frames := 2, cells := 0, slots := 0, locals := 46 } D cI cJ cQ tp [.ref q] [(q, .inr (10, [.ref q_now, .ref q_clearing, .ref q_residues, .ref q_lifting, .ref q_guessed, .ref q_walk, .ref q_history, .ref q_book, .ref q_draws, .ref q_firstImage, .ref q_secondImage])), (q_now, .inr (3, [.int v_now_n, .int v_now_primeNumber, .ref q_now_numbers])), (q_now_numbers, .inl (cI, 20, .inl v_now_numbers))] := by
  refine kM_of (by decide +kernel) (Nat.le_of_ble_eq_true rfl) ?_
  intro p e s m args below meth c A ls R Q hR hQ hat hP hD hS hl
  obtain ⟨hx, hb, hr, hml, hown, hts, hT, hlk, hK, hA, hZ⟩ := id hat
  have hown : s.vm.findClass RX11 = some m.cls := hown
  have hl : lv_has ls 6 [(0, .ref q)] := hl
  have hL6 : ∀ (v_now_n : Int32) (v_now_primeNumber : Int32) (v_now_numbers : (Nat → Int32)) (fu : Nat) (x1 : Int64) (x3 : Int32) (o0 : Int64), L_X11_sure_6 F v_now_n v_now_numbers fu x1 x3 = some o0 → (∀ (H : Heap) (locs : List Loc) (ls : Array Slot), va_P D vwCl [(q, .inr (10, [.ref q_now, .ref q_clearing, .ref q_residues, .ref q_lifting, .ref q_guessed, .ref q_walk, .ref q_history, .ref q_book, .ref q_draws, .ref q_firstImage, .ref q_secondImage])), (q_now, .inr (3, [.int v_now_n, .int v_now_primeNumber, .ref q_now_numbers])), (q_now_numbers, .inl (cI, 20, .inl v_now_numbers))] H → va_D A [(q, .inr (10, [.ref q_now, .ref q_clearing, .ref q_residues, .ref q_lifting, .ref q_guessed, .ref q_walk, .ref q_history, .ref q_book, .ref q_draws, .ref q_firstImage, .ref q_secondImage])), (q_now, .inr (3, [.int v_now_n, .int v_now_primeNumber, .ref q_now_numbers])), (q_now_numbers, .inl (cI, 20, .inl v_now_numbers))] → va_S A s.heap H locs → lv_has ls 6 [(0, .ref q), (1, .long o0)] → W p l e R s m args below meth c H locs 0 0 Q (F0 m 34 ls [])) → ∀ (H : Heap) (locs : List Loc) (ls : Array Slot), va_P D vwCl [(q, .inr (10, [.ref q_now, .ref q_clearing, .ref q_residues, .ref q_lifting, .ref q_guessed, .ref q_walk, .ref q_history, .ref q_book, .ref q_draws, .ref q_firstImage, .ref q_secondImage])), (q_now, .inr (3, [.int v_now_n, .int v_now_primeNumber, .ref q_now_numbers])), (q_now_numbers, .inl (cI, 20, .inl v_now_numbers))] H → va_D A [(q, .inr (10, [.ref q_now, .ref q_clearing, .ref q_residues, .ref q_lifting, .ref q_guessed, .ref q_walk, .ref q_history, .ref q_book, .ref q_draws, .ref q_firstImage, .ref q_secondImage])), (q_now, .inr (3, [.int v_now_n, .int v_now_primeNumber, .ref q_now_numbers])), (q_now_numbers, .inl (cI, 20, .inl v_now_numbers))] → va_S A s.heap H locs → lv_has ls 6 [(0, .ref q), (1, .long x1), (3, .int x3)] → W p l e R s m args below meth c H locs 0 0 Q (F0 m 6 ls []) := by
    intro v_now_n v_now_primeNumber v_now_numbers fu
    induction fu with
    | zero =>
      intro x1 x3 o0 hf
      cases hf
    | succ fu ih =>
      intro x1 x3 o0 hf hk0 H locs ls hP hD hS hl
      rw [L_X11_sure_6] at hf
      refine lv_iload_n hx hb dX11_sure_6 rfl (lv_at hl 2 rfl) ?_
      refine lv_aload_n hx hb dX11_sure_7 rfl (lv_at hl 0 rfl) ?_
      refine va_get (D := D) (ci := 10) (v := .ref q_now) (C := RX11) (T := TX11) (N := 11) hx hb hts kinX11 hown hK hP 0 rfl rfl 0 (by decide) (hts _ kw327) (fun _ h9 => h9) rfl dX11_sure_8 ?_
      refine va_get (D := D) (ci := 3) (v := .int v_now_n) (C := RX3) (T := TX3) (N := 3) hx hb hts kinX3 hown hK hP 1 rfl rfl 0 (by decide) (hts _ kw107) (fun _ h9 => h9) rfl dX11_sure_11 ?_
      refine lv_icmp_ge (tgt := 34) hx hb dX11_sure_14 (by decide) (fun c1 => ?_) (fun c1 => ?_)
      · have hf := kp_e hf c1
        obtain rfl := ki1 hf
        exact hk0 _ _ _ hP hD hS (lv_sub hl [0, 1] rfl)
      · have hf := kn_e hf c1
        refine lv_lload_n hx hb dX11_sure_17 rfl (lv_at hl 1 rfl) ?_
        refine lv_aload_n hx hb dX11_sure_18 rfl (lv_at hl 0 rfl) ?_
        refine va_get (D := D) (ci := 10) (v := .ref q_now) (C := RX11) (T := TX11) (N := 11) hx hb hts kinX11 hown hK hP 0 rfl rfl 0 (by decide) (hts _ kw327) (fun _ h9 => h9) rfl dX11_sure_19 ?_
        refine lv_iload_n hx hb dX11_sure_22 rfl (lv_at hl 2 rfl) ?_
        obtain ⟨r2, h3, hf⟩ := kb1_e hf
        refine k_gl (nW := 3) (ws' := [(q, .inr (10, [.ref q_now, .ref q_clearing, .ref q_residues, .ref q_lifting, .ref q_guessed, .ref q_walk, .ref q_history, .ref q_book, .ref q_draws, .ref q_firstImage, .ref q_secondImage])), (q_now, .inr (3, [.int v_now_n, .int v_now_primeNumber, .ref q_now_numbers])), (q_now_numbers, .inl (cI, 20, .inl v_now_numbers))]) (wr := [(q, .inr (10, [.ref q_now, .ref q_clearing, .ref q_residues, .ref q_lifting, .ref q_guessed, .ref q_walk, .ref q_history, .ref q_book, .ref q_draws, .ref q_firstImage, .ref q_secondImage]))]) (k_runV (rest := [.long x1]) hat hP hD hS hl.1 (c_X3_squares q_now q_now_numbers v_now_n v_now_primeNumber v_now_numbers F x3 r2 h3) [1, 2] (by decide) rfl kw500 kw501 kw502 kw68 kw503 kdVX3_squares ⟨rfl, rfl⟩ (by rw [hR]; exact ⟨Nat.le_of_ble_eq_true rfl, Nat.le_of_ble_eq_true rfl⟩) ⟨Nat.zero_le _, Nat.zero_le _⟩ 1 3 rfl rfl rfl rfl (Nat.le_of_ble_eq_true rfl) dX11_sure_23) hat hP hD hS [1, 2] rfl [0] rfl rfl rfl rfl rfl (by decide) (fun H locs hP hD hS => ?_)
        refine lv_lmul hx hb dX11_sure_26 ?_
        refine lv_topl (fun t4 et4 => ?_)
        have hf := kl_e hf t4 et4
        refine lv_lstore_n (lv' := [(1, .long t4), (0, .ref q), (3, .int x3)]) hx hb dX11_sure_27 rfl hl (by decide) rfl (fun ls hl => ?_)
        obtain ⟨t5, et5⟩ : ∃ z : Int32, z = (x3 + (1 : Int32)) := ⟨_, rfl⟩
        have hf := kl_e hf t5 et5
        refine lv_iinc (v := t5) (lv' := [(3, .int t5), (1, .long t4), (0, .ref q)]) hx hb dX11_sure_28 hl (k := 2) rfl (by rw [et5]; rfl) (by decide) rfl (fun ls hl => ?_)
        refine lv_goto (tgt := 6) hx hb dX11_sure_31 (by decide) ?_
        exact ih t4 t5 o0 hf hk0 _ _ _ hP hD hS (lv_sub hl [2, 1, 0] rfl)
  have hL39 : ∀ (x1 : Int64) (v_now_n : Int32) (v_now_primeNumber : Int32) (v_now_numbers : (Nat → Int32)) (fu : Nat) (x3 : Int32) (x4 : Int64) (o0 : Int32), L_X11_sure_39 x1 v_now_primeNumber fu x3 x4 = some o0 → (∀ (H : Heap) (locs : List Loc) (ls : Array Slot), va_P D vwCl [(q, .inr (10, [.ref q_now, .ref q_clearing, .ref q_residues, .ref q_lifting, .ref q_guessed, .ref q_walk, .ref q_history, .ref q_book, .ref q_draws, .ref q_firstImage, .ref q_secondImage])), (q_now, .inr (3, [.int v_now_n, .int v_now_primeNumber, .ref q_now_numbers])), (q_now_numbers, .inl (cI, 20, .inl v_now_numbers))] H → va_D A [(q, .inr (10, [.ref q_now, .ref q_clearing, .ref q_residues, .ref q_lifting, .ref q_guessed, .ref q_walk, .ref q_history, .ref q_book, .ref q_draws, .ref q_firstImage, .ref q_secondImage])), (q_now, .inr (3, [.int v_now_n, .int v_now_primeNumber, .ref q_now_numbers])), (q_now_numbers, .inl (cI, 20, .inl v_now_numbers))] → va_S A s.heap H locs → lv_has ls 6 [(3, .int o0)] → W p l e R s m args below meth c H locs 0 0 Q (F0 m 71 ls [])) → ∀ (H : Heap) (locs : List Loc) (ls : Array Slot), va_P D vwCl [(q, .inr (10, [.ref q_now, .ref q_clearing, .ref q_residues, .ref q_lifting, .ref q_guessed, .ref q_walk, .ref q_history, .ref q_book, .ref q_draws, .ref q_firstImage, .ref q_secondImage])), (q_now, .inr (3, [.int v_now_n, .int v_now_primeNumber, .ref q_now_numbers])), (q_now_numbers, .inl (cI, 20, .inl v_now_numbers))] H → va_D A [(q, .inr (10, [.ref q_now, .ref q_clearing, .ref q_residues, .ref q_lifting, .ref q_guessed, .ref q_walk, .ref q_history, .ref q_book, .ref q_draws, .ref q_firstImage, .ref q_secondImage])), (q_now, .inr (3, [.int v_now_n, .int v_now_primeNumber, .ref q_now_numbers])), (q_now_numbers, .inl (cI, 20, .inl v_now_numbers))] → va_S A s.heap H locs → lv_has ls 6 [(0, .ref q), (1, .long x1), (3, .int x3), (4, .long x4)] → W p l e R s m args below meth c H locs 0 0 Q (F0 m 39 ls []) := by
    intro x1 v_now_n v_now_primeNumber v_now_numbers fu
    induction fu with
    | zero =>
      intro x3 x4 o0 hf
      cases hf
    | succ fu ih =>
      intro x3 x4 o0 hf hk0 H locs ls hP hD hS hl
      rw [L_X11_sure_39] at hf
      refine lv_lload hx hb dX11_sure_39 (lv_at hl 3 rfl) ?_
      refine lv_lload_n hx hb dX11_sure_41 rfl (lv_at hl 1 rfl) ?_
      refine k_lcmp_gt (tgt := 71) hx hb dX11_sure_42 dX11_sure_43 (by decide) (fun c7 => ?_) (fun c7 => ?_)
      · have hf := kp_e hf c7
        obtain rfl := ki1 hf
        exact hk0 _ _ _ hP hD hS (lv_sub hl [2] rfl)
      · have hf := kn_e hf c7
        refine lv_iload_n hx hb dX11_sure_46 rfl (lv_at hl 2 rfl) ?_
        refine lv_bipush (v := 100) hx hb dX11_sure_47 (by decide) ?_
        refine lv_icmp_ge (tgt := 71) hx hb dX11_sure_49 (by decide) (fun c8 => ?_) (fun c8 => ?_)
        · have hf := kp_e hf c8
          obtain rfl := ki1 hf
          exact hk0 _ _ _ hP hD hS (lv_sub hl [2] rfl)
        · have hf := kn_e hf c8
          obtain ⟨t9, et9⟩ : ∃ z : Int32, z = (x3 + (1 : Int32)) := ⟨_, rfl⟩
          have hf := kl_e hf t9 et9
          refine lv_iinc (v := t9) (lv' := [(3, .int t9), (0, .ref q), (1, .long x1), (4, .long x4)]) hx hb dX11_sure_52 hl (k := 2) rfl (by rw [et9]; rfl) (by decide) rfl (fun ls hl => ?_)
          refine lv_lload hx hb dX11_sure_55 (lv_at hl 3 rfl) ?_
          refine lv_aload_n hx hb dX11_sure_57 rfl (lv_at hl 1 rfl) ?_
          refine va_get (D := D) (ci := 10) (v := .ref q_now) (C := RX11) (T := TX11) (N := 11) hx hb hts kinX11 hown hK hP 0 rfl rfl 0 (by decide) (hts _ kw327) (fun _ h9 => h9) rfl dX11_sure_58 ?_
          obtain ⟨r10, h11, hf⟩ := kb1_e hf
          refine k_gi (nW := 3) (ws' := [(q, .inr (10, [.ref q_now, .ref q_clearing, .ref q_residues, .ref q_lifting, .ref q_guessed, .ref q_walk, .ref q_history, .ref q_book, .ref q_draws, .ref q_firstImage, .ref q_secondImage])), (q_now, .inr (3, [.int v_now_n, .int v_now_primeNumber, .ref q_now_numbers])), (q_now_numbers, .inl (cI, 20, .inl v_now_numbers))]) (wr := [(q, .inr (10, [.ref q_now, .ref q_clearing, .ref q_residues, .ref q_lifting, .ref q_guessed, .ref q_walk, .ref q_history, .ref q_book, .ref q_draws, .ref q_firstImage, .ref q_secondImage])), (q_now_numbers, .inl (cI, 20, .inl v_now_numbers))]) (k_runV (rest := [.long x4]) hat hP hD hS hl.1 (c_X3_p q_now q_now_numbers v_now_n v_now_primeNumber r10 h11) [1] (by decide) rfl kw365 kw366 kw367 kw68 kw368 kdVX3_p ⟨rfl, rfl⟩ (by rw [hR]; exact ⟨Nat.le_of_ble_eq_true rfl, Nat.le_of_ble_eq_true rfl⟩) ⟨Nat.zero_le _, Nat.zero_le _⟩ 1 3 rfl rfl rfl rfl (Nat.le_of_ble_eq_true rfl) dX11_sure_61) hat hP hD hS [1] rfl [0, 2] rfl rfl rfl rfl rfl (by decide) (fun H locs hP hD hS => ?_)
          refine lv_i2l hx hb dX11_sure_64 rfl ?_
          refine lv_lmul hx hb dX11_sure_65 ?_
          refine lv_topl (fun t12 et12 => ?_)
          have hf := kl_e hf t12 et12
          refine lv_lstore (lv' := [(4, .long t12), (3, .int t9), (0, .ref q), (1, .long x1)]) hx hb dX11_sure_66 hl (by decide) rfl (fun ls hl => ?_)
          refine lv_goto (tgt := 39) hx hb dX11_sure_68 (by decide) ?_
          exact ih t9 t12 o0 hf hk0 _ _ _ hP hD hS (lv_sub hl [2, 3, 1, 0] rfl)
  unfold f_X11_sure at hf
  refine lv_ldc2 hx hb hown (hts _ kw499) dX11_sure_0 ?_
  refine lv_lstore_n (lv' := [(1, .long (2 : Int64)), (0, .ref q)]) hx hb dX11_sure_3 rfl hl (by decide) rfl (fun ls hl => ?_)
  refine lv_iconst (v := 0) hx hb dX11_sure_4 (by decide) ?_
  refine lv_istore_n (lv' := [(3, .int (0 : Int32)), (1, .long (2 : Int64)), (0, .ref q)]) hx hb dX11_sure_5 rfl hl (by decide) rfl (fun ls hl => ?_)
  obtain ⟨y6, hu, hf⟩ := kb1_e hf
  refine hL6 v_now_n v_now_primeNumber v_now_numbers F (2 : Int64) (0 : Int32) y6 hu (fun H locs ls hP hD hS hl => ?_) _ _ _ hP hD hS (lv_sub hl [2, 1, 0] rfl)
  refine lv_iconst (v := 0) hx hb dX11_sure_34 (by decide) ?_
  refine lv_istore_n (lv' := [(3, .int (0 : Int32)), (0, .ref q), (1, .long y6)]) hx hb dX11_sure_35 rfl hl (by decide) rfl (fun ls hl => ?_)
  refine lv_lconst (v := 1) hx hb dX11_sure_36 (by decide) ?_
  refine lv_lstore (lv' := [(4, .long (1 : Int64)), (3, .int (0 : Int32)), (0, .ref q), (1, .long y6)]) hx hb dX11_sure_37 hl (by decide) rfl (fun ls hl => ?_)
  obtain ⟨y13, hu, hf⟩ := kb1_e hf
  refine hL39 y6 v_now_n v_now_primeNumber v_now_numbers F (0 : Int32) (1 : Int64) y13 hu (fun H locs ls hP hD hS hl => ?_) _ _ _ hP hD hS (lv_sub hl [2, 3, 1, 0] rfl)
  refine lv_iload_n hx hb dX11_sure_71 rfl (lv_at hl 0 rfl) ?_
  obtain rfl := ki1 hf
  rw [hQ]
  exact k_iret hat hP hS rfl dX11_sure_72
set_option maxHeartbeats 4000000 in
set_option maxRecDepth 100000 in
theorem c_X7_begin {l : Launch} {D : va_G} {cI cJ cQ : ClassId} {tp : Nat} (q : Nat) (qa1 : Nat) (q_rests : Nat) (q_digits : Nat) (q_made : Nat) (qa1_numbers : Nat) (v_power : Int64) (v_rests : (Nat → Int32)) (v_made : (Nat → Int64)) (va1_n : Int32) (va1_primeNumber : Int32) (va1_numbers : (Nat → Int32)) (F : Nat) (o_v_power : Int64) (o_v_rests : (Nat → Int32)) (o_v_made : (Nat → Int64)) (hf : f_X7_begin F v_power v_rests v_made va1_numbers = some (o_v_power, o_v_rests, o_v_made)) : kM (fun A => kQv D A [(q, .inr (7, [.ref q_rests, .ref q_digits, .ref q_made, .long o_v_power])), (q_rests, .inl (cI, 4, .inl o_v_rests)), (q_made, .inl (cJ, 4, .inr (.inl o_v_made))), (qa1, .inr (3, [.int va1_n, .int va1_primeNumber, .ref qa1_numbers])), (qa1_numbers, .inl (cI, 20, .inl va1_numbers))]) none l yX7_begin cX7_begin 3 { frames := 1, cells := 0, slots := 0, locals := 22 } D cI cJ cQ tp [.ref q, .ref qa1] [(q, .inr (7, [.ref q_rests, .ref q_digits, .ref q_made, .long v_power])), (q_rests, .inl (cI, 4, .inl v_rests)), (q_made, .inl (cJ, 4, .inr (.inl v_made))), (qa1, .inr (3, [.int va1_n, .int va1_primeNumber, .ref qa1_numbers])), (qa1_numbers, .inl (cI, 20, .inl va1_numbers))] := by
  refine kM_of (by decide +kernel) (Nat.le_of_ble_eq_true rfl) ?_
  intro p e s m args below meth c A ls R Q hR hQ hat hP hD hS hl
  obtain ⟨hx, hb, hr, hml, hown, hts, hT, hlk, hK, hA, hZ⟩ := id hat
  have hown : s.vm.findClass RX7 = some m.cls := hown
  have hl : lv_has ls 3 [(0, .ref q), (1, .ref qa1)] := hl
  have hL7 : ∀ (v_power : Int64) (va1_n : Int32) (va1_primeNumber : Int32) (va1_numbers : (Nat → Int32)) (fu : Nat) (x2 : Int32) (v_rests : (Nat → Int32)) (v_made : (Nat → Int64)) (o0 : (Nat → Int32)) (o1 : (Nat → Int64)), L_X7_begin_7 va1_numbers fu x2 v_rests v_made = some (o0, o1) → (∀ (H : Heap) (locs : List Loc) (ls : Array Slot), va_P D vwCl [(q, .inr (7, [.ref q_rests, .ref q_digits, .ref q_made, .long v_power])), (q_rests, .inl (cI, 4, .inl o0)), (q_made, .inl (cJ, 4, .inr (.inl o1))), (qa1, .inr (3, [.int va1_n, .int va1_primeNumber, .ref qa1_numbers])), (qa1_numbers, .inl (cI, 20, .inl va1_numbers))] H → va_D A [(q, .inr (7, [.ref q_rests, .ref q_digits, .ref q_made, .long v_power])), (q_rests, .inl (cI, 4, .inl o0)), (q_made, .inl (cJ, 4, .inr (.inl o1))), (qa1, .inr (3, [.int va1_n, .int va1_primeNumber, .ref qa1_numbers])), (qa1_numbers, .inl (cI, 20, .inl va1_numbers))] → va_S A s.heap H locs → lv_has ls 3 [] → W p l e R s m args below meth c H locs 0 0 Q (F0 m 37 ls [])) → ∀ (H : Heap) (locs : List Loc) (ls : Array Slot), va_P D vwCl [(q, .inr (7, [.ref q_rests, .ref q_digits, .ref q_made, .long v_power])), (q_rests, .inl (cI, 4, .inl v_rests)), (q_made, .inl (cJ, 4, .inr (.inl v_made))), (qa1, .inr (3, [.int va1_n, .int va1_primeNumber, .ref qa1_numbers])), (qa1_numbers, .inl (cI, 20, .inl va1_numbers))] H → va_D A [(q, .inr (7, [.ref q_rests, .ref q_digits, .ref q_made, .long v_power])), (q_rests, .inl (cI, 4, .inl v_rests)), (q_made, .inl (cJ, 4, .inr (.inl v_made))), (qa1, .inr (3, [.int va1_n, .int va1_primeNumber, .ref qa1_numbers])), (qa1_numbers, .inl (cI, 20, .inl va1_numbers))] → va_S A s.heap H locs → lv_has ls 3 [(0, .ref q), (1, .ref qa1), (2, .int x2)] → W p l e R s m args below meth c H locs 0 0 Q (F0 m 7 ls []) := by
    intro v_power va1_n va1_primeNumber va1_numbers fu
    induction fu with
    | zero =>
      intro x2 v_rests v_made o0 o1 hf
      cases hf
    | succ fu ih =>
      intro x2 v_rests v_made o0 o1 hf hk0 H locs ls hP hD hS hl
      rw [L_X7_begin_7] at hf
      refine lv_iload_n hx hb dX7_begin_7 rfl (lv_at hl 2 rfl) ?_
      refine lv_iconst (v := 4) hx hb dX7_begin_8 (by decide) ?_
      refine lv_icmp_ge (tgt := 37) hx hb dX7_begin_9 (by decide) (fun c1 => ?_) (fun c1 => ?_)
      · have hf := kp_e hf c1
        obtain ⟨rfl, rfl⟩ := ki2 hf
        exact hk0 _ _ _ hP hD hS (lv_sub hl [] rfl)
      · have hf := kn_e hf c1
        refine lv_aload_n hx hb dX7_begin_12 rfl (lv_at hl 0 rfl) ?_
        refine va_get (D := D) (ci := 7) (v := .ref q_rests) (C := RX7) (T := TX7) (N := 4) hx hb hts kinX7 hown hK hP 0 rfl rfl 0 (by decide) (hts _ kw192) (fun _ h9 => h9) rfl dX7_begin_13 ?_
        refine lv_iload_n hx hb dX7_begin_16 rfl (lv_at hl 2 rfl) ?_
        refine lv_aload_n hx hb dX7_begin_17 rfl (lv_at hl 1 rfl) ?_
        refine lv_iload_n hx hb dX7_begin_18 rfl (lv_at hl 2 rfl) ?_
        refine lv_iconst (v := 4) hx hb dX7_begin_19 (by decide) ?_
        obtain ⟨r2, h3, hf⟩ := kb1_e hf
        refine k_gi (nW := 5) (ws' := [(q, .inr (7, [.ref q_rests, .ref q_digits, .ref q_made, .long v_power])), (q_rests, .inl (cI, 4, .inl v_rests)), (q_made, .inl (cJ, 4, .inr (.inl v_made))), (qa1, .inr (3, [.int va1_n, .int va1_primeNumber, .ref qa1_numbers])), (qa1_numbers, .inl (cI, 20, .inl va1_numbers))]) (wr := [(q, .inr (7, [.ref q_rests, .ref q_digits, .ref q_made, .long v_power])), (q_rests, .inl (cI, 4, .inl v_rests)), (q_made, .inl (cJ, 4, .inr (.inl v_made)))]) (k_runV (rest := [.int x2, .ref q_rests]) hat hP hD hS hl.1 (c_X3_number qa1 qa1_numbers va1_n va1_primeNumber va1_numbers x2 (4 : Int32) r2 h3) [3, 4] (by decide) rfl kw513 kw380 kw381 kw68 kw382 kdVX3_number ⟨rfl, rfl⟩ (by rw [hR]; exact ⟨Nat.le_of_ble_eq_true rfl, Nat.le_of_ble_eq_true rfl⟩) ⟨Nat.zero_le _, Nat.zero_le _⟩ 3 3 rfl rfl rfl rfl (Nat.le_of_ble_eq_true rfl) dX7_begin_20) hat hP hD hS [3, 4] rfl [0, 1, 2] rfl rfl rfl rfl rfl (by decide) (fun H locs hP hD hS => ?_)
        obtain ⟨c4, hf⟩ := kc_e hf
        refine va_iast hx hb hK hP hD hS 1 0 rfl rfl (kin_e c4) dX7_begin_23 (fun H locs hP hD hS => ?_)
        generalize ew5 : (upd v_rests x2.toNatClampNeg r2) = w5 at hP hD
        have hf := kl_e hf w5 ew5.symm
        have hP : va_P D vwCl [(q, .inr (7, [.ref q_rests, .ref q_digits, .ref q_made, .long v_power])), (q_rests, .inl (cI, 4, .inl w5)), (q_made, .inl (cJ, 4, .inr (.inl v_made))), (qa1, .inr (3, [.int va1_n, .int va1_primeNumber, .ref qa1_numbers])), (qa1_numbers, .inl (cI, 20, .inl va1_numbers))] H := hP
        have hD : va_D A [(q, .inr (7, [.ref q_rests, .ref q_digits, .ref q_made, .long v_power])), (q_rests, .inl (cI, 4, .inl w5)), (q_made, .inl (cJ, 4, .inr (.inl v_made))), (qa1, .inr (3, [.int va1_n, .int va1_primeNumber, .ref qa1_numbers])), (qa1_numbers, .inl (cI, 20, .inl va1_numbers))] := hD
        refine lv_aload_n hx hb dX7_begin_24 rfl (lv_at hl 0 rfl) ?_
        refine va_get (D := D) (ci := 7) (v := .ref q_made) (C := RX7) (T := TX7) (N := 4) hx hb hts kinX7 hown hK hP 0 rfl rfl 2 (by decide) (hts _ kw196) (fun _ h9 => h9) rfl dX7_begin_25 ?_
        refine lv_iload_n hx hb dX7_begin_28 rfl (lv_at hl 2 rfl) ?_
        refine lv_lconst (v := 0) hx hb dX7_begin_29 (by decide) ?_
        obtain ⟨c6, hf⟩ := kc_e hf
        refine va_last hx hb hK hP hD hS 2 1 rfl rfl (kin_e c6) dX7_begin_30 (fun H locs hP hD hS => ?_)
        generalize ew7 : (vp_updL v_made x2.toNatClampNeg (0 : Int64)) = w7 at hP hD
        have hf := kl_e hf w7 ew7.symm
        have hP : va_P D vwCl [(q, .inr (7, [.ref q_rests, .ref q_digits, .ref q_made, .long v_power])), (q_rests, .inl (cI, 4, .inl w5)), (q_made, .inl (cJ, 4, .inr (.inl w7))), (qa1, .inr (3, [.int va1_n, .int va1_primeNumber, .ref qa1_numbers])), (qa1_numbers, .inl (cI, 20, .inl va1_numbers))] H := hP
        have hD : va_D A [(q, .inr (7, [.ref q_rests, .ref q_digits, .ref q_made, .long v_power])), (q_rests, .inl (cI, 4, .inl w5)), (q_made, .inl (cJ, 4, .inr (.inl w7))), (qa1, .inr (3, [.int va1_n, .int va1_primeNumber, .ref qa1_numbers])), (qa1_numbers, .inl (cI, 20, .inl va1_numbers))] := hD
        obtain ⟨t8, et8⟩ : ∃ z : Int32, z = (x2 + (1 : Int32)) := ⟨_, rfl⟩
        have hf := kl_e hf t8 et8
        refine lv_iinc (v := t8) (lv' := [(2, .int t8), (0, .ref q), (1, .ref qa1)]) hx hb dX7_begin_31 hl (k := 2) rfl (by rw [et8]; rfl) (by decide) rfl (fun ls hl => ?_)
        refine lv_goto (tgt := 7) hx hb dX7_begin_34 (by decide) ?_
        exact ih t8 w5 w7 o0 o1 hf hk0 _ _ _ hP hD hS (lv_sub hl [1, 2, 0] rfl)
  unfold f_X7_begin at hf
  refine lv_aload_n hx hb dX7_begin_0 rfl (lv_at hl 0 rfl) ?_
  refine lv_lconst (v := 1) hx hb dX7_begin_1 (by decide) ?_
  refine va_put (D := D) (ci := 7) (v := .long (1 : Int64)) (ty := .long) (C := RX7) (T := TX7) (N := 4) hx hb hts kinX7 tyX7 tyX7_ok nmX7 hown hK hP hD hS 0 rfl rfl 3 (by decide) (hts _ kw199) (fun _ h9 => h9) rfl (by decide +kernel) rfl rfl (Nat.le_of_ble_eq_true rfl) dX7_begin_2 (fun H locs hP hD hS => ?_)
  have hP : va_P D vwCl [(q, .inr (7, [.ref q_rests, .ref q_digits, .ref q_made, .long (1 : Int64)])), (q_rests, .inl (cI, 4, .inl v_rests)), (q_made, .inl (cJ, 4, .inr (.inl v_made))), (qa1, .inr (3, [.int va1_n, .int va1_primeNumber, .ref qa1_numbers])), (qa1_numbers, .inl (cI, 20, .inl va1_numbers))] H := hP
  have hD : va_D A [(q, .inr (7, [.ref q_rests, .ref q_digits, .ref q_made, .long (1 : Int64)])), (q_rests, .inl (cI, 4, .inl v_rests)), (q_made, .inl (cJ, 4, .inr (.inl v_made))), (qa1, .inr (3, [.int va1_n, .int va1_primeNumber, .ref qa1_numbers])), (qa1_numbers, .inl (cI, 20, .inl va1_numbers))] := hD
  refine lv_iconst (v := 0) hx hb dX7_begin_5 (by decide) ?_
  refine lv_istore_n (lv' := [(2, .int (0 : Int32)), (0, .ref q), (1, .ref qa1)]) hx hb dX7_begin_6 rfl hl (by decide) rfl (fun ls hl => ?_)
  obtain ⟨w9, w10, hu, hf⟩ := kb2_e hf
  refine hL7 (1 : Int64) va1_n va1_primeNumber va1_numbers F (0 : Int32) v_rests v_made w9 w10 hu (fun H locs ls hP hD hS hl => ?_) _ _ _ hP hD hS (lv_sub hl [1, 2, 0] rfl)
  obtain ⟨rfl, rfl, rfl⟩ := ki3 hf
  rw [hQ]
  exact k_vret hat hP hS dX7_begin_37
set_option maxHeartbeats 4000000 in
set_option maxRecDepth 100000 in
theorem c_X8_inverse {l : Launch} {D : va_G} {cI cJ cQ : ClassId} {tp : Nat} (q : Nat) (q_rows : Nat) (q_rows_r : Nat → Nat) (v_n : Int32) (v_rank : Int32) (v_exchanges : Int32) (v_width : Int32) (v_p : Int32) (v_rows : (Nat → Nat → Int64)) (x1 : Int32) (x2 : Int32) (r0 : Int32) (hf : f_X8_inverse v_rows x1 x2 = some r0) : kM (fun A => kQi D A [(q, .inr (8, [.int v_n, .int v_rank, .int v_exchanges, .ref q_rows, .int v_width, .int v_p])), (q_rows, .inl (cQ, 4, .inr (.inr (.inr (.inr (kg q_rows_r)))))), (q_rows_r 0, .inl (cJ, 9, .inr (.inl (v_rows 0)))), (q_rows_r 1, .inl (cJ, 9, .inr (.inl (v_rows 1)))), (q_rows_r 2, .inl (cJ, 9, .inr (.inl (v_rows 2)))), (q_rows_r 3, .inl (cJ, 9, .inr (.inl (v_rows 3))))] r0) (some .int) l yX8_inverse cX8_inverse 3 { frames := 0, cells := 0, slots := 0, locals := 0 } D cI cJ cQ tp [.ref q, .int x1, .int x2] [(q, .inr (8, [.int v_n, .int v_rank, .int v_exchanges, .ref q_rows, .int v_width, .int v_p])), (q_rows, .inl (cQ, 4, .inr (.inr (.inr (.inr (kg q_rows_r)))))), (q_rows_r 0, .inl (cJ, 9, .inr (.inl (v_rows 0)))), (q_rows_r 1, .inl (cJ, 9, .inr (.inl (v_rows 1)))), (q_rows_r 2, .inl (cJ, 9, .inr (.inl (v_rows 2)))), (q_rows_r 3, .inl (cJ, 9, .inr (.inl (v_rows 3))))] := by
  refine kM_of (by decide +kernel) (Nat.le_of_ble_eq_true rfl) ?_
  intro p e s m args below meth c A ls R Q hR hQ hat hP hD hS hl
  obtain ⟨hx, hb, hr, hml, hown, hts, hT, hlk, hK, hA, hZ⟩ := id hat
  have hown : s.vm.findClass RX8 = some m.cls := hown
  have hl : lv_has ls 3 [(0, .ref q), (1, .int x1), (2, .int x2)] := hl
  unfold f_X8_inverse at hf
  refine lv_aload_n hx hb dX8_inverse_0 rfl (lv_at hl 0 rfl) ?_
  refine va_get (D := D) (ci := 8) (v := .ref q_rows) (C := RX8) (T := TX8) (N := 6) hx hb hts kinX8 hown hK hP 0 rfl rfl 3 (by decide) (hts _ kw152) (u_same (hts _ kw153)) rfl dX8_inverse_1 ?_
  refine lv_iload_n hx hb dX8_inverse_4 rfl (lv_at hl 1 rfl) ?_
  obtain ⟨c1, hf⟩ := kc_e hf
  refine k_gld hx hb hK hP 1 rfl c1 dX8_inverse_5 ?_
  refine lv_iconst (v := 5) hx hb dX8_inverse_6 (by decide) ?_
  refine lv_iload_n hx hb dX8_inverse_7 rfl (lv_at hl 2 rfl) ?_
  refine lv_iadd hx hb dX8_inverse_8 ?_
  obtain ⟨c2, hf⟩ := kc_e hf
  refine k_rld hx hb hK hP 2 (fun k hk => (co_4 (P := fun k => ([(q, .inr (8, [.int v_n, .int v_rank, .int v_exchanges, .ref q_rows, .int v_width, .int v_p])), (q_rows, .inl (cQ, 4, .inr (.inr (.inr (.inr (kg q_rows_r)))))), (q_rows_r 0, .inl (cJ, 9, .inr (.inl (v_rows 0)))), (q_rows_r 1, .inl (cJ, 9, .inr (.inl (v_rows 1)))), (q_rows_r 2, .inl (cJ, 9, .inr (.inl (v_rows 2)))), (q_rows_r 3, .inl (cJ, 9, .inr (.inl (v_rows 3))))] : va_W)[2 + k]? = some (q_rows_r k, .inl (cJ, 9, .inr (.inl (v_rows k))))) rfl rfl rfl rfl) hk) (kin_nat c1) c2 dX8_inverse_9 ?_
  refine lv_l2i hx hb dX8_inverse_10 rfl ?_
  obtain rfl := ki1 hf
  rw [hQ]
  exact k_iret hat hP hS rfl dX8_inverse_11
