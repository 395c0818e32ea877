/-! ===== the laws one by one ===== -/
theorem law0_ok (F : Nat) (L : Nat) (xs : Nat → Int32) (vx_now_n : Int32) (vx_now_primeNumber : Int32) (vx_now_numbers : (Nat → Int32)) (vx_clearing_n : Int32) (vx_clearing_rank : Int32) (vx_clearing_exchanges : Int32) (vx_clearing_scale : Int64) (vx_clearing_rows : (Nat → Nat → Int64)) (vx_clearing_leads : (Nat → Int32)) (vx_residues_n : Int32) (vx_residues_rank : Int32) (vx_residues_exchanges : Int32) (vx_residues_p : Int32) (vx_residues_rows : (Nat → Nat → Int64)) (vx_lifting_power : Int64) (vx_lifting_rests : (Nat → Int32)) (vx_lifting_digits : (Nat → Int32)) (vx_lifting_made : (Nat → Int64)) (vx_walk_early : Int32) (vx_walk_tooSoon : Int32) (vx_walk_allFound : Int32) (vx_walk_allRight : Int32) (vx_walk_lifting_power : Int64) (vx_walk_lifting_rests : (Nat → Int32)) (vx_walk_lifting_digits : (Nat → Int32)) (vx_walk_lifting_made : (Nat → Int64)) (vx_walk_guess_found : Int32) (vx_walk_guess_above : Int64) (vx_walk_guess_below : Int64) (vx_history_count : Int32) (vx_book_count : Int32) (vx_book_unknowns : (Nat → Int32)) (vx_book_places : (Nat → Int32)) (vx_book_values : (Nat → Int32)) (vm_known : Int32) (vm_written : Int32) (vm_above : Int64) (vm_below : Int64) (vm_leftAbove : Int64) (vm_leftBelow : Int64) (vm_guessAbove : Int64) (vm_guessBelow : Int64) (vm_w : (Nat → Int32)) (vm_bookOf : (Nat → Int32)) (vm_bookAt : (Nat → Int32)) (vm_bookIs : (Nat → Int32)) (vm_rs : (Nat → Int32)) (vm_cs : (Nat → Int32)) (x3 : Int32) (hF : 2305430425 ≤ F) (k1 : kin (x3 + (1 : Int32)) L) {n pn : Nat} {A : Nat → Nat → Int} (h : NowR vx_now_n vx_now_primeNumber vx_now_numbers vm_w n pn A) (hB : BookR vx_book_count vx_book_unknowns vx_book_places vx_book_values vm_written vm_bookOf vm_bookAt vm_bookIs) (hh : vx_history_count = vm_known) : ∃ out, f_law0 F L xs vx_now_n vx_now_primeNumber vx_now_numbers vx_clearing_n vx_clearing_rank vx_clearing_exchanges 5 vx_clearing_scale vx_clearing_rows vx_clearing_leads vx_residues_n vx_residues_rank vx_residues_exchanges 9 vx_residues_p vx_residues_rows vx_lifting_power vx_lifting_rests vx_lifting_digits vx_lifting_made vx_walk_early vx_walk_tooSoon vx_walk_allFound vx_walk_allRight vx_walk_lifting_power vx_walk_lifting_rests vx_walk_lifting_digits vx_walk_lifting_made vx_walk_guess_found vx_walk_guess_above vx_walk_guess_below vx_history_count vx_book_count vx_book_unknowns vx_book_places vx_book_values vm_known vm_written vm_above vm_below vm_leftAbove vm_leftBelow vm_guessAbove vm_guessBelow vm_w vm_bookOf vm_bookAt vm_bookIs vm_rs vm_cs x3 = some out := by
  obtain ⟨r, z, y, e1, e2⟩ := told_ag hF h hB hh vx_clearing_n vx_clearing_rank vx_clearing_exchanges vx_clearing_scale vx_clearing_rows vx_clearing_leads vx_residues_n vx_residues_rank vx_residues_exchanges vx_residues_p vx_residues_rows vx_lifting_power vx_lifting_rests vx_lifting_digits vx_lifting_made vx_walk_early vx_walk_tooSoon vx_walk_allFound vx_walk_allRight vx_walk_lifting_power vx_walk_lifting_rests vx_walk_lifting_digits vx_walk_lifting_made vx_walk_guess_found vx_walk_guess_above vx_walk_guess_below vm_above vm_below vm_leftAbove vm_leftBelow vm_guessAbove vm_guessBelow vm_rs vm_cs (xs (x3 + (1 : Int32)).toNatClampNeg)
  obtain ⟨z1, z2, z3, z4, z5, z6, z7, z8, z9, z10, z11, z12, z13, z14, z15, z16, z17, z18, z19, z20, z21, z22, z23, z24, z25, z26⟩ := z
  obtain ⟨y1, y2, y3, y4, y5, y6, y7, y8⟩ := y
  refine ⟨(z1, z2, z3, z4, z5, z6, z7, z8, z9, z10, z11, z12, z13, z14, z15, z16, z17, z18, z19, z20, z21, z22, z23, z24, z25, z26, y1, y2, y3, y4, y5, y6, y7, y8), ?_⟩
  unfold f_law0
  rw [if_pos k1]
  refine kb27_of e1 ?_
  rw [if_pos k1]
  refine kb9_of e2 ?_
  rw [if_pos rfl]
theorem law1_ok (L : Nat) (xs : Nat → Int32) (vx_now_n : Int32) (vx_now_numbers : (Nat → Int32)) (vm_w : (Nat → Int32)) (x3 : Int32) (k1 : kin (x3 + (1 : Int32)) L) (k2 : kin (x3 + (2 : Int32)) L) {n pn : Nat} {A : Nat → Nat → Int} {vp : Int32} (h : NowR vx_now_n vp vx_now_numbers vm_w n pn A) : f_law1 L xs vx_now_n vx_now_numbers vm_w x3 = some () := by
  obtain ⟨r, e1, e2⟩ := at_ag h (xs (x3 + (1 : Int32)).toNatClampNeg) (xs (x3 + (2 : Int32)).toNatClampNeg)
  unfold f_law1
  rw [if_pos k1, if_pos k2]
  refine kb1_of e1 ?_
  rw [if_pos k1, if_pos k2]
  refine kb1_of e2 ?_
  rw [if_pos rfl]
theorem law2_ok (F : Nat) (L : Nat) (xs : Nat → Int32) (vx_now_n : Int32) (vx_now_numbers : (Nat → Int32)) (vx_clearing_n : Int32) (vx_clearing_rank : Int32) (vx_clearing_exchanges : Int32) (vx_clearing_scale : Int64) (vx_clearing_rows : (Nat → Nat → Int64)) (vx_clearing_leads : (Nat → Int32)) (vm_above : Int64) (vm_below : Int64) (vm_w : (Nat → Int32)) (vm_rs : (Nat → Int32)) (vm_cs : (Nat → Int32)) (x3 : Int32) (hF : 2305430425 ≤ F) (k1 : kin (x3 + (1 : Int32)) L) (k2 : kin (x3 + (2 : Int32)) L) (k3 : kin (x3 + (3 : Int32)) L) {n pn : Nat} {A : Nat → Nat → Int} {vp : Int32} (h : NowR vx_now_n vp vx_now_numbers vm_w n pn A)  : ∃ out, f_law2 F L xs vx_now_n vx_now_numbers vx_clearing_n vx_clearing_rank vx_clearing_exchanges 5 vx_clearing_scale vx_clearing_rows vx_clearing_leads vm_above vm_below vm_w vm_rs vm_cs x3 = some out := by
  obtain ⟨r, z, y, e1, e2⟩ := cleared_ag hF h vx_clearing_n vx_clearing_rank vx_clearing_exchanges vx_clearing_scale vx_clearing_rows vx_clearing_leads vm_above vm_below vm_rs vm_cs (xs (x3 + (1 : Int32)).toNatClampNeg) (xs (x3 + (2 : Int32)).toNatClampNeg) (xs (x3 + (3 : Int32)).toNatClampNeg)
  obtain ⟨z1, z2, z3, z4, z5, z6⟩ := z
  obtain ⟨y1, y2, y3, y4⟩ := y
  refine ⟨(z1, z2, z3, z4, z5, z6, y1, y2, y3, y4), ?_⟩
  unfold f_law2
  rw [if_pos k1, if_pos k2, if_pos k3]
  refine kb7_of e1 ?_
  rw [if_pos k1, if_pos k2, if_pos k3]
  refine kb5_of e2 ?_
  rw [if_pos rfl]
theorem law3_ok (F : Nat) (L : Nat) (xs : Nat → Int32) (vx_now_n : Int32) (vx_now_numbers : (Nat → Int32)) (vx_clearing_n : Int32) (vx_clearing_rank : Int32) (vx_clearing_exchanges : Int32) (vx_clearing_scale : Int64) (vx_clearing_rows : (Nat → Nat → Int64)) (vx_clearing_leads : (Nat → Int32)) (vm_above : Int64) (vm_below : Int64) (vm_w : (Nat → Int32)) (vm_rs : (Nat → Int32)) (vm_cs : (Nat → Int32)) (x3 : Int32) (hF : 2305430425 ≤ F) (k1 : kin (x3 + (1 : Int32)) L) (k2 : kin (x3 + (2 : Int32)) L) {n pn : Nat} {A : Nat → Nat → Int} {vp : Int32} (h : NowR vx_now_n vp vx_now_numbers vm_w n pn A)  : ∃ out, f_law3 F L xs vx_now_n vx_now_numbers vx_clearing_n vx_clearing_rank vx_clearing_exchanges 5 vx_clearing_scale vx_clearing_rows vx_clearing_leads vm_above vm_below vm_w vm_rs vm_cs x3 = some out := by
  obtain ⟨r, z, y, e1, e2⟩ := solution_ag hF h vx_clearing_n vx_clearing_rank vx_clearing_exchanges vx_clearing_scale vx_clearing_rows vx_clearing_leads vm_above vm_below vm_rs vm_cs (xs (x3 + (1 : Int32)).toNatClampNeg) (xs (x3 + (2 : Int32)).toNatClampNeg)
  obtain ⟨z1, z2, z3, z4, z5, z6⟩ := z
  obtain ⟨y1, y2, y3, y4⟩ := y
  refine ⟨(z1, z2, z3, z4, z5, z6, y1, y2, y3, y4), ?_⟩
  unfold f_law3
  rw [if_pos k1, if_pos k2]
  refine kb7_of e1 ?_
  rw [if_pos k1, if_pos k2]
  refine kb5_of e2 ?_
  rw [if_pos rfl]
theorem law4_ok (F : Nat) (L : Nat) (xs : Nat → Int32) (vx_now_n : Int32) (vx_now_numbers : (Nat → Int32)) (vx_clearing_n : Int32) (vx_clearing_rank : Int32) (vx_clearing_exchanges : Int32) (vx_clearing_scale : Int64) (vx_clearing_rows : (Nat → Nat → Int64)) (vx_clearing_leads : (Nat → Int32)) (vm_above : Int64) (vm_below : Int64) (vm_w : (Nat → Int32)) (vm_rs : (Nat → Int32)) (vm_cs : (Nat → Int32)) (vm_zs : (Nat → Int64)) (x3 : Int32) (hF : 2305430425 ≤ F) (k1 : kin (x3 + (1 : Int32)) L) {n pn : Nat} {A : Nat → Nat → Int} {vp : Int32} (h : NowR vx_now_n vp vx_now_numbers vm_w n pn A)  : ∃ out, f_law4 F L xs vx_now_n vx_now_numbers vx_clearing_n vx_clearing_rank vx_clearing_exchanges 5 vx_clearing_scale vx_clearing_rows vx_clearing_leads vm_above vm_below vm_w vm_rs vm_cs vm_zs x3 = some out := by
  obtain ⟨r, z, y, e1, e2⟩ := nothing_ag hF h vx_clearing_n vx_clearing_rank vx_clearing_exchanges vx_clearing_scale vx_clearing_rows vx_clearing_leads vm_above vm_below vm_rs vm_cs vm_zs (xs (x3 + (1 : Int32)).toNatClampNeg)
  obtain ⟨z1, z2, z3, z4, z5, z6⟩ := z
  obtain ⟨y1, y2, y3, y4, y5⟩ := y
  refine ⟨(z1, z2, z3, z4, z5, z6, y1, y2, y3, y4, y5), ?_⟩
  unfold f_law4
  rw [if_pos k1]
  refine kb7_of e1 ?_
  rw [if_pos k1]
  refine kb6_of e2 ?_
  rw [if_pos rfl]
theorem law5_ok (F : Nat) (L : Nat) (xs : Nat → Int32) (vx_now_n : Int32) (vx_now_primeNumber : Int32) (vx_now_numbers : (Nat → Int32)) (vx_residues_n : Int32) (vx_residues_rank : Int32) (vx_residues_exchanges : Int32) (vx_residues_p : Int32) (vx_residues_rows : (Nat → Nat → Int64)) (vm_w : (Nat → Int32)) (vm_rs : (Nat → Int32)) (vm_cs : (Nat → Int32)) (x3 : Int32) (hF : 2305430425 ≤ F) (k1 : kin (x3 + (1 : Int32)) L) (k2 : kin (x3 + (2 : Int32)) L) {n pn : Nat} {A : Nat → Nat → Int} (h : NowR vx_now_n vx_now_primeNumber vx_now_numbers vm_w n pn A)  : ∃ out, f_law5 F L xs vx_now_n vx_now_primeNumber vx_now_numbers vx_residues_n vx_residues_rank vx_residues_exchanges 9 vx_residues_p vx_residues_rows vm_w vm_rs vm_cs x3 = some out := by
  obtain ⟨r, z, y, e1, e2⟩ := back_ag hF h vx_residues_n vx_residues_rank vx_residues_exchanges vx_residues_p vx_residues_rows vm_rs vm_cs (xs (x3 + (1 : Int32)).toNatClampNeg) (xs (x3 + (2 : Int32)).toNatClampNeg)
  obtain ⟨z1, z2, z3, z4, z5⟩ := z
  obtain ⟨y1, y2⟩ := y
  refine ⟨(z1, z2, z3, z4, z5, y1, y2), ?_⟩
  unfold f_law5
  rw [if_pos k1, if_pos k2]
  refine kb6_of e1 ?_
  rw [if_pos k1, if_pos k2]
  refine kb3_of e2 ?_
  rw [if_pos rfl]
theorem law6_ok (F : Nat) (L : Nat) (xs : Nat → Int32) (vx_now_n : Int32) (vx_now_primeNumber : Int32) (vx_now_numbers : (Nat → Int32)) (vx_residues_n : Int32) (vx_residues_rank : Int32) (vx_residues_exchanges : Int32) (vx_residues_p : Int32) (vx_residues_rows : (Nat → Nat → Int64)) (vx_lifting_power : Int64) (vx_lifting_rests : (Nat → Int32)) (vx_lifting_digits : (Nat → Int32)) (vx_lifting_made : (Nat → Int64)) (vm_above : Int64) (vm_below : Int64) (vm_leftAbove : Int64) (vm_leftBelow : Int64) (vm_w : (Nat → Int32)) (vm_rs : (Nat → Int32)) (vm_cs : (Nat → Int32)) (x3 : Int32) (hF : 2305430425 ≤ F) (k1 : kin (x3 + (1 : Int32)) L) (k2 : kin (x3 + (2 : Int32)) L) {n pn : Nat} {A : Nat → Nat → Int} (h : NowR vx_now_n vx_now_primeNumber vx_now_numbers vm_w n pn A)  : ∃ out, f_law6 F L xs vx_now_n vx_now_primeNumber vx_now_numbers vx_residues_n vx_residues_rank vx_residues_exchanges 9 vx_residues_p vx_residues_rows vx_lifting_power vx_lifting_rests vx_lifting_digits vx_lifting_made vm_above vm_below vm_leftAbove vm_leftBelow vm_w vm_rs vm_cs x3 = some out := by
  obtain ⟨r, z, y, e1, e2⟩ := digit_ag hF h vx_residues_n vx_residues_rank vx_residues_exchanges vx_residues_p vx_residues_rows vx_lifting_power vx_lifting_rests vx_lifting_digits vx_lifting_made vm_above vm_below vm_leftAbove vm_leftBelow vm_rs vm_cs (xs (x3 + (1 : Int32)).toNatClampNeg) (xs (x3 + (2 : Int32)).toNatClampNeg)
  obtain ⟨z1, z2, z3, z4, z5, z6, z7, z8, z9⟩ := z
  obtain ⟨y1, y2, y3, y4, y5, y6⟩ := y
  refine ⟨(z1, z2, z3, z4, z5, z6, z7, z8, z9, y1, y2, y3, y4, y5, y6), ?_⟩
  unfold f_law6
  rw [if_pos k1, if_pos k2]
  refine kb10_of e1 ?_
  rw [if_pos k1, if_pos k2]
  refine kb7_of e2 ?_
  rw [if_pos rfl]
theorem law7_ok (F : Nat) (L : Nat) (xs : Nat → Int32) (vx_now_n : Int32) (vx_now_primeNumber : Int32) (vx_now_numbers : (Nat → Int32)) (vx_residues_n : Int32) (vx_residues_rank : Int32) (vx_residues_exchanges : Int32) (vx_residues_p : Int32) (vx_residues_rows : (Nat → Nat → Int64)) (vx_lifting_power : Int64) (vx_lifting_rests : (Nat → Int32)) (vx_lifting_digits : (Nat → Int32)) (vx_lifting_made : (Nat → Int64)) (vm_above : Int64) (vm_below : Int64) (vm_leftAbove : Int64) (vm_leftBelow : Int64) (vm_w : (Nat → Int32)) (vm_rs : (Nat → Int32)) (vm_cs : (Nat → Int32)) (x3 : Int32) (hF : 2305430425 ≤ F) (k1 : kin (x3 + (1 : Int32)) L) (k2 : kin (x3 + (2 : Int32)) L) {n pn : Nat} {A : Nat → Nat → Int} (h : NowR vx_now_n vx_now_primeNumber vx_now_numbers vm_w n pn A)  : ∃ out, f_law7 F L xs vx_now_n vx_now_primeNumber vx_now_numbers vx_residues_n vx_residues_rank vx_residues_exchanges 9 vx_residues_p vx_residues_rows vx_lifting_power vx_lifting_rests vx_lifting_digits vx_lifting_made vm_above vm_below vm_leftAbove vm_leftBelow vm_w vm_rs vm_cs x3 = some out := by
  obtain ⟨r, z, y, e1, e2⟩ := rest_ag hF h vx_residues_n vx_residues_rank vx_residues_exchanges vx_residues_p vx_residues_rows vx_lifting_power vx_lifting_rests vx_lifting_digits vx_lifting_made vm_above vm_below vm_leftAbove vm_leftBelow vm_rs vm_cs (xs (x3 + (1 : Int32)).toNatClampNeg) (xs (x3 + (2 : Int32)).toNatClampNeg)
  obtain ⟨z1, z2, z3, z4, z5, z6, z7, z8, z9⟩ := z
  obtain ⟨y1, y2, y3, y4, y5, y6⟩ := y
  refine ⟨(z1, z2, z3, z4, z5, z6, z7, z8, z9, y1, y2, y3, y4, y5, y6), ?_⟩
  unfold f_law7
  rw [if_pos k1, if_pos k2]
  refine kb10_of e1 ?_
  rw [if_pos k1, if_pos k2]
  refine kb7_of e2 ?_
  rw [if_pos rfl]
theorem law8_ok (F : Nat) (L : Nat) (xs : Nat → Int32) (vx_now_n : Int32) (vx_now_primeNumber : Int32) (vx_now_numbers : (Nat → Int32)) (vx_residues_n : Int32) (vx_residues_rank : Int32) (vx_residues_exchanges : Int32) (vx_residues_p : Int32) (vx_residues_rows : (Nat → Nat → Int64)) (vx_lifting_power : Int64) (vx_lifting_rests : (Nat → Int32)) (vx_lifting_digits : (Nat → Int32)) (vx_lifting_made : (Nat → Int64)) (vx_guessed_found : Int32) (vx_guessed_above : Int64) (vx_guessed_below : Int64) (vm_above : Int64) (vm_below : Int64) (vm_guessAbove : Int64) (vm_guessBelow : Int64) (vm_w : (Nat → Int32)) (vm_rs : (Nat → Int32)) (vm_cs : (Nat → Int32)) (x3 : Int32) (hF : 2305430425 ≤ F) (k1 : kin (x3 + (1 : Int32)) L) (k2 : kin (x3 + (2 : Int32)) L) (k3 : kin (x3 + (3 : Int32)) L) {n pn : Nat} {A : Nat → Nat → Int} (h : NowR vx_now_n vx_now_primeNumber vx_now_numbers vm_w n pn A)  : ∃ out, f_law8 F L xs vx_now_n vx_now_primeNumber vx_now_numbers vx_residues_n vx_residues_rank vx_residues_exchanges 9 vx_residues_p vx_residues_rows vx_lifting_power vx_lifting_rests vx_lifting_digits vx_lifting_made vx_guessed_found vx_guessed_above vx_guessed_below vm_above vm_below vm_guessAbove vm_guessBelow vm_w vm_rs vm_cs x3 = some out := by
  obtain ⟨r, z, y, e1, e2⟩ := guess_ag hF h vx_residues_n vx_residues_rank vx_residues_exchanges vx_residues_p vx_residues_rows vx_lifting_power vx_lifting_rests vx_lifting_digits vx_lifting_made vx_guessed_found vx_guessed_above vx_guessed_below vm_above vm_below vm_guessAbove vm_guessBelow vm_rs vm_cs (xs (x3 + (1 : Int32)).toNatClampNeg) (xs (x3 + (2 : Int32)).toNatClampNeg) (xs (x3 + (3 : Int32)).toNatClampNeg)
  obtain ⟨z1, z2, z3, z4, z5, z6, z7, z8, z9, z10, z11, z12⟩ := z
  obtain ⟨y1, y2, y3, y4, y5, y6⟩ := y
  refine ⟨(z1, z2, z3, z4, z5, z6, z7, z8, z9, z10, z11, z12, y1, y2, y3, y4, y5, y6), ?_⟩
  unfold f_law8
  rw [if_pos k1, if_pos k2, if_pos k3]
  refine kb13_of e1 ?_
  rw [if_pos k1, if_pos k2, if_pos k3]
  refine kb7_of e2 ?_
  rw [if_pos rfl]
theorem law9_ok (F : Nat) (L : Nat) (xs : Nat → Int32) (vx_now_n : Int32) (vx_now_numbers : (Nat → Int32)) (vx_clearing_n : Int32) (vx_clearing_rank : Int32) (vx_clearing_exchanges : Int32) (vx_clearing_scale : Int64) (vx_clearing_rows : (Nat → Nat → Int64)) (vx_clearing_leads : (Nat → Int32)) (vm_above : Int64) (vm_below : Int64) (vm_sign : Int32) (vm_power2 : Int32) (vm_bits : Int64) (vm_w : (Nat → Int32)) (vm_rs : (Nat → Int32)) (vm_cs : (Nat → Int32)) (x3 : Int32) (hF : 2305430425 ≤ F) (k1 : kin (x3 + (1 : Int32)) L) {n pn : Nat} {A : Nat → Nat → Int} {vp : Int32} (h : NowR vx_now_n vp vx_now_numbers vm_w n pn A)  : ∃ out, f_law9 F L xs vx_now_n vx_now_numbers vx_clearing_n vx_clearing_rank vx_clearing_exchanges 5 vx_clearing_scale vx_clearing_rows vx_clearing_leads vm_above vm_below vm_sign vm_power2 vm_bits vm_w vm_rs vm_cs x3 = some out := by
  obtain ⟨r, z, y, e1, e2⟩ := near_ag hF h vx_clearing_n vx_clearing_rank vx_clearing_exchanges vx_clearing_scale vx_clearing_rows vx_clearing_leads vm_above vm_below vm_sign vm_power2 vm_bits vm_rs vm_cs (xs (x3 + (1 : Int32)).toNatClampNeg)
  obtain ⟨z1, z2, z3, z4, z5, z6⟩ := z
  obtain ⟨y1, y2, y3, y4, y5, y6, y7⟩ := y
  refine ⟨(z1, z2, z3, z4, z5, z6, y1, y2, y3, y4, y5, y6, y7), ?_⟩
  unfold f_law9
  rw [if_pos k1]
  refine kb7_of e1 ?_
  rw [if_pos k1]
  refine kb8_of e2 ?_
  rw [if_pos rfl]
theorem law10_ok (F : Nat) (L : Nat) (xs : Nat → Int32) (vx_now_n : Int32) (vx_now_numbers : (Nat → Int32)) (vx_clearing_n : Int32) (vx_clearing_rank : Int32) (vx_clearing_exchanges : Int32) (vx_clearing_scale : Int64) (vx_clearing_rows : (Nat → Nat → Int64)) (vx_clearing_leads : (Nat → Int32)) (vm_above : Int64) (vm_below : Int64) (vm_sign : Int32) (vm_power2 : Int32) (vm_bits : Int64) (vm_w : (Nat → Int32)) (vm_rs : (Nat → Int32)) (vm_cs : (Nat → Int32)) (x3 : Int32) (hF : 2305430425 ≤ F) (k1 : kin (x3 + (1 : Int32)) L) {n pn : Nat} {A : Nat → Nat → Int} {vp : Int32} (h : NowR vx_now_n vp vx_now_numbers vm_w n pn A)  : ∃ out, f_law10 F L xs vx_now_n vx_now_numbers vx_clearing_n vx_clearing_rank vx_clearing_exchanges 5 vx_clearing_scale vx_clearing_rows vx_clearing_leads vm_above vm_below vm_sign vm_power2 vm_bits vm_w vm_rs vm_cs x3 = some out := by
  obtain ⟨r, z, y, e1, e2⟩ := shortly_ag hF h vx_clearing_n vx_clearing_rank vx_clearing_exchanges vx_clearing_scale vx_clearing_rows vx_clearing_leads vm_above vm_below vm_sign vm_power2 vm_bits vm_rs vm_cs (xs (x3 + (1 : Int32)).toNatClampNeg)
  obtain ⟨z1, z2, z3, z4, z5, z6⟩ := z
  obtain ⟨y1, y2, y3, y4, y5, y6, y7⟩ := y
  refine ⟨(z1, z2, z3, z4, z5, z6, y1, y2, y3, y4, y5, y6, y7), ?_⟩
  unfold f_law10
  rw [if_pos k1]
  refine kb7_of e1 ?_
  rw [if_pos k1]
  refine kb8_of e2 ?_
  rw [if_pos rfl]
theorem law11_ok (F : Nat) (L : Nat) (xs : Nat → Int32) (vx_now_n : Int32) (vx_now_numbers : (Nat → Int32)) (vx_clearing_n : Int32) (vx_clearing_rank : Int32) (vx_clearing_exchanges : Int32) (vx_clearing_scale : Int64) (vx_clearing_rows : (Nat → Nat → Int64)) (vx_clearing_leads : (Nat → Int32)) (vm_above : Int64) (vm_below : Int64) (vm_sign : Int32) (vm_power2 : Int32) (vm_bits : Int64) (vm_w : (Nat → Int32)) (vm_rs : (Nat → Int32)) (vm_cs : (Nat → Int32)) (x3 : Int32) (hF : 2305430425 ≤ F) (k1 : kin (x3 + (1 : Int32)) L) {n pn : Nat} {A : Nat → Nat → Int} {vp : Int32} (h : NowR vx_now_n vp vx_now_numbers vm_w n pn A)  : ∃ out, f_law11 F L xs vx_now_n vx_now_numbers vx_clearing_n vx_clearing_rank vx_clearing_exchanges 5 vx_clearing_scale vx_clearing_rows vx_clearing_leads vm_above vm_below vm_sign vm_power2 vm_bits vm_w vm_rs vm_cs x3 = some out := by
  obtain ⟨r, z, y, e1, e2⟩ := cut_ag hF h vx_clearing_n vx_clearing_rank vx_clearing_exchanges vx_clearing_scale vx_clearing_rows vx_clearing_leads vm_above vm_below vm_sign vm_power2 vm_bits vm_rs vm_cs (xs (x3 + (1 : Int32)).toNatClampNeg)
  obtain ⟨z1, z2, z3, z4, z5, z6⟩ := z
  obtain ⟨y1, y2, y3, y4, y5, y6, y7⟩ := y
  refine ⟨(z1, z2, z3, z4, z5, z6, y1, y2, y3, y4, y5, y6, y7), ?_⟩
  unfold f_law11
  rw [if_pos k1]
  refine kb7_of e1 ?_
  rw [if_pos k1]
  refine kb8_of e2 ?_
  rw [if_pos rfl]
theorem law12_ok (F : Nat) (L : Nat) (xs : Nat → Int32) (vx_now_n : Int32) (vx_now_primeNumber : Int32) (vx_now_numbers : (Nat → Int32)) (vx_history_count : Int32) (vx_history_next : Int32) (vx_history_store : (Nat → Int32)) (vm_known : Int32) (vm_w : (Nat → Int32)) (x3 : Int32) (hF : 2305430425 ≤ F) (k1 : kin (x3 + (1 : Int32)) L) {n pn : Nat} {A : Nat → Nat → Int} (h : NowR vx_now_n vx_now_primeNumber vx_now_numbers vm_w n pn A) (hH : HisR vx_history_count vx_history_next vx_history_store vm_known vm_w) : ∃ vn' nums' hc' hn' store' kn' w', f_law12 F L xs vx_now_n vx_now_primeNumber vx_now_numbers vx_history_count vx_history_next vx_history_store vm_known vm_w x3 = some (vn', nums', hc', hn', store', kn', w') ∧ Dd vn' vx_now_primeNumber nums' hc' hn' store' kn' w' vm_w := by
  obtain ⟨r, vn', nums', hc', hn', store', kn', w', e1, e2, e3⟩ := size_ag (show 100 ≤ F by omega) h hH (xs (x3 + (1 : Int32)).toNatClampNeg)
  refine ⟨vn', nums', hc', hn', store', kn', w', ?_, e3⟩
  unfold f_law12
  rw [if_pos k1]
  refine kb6_of e1 ?_
  rw [if_pos k1]
  refine kb3_of e2 ?_
  rw [if_pos rfl]
theorem law13_ok (F : Nat) (L : Nat) (xs : Nat → Int32) (vx_now_n : Int32) (vx_now_primeNumber : Int32) (vx_now_numbers : (Nat → Int32)) (vx_history_count : Int32) (vx_history_next : Int32) (vx_history_store : (Nat → Int32)) (vm_known : Int32) (vm_w : (Nat → Int32)) (x3 : Int32) (hF : 2305430425 ≤ F) (k1 : kin (x3 + (1 : Int32)) L) (k2 : kin (x3 + (2 : Int32)) L) (k3 : kin (x3 + (3 : Int32)) L) {n pn : Nat} {A : Nat → Nat → Int} (h : NowR vx_now_n vx_now_primeNumber vx_now_numbers vm_w n pn A) (hH : HisR vx_history_count vx_history_next vx_history_store vm_known vm_w) : ∃ nums' hc' hn' store' kn' w', f_law13 F L xs vx_now_n vx_now_primeNumber vx_now_numbers vx_history_count vx_history_next vx_history_store vm_known vm_w x3 = some (nums', hc', hn', store', kn', w') ∧ Dd vx_now_n vx_now_primeNumber nums' hc' hn' store' kn' w' vm_w := by
  obtain ⟨r, nums', hc', hn', store', kn', w', e1, e2, e3⟩ := put_ag (show 100 ≤ F by omega) h hH (xs (x3 + (1 : Int32)).toNatClampNeg) (xs (x3 + (2 : Int32)).toNatClampNeg) (xs (x3 + (3 : Int32)).toNatClampNeg)
  refine ⟨nums', hc', hn', store', kn', w', ?_, e3⟩
  unfold f_law13
  rw [if_pos k1, if_pos k2, if_pos k3]
  refine kb5_of e1 ?_
  rw [if_pos k1, if_pos k2, if_pos k3]
  refine kb3_of e2 ?_
  rw [if_pos rfl]
theorem law14_ok (F : Nat) (L : Nat) (xs : Nat → Int32) (vx_now_n : Int32) (vx_now_primeNumber : Int32) (vx_now_numbers : (Nat → Int32)) (vx_history_count : Int32) (vx_history_next : Int32) (vx_history_store : (Nat → Int32)) (vm_known : Int32) (vm_w : (Nat → Int32)) (x3 : Int32) (hF : 2305430425 ≤ F) (k1 : kin (x3 + (1 : Int32)) L) (k2 : kin (x3 + (2 : Int32)) L) {n pn : Nat} {A : Nat → Nat → Int} (h : NowR vx_now_n vx_now_primeNumber vx_now_numbers vm_w n pn A) (hH : HisR vx_history_count vx_history_next vx_history_store vm_known vm_w) : ∃ nums' hc' hn' store' kn' w', f_law14 F L xs vx_now_n vx_now_primeNumber vx_now_numbers vx_history_count vx_history_next vx_history_store vm_known vm_w x3 = some (nums', hc', hn', store', kn', w') ∧ Dd vx_now_n vx_now_primeNumber nums' hc' hn' store' kn' w' vm_w := by
  obtain ⟨r, nums', hc', hn', store', kn', w', e1, e2, e3⟩ := side_ag (show 100 ≤ F by omega) h hH (xs (x3 + (1 : Int32)).toNatClampNeg) (xs (x3 + (2 : Int32)).toNatClampNeg)
  refine ⟨nums', hc', hn', store', kn', w', ?_, e3⟩
  unfold f_law14
  rw [if_pos k1, if_pos k2]
  refine kb5_of e1 ?_
  rw [if_pos k1, if_pos k2]
  refine kb3_of e2 ?_
  rw [if_pos rfl]
theorem law15_ok (F : Nat) (L : Nat) (xs : Nat → Int32) (vx_now_n : Int32) (vx_now_primeNumber : Int32) (vx_now_numbers : (Nat → Int32)) (vx_history_count : Int32) (vx_history_next : Int32) (vx_history_store : (Nat → Int32)) (vm_known : Int32) (vm_w : (Nat → Int32)) (x3 : Int32) (hF : 2305430425 ≤ F) (k1 : kin (x3 + (1 : Int32)) L) (k2 : kin (x3 + (2 : Int32)) L) {n pn : Nat} {A : Nat → Nat → Int} (h : NowR vx_now_n vx_now_primeNumber vx_now_numbers vm_w n pn A) (hH : HisR vx_history_count vx_history_next vx_history_store vm_known vm_w) : ∃ nums' hc' hn' store' kn' w', f_law15 F L xs vx_now_n vx_now_primeNumber vx_now_numbers vx_history_count vx_history_next vx_history_store vm_known vm_w x3 = some (nums', hc', hn', store', kn', w') ∧ Dd vx_now_n vx_now_primeNumber nums' hc' hn' store' kn' w' vm_w := by
  obtain ⟨r, nums', hc', hn', store', kn', w', e1, e2, e3⟩ := swap_ag (show 100 ≤ F by omega) h hH (xs (x3 + (1 : Int32)).toNatClampNeg) (xs (x3 + (2 : Int32)).toNatClampNeg)
  refine ⟨nums', hc', hn', store', kn', w', ?_, e3⟩
  unfold f_law15
  rw [if_pos k1, if_pos k2]
  refine kb5_of e1 ?_
  rw [if_pos k1, if_pos k2]
  refine kb3_of e2 ?_
  rw [if_pos rfl]
theorem law16_ok (F : Nat) (L : Nat) (xs : Nat → Int32) (vx_now_n : Int32) (vx_now_primeNumber : Int32) (vx_now_numbers : (Nat → Int32)) (vx_history_count : Int32) (vx_history_next : Int32) (vx_history_store : (Nat → Int32)) (vm_known : Int32) (vm_w : (Nat → Int32)) (x3 : Int32) (hF : 2305430425 ≤ F) (k1 : kin (x3 + (1 : Int32)) L) (k2 : kin (x3 + (2 : Int32)) L) (k3 : kin (x3 + (3 : Int32)) L) {n pn : Nat} {A : Nat → Nat → Int} (h : NowR vx_now_n vx_now_primeNumber vx_now_numbers vm_w n pn A) (hH : HisR vx_history_count vx_history_next vx_history_store vm_known vm_w) : ∃ nums' hc' hn' store' kn' w', f_law16 F L xs vx_now_n vx_now_primeNumber vx_now_numbers vx_history_count vx_history_next vx_history_store vm_known vm_w x3 = some (nums', hc', hn', store', kn', w') ∧ Dd vx_now_n vx_now_primeNumber nums' hc' hn' store' kn' w' vm_w := by
  obtain ⟨r, nums', hc', hn', store', kn', w', e1, e2, e3⟩ := mix_ag (show 100 ≤ F by omega) h hH (xs (x3 + (1 : Int32)).toNatClampNeg) (xs (x3 + (2 : Int32)).toNatClampNeg) (xs (x3 + (3 : Int32)).toNatClampNeg)
  refine ⟨nums', hc', hn', store', kn', w', ?_, e3⟩
  unfold f_law16
  rw [if_pos k1, if_pos k2, if_pos k3]
  refine kb5_of e1 ?_
  rw [if_pos k1, if_pos k2, if_pos k3]
  refine kb3_of e2 ?_
  rw [if_pos rfl]
theorem law17_ok (F : Nat) (L : Nat) (xs : Nat → Int32) (vx_now_n : Int32) (vx_now_primeNumber : Int32) (vx_now_numbers : (Nat → Int32)) (vx_clearing_n : Int32) (vx_clearing_rank : Int32) (vx_clearing_exchanges : Int32) (vx_clearing_scale : Int64) (vx_clearing_rows : (Nat → Nat → Int64)) (vx_clearing_leads : (Nat → Int32)) (vx_history_count : Int32) (vx_history_next : Int32) (vx_history_store : (Nat → Int32)) (vm_known : Int32) (vm_w : (Nat → Int32)) (vm_rs : (Nat → Int32)) (vm_cs : (Nat → Int32)) (x3 : Int32) (hF : 2305430425 ≤ F)  {n pn : Nat} {A : Nat → Nat → Int} (h : NowR vx_now_n vx_now_primeNumber vx_now_numbers vm_w n pn A) (hH : HisR vx_history_count vx_history_next vx_history_store vm_known vm_w) : ∃ nums' z1 z2 z3 z4 z5 z6 hc' hn' store' kn' w' rs' cs', f_law17 F L xs vx_now_n vx_now_primeNumber vx_now_numbers vx_clearing_n vx_clearing_rank vx_clearing_exchanges 5 vx_clearing_scale vx_clearing_rows vx_clearing_leads vx_history_count vx_history_next vx_history_store vm_known vm_w vm_rs vm_cs x3 = some (nums', z1, z2, z3, z4, z5, z6, hc', hn', store', kn', w', rs', cs') ∧ Dd vx_now_n vx_now_primeNumber nums' hc' hn' store' kn' w' vm_w := by
  obtain ⟨r, nums', z1, z2, z3, z4, z5, z6, hc', hn', store', kn', w', rs', cs', e1, e2, e3⟩ := turn_ag (show 100 ≤ F by omega) h hH vx_clearing_n vx_clearing_rank vx_clearing_exchanges vx_clearing_scale vx_clearing_rows vx_clearing_leads vm_rs vm_cs
  refine ⟨nums', z1, z2, z3, z4, z5, z6, hc', hn', store', kn', w', rs', cs', ?_, e3⟩
  unfold f_law17
  refine kb11_of e1 ?_
  refine kb5_of e2 ?_
  rw [if_pos rfl]
theorem law18_ok (F : Nat) (L : Nat) (xs : Nat → Int32) (vx_now_n : Int32) (vx_now_primeNumber : Int32) (vx_now_numbers : (Nat → Int32)) (vx_history_count : Int32) (vx_history_next : Int32) (vx_history_store : (Nat → Int32)) (vm_known : Int32) (vm_w : (Nat → Int32)) (x3 : Int32) (hF : 2305430425 ≤ F) (k1 : kin (x3 + (1 : Int32)) L) {n pn : Nat} {A : Nat → Nat → Int} (h : NowR vx_now_n vx_now_primeNumber vx_now_numbers vm_w n pn A) (hH : HisR vx_history_count vx_history_next vx_history_store vm_known vm_w) : ∃ vp' hc' hn' store' kn' w', f_law18 F L xs vx_now_n vx_now_primeNumber vx_now_numbers vx_history_count vx_history_next vx_history_store vm_known vm_w x3 = some (vp', hc', hn', store', kn', w') ∧ Dd vx_now_n vp' vx_now_numbers hc' hn' store' kn' w' vm_w := by
  obtain ⟨r, vp', hc', hn', store', kn', w', e1, e2, e3⟩ := prime_d (show 100 ≤ F by omega) h hH (xs (x3 + (1 : Int32)).toNatClampNeg)
  refine ⟨vp', hc', hn', store', kn', w', ?_, e3⟩
  unfold f_law18
  rw [if_pos k1]
  refine kb5_of e1 ?_
  rw [if_pos k1]
  refine kb3_of e2 ?_
  rw [if_pos rfl]
theorem law19_ok (F : Nat) (L : Nat) (xs : Nat → Int32) (vx_now_n : Int32) (vx_now_primeNumber : Int32) (vx_now_numbers : (Nat → Int32)) (vx_clearing_n : Int32) (vx_clearing_rank : Int32) (vx_clearing_exchanges : Int32) (vx_clearing_scale : Int64) (vx_clearing_rows : (Nat → Nat → Int64)) (vx_clearing_leads : (Nat → Int32)) (vx_history_count : Int32) (vx_history_next : Int32) (vx_history_store : (Nat → Int32)) (vx_draws_state : Int64) (vm_known : Int32) (vm_seed : Int32) (vm_w : (Nat → Int32)) (vm_rs : (Nat → Int32)) (vm_cs : (Nat → Int32)) (x3 : Int32) (hF : 2305430425 ≤ F) (k1 : kin (x3 + (1 : Int32)) L) {n pn : Nat} {A : Nat → Nat → Int} (h : NowR vx_now_n vx_now_primeNumber vx_now_numbers vm_w n pn A) (hH : HisR vx_history_count vx_history_next vx_history_store vm_known vm_w) (hS : SeedR vx_draws_state vm_seed) : ∃ nums' z1 z2 z3 z4 z5 z6 hc' hn' store' st' kn' sd' w' rs' cs', f_law19 F L xs vx_now_n vx_now_primeNumber vx_now_numbers vx_clearing_n vx_clearing_rank vx_clearing_exchanges 5 vx_clearing_scale vx_clearing_rows vx_clearing_leads vx_history_count vx_history_next vx_history_store vx_draws_state vm_known vm_seed vm_w vm_rs vm_cs x3 = some (nums', z1, z2, z3, z4, z5, z6, hc', hn', store', st', kn', sd', w', rs', cs') ∧ Dd vx_now_n vx_now_primeNumber nums' hc' hn' store' kn' w' vm_w ∧ SeedR st' sd' := by
  obtain ⟨r, nums', z1, z2, z3, z4, z5, z6, hc', hn', store', st', kn', sd', w', rs', cs', e1, e2, e3⟩ := drift_ag (show 100 ≤ F by omega) h hH hS vx_clearing_n vx_clearing_rank vx_clearing_exchanges vx_clearing_scale vx_clearing_rows vx_clearing_leads vm_rs vm_cs (xs (x3 + (1 : Int32)).toNatClampNeg)
  refine ⟨nums', z1, z2, z3, z4, z5, z6, hc', hn', store', st', kn', sd', w', rs', cs', ?_, e3⟩
  unfold f_law19
  rw [if_pos k1]
  refine kb12_of e1 ?_
  rw [if_pos k1]
  refine kb6_of e2 ?_
  rw [if_pos rfl]
theorem law20_ok (F : Nat) (L : Nat) (xs : Nat → Int32) (vx_now_n : Int32) (vx_now_primeNumber : Int32) (vx_now_numbers : (Nat → Int32)) (vx_history_count : Int32) (vx_history_next : Int32) (vx_history_store : (Nat → Int32)) (vm_known : Int32) (vm_w : (Nat → Int32)) (x3 : Int32) (hF : 2305430425 ≤ F) (k1 : kin (x3 + (1 : Int32)) L) {n pn : Nat} {A : Nat → Nat → Int} (h : NowR vx_now_n vx_now_primeNumber vx_now_numbers vm_w n pn A) (hH : HisR vx_history_count vx_history_next vx_history_store vm_known vm_w) : ∃ vn' vp' nums' hc' hn' kn' w', f_law20 F L xs vx_now_n vx_now_primeNumber vx_now_numbers vx_history_count vx_history_next vx_history_store vm_known vm_w x3 = some (vn', vp', nums', hc', hn', kn', w') ∧ Dd vn' vp' nums' hc' hn' vx_history_store kn' w' vm_w := by
  obtain ⟨r, vn', vp', nums', hc', hn', kn', w', e1, e2, e3⟩ := undo_ag (show 100 ≤ F by omega) h hH (xs (x3 + (1 : Int32)).toNatClampNeg)
  refine ⟨vn', vp', nums', hc', hn', kn', w', ?_, e3⟩
  unfold f_law20
  rw [if_pos k1]
  refine kb6_of e1 ?_
  rw [if_pos k1]
  refine kb3_of e2 ?_
  rw [if_pos rfl]
theorem law21_ok (L : Nat) (xs : Nat → Int32) (vx_now_n : Int32) (vx_book_count : Int32) (vx_book_unknowns : (Nat → Int32)) (vx_book_places : (Nat → Int32)) (vx_book_values : (Nat → Int32)) (vm_written : Int32) (vm_w : (Nat → Int32)) (vm_bookOf : (Nat → Int32)) (vm_bookAt : (Nat → Int32)) (vm_bookIs : (Nat → Int32)) (x3 : Int32)  (k1 : kin (x3 + (1 : Int32)) L) (k2 : kin (x3 + (2 : Int32)) L) (k3 : kin (x3 + (3 : Int32)) L) {n pn : Nat} {A : Nat → Nat → Int} {vp : Int32} {vx_now_numbers : Nat → Int32} (h : NowR vx_now_n vp vx_now_numbers vm_w n pn A) (hB : BookR vx_book_count vx_book_unknowns vx_book_places vx_book_values vm_written vm_bookOf vm_bookAt vm_bookIs) : ∃ bc' un' pl' va' wr' bo' ba' bi', f_law21 L xs vx_now_n vx_book_count vx_book_unknowns vx_book_places vx_book_values vm_written vm_w vm_bookOf vm_bookAt vm_bookIs x3 = some (bc', un', pl', va', wr', bo', ba', bi') ∧ BookR bc' un' pl' va' wr' bo' ba' bi' := by
  obtain ⟨r, bc', un', pl', va', wr', bo', ba', bi', e1, e2, e3⟩ := write_ag h hB (xs (x3 + (1 : Int32)).toNatClampNeg) (xs (x3 + (2 : Int32)).toNatClampNeg) (xs (x3 + (3 : Int32)).toNatClampNeg)
  refine ⟨bc', un', pl', va', wr', bo', ba', bi', ?_, e3⟩
  unfold f_law21
  rw [if_pos k1, if_pos k2, if_pos k3]
  refine kb5_of e1 ?_
  rw [if_pos k1, if_pos k2, if_pos k3]
  refine kb5_of e2 ?_
  rw [if_pos rfl]
theorem law22_ok (L : Nat) (xs : Nat → Int32) (vx_book_count : Int32) (vm_written : Int32) (x3 : Int32)    {un pl va bo ba bi : Nat → Int32} (hB : BookR vx_book_count un pl va vm_written bo ba bi) : ∃ bc' wr', f_law22 L xs vx_book_count vm_written x3 = some (bc', wr') ∧ BookR bc' un pl va wr' bo ba bi := by
  obtain ⟨r, bc', wr', e1, e2, e3⟩ := tear_ag hB
  refine ⟨bc', wr', ?_, e3⟩
  unfold f_law22
  refine kb2_of e1 ?_
  refine kb2_of e2 ?_
  rw [if_pos rfl]
theorem law23_ok (L : Nat) (xs : Nat → Int32) (vx_draws_state : Int64) (vm_seed : Int32) (x3 : Int32)  (k1 : kin (x3 + (1 : Int32)) L)  (hS : SeedR vx_draws_state vm_seed) : ∃ st' sd', f_law23 L xs vx_draws_state vm_seed x3 = some (st', sd') ∧ SeedR st' sd' := by
  obtain ⟨r, st', sd', e1, e2, e3⟩ := seed_ag hS (xs (x3 + (1 : Int32)).toNatClampNeg)
  refine ⟨st', sd', ?_, e3⟩
  unfold f_law23
  rw [if_pos k1]
  refine kb2_of e1 ?_
  rw [if_pos k1]
  refine kb2_of e2 ?_
  rw [if_pos rfl]
theorem law24_ok (F : Nat) (L : Nat) (xs : Nat → Int32) (vx_now_n : Int32) (vx_now_primeNumber : Int32) (vx_now_numbers : (Nat → Int32)) (vx_history_count : Int32) (vx_draws_state : Int64) (vx_firstImage_taken : Int32) (vx_firstImage_seed : Int64) (vx_firstImage_store : (Nat → Int32)) (vx_secondImage_taken : Int32) (vx_secondImage_seed : Int64) (vx_secondImage_store : (Nat → Int32)) (vm_known : Int32) (vm_kept : Int32) (vm_seed : Int32) (vm_w : (Nat → Int32)) (vm_imageSeed : (Nat → Int32)) (x3 : Int32) (hF : 2305430425 ≤ F) (k1 : kin (x3 + (1 : Int32)) L) {n pn : Nat} {A : Nat → Nat → Int} (h : NowR vx_now_n vx_now_primeNumber vx_now_numbers vm_w n pn A) (hn : Int32) (store : Nat → Int32) (hH : HisR vx_history_count hn store vm_known vm_w) (hS : SeedR vx_draws_state vm_seed) (hI : ImR vx_firstImage_taken vx_firstImage_seed vx_firstImage_store vx_secondImage_taken vx_secondImage_seed vx_secondImage_store vm_kept vm_imageSeed vm_w) : ∃ hc' tk1' sd1' st1' tk2' sd2' st2' kn' kept' w' isd', f_law24 F L xs vx_now_n vx_now_primeNumber vx_now_numbers vx_history_count vx_draws_state vx_firstImage_taken vx_firstImage_seed vx_firstImage_store vx_secondImage_taken vx_secondImage_seed vx_secondImage_store vm_known vm_kept vm_seed vm_w vm_imageSeed x3 = some (hc', tk1', sd1', st1', tk2', sd2', st2', kn', kept', w', isd') ∧ (∃ n pn A, NowR vx_now_n vx_now_primeNumber vx_now_numbers w' n pn A) ∧ HisR hc' hn store kn' w' ∧ ImR tk1' sd1' st1' tk2' sd2' st2' kept' isd' w' := by
  obtain ⟨r, hc', tk1', sd1', st1', tk2', sd2', st2', kn', kept', w', isd', e1, e2, e3⟩ := keep_ag (show 100 ≤ F by omega) h hH hS hI (xs (x3 + (1 : Int32)).toNatClampNeg)
  refine ⟨hc', tk1', sd1', st1', tk2', sd2', st2', kn', kept', w', isd', ?_, e3⟩
  unfold f_law24
  rw [if_pos k1]
  refine kb8_of e1 ?_
  rw [if_pos k1]
  refine kb5_of e2 ?_
  rw [if_pos rfl]
theorem law25_ok (F : Nat) (L : Nat) (xs : Nat → Int32) (vx_now_n : Int32) (vx_now_primeNumber : Int32) (vx_now_numbers : (Nat → Int32)) (vx_history_count : Int32) (vx_draws_state : Int64) (vx_firstImage_taken : Int32) (vx_firstImage_seed : Int64) (vx_firstImage_store : (Nat → Int32)) (vx_secondImage_taken : Int32) (vx_secondImage_seed : Int64) (vx_secondImage_store : (Nat → Int32)) (vm_known : Int32) (vm_kept : Int32) (vm_seed : Int32) (vm_w : (Nat → Int32)) (vm_imageSeed : (Nat → Int32)) (x3 : Int32) (hF : 2305430425 ≤ F) (k1 : kin (x3 + (1 : Int32)) L) {n pn : Nat} {A : Nat → Nat → Int} (h : NowR vx_now_n vx_now_primeNumber vx_now_numbers vm_w n pn A) (hn : Int32) (store : Nat → Int32) (hH : HisR vx_history_count hn store vm_known vm_w) (hS : SeedR vx_draws_state vm_seed) (hI : ImR vx_firstImage_taken vx_firstImage_seed vx_firstImage_store vx_secondImage_taken vx_secondImage_seed vx_secondImage_store vm_kept vm_imageSeed vm_w) : ∃ vn' vp' nums' hc' st' kn' sd' w', f_law25 F L xs vx_now_n vx_now_primeNumber vx_now_numbers vx_history_count vx_draws_state vx_firstImage_taken vx_firstImage_seed vx_firstImage_store vx_secondImage_taken vx_secondImage_seed vx_secondImage_store vm_known vm_kept vm_seed vm_w vm_imageSeed x3 = some (vn', vp', nums', hc', st', kn', sd', w') ∧ (∃ n pn A, NowR vn' vp' nums' w' n pn A) ∧ HisR hc' hn store kn' w' ∧ SeedR st' sd' ∧ ImR vx_firstImage_taken vx_firstImage_seed vx_firstImage_store vx_secondImage_taken vx_secondImage_seed vx_secondImage_store vm_kept vm_imageSeed w' := by
  obtain ⟨r, vn', vp', nums', hc', st', kn', sd', w', e1, e2, e3⟩ := goBack_ag (show 100 ≤ F by omega) h hH hS hI (xs (x3 + (1 : Int32)).toNatClampNeg)
  refine ⟨vn', vp', nums', hc', st', kn', sd', w', ?_, e3⟩
  unfold f_law25
  rw [if_pos k1]
  refine kb6_of e1 ?_
  rw [if_pos k1]
  refine kb4_of e2 ?_
  rw [if_pos rfl]
