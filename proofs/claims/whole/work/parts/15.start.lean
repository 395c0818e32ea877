/-! THE CLAIM OUT OF ONE WALK OF THE LAW'S BODY. Your part is whole_start (and what it stands on); all else here is the same for every law, but numbers. -/
def R_law : String := "LiftedSystemsLaw"
def lw_P (b : Addr) (xs : List Int32) (args : Array Value) (s : State) : Prop := args = #[.ref b] ∧ s.IntsAt b xs ∧ xs.length ≤ 2048 ∧ (Jvm.Cond.and given_1 narrow_1).before args s = true
/-- what a walk over the start with the record d0 says of its end, said of the start itself -/
theorem lw_closed {s t : State} {o : Outcome} {d0 : Drawn} {L : List Loc} {k n : Nat} (hd0 : s.drawn.sameBut d0 lw_cs) (hv : ∃ v, o = .returned v) (hW : (s.setDrawn d0).WarmedH t.vm) (hs : (s.setDrawn d0).sameButNew ({ t with vm := s.vm } : State) L k n) : State.butDraws s t lw_cs (fun t1 => Framed s o t1 L k n) := by
  have h2 : t.drawn = d0 := congrArg State.drawn hs.1
  refine ⟨⟨hv, hW, State.sameButNew.setDrawn hs s.drawn⟩, ?_, by decide⟩
  rw [h2]
  exact hd0
def lw_Q (_ : Array Value) (s : State) (o : Outcome) (t : State) : Prop := o = .returned (some (.int 1)) ∧ State.butDraws s t lw_cs (fun t1 => Framed s o t1 [] 600000 7302250)
def lw_Z (below : List Frame) (a : Array Value) (s : State) : State → Prop := fun t => ∃ o, t.status = .running ∧ Ended t below o ∧ lw_Q a s o t
/-- the law's own end, with 1 on the stack, nothing written that was there before, its room as the claim has it; d0: the record of draws at this point (at the entry s.drawn: begin with 'refine W.base ?_' and 'have hd0 := Drawn.sameBut.refl s.drawn lw_cs') -/
theorem lw_ret {p : Program} {l : Launch} {e : Env} {s : State} {m : MethodId} {below : List Frame} {meth : Method} {c : Code} {b : Nat} {d0 : Drawn} (hd0 : s.drawn.sameBut d0 lw_cs) (hx : p.tables.exec = Jvm.exec) (hb : c.code = code) (hr : meth.sig.returnType = ret) (hlocks : meth.locks = false) {pc : Nat} {H : Heap} {ls : Array Slot} (hdg : decode code pc = .ok (.ireturn, 1)) : W p l e room_1 (s.setDrawn d0) m #[Value.ref b] below meth c H [] 600000 7302250 (lw_Z below #[Value.ref b] s) (F0 m pc ls [.int 1]) := by
  intro T hT X
  obtain ⟨fs, hret, hrun, hended, hW, hframe⟩ := X.leave (v := some (.int 1)) (hlocks := hlocks) (fun h => by rw [hr] at h; cases h)
  have hmeth' : T.vm.method? m = some meth := X.method'
  refine ⟨T.setFrames fs, ?_, .returned (some (.int 1)), hrun, hended, rfl, lw_closed hd0 ⟨_, rfl⟩ hW hframe⟩
  jvm_step X.here [X.here.top, hx, hb, hdg, hmeth', hr, ret, narrow_b1]
  (try refine ⟨rfl, ?_⟩); (try refine ⟨rfl, ?_⟩)
  first | (intro acts; rw [hret _ acts rfl rfl rfl]) | rw [hret _ _ rfl rfl rfl]
  exact Steps.refl _
/-- what holds at the law's entry: the machine, the code, the tables' words (any of lw_tbl by 'hts w (by decide +kernel)'), the script of L ints xs at the cell b, what the Statement gives of the start (any of its parts by flat_of_before) -/
def lw_At (p : Program) (s : State) (m : MethodId) (meth : Method) (c : Code) (b L : Nat) (xs : Nat → Int32) : Prop :=
  p.tables.exec = Jvm.exec ∧ c.code = code ∧ meth.sig.returnType = ret ∧ c.maxLocals = 4 ∧ s.vm.findClass R_law = some m.cls ∧ (∀ w ∈ lw_tbl, w.before #[Value.ref b] s = true) ∧ va_X b L xs s s.heap ∧ b < s.heap.size ∧ meth.locks = false ∧ (Jvm.Cond.and given_1 narrow_1).before #[Value.ref b] s = true

/-- the law's whole run, told plainly: the two makings, then the loop -/
def f_whole (F fu L : Nat) (xs : Nat → Int32) : Option Unit :=
  kb2 (f_X3_begin F 0 (fun _ => 0) 2) fun z_n z_numbers =>
  kb1 (f_X12_layOnes F (fun _ => 0) 2) fun z_w =>
  L_L_law F L xs 5 9 fu 0 z_n 3 z_numbers 0 0 0 0 (fun _ _ => 0) (fun _ => 0) 0 0 0 0 (fun _ _ => 0) 0 (fun _ => 0) (fun _ => 0) (fun _ => 0) 0 0 0 0 0 0 0 0 (fun _ => 0) (fun _ => 0) (fun _ => 0) 0 0 0 0 0 (fun _ => 0) 0 (fun _ => 0) (fun _ => 0) (fun _ => 0) 0 0 0 (fun _ => 0) 0 0 (fun _ => 0) 0 0 0 0 0 0 0 0 0 0 0 0 0 (upd z_w (1 : Int32).toNatClampNeg 3) (fun _ => 0) (fun _ => 0) (fun _ => 0) (fun _ => 0) (fun _ => 0) (fun _ => 0) (fun _ => 0)
set_option maxRecDepth 100000 in
theorem kTb_of {s : State} {a : Array Value} (hts : ∀ w ∈ lw_tbl, w.before a s = true) : kTb s := by
  intro w hw
  have hg := kTs_ok hw
  have h0 : w.before a s = true := by
    rcases List.mem_append.mp hw with h | h
    · simp only [kSel, List.mem_cons, List.not_mem_nil, or_false] at h
      rcases h with rfl | rfl | rfl | rfl
      · exact k_selp (C := RX1) (x := ⟨"LiftedSystems$Clearing", "clearColumns", "()V"⟩) (y0 := yX9_clearColumns) (y := yX9_raise) (by decide +kernel) (hts _ (List.mem_of_getElem? (i := 386) (by decide +kernel))) rfl (hts _ (List.mem_of_getElem? (i := 390) (by decide +kernel))) (hts _ (List.mem_of_getElem? (i := 391) (by decide +kernel)))
      · exact k_selp (C := RX8) (x := ⟨"LiftedSystems$Residues", "clearColumns", "()V"⟩) (y0 := yX9_clearColumns) (y := yX9_raise) (by decide +kernel) (hts _ (List.mem_of_getElem? (i := 483) (by decide +kernel))) rfl (hts _ (List.mem_of_getElem? (i := 390) (by decide +kernel))) (hts _ (List.mem_of_getElem? (i := 391) (by decide +kernel)))
      · exact k_selp (C := RX1) (x := ⟨"LiftedSystems$Clearing", "clearColumns", "()V"⟩) (y0 := yX9_clearColumns) (y := yX9_exchangeRows) (by decide +kernel) (hts _ (List.mem_of_getElem? (i := 386) (by decide +kernel))) rfl (hts _ (List.mem_of_getElem? (i := 394) (by decide +kernel))) (hts _ (List.mem_of_getElem? (i := 395) (by decide +kernel)))
      · exact k_selp (C := RX8) (x := ⟨"LiftedSystems$Residues", "clearColumns", "()V"⟩) (y0 := yX9_clearColumns) (y := yX9_exchangeRows) (by decide +kernel) (hts _ (List.mem_of_getElem? (i := 483) (by decide +kernel))) rfl (hts _ (List.mem_of_getElem? (i := 394) (by decide +kernel))) (hts _ (List.mem_of_getElem? (i := 395) (by decide +kernel)))
    · exact hts w (List.mem_filter.mp h).1
  rcases (Bool.or_eq_true _ _).mp hg with h2 | h2
  · exact word_at (State.WarmedH.refl s) (good_of_word h2) h0
  · cases w <;> first | (simp [kNest] at h2; done) | exact va_tabs rfl rfl h0
set_option maxHeartbeats 4000000 in
set_option maxRecDepth 100000 in
theorem kZ_of {s : State} {b : Nat} (hts : ∀ w ∈ lw_tbl, w.before #[Value.ref b] s = true) (hgv : (Jvm.Cond.and given_1 narrow_1).before #[Value.ref b] s = true) : ∃ tp : Nat, kZ tp (fun q : Nat => s.heap.size ≤ q) s s.heap := by
  have hs := flat_of_before _ hgv
  have hA : ∀ a : Nat, a < s.heap.size → ¬ (fun q : Nat => s.heap.size ≤ q) a := fun a h => Nat.not_le.mpr h
  have harr : (Cond.arrayOf (Term.static "LiftedSystems" "PRIMES" "[I") .int).before #[Value.ref b] s = true := hs _ (by decide +kernel)
  have hlen : (Term.length (Term.static "LiftedSystems" "PRIMES" "[I")).eval #[Value.ref b] s none [] s = some (.int (Int32.ofNat 25)) := va_eqt (hs (Cond.eq (.length (Term.static "LiftedSystems" "PRIMES" "[I")) (.int 25)) (by decide +kernel))
  have e0 : (Term.elem (Term.static "LiftedSystems" "PRIMES" "[I") (.int (Int32.ofNat 0))).eval #[Value.ref b] s none [] s = some (.int (kPr 0)) := va_eqt (hs (Cond.eq (.elem (Term.static "LiftedSystems" "PRIMES" "[I") (.int 0)) (.int 2)) (by decide +kernel))
  have e1 : (Term.elem (Term.static "LiftedSystems" "PRIMES" "[I") (.int (Int32.ofNat 1))).eval #[Value.ref b] s none [] s = some (.int (kPr 1)) := va_eqt (hs (Cond.eq (.elem (Term.static "LiftedSystems" "PRIMES" "[I") (.int 1)) (.int 3)) (by decide +kernel))
  have e2 : (Term.elem (Term.static "LiftedSystems" "PRIMES" "[I") (.int (Int32.ofNat 2))).eval #[Value.ref b] s none [] s = some (.int (kPr 2)) := va_eqt (hs (Cond.eq (.elem (Term.static "LiftedSystems" "PRIMES" "[I") (.int 2)) (.int 5)) (by decide +kernel))
  have e3 : (Term.elem (Term.static "LiftedSystems" "PRIMES" "[I") (.int (Int32.ofNat 3))).eval #[Value.ref b] s none [] s = some (.int (kPr 3)) := va_eqt (hs (Cond.eq (.elem (Term.static "LiftedSystems" "PRIMES" "[I") (.int 3)) (.int 7)) (by decide +kernel))
  have e4 : (Term.elem (Term.static "LiftedSystems" "PRIMES" "[I") (.int (Int32.ofNat 4))).eval #[Value.ref b] s none [] s = some (.int (kPr 4)) := va_eqt (hs (Cond.eq (.elem (Term.static "LiftedSystems" "PRIMES" "[I") (.int 4)) (.int 11)) (by decide +kernel))
  have e5 : (Term.elem (Term.static "LiftedSystems" "PRIMES" "[I") (.int (Int32.ofNat 5))).eval #[Value.ref b] s none [] s = some (.int (kPr 5)) := va_eqt (hs (Cond.eq (.elem (Term.static "LiftedSystems" "PRIMES" "[I") (.int 5)) (.int 13)) (by decide +kernel))
  have e6 : (Term.elem (Term.static "LiftedSystems" "PRIMES" "[I") (.int (Int32.ofNat 6))).eval #[Value.ref b] s none [] s = some (.int (kPr 6)) := va_eqt (hs (Cond.eq (.elem (Term.static "LiftedSystems" "PRIMES" "[I") (.int 6)) (.int 17)) (by decide +kernel))
  have e7 : (Term.elem (Term.static "LiftedSystems" "PRIMES" "[I") (.int (Int32.ofNat 7))).eval #[Value.ref b] s none [] s = some (.int (kPr 7)) := va_eqt (hs (Cond.eq (.elem (Term.static "LiftedSystems" "PRIMES" "[I") (.int 7)) (.int 19)) (by decide +kernel))
  have e8 : (Term.elem (Term.static "LiftedSystems" "PRIMES" "[I") (.int (Int32.ofNat 8))).eval #[Value.ref b] s none [] s = some (.int (kPr 8)) := va_eqt (hs (Cond.eq (.elem (Term.static "LiftedSystems" "PRIMES" "[I") (.int 8)) (.int 23)) (by decide +kernel))
  have e9 : (Term.elem (Term.static "LiftedSystems" "PRIMES" "[I") (.int (Int32.ofNat 9))).eval #[Value.ref b] s none [] s = some (.int (kPr 9)) := va_eqt (hs (Cond.eq (.elem (Term.static "LiftedSystems" "PRIMES" "[I") (.int 9)) (.int 29)) (by decide +kernel))
  have e10 : (Term.elem (Term.static "LiftedSystems" "PRIMES" "[I") (.int (Int32.ofNat 10))).eval #[Value.ref b] s none [] s = some (.int (kPr 10)) := va_eqt (hs (Cond.eq (.elem (Term.static "LiftedSystems" "PRIMES" "[I") (.int 10)) (.int 31)) (by decide +kernel))
  have e11 : (Term.elem (Term.static "LiftedSystems" "PRIMES" "[I") (.int (Int32.ofNat 11))).eval #[Value.ref b] s none [] s = some (.int (kPr 11)) := va_eqt (hs (Cond.eq (.elem (Term.static "LiftedSystems" "PRIMES" "[I") (.int 11)) (.int 37)) (by decide +kernel))
  have e12 : (Term.elem (Term.static "LiftedSystems" "PRIMES" "[I") (.int (Int32.ofNat 12))).eval #[Value.ref b] s none [] s = some (.int (kPr 12)) := va_eqt (hs (Cond.eq (.elem (Term.static "LiftedSystems" "PRIMES" "[I") (.int 12)) (.int 41)) (by decide +kernel))
  have e13 : (Term.elem (Term.static "LiftedSystems" "PRIMES" "[I") (.int (Int32.ofNat 13))).eval #[Value.ref b] s none [] s = some (.int (kPr 13)) := va_eqt (hs (Cond.eq (.elem (Term.static "LiftedSystems" "PRIMES" "[I") (.int 13)) (.int 43)) (by decide +kernel))
  have e14 : (Term.elem (Term.static "LiftedSystems" "PRIMES" "[I") (.int (Int32.ofNat 14))).eval #[Value.ref b] s none [] s = some (.int (kPr 14)) := va_eqt (hs (Cond.eq (.elem (Term.static "LiftedSystems" "PRIMES" "[I") (.int 14)) (.int 47)) (by decide +kernel))
  have e15 : (Term.elem (Term.static "LiftedSystems" "PRIMES" "[I") (.int (Int32.ofNat 15))).eval #[Value.ref b] s none [] s = some (.int (kPr 15)) := va_eqt (hs (Cond.eq (.elem (Term.static "LiftedSystems" "PRIMES" "[I") (.int 15)) (.int 53)) (by decide +kernel))
  have e16 : (Term.elem (Term.static "LiftedSystems" "PRIMES" "[I") (.int (Int32.ofNat 16))).eval #[Value.ref b] s none [] s = some (.int (kPr 16)) := va_eqt (hs (Cond.eq (.elem (Term.static "LiftedSystems" "PRIMES" "[I") (.int 16)) (.int 59)) (by decide +kernel))
  have e17 : (Term.elem (Term.static "LiftedSystems" "PRIMES" "[I") (.int (Int32.ofNat 17))).eval #[Value.ref b] s none [] s = some (.int (kPr 17)) := va_eqt (hs (Cond.eq (.elem (Term.static "LiftedSystems" "PRIMES" "[I") (.int 17)) (.int 61)) (by decide +kernel))
  have e18 : (Term.elem (Term.static "LiftedSystems" "PRIMES" "[I") (.int (Int32.ofNat 18))).eval #[Value.ref b] s none [] s = some (.int (kPr 18)) := va_eqt (hs (Cond.eq (.elem (Term.static "LiftedSystems" "PRIMES" "[I") (.int 18)) (.int 67)) (by decide +kernel))
  have e19 : (Term.elem (Term.static "LiftedSystems" "PRIMES" "[I") (.int (Int32.ofNat 19))).eval #[Value.ref b] s none [] s = some (.int (kPr 19)) := va_eqt (hs (Cond.eq (.elem (Term.static "LiftedSystems" "PRIMES" "[I") (.int 19)) (.int 71)) (by decide +kernel))
  have e20 : (Term.elem (Term.static "LiftedSystems" "PRIMES" "[I") (.int (Int32.ofNat 20))).eval #[Value.ref b] s none [] s = some (.int (kPr 20)) := va_eqt (hs (Cond.eq (.elem (Term.static "LiftedSystems" "PRIMES" "[I") (.int 20)) (.int 73)) (by decide +kernel))
  have e21 : (Term.elem (Term.static "LiftedSystems" "PRIMES" "[I") (.int (Int32.ofNat 21))).eval #[Value.ref b] s none [] s = some (.int (kPr 21)) := va_eqt (hs (Cond.eq (.elem (Term.static "LiftedSystems" "PRIMES" "[I") (.int 21)) (.int 79)) (by decide +kernel))
  have e22 : (Term.elem (Term.static "LiftedSystems" "PRIMES" "[I") (.int (Int32.ofNat 22))).eval #[Value.ref b] s none [] s = some (.int (kPr 22)) := va_eqt (hs (Cond.eq (.elem (Term.static "LiftedSystems" "PRIMES" "[I") (.int 22)) (.int 83)) (by decide +kernel))
  have e23 : (Term.elem (Term.static "LiftedSystems" "PRIMES" "[I") (.int (Int32.ofNat 23))).eval #[Value.ref b] s none [] s = some (.int (kPr 23)) := va_eqt (hs (Cond.eq (.elem (Term.static "LiftedSystems" "PRIMES" "[I") (.int 23)) (.int 89)) (by decide +kernel))
  have e24 : (Term.elem (Term.static "LiftedSystems" "PRIMES" "[I") (.int (Int32.ofNat 24))).eval #[Value.ref b] s none [] s = some (.int (kPr 24)) := va_eqt (hs (Cond.eq (.elem (Term.static "LiftedSystems" "PRIMES" "[I") (.int 24)) (.int 97)) (by decide +kernel))
  have hel : ∀ j : Nat, j < 25 → (Term.elem (Term.static "LiftedSystems" "PRIMES" "[I") (.int (Int32.ofNat j))).eval #[Value.ref b] s none [] s = some ((fun j => Value.int (kPr j)) j) := by
    intro j hj
    match j, hj with
    | 0, _ => exact e0
    | 1, _ => exact e1
    | 2, _ => exact e2
    | 3, _ => exact e3
    | 4, _ => exact e4
    | 5, _ => exact e5
    | 6, _ => exact e6
    | 7, _ => exact e7
    | 8, _ => exact e8
    | 9, _ => exact e9
    | 10, _ => exact e10
    | 11, _ => exact e11
    | 12, _ => exact e12
    | 13, _ => exact e13
    | 14, _ => exact e14
    | 15, _ => exact e15
    | 16, _ => exact e16
    | 17, _ => exact e17
    | 18, _ => exact e18
    | 19, _ => exact e19
    | 20, _ => exact e20
    | 21, _ => exact e21
    | 22, _ => exact e22
    | 23, _ => exact e23
    | 24, _ => exact e24
    | j + 25, h => exact absurd h (by omega)
  obtain ⟨t, h1, h2⟩ := va_Tof (A := fun q : Nat => s.heap.size ≤ q) (by decide) harr hlen hel hA
  exact ⟨t, va_Zref (hts _ (List.mem_of_getElem? (i := 370) (by decide +kernel))) (hts _ (List.mem_of_getElem? (i := 67) (by decide +kernel))) h1 hA, h2⟩
set_option maxHeartbeats 4000000 in
set_option maxRecDepth 100000 in
theorem kK_of {s : State} {a : Array Value} (hts0 : ∀ w ∈ lw_tbl, w.before a s = true) (hts : ∀ w ∈ kTs, w.before a s = true) : ∃ (D : va_G) (cI cJ cQ : ClassId), va_K D vwCl (kTy cI cJ cQ) s ∧ va_AOA .long s := by
  obtain ⟨c0, i0, h0⟩ := u_known (C := RX0) (T := TX0) (N := 4) (n := 4) hts kinX0 (hts _ kw279)
  obtain ⟨c1, i1, h1⟩ := u_known (C := RX1) (T := TX1) (N := 7) (n := 7) hts kinX1 (hts _ kw122)
  obtain ⟨c2, i2, h2⟩ := u_known (C := RX2) (T := TX2) (N := 1) (n := 1) hts kinX2 (hts _ kw299)
  obtain ⟨c3, i3, h3⟩ := u_known (C := RX3) (T := TX3) (N := 3) (n := 3) hts kinX3 (hts _ kw91)
  obtain ⟨c4, i4, h4⟩ := u_known (C := RX4) (T := TX4) (N := 3) (n := 3) hts kinX4 (hts _ kw211)
  obtain ⟨c5, i5, h5⟩ := u_known (C := RX5) (T := TX5) (N := 3) (n := 3) hts kinX5 (hts _ kw262)
  obtain ⟨c6, i6, h6⟩ := u_known (C := RX6) (T := TX6) (N := 3) (n := 3) hts kinX6 (hts _ kw311)
  obtain ⟨c7, i7, h7⟩ := u_known (C := RX7) (T := TX7) (N := 4) (n := 4) hts kinX7 (hts _ kw187)
  obtain ⟨c8, i8, h8⟩ := u_known (C := RX8) (T := TX8) (N := 6) (n := 6) hts kinX8 (hts _ kw172)
  obtain ⟨c9, i9, h9⟩ := u_known (C := RX10) (T := TX10) (N := 6) (n := 6) hts kinX10 (hts _ kw231)
  obtain ⟨c10, i10, h10⟩ := u_known (C := RX11) (T := TX11) (N := 11) (n := 11) hts kinX11 (hts _ kw83)
  obtain ⟨c11, i11, h11⟩ := u_known (C := RX12) (T := TX12) (N := 21) (n := 21) hts kinX12 (hts _ kw835)
  obtain ⟨cI, kI, oI, a1, a2, a3⟩ := Cond.arrayClass_spec (hts0 (Cond.arrayClass .int) (List.mem_of_getElem? (i := 120) (by decide +kernel)))
  obtain ⟨cJ, kJ, oJ, b1, b2, b3⟩ := Cond.arrayClass_spec (hts0 (Cond.arrayClass .long) (List.mem_of_getElem? (i := 170) (by decide +kernel)))
  have hO : va_AOA .long s := k_over_any (hts0 (Cond.arrayOver (.array .long)) (List.mem_of_getElem? (i := 131) (by decide +kernel)))
  obtain ⟨oQ, cQ, kQ, d3, d4, d5⟩ := k_over_class hO
  refine ⟨(fun k => if k = 0 then c0 else if k = 1 then c1 else if k = 2 then c2 else if k = 3 then c3 else if k = 4 then c4 else if k = 5 then c5 else if k = 6 then c6 else if k = 7 then c7 else if k = 8 then c8 else if k = 9 then c9 else if k = 10 then c10 else c11, fun k => if k = 0 then i0 else if k = 1 then i1 else if k = 2 then i2 else if k = 3 then i3 else if k = 4 then i4 else if k = 5 then i5 else if k = 6 then i6 else if k = 7 then i7 else if k = 8 then i8 else if k = 9 then i9 else if k = 10 then i10 else i11), cI, cJ, cQ, ⟨?_, ?_⟩, hO⟩
  · intro k q hq
    match k, hq with
    | 0, hq => cases hq; exact h0
    | 1, hq => cases hq; exact h1
    | 2, hq => cases hq; exact h2
    | 3, hq => cases hq; exact h3
    | 4, hq => cases hq; exact h4
    | 5, hq => cases hq; exact h5
    | 6, hq => cases hq; exact h6
    | 7, hq => cases hq; exact h7
    | 8, hq => cases hq; exact h8
    | 9, hq => cases hq; exact h9
    | 10, hq => cases hq; exact h10
    | 11, hq => cases hq; exact h11
    | k + 12, hq => simp [vwCl] at hq
  · intro k q hq
    match k, hq with
    | 0, hq => cases hq; exact ⟨fun N z => ⟨(fun q hq => by cases hq), kI, a2, oI, a3⟩, a1⟩
    | 1, hq => cases hq; exact ⟨fun N z => ⟨(fun q hq => by cases hq), kJ, b2, oJ, b3⟩, b1⟩
    | 2, hq => cases hq; exact ⟨fun N z => ⟨(fun q hq => by cases hq), kQ, d3, oQ, d4⟩, d5⟩
    | k + 3, hq => simp [kTy] at hq
set_option maxHeartbeats 8000000 in
set_option maxRecDepth 100000 in
theorem whole_of {p : Program} {e : Env} {s : State} {m : MethodId} {below : List Frame} {meth : Method} {c : Code} (l : Launch) {b L : Nat} {xs : Nat → Int32} (F fu : Nat) (hw : f_whole F fu L xs = some ()) (C0 : lw_At p s m meth c b L xs) : W p l e room_1 s m #[Value.ref b] below meth c s.heap [] 0 0 (lw_Z below #[Value.ref b] s) (entryFrame m ([Value.ref b] : List Value).toArray 4) := by
  obtain ⟨hx, hb, hr, hml, hown, hts0, hX, hbl, hlocks, hgv⟩ := id C0
  unfold f_whole at hw
  obtain ⟨z_n, z_numbers, hz_X3, hw⟩ := kb2_e hw
  obtain ⟨z_w, hz_X12, hw⟩ := kb1_e hw
  have hd0 := Drawn.sameBut.refl s.drawn lw_cs
  refine W.base ?_
  obtain ⟨tp, hZ0⟩ := kZ_of hts0 hgv
  have hts1 := dr_words hts0 s.drawn
  have hT : kTb (s.setDrawn s.drawn) := kTb_of hts1
  have hts := hT.use #[Value.ref b]
  obtain ⟨D, cI, cJ, cQ, hK, hO⟩ := kK_of hts1 hts
  have hZ : kZ tp (fun q : Nat => s.heap.size ≤ q) (s.setDrawn s.drawn) (s.setDrawn s.drawn).heap := ⟨va_Z.moved (u := s) (U := s.setDrawn s.drawn) (Vm.Alike.refl s.vm) hZ0.1, va_T.moved (u := s) (U := s.setDrawn s.drawn) (Vm.Alike.refl s.vm) hZ0.2⟩
  have hX : va_X b L xs (s.setDrawn s.drawn) (s.setDrawn s.drawn).heap := va_X.moved (u := s) (U := s.setDrawn s.drawn) (Vm.Alike.refl s.vm) hX
  have hexit : ∀ (H : Heap) (ls : Array Slot), W p l e room_1 (s.setDrawn s.drawn) m #[Value.ref b] below meth c H [] 600000 7302250 (lw_Z below #[Value.ref b] s) (F0 m 911 ls [.int 1]) := fun H ls => lw_ret hd0 hx hb hr hlocks dL_law_911
  have hbl : b < (s.setDrawn s.drawn).heap.size := hbl
  have hown : (s.setDrawn s.drawn).vm.findClass RL = some m.cls := hown
  have hAe : (fun q : Nat => s.heap.size ≤ q) = (fun q : Nat => (s.setDrawn s.drawn).heap.size ≤ q) := rfl
  rw [hAe] at hZ
  show W p l e room_1 (s.setDrawn s.drawn) m #[Value.ref b] below meth c (s.setDrawn s.drawn).heap [] 0 0 (lw_Z below #[Value.ref b] s) _
  generalize lw_Z below #[Value.ref b] s = Q at hexit ⊢
  clear hd0 hts1 hZ0 hts0 hAe hgv C0
  generalize s.setDrawn s.drawn = s at *
  obtain ⟨A, hAA⟩ : ∃ A : Nat → Prop, A = fun q : Nat => s.heap.size ≤ q := ⟨_, rfl⟩
  rw [← hAA] at hZ
  have hA : ∀ q : Nat, s.heap.size ≤ q → A q := fun q h => by rw [hAA]; exact h
  have hAs : ∀ q : Nat, A q → s.heap.size ≤ q := fun q h => by rw [hAA] at h; exact h
  have hbA : ¬ A b := fun h => absurd (hAs b h) (Nat.not_le.mpr hbl)
  have hat : kAt D cI cJ cQ tp p s m meth c #[Value.ref b] cL_law 4 ret RL A := ⟨hx, hb, hr, hml, hown, hts, hT, hlocks, hK, hA, hZ⟩
  have hS : va_S A s.heap s.heap [] := va_S.rf
  have hP : va_P D vwCl [] s.heap := fun k q h => by simp at h
  have hD : va_D A [] := ⟨fun i j p q h => by simp at h, fun k q h => by simp at h⟩
  have hl := lv_entry ([.ref b]) (n := 4) (Nat.le_of_ble_eq_true rfl)
  rw [lg_entry_eq]
  generalize (lg_sl ([.ref b]) ++ List.replicate (4 - (lg_sl ([.ref b])).length) Slot.unset).toArray = ls at hl ⊢
  have hl : lv_has ls 4 [(0, .ref b)] := hl
  refine va_new (ci := 10) (fs := [.null, .null, .null, .null, .null, .null, .null, .null, .null, .null, .null]) (C := RX11) (T := TX11) (N := 11) hx hb hts kinX11 tyX11 tyX11_ok hown (hts _ kw82) (hts _ kw83) (hts _ kw67) hK hP hD hS hA rfl (by decide +kernel) (by exact Nat.le_of_ble_eq_true rfl) (by exact Nat.le_of_ble_eq_true rfl) dL_law_0 (fun qx H hP hD hS => ?_)
  have hP : va_P D vwCl [(qx, .inr (10, [.null, .null, .null, .null, .null, .null, .null, .null, .null, .null, .null]))] H := hP
  have hD : va_D A [(qx, .inr (10, [.null, .null, .null, .null, .null, .null, .null, .null, .null, .null, .null]))] := hD
  refine W.widen (k := 1) (n := 11) (Nat.le_of_ble_eq_true rfl) (Nat.le_of_ble_eq_true rfl) ?_
  refine lv_dup hx hb dL_law_3 rfl ?_
  refine k_gc (wr := []) (k_runI (rest := [.ref qx]) hat hO hP hD hS hl.1 (n_X11_init qx F z_n z_numbers hz_X3) [0] (by decide) rfl kw84 kw85 kw67 kw86 rfl kdX11_init ⟨Nat.le_of_ble_eq_true rfl, Nat.le_of_ble_eq_true rfl⟩ ⟨Nat.le_of_ble_eq_true rfl, Nat.le_of_ble_eq_true rfl⟩ rfl rfl (Nat.le_of_ble_eq_true rfl) dL_law_4) hat hP hD hS [0] [] rfl rfl (by decide) (by decide) (fun u H locs hP hD hS => ?_)
  obtain ⟨xh1, xh2, xh3, xh4, xr5, xh6, xh7, xh8, xr9, xh10, xh11, xh12, xh13, xh14, xh15, xh16, xh17, xh18, xh19, xh20, xh21, xh22, xh23, xh24, xh25, xh26, xh27, xh28, xh29, xh30, xh31⟩ := u
  have hP : va_P D vwCl [(qx, .inr (10, [.ref xh1, .ref xh3, .ref xh7, .ref xh10, .ref xh14, .ref xh15, .ref xh21, .ref xh23, .ref xh27, .ref xh28, .ref xh30])), (xh1, .inr (3, [.int z_n, .int 3, .ref xh2])), (xh2, .inl (cI, 20, .inl z_numbers)), (xh3, .inr (1, [.int 0, .int 0, .int 0, .ref xh4, .int 5, .long 0, .ref xh6])), (xh4, .inl (cQ, 4, .inr (.inr (.inr (.inr (kg xr5)))))), (xr5 0, .inl (cJ, 5, .inr (.inl (fun _ => 0)))), (xr5 1, .inl (cJ, 5, .inr (.inl (fun _ => 0)))), (xr5 2, .inl (cJ, 5, .inr (.inl (fun _ => 0)))), (xr5 3, .inl (cJ, 5, .inr (.inl (fun _ => 0)))), (xh6, .inl (cI, 4, .inl (fun _ => 0))), (xh7, .inr (8, [.int 0, .int 0, .int 0, .ref xh8, .int 9, .int 0])), (xh8, .inl (cQ, 4, .inr (.inr (.inr (.inr (kg xr9)))))), (xr9 0, .inl (cJ, 9, .inr (.inl (fun _ => 0)))), (xr9 1, .inl (cJ, 9, .inr (.inl (fun _ => 0)))), (xr9 2, .inl (cJ, 9, .inr (.inl (fun _ => 0)))), (xr9 3, .inl (cJ, 9, .inr (.inl (fun _ => 0)))), (xh10, .inr (7, [.ref xh11, .ref xh12, .ref xh13, .long 0])), (xh11, .inl (cI, 4, .inl (fun _ => 0))), (xh12, .inl (cI, 4, .inl (fun _ => 0))), (xh13, .inl (cJ, 4, .inr (.inl (fun _ => 0)))), (xh14, .inr (4, [.int 0, .long 0, .long 0])), (xh15, .inr (9, [.int 0, .int 0, .int 0, .int 0, .ref xh16, .ref xh20])), (xh16, .inr (7, [.ref xh17, .ref xh18, .ref xh19, .long 0])), (xh17, .inl (cI, 4, .inl (fun _ => 0))), (xh18, .inl (cI, 4, .inl (fun _ => 0))), (xh19, .inl (cJ, 4, .inr (.inl (fun _ => 0)))), (xh20, .inr (4, [.int 0, .long 0, .long 0])), (xh21, .inr (5, [.int 0, .int 0, .ref xh22])), (xh22, .inl (cI, 352, .inl (fun _ => 0))), (xh23, .inr (0, [.int 0, .ref xh24, .ref xh25, .ref xh26])), (xh24, .inl (cI, 20, .inl (fun _ => 0))), (xh25, .inl (cI, 20, .inl (fun _ => 0))), (xh26, .inl (cI, 20, .inl (fun _ => 0))), (xh27, .inr (2, [.long 0])), (xh28, .inr (6, [.int 0, .long 0, .ref xh29])), (xh29, .inl (cI, 22, .inl (fun _ => 0))), (xh30, .inr (6, [.int 0, .long 0, .ref xh31])), (xh31, .inl (cI, 22, .inl (fun _ => 0)))] H := hP
  have hD : va_D A [(qx, .inr (10, [.ref xh1, .ref xh3, .ref xh7, .ref xh10, .ref xh14, .ref xh15, .ref xh21, .ref xh23, .ref xh27, .ref xh28, .ref xh30])), (xh1, .inr (3, [.int z_n, .int 3, .ref xh2])), (xh2, .inl (cI, 20, .inl z_numbers)), (xh3, .inr (1, [.int 0, .int 0, .int 0, .ref xh4, .int 5, .long 0, .ref xh6])), (xh4, .inl (cQ, 4, .inr (.inr (.inr (.inr (kg xr5)))))), (xr5 0, .inl (cJ, 5, .inr (.inl (fun _ => 0)))), (xr5 1, .inl (cJ, 5, .inr (.inl (fun _ => 0)))), (xr5 2, .inl (cJ, 5, .inr (.inl (fun _ => 0)))), (xr5 3, .inl (cJ, 5, .inr (.inl (fun _ => 0)))), (xh6, .inl (cI, 4, .inl (fun _ => 0))), (xh7, .inr (8, [.int 0, .int 0, .int 0, .ref xh8, .int 9, .int 0])), (xh8, .inl (cQ, 4, .inr (.inr (.inr (.inr (kg xr9)))))), (xr9 0, .inl (cJ, 9, .inr (.inl (fun _ => 0)))), (xr9 1, .inl (cJ, 9, .inr (.inl (fun _ => 0)))), (xr9 2, .inl (cJ, 9, .inr (.inl (fun _ => 0)))), (xr9 3, .inl (cJ, 9, .inr (.inl (fun _ => 0)))), (xh10, .inr (7, [.ref xh11, .ref xh12, .ref xh13, .long 0])), (xh11, .inl (cI, 4, .inl (fun _ => 0))), (xh12, .inl (cI, 4, .inl (fun _ => 0))), (xh13, .inl (cJ, 4, .inr (.inl (fun _ => 0)))), (xh14, .inr (4, [.int 0, .long 0, .long 0])), (xh15, .inr (9, [.int 0, .int 0, .int 0, .int 0, .ref xh16, .ref xh20])), (xh16, .inr (7, [.ref xh17, .ref xh18, .ref xh19, .long 0])), (xh17, .inl (cI, 4, .inl (fun _ => 0))), (xh18, .inl (cI, 4, .inl (fun _ => 0))), (xh19, .inl (cJ, 4, .inr (.inl (fun _ => 0)))), (xh20, .inr (4, [.int 0, .long 0, .long 0])), (xh21, .inr (5, [.int 0, .int 0, .ref xh22])), (xh22, .inl (cI, 352, .inl (fun _ => 0))), (xh23, .inr (0, [.int 0, .ref xh24, .ref xh25, .ref xh26])), (xh24, .inl (cI, 20, .inl (fun _ => 0))), (xh25, .inl (cI, 20, .inl (fun _ => 0))), (xh26, .inl (cI, 20, .inl (fun _ => 0))), (xh27, .inr (2, [.long 0])), (xh28, .inr (6, [.int 0, .long 0, .ref xh29])), (xh29, .inl (cI, 22, .inl (fun _ => 0))), (xh30, .inr (6, [.int 0, .long 0, .ref xh31])), (xh31, .inl (cI, 22, .inl (fun _ => 0)))] := hD
  refine W.widen (k := 38) (n := 629) (Nat.le_of_ble_eq_true rfl) (Nat.le_of_ble_eq_true rfl) ?_
  refine lv_astore_n (lv' := [(1, .ref qx), (0, .ref b)]) hx hb dL_law_7 rfl hl (by decide) rfl (fun ls hl => ?_)
  refine va_new (ci := 11) (fs := [.null, .int 0, .int 0, .int 0, .null, .null, .null, .null, .int 0, .null, .null, .long 0, .long 0, .null, .long 0, .long 0, .long 0, .long 0, .int 0, .int 0, .long 0]) (C := RX12) (T := TX12) (N := 21) hx hb hts kinX12 tyX12 tyX12_ok hown (hts _ kw834) (hts _ kw835) (hts _ kw79) hK hP hD hS hA rfl (by decide +kernel) (by exact Nat.le_of_ble_eq_true rfl) (by exact Nat.le_of_ble_eq_true rfl) dL_law_8 (fun qm H hP hD hS => ?_)
  have hP : va_P D vwCl [(qx, .inr (10, [.ref xh1, .ref xh3, .ref xh7, .ref xh10, .ref xh14, .ref xh15, .ref xh21, .ref xh23, .ref xh27, .ref xh28, .ref xh30])), (xh1, .inr (3, [.int z_n, .int 3, .ref xh2])), (xh2, .inl (cI, 20, .inl z_numbers)), (xh3, .inr (1, [.int 0, .int 0, .int 0, .ref xh4, .int 5, .long 0, .ref xh6])), (xh4, .inl (cQ, 4, .inr (.inr (.inr (.inr (kg xr5)))))), (xr5 0, .inl (cJ, 5, .inr (.inl (fun _ => 0)))), (xr5 1, .inl (cJ, 5, .inr (.inl (fun _ => 0)))), (xr5 2, .inl (cJ, 5, .inr (.inl (fun _ => 0)))), (xr5 3, .inl (cJ, 5, .inr (.inl (fun _ => 0)))), (xh6, .inl (cI, 4, .inl (fun _ => 0))), (xh7, .inr (8, [.int 0, .int 0, .int 0, .ref xh8, .int 9, .int 0])), (xh8, .inl (cQ, 4, .inr (.inr (.inr (.inr (kg xr9)))))), (xr9 0, .inl (cJ, 9, .inr (.inl (fun _ => 0)))), (xr9 1, .inl (cJ, 9, .inr (.inl (fun _ => 0)))), (xr9 2, .inl (cJ, 9, .inr (.inl (fun _ => 0)))), (xr9 3, .inl (cJ, 9, .inr (.inl (fun _ => 0)))), (xh10, .inr (7, [.ref xh11, .ref xh12, .ref xh13, .long 0])), (xh11, .inl (cI, 4, .inl (fun _ => 0))), (xh12, .inl (cI, 4, .inl (fun _ => 0))), (xh13, .inl (cJ, 4, .inr (.inl (fun _ => 0)))), (xh14, .inr (4, [.int 0, .long 0, .long 0])), (xh15, .inr (9, [.int 0, .int 0, .int 0, .int 0, .ref xh16, .ref xh20])), (xh16, .inr (7, [.ref xh17, .ref xh18, .ref xh19, .long 0])), (xh17, .inl (cI, 4, .inl (fun _ => 0))), (xh18, .inl (cI, 4, .inl (fun _ => 0))), (xh19, .inl (cJ, 4, .inr (.inl (fun _ => 0)))), (xh20, .inr (4, [.int 0, .long 0, .long 0])), (xh21, .inr (5, [.int 0, .int 0, .ref xh22])), (xh22, .inl (cI, 352, .inl (fun _ => 0))), (xh23, .inr (0, [.int 0, .ref xh24, .ref xh25, .ref xh26])), (xh24, .inl (cI, 20, .inl (fun _ => 0))), (xh25, .inl (cI, 20, .inl (fun _ => 0))), (xh26, .inl (cI, 20, .inl (fun _ => 0))), (xh27, .inr (2, [.long 0])), (xh28, .inr (6, [.int 0, .long 0, .ref xh29])), (xh29, .inl (cI, 22, .inl (fun _ => 0))), (xh30, .inr (6, [.int 0, .long 0, .ref xh31])), (xh31, .inl (cI, 22, .inl (fun _ => 0))), (qm, .inr (11, [.null, .int 0, .int 0, .int 0, .null, .null, .null, .null, .int 0, .null, .null, .long 0, .long 0, .null, .long 0, .long 0, .long 0, .long 0, .int 0, .int 0, .long 0]))] H := hP
  have hD : va_D A [(qx, .inr (10, [.ref xh1, .ref xh3, .ref xh7, .ref xh10, .ref xh14, .ref xh15, .ref xh21, .ref xh23, .ref xh27, .ref xh28, .ref xh30])), (xh1, .inr (3, [.int z_n, .int 3, .ref xh2])), (xh2, .inl (cI, 20, .inl z_numbers)), (xh3, .inr (1, [.int 0, .int 0, .int 0, .ref xh4, .int 5, .long 0, .ref xh6])), (xh4, .inl (cQ, 4, .inr (.inr (.inr (.inr (kg xr5)))))), (xr5 0, .inl (cJ, 5, .inr (.inl (fun _ => 0)))), (xr5 1, .inl (cJ, 5, .inr (.inl (fun _ => 0)))), (xr5 2, .inl (cJ, 5, .inr (.inl (fun _ => 0)))), (xr5 3, .inl (cJ, 5, .inr (.inl (fun _ => 0)))), (xh6, .inl (cI, 4, .inl (fun _ => 0))), (xh7, .inr (8, [.int 0, .int 0, .int 0, .ref xh8, .int 9, .int 0])), (xh8, .inl (cQ, 4, .inr (.inr (.inr (.inr (kg xr9)))))), (xr9 0, .inl (cJ, 9, .inr (.inl (fun _ => 0)))), (xr9 1, .inl (cJ, 9, .inr (.inl (fun _ => 0)))), (xr9 2, .inl (cJ, 9, .inr (.inl (fun _ => 0)))), (xr9 3, .inl (cJ, 9, .inr (.inl (fun _ => 0)))), (xh10, .inr (7, [.ref xh11, .ref xh12, .ref xh13, .long 0])), (xh11, .inl (cI, 4, .inl (fun _ => 0))), (xh12, .inl (cI, 4, .inl (fun _ => 0))), (xh13, .inl (cJ, 4, .inr (.inl (fun _ => 0)))), (xh14, .inr (4, [.int 0, .long 0, .long 0])), (xh15, .inr (9, [.int 0, .int 0, .int 0, .int 0, .ref xh16, .ref xh20])), (xh16, .inr (7, [.ref xh17, .ref xh18, .ref xh19, .long 0])), (xh17, .inl (cI, 4, .inl (fun _ => 0))), (xh18, .inl (cI, 4, .inl (fun _ => 0))), (xh19, .inl (cJ, 4, .inr (.inl (fun _ => 0)))), (xh20, .inr (4, [.int 0, .long 0, .long 0])), (xh21, .inr (5, [.int 0, .int 0, .ref xh22])), (xh22, .inl (cI, 352, .inl (fun _ => 0))), (xh23, .inr (0, [.int 0, .ref xh24, .ref xh25, .ref xh26])), (xh24, .inl (cI, 20, .inl (fun _ => 0))), (xh25, .inl (cI, 20, .inl (fun _ => 0))), (xh26, .inl (cI, 20, .inl (fun _ => 0))), (xh27, .inr (2, [.long 0])), (xh28, .inr (6, [.int 0, .long 0, .ref xh29])), (xh29, .inl (cI, 22, .inl (fun _ => 0))), (xh30, .inr (6, [.int 0, .long 0, .ref xh31])), (xh31, .inl (cI, 22, .inl (fun _ => 0))), (qm, .inr (11, [.null, .int 0, .int 0, .int 0, .null, .null, .null, .null, .int 0, .null, .null, .long 0, .long 0, .null, .long 0, .long 0, .long 0, .long 0, .int 0, .int 0, .long 0]))] := hD
  refine W.widen (k := 39) (n := 650) (Nat.le_of_ble_eq_true rfl) (Nat.le_of_ble_eq_true rfl) ?_
  refine lv_dup hx hb dL_law_11 rfl ?_
  refine k_gc (wr := [(qx, .inr (10, [.ref xh1, .ref xh3, .ref xh7, .ref xh10, .ref xh14, .ref xh15, .ref xh21, .ref xh23, .ref xh27, .ref xh28, .ref xh30])), (xh1, .inr (3, [.int z_n, .int 3, .ref xh2])), (xh2, .inl (cI, 20, .inl z_numbers)), (xh3, .inr (1, [.int 0, .int 0, .int 0, .ref xh4, .int 5, .long 0, .ref xh6])), (xh4, .inl (cQ, 4, .inr (.inr (.inr (.inr (kg xr5)))))), (xr5 0, .inl (cJ, 5, .inr (.inl (fun _ => 0)))), (xr5 1, .inl (cJ, 5, .inr (.inl (fun _ => 0)))), (xr5 2, .inl (cJ, 5, .inr (.inl (fun _ => 0)))), (xr5 3, .inl (cJ, 5, .inr (.inl (fun _ => 0)))), (xh6, .inl (cI, 4, .inl (fun _ => 0))), (xh7, .inr (8, [.int 0, .int 0, .int 0, .ref xh8, .int 9, .int 0])), (xh8, .inl (cQ, 4, .inr (.inr (.inr (.inr (kg xr9)))))), (xr9 0, .inl (cJ, 9, .inr (.inl (fun _ => 0)))), (xr9 1, .inl (cJ, 9, .inr (.inl (fun _ => 0)))), (xr9 2, .inl (cJ, 9, .inr (.inl (fun _ => 0)))), (xr9 3, .inl (cJ, 9, .inr (.inl (fun _ => 0)))), (xh10, .inr (7, [.ref xh11, .ref xh12, .ref xh13, .long 0])), (xh11, .inl (cI, 4, .inl (fun _ => 0))), (xh12, .inl (cI, 4, .inl (fun _ => 0))), (xh13, .inl (cJ, 4, .inr (.inl (fun _ => 0)))), (xh14, .inr (4, [.int 0, .long 0, .long 0])), (xh15, .inr (9, [.int 0, .int 0, .int 0, .int 0, .ref xh16, .ref xh20])), (xh16, .inr (7, [.ref xh17, .ref xh18, .ref xh19, .long 0])), (xh17, .inl (cI, 4, .inl (fun _ => 0))), (xh18, .inl (cI, 4, .inl (fun _ => 0))), (xh19, .inl (cJ, 4, .inr (.inl (fun _ => 0)))), (xh20, .inr (4, [.int 0, .long 0, .long 0])), (xh21, .inr (5, [.int 0, .int 0, .ref xh22])), (xh22, .inl (cI, 352, .inl (fun _ => 0))), (xh23, .inr (0, [.int 0, .ref xh24, .ref xh25, .ref xh26])), (xh24, .inl (cI, 20, .inl (fun _ => 0))), (xh25, .inl (cI, 20, .inl (fun _ => 0))), (xh26, .inl (cI, 20, .inl (fun _ => 0))), (xh27, .inr (2, [.long 0])), (xh28, .inr (6, [.int 0, .long 0, .ref xh29])), (xh29, .inl (cI, 22, .inl (fun _ => 0))), (xh30, .inr (6, [.int 0, .long 0, .ref xh31])), (xh31, .inl (cI, 22, .inl (fun _ => 0)))]) (k_runI (rest := [.ref qm]) hat hO hP hD hS hl.1 (n_X12_init qm F z_w hz_X12) [38] (by decide) rfl kw836 kw837 kw79 kw838 rfl kdX12_init ⟨Nat.le_of_ble_eq_true rfl, Nat.le_of_ble_eq_true rfl⟩ ⟨Nat.le_of_ble_eq_true rfl, Nat.le_of_ble_eq_true rfl⟩ rfl rfl (Nat.le_of_ble_eq_true rfl) dL_law_12) hat hP hD hS [38] [0, 1, 2, 3, 4, 5, 6, 7, 8, 9, 10, 11, 12, 13, 14, 15, 16, 17, 18, 19, 20, 21, 22, 23, 24, 25, 26, 27, 28, 29, 30, 31, 32, 33, 34, 35, 36, 37] rfl rfl (by decide) (by decide) (fun u H locs hP hD hS => ?_)
  obtain ⟨mh1, mh2, mh3, mh4, mh5, mh6, mh7, mh8⟩ := u
  have hP : va_P D vwCl [(qx, .inr (10, [.ref xh1, .ref xh3, .ref xh7, .ref xh10, .ref xh14, .ref xh15, .ref xh21, .ref xh23, .ref xh27, .ref xh28, .ref xh30])), (xh1, .inr (3, [.int z_n, .int 3, .ref xh2])), (xh2, .inl (cI, 20, .inl z_numbers)), (xh3, .inr (1, [.int 0, .int 0, .int 0, .ref xh4, .int 5, .long 0, .ref xh6])), (xh4, .inl (cQ, 4, .inr (.inr (.inr (.inr (kg xr5)))))), (xr5 0, .inl (cJ, 5, .inr (.inl (fun _ => 0)))), (xr5 1, .inl (cJ, 5, .inr (.inl (fun _ => 0)))), (xr5 2, .inl (cJ, 5, .inr (.inl (fun _ => 0)))), (xr5 3, .inl (cJ, 5, .inr (.inl (fun _ => 0)))), (xh6, .inl (cI, 4, .inl (fun _ => 0))), (xh7, .inr (8, [.int 0, .int 0, .int 0, .ref xh8, .int 9, .int 0])), (xh8, .inl (cQ, 4, .inr (.inr (.inr (.inr (kg xr9)))))), (xr9 0, .inl (cJ, 9, .inr (.inl (fun _ => 0)))), (xr9 1, .inl (cJ, 9, .inr (.inl (fun _ => 0)))), (xr9 2, .inl (cJ, 9, .inr (.inl (fun _ => 0)))), (xr9 3, .inl (cJ, 9, .inr (.inl (fun _ => 0)))), (xh10, .inr (7, [.ref xh11, .ref xh12, .ref xh13, .long 0])), (xh11, .inl (cI, 4, .inl (fun _ => 0))), (xh12, .inl (cI, 4, .inl (fun _ => 0))), (xh13, .inl (cJ, 4, .inr (.inl (fun _ => 0)))), (xh14, .inr (4, [.int 0, .long 0, .long 0])), (xh15, .inr (9, [.int 0, .int 0, .int 0, .int 0, .ref xh16, .ref xh20])), (xh16, .inr (7, [.ref xh17, .ref xh18, .ref xh19, .long 0])), (xh17, .inl (cI, 4, .inl (fun _ => 0))), (xh18, .inl (cI, 4, .inl (fun _ => 0))), (xh19, .inl (cJ, 4, .inr (.inl (fun _ => 0)))), (xh20, .inr (4, [.int 0, .long 0, .long 0])), (xh21, .inr (5, [.int 0, .int 0, .ref xh22])), (xh22, .inl (cI, 352, .inl (fun _ => 0))), (xh23, .inr (0, [.int 0, .ref xh24, .ref xh25, .ref xh26])), (xh24, .inl (cI, 20, .inl (fun _ => 0))), (xh25, .inl (cI, 20, .inl (fun _ => 0))), (xh26, .inl (cI, 20, .inl (fun _ => 0))), (xh27, .inr (2, [.long 0])), (xh28, .inr (6, [.int 0, .long 0, .ref xh29])), (xh29, .inl (cI, 22, .inl (fun _ => 0))), (xh30, .inr (6, [.int 0, .long 0, .ref xh31])), (xh31, .inl (cI, 22, .inl (fun _ => 0))), (qm, .inr (11, [.ref mh1, .int 0, .int 0, .int 0, .ref mh2, .ref mh3, .ref mh4, .ref mh5, .int 0, .ref mh6, .ref mh7, .long 0, .long 0, .ref mh8, .long 0, .long 0, .long 0, .long 0, .int 0, .int 0, .long 0])), (mh1, .inl (cI, 418, .inl (upd z_w (1 : Int32).toNatClampNeg 3))), (mh2, .inl (cI, 2, .inl (fun _ => 0))), (mh3, .inl (cI, 20, .inl (fun _ => 0))), (mh4, .inl (cI, 20, .inl (fun _ => 0))), (mh5, .inl (cI, 20, .inl (fun _ => 0))), (mh6, .inl (cI, 4, .inl (fun _ => 0))), (mh7, .inl (cI, 4, .inl (fun _ => 0))), (mh8, .inl (cJ, 4, .inr (.inl (fun _ => 0))))] H := hP
  have hD : va_D A [(qx, .inr (10, [.ref xh1, .ref xh3, .ref xh7, .ref xh10, .ref xh14, .ref xh15, .ref xh21, .ref xh23, .ref xh27, .ref xh28, .ref xh30])), (xh1, .inr (3, [.int z_n, .int 3, .ref xh2])), (xh2, .inl (cI, 20, .inl z_numbers)), (xh3, .inr (1, [.int 0, .int 0, .int 0, .ref xh4, .int 5, .long 0, .ref xh6])), (xh4, .inl (cQ, 4, .inr (.inr (.inr (.inr (kg xr5)))))), (xr5 0, .inl (cJ, 5, .inr (.inl (fun _ => 0)))), (xr5 1, .inl (cJ, 5, .inr (.inl (fun _ => 0)))), (xr5 2, .inl (cJ, 5, .inr (.inl (fun _ => 0)))), (xr5 3, .inl (cJ, 5, .inr (.inl (fun _ => 0)))), (xh6, .inl (cI, 4, .inl (fun _ => 0))), (xh7, .inr (8, [.int 0, .int 0, .int 0, .ref xh8, .int 9, .int 0])), (xh8, .inl (cQ, 4, .inr (.inr (.inr (.inr (kg xr9)))))), (xr9 0, .inl (cJ, 9, .inr (.inl (fun _ => 0)))), (xr9 1, .inl (cJ, 9, .inr (.inl (fun _ => 0)))), (xr9 2, .inl (cJ, 9, .inr (.inl (fun _ => 0)))), (xr9 3, .inl (cJ, 9, .inr (.inl (fun _ => 0)))), (xh10, .inr (7, [.ref xh11, .ref xh12, .ref xh13, .long 0])), (xh11, .inl (cI, 4, .inl (fun _ => 0))), (xh12, .inl (cI, 4, .inl (fun _ => 0))), (xh13, .inl (cJ, 4, .inr (.inl (fun _ => 0)))), (xh14, .inr (4, [.int 0, .long 0, .long 0])), (xh15, .inr (9, [.int 0, .int 0, .int 0, .int 0, .ref xh16, .ref xh20])), (xh16, .inr (7, [.ref xh17, .ref xh18, .ref xh19, .long 0])), (xh17, .inl (cI, 4, .inl (fun _ => 0))), (xh18, .inl (cI, 4, .inl (fun _ => 0))), (xh19, .inl (cJ, 4, .inr (.inl (fun _ => 0)))), (xh20, .inr (4, [.int 0, .long 0, .long 0])), (xh21, .inr (5, [.int 0, .int 0, .ref xh22])), (xh22, .inl (cI, 352, .inl (fun _ => 0))), (xh23, .inr (0, [.int 0, .ref xh24, .ref xh25, .ref xh26])), (xh24, .inl (cI, 20, .inl (fun _ => 0))), (xh25, .inl (cI, 20, .inl (fun _ => 0))), (xh26, .inl (cI, 20, .inl (fun _ => 0))), (xh27, .inr (2, [.long 0])), (xh28, .inr (6, [.int 0, .long 0, .ref xh29])), (xh29, .inl (cI, 22, .inl (fun _ => 0))), (xh30, .inr (6, [.int 0, .long 0, .ref xh31])), (xh31, .inl (cI, 22, .inl (fun _ => 0))), (qm, .inr (11, [.ref mh1, .int 0, .int 0, .int 0, .ref mh2, .ref mh3, .ref mh4, .ref mh5, .int 0, .ref mh6, .ref mh7, .long 0, .long 0, .ref mh8, .long 0, .long 0, .long 0, .long 0, .int 0, .int 0, .long 0])), (mh1, .inl (cI, 418, .inl (upd z_w (1 : Int32).toNatClampNeg 3))), (mh2, .inl (cI, 2, .inl (fun _ => 0))), (mh3, .inl (cI, 20, .inl (fun _ => 0))), (mh4, .inl (cI, 20, .inl (fun _ => 0))), (mh5, .inl (cI, 20, .inl (fun _ => 0))), (mh6, .inl (cI, 4, .inl (fun _ => 0))), (mh7, .inl (cI, 4, .inl (fun _ => 0))), (mh8, .inl (cJ, 4, .inr (.inl (fun _ => 0))))] := hD
  refine W.widen (k := 47) (n := 1142) (Nat.le_of_ble_eq_true rfl) (Nat.le_of_ble_eq_true rfl) ?_
  refine lv_astore_n (lv' := [(2, .ref qm), (1, .ref qx), (0, .ref b)]) hx hb dL_law_15 rfl hl (by decide) rfl (fun ls hl => ?_)
  refine lv_iconst (v := 0) hx hb dL_law_16 (by decide) ?_
  refine lv_istore_n (lv' := [(3, .int 0), (2, .ref qm), (1, .ref qx), (0, .ref b)]) hx hb dL_law_17 rfl hl (by decide) rfl (fun ls hl => ?_)
  exact law_loop (KC := 47) (KS := 1142) (Nat.le_of_ble_eq_true rfl) (Nat.le_of_ble_eq_true rfl) hat rfl hX hbl hbA hAs hexit qx qm xh1 xh3 xh7 xh10 xh14 xh15 xh21 xh23 xh27 xh28 xh30 xh2 xh4 xh6 xr5 xh8 xr9 xh11 xh12 xh13 xh16 xh20 xh17 xh18 xh19 xh22 xh24 xh25 xh26 xh29 xh31 mh1 mh2 mh3 mh4 mh5 mh6 mh7 mh8 F 5 9 fu 0 z_n 3 z_numbers 0 0 0 0 (fun _ _ => 0) (fun _ => 0) 0 0 0 0 (fun _ _ => 0) 0 (fun _ => 0) (fun _ => 0) (fun _ => 0) 0 0 0 0 0 0 0 0 (fun _ => 0) (fun _ => 0) (fun _ => 0) 0 0 0 0 0 (fun _ => 0) 0 (fun _ => 0) (fun _ => 0) (fun _ => 0) 0 0 0 (fun _ => 0) 0 0 (fun _ => 0) 0 0 0 0 0 0 0 0 0 0 0 0 0 (upd z_w (1 : Int32).toNatClampNeg 3) (fun _ => 0) (fun _ => 0) (fun _ => 0) (fun _ => 0) (fun _ => 0) (fun _ => 0) (fun _ => 0) hw _ _ _ hP hD hS (lv_sub hl [3, 2, 1, 0] rfl)
