/-! ===== what every contract takes as given; contracts of one form; calls; returns ===== -/
def kNest : Cond → Bool
  | .fieldLinkNest _ _ _ _ _ _ => true
  | .methodLinkNest _ _ _ _ => true
  | .declares _ => true
  | _ => false
/-- the tables' words that stay as they are through every call -/
def kSel : List Cond := [.selects RX1 yX9_raise yX9_raise, .selects RX8 yX9_raise yX9_raise, .selects RX1 yX9_exchangeRows yX9_exchangeRows, .selects RX8 yX9_exchangeRows yX9_exchangeRows]
def kTs : List Cond := kSel ++ lw_tbl.filter (fun w => goodWord w || kNest w)
theorem kTs_in {w : Cond} (h : w ∈ lw_tbl) (hg : (goodWord w || kNest w) = true) : w ∈ kTs := List.mem_append_right _ (List.mem_filter.mpr ⟨h, hg⟩)
theorem kTs_ok {w : Cond} (h : w ∈ kTs) : (goodWord w || kNest w) = true := by
  rcases List.mem_append.mp h with h | h
  · have h2 : kSel.all (fun w => goodWord w || kNest w) = true := by decide +kernel
    exact List.all_eq_true.mp h2 w h
  · exact (List.mem_filter.mp h).2
def kTb (U : State) : Prop := ∀ w ∈ kTs, w.before #[] U = true
theorem kTb.moved {s U : State} (hW : s.WarmedH U.vm) (h : kTb s) : kTb U := by
  intro w hw
  have h1 := kTs_ok hw
  rcases (Bool.or_eq_true _ _).mp h1 with h2 | h2
  · exact word_at hW (good_of_word h2) (h w hw)
  · cases w <;> first | (simp [kNest] at h2; done) | exact va_Nw.warmF hW (h _ hw) | exact va_Nw.warmM hW (h _ hw) | exact va_Nw.warmD hW (h _ hw)
theorem kTb.use {s : State} (h : kTb s) (a : Array Value) : ∀ w ∈ kTs, w.before a s = true := by
  intro w hw
  have h1 := kTs_ok hw
  rcases (Bool.or_eq_true _ _).mp h1 with h2 | h2
  · exact word_at (State.WarmedH.refl s) (good_of_word h2) (h w hw)
  · cases w <;> first | (simp [kNest] at h2; done) | exact va_tabs rfl rfl (h _ hw)
def kZ (tp : Nat) (A : Nat → Prop) (U : State) (H : Heap) : Prop := va_Z "LiftedSystems" "PRIMES" "[I" (.ref tp) A U H ∧ va_T .int tp 25 (fun j => .int (kPr j)) A U H
abbrev kTy (cI cJ cQ : ClassId) : List (ClassId × FieldType) := [(cI, .int), (cJ, .long), (cQ, .array .long)]
/-- the start of a contract: the arguments, the world's cells, the tables, the primes -/
def kPre (D : va_G) (cI cJ cQ : ClassId) (tp : Nat) (av : List Value) (W0 : va_W) (sz : Nat) : Array Value → State → Prop :=
  va_Pc av (fun U => U.heap.size = sz ∧ va_P D vwCl W0 U.heap ∧ va_K D vwCl (kTy cI cJ cQ) U ∧ va_D (fun _ => True) W0 ∧ kTb U ∧ kZ tp (va_A W0 sz) U U.heap)
abbrev kB (D : va_G) (W1 : va_W) : Unit → State → Prop := fun _ t => va_P D vwCl W1 t.heap
abbrev kQi (D : va_G) (A : Nat → Prop) (W1 : va_W) (r : Int32) := va_Qi (fun (x : Int32) (_ : Unit) => x = r) (kB D W1) A
abbrev kQl (D : va_G) (A : Nat → Prop) (W1 : va_W) (r : Int64) := va_Ql (fun (x : Int64) (_ : Unit) => x = r) (kB D W1) A
abbrev kQd (D : va_G) (A : Nat → Prop) (W1 : va_W) (r : UInt64) := va_Qd (fun (x : UInt64) (_ : Unit) => x = r) (kB D W1) A
abbrev kQv (D : va_G) (A : Nat → Prop) (W1 : va_W) := va_Qv (fun (_ : Unit) => True) (kB D W1) A
abbrev kQr (D : va_G) (A : Nat → Prop) (W1 : va_W) (r : Nat) := va_Qr (fun (_ : Unit) => True) (fun _ a t => a = r ∧ va_P D vwCl W1 t.heap) A
/-- a contract: from the world W0 the method comes to an end Qc, in the room rm -/
def kM (Qc : (Nat → Prop) → Array Value → State → Outcome → State → Prop) (ret : Option FieldType) (l : Launch) (y : MethodName) (cc : ByteArray) (n : Nat) (rm : Room) (D : va_G) (cI cJ cQ : ClassId) (tp : Nat) (av : List Value) (W0 : va_W) : Prop :=
  ∀ sz, Met l y [.code y cc n ret] rm (kPre D cI cJ cQ tp av W0 sz) (Qc (va_A W0 sz)) 0 0 (va_A W0 sz)
/-- what holds at a method's entry and stays -/
def kAt (D : va_G) (cI cJ cQ : ClassId) (tp : Nat) (p : Program) (s : State) (m : MethodId) (meth : Method) (c : Code) (args : Array Value) (cc : ByteArray) (n : Nat) (ret : Option FieldType) (C : String) (A : Nat → Prop) : Prop :=
  p.tables.exec = Jvm.exec ∧ c.code = cc ∧ meth.sig.returnType = ret ∧ c.maxLocals = n ∧ s.vm.findClass C = some m.cls ∧ (∀ w ∈ kTs, w.before args s = true) ∧ kTb s ∧ meth.locks = false ∧ va_K D vwCl (kTy cI cJ cQ) s ∧ (∀ q : Nat, s.heap.size ≤ q → A q) ∧ kZ tp A s s.heap
theorem Met.ofWF {l : Launch} {y : MethodName} {ws ws' : List Cond} {rm : Room} {Pc : Array Value → State → Prop} {Qc : Array Value → State → Outcome → State → Prop} {mc ms : Nat} {free : Addr → Prop} {cc : ByteArray} {maxL : Nat} {ret : Option FieldType}
    (hy : plainFor y = true) (hw : ws = Cond.code y cc maxL ret :: ws')
    (body : ∀ p e s m args below meth c s₁, BodyLoose p l y (headSpec ws rm) cc maxL ret e s m args below meth c s₁ → c.maxLocals = maxL → Pc args s →
      W p l e (headSpec ws rm).room s m args below meth c s.heap [] 0 0 (MQ below Qc args s mc ms free) (entryFrame m args maxL)) : Met l y ws rm Pc Qc mc ms free := by
  refine MetFree.of_bodySF (code := cc) (maxLocals := maxL) (ret := ret) hy ?_ ?_
  · intro args s m h hn
    obtain ⟨meth, c, h1, h2, h3, h4, h5, h6, -, -⟩ := Cond.code_spec hn (atoms_spec (ws := ws) h _ (by rw [hw]; exact List.mem_cons_self))
    exact ⟨meth, c, h1, h2, h3, h4, h5, h6⟩
  · intro p e s m args below meth c s₁ B hml hP _
    have hh0 : s₁.heap = s.heap := by rw [B.state]; rfl
    obtain ⟨t, a1, o, b1, b2, b3⟩ := body p e s m args below meth c s₁ B hml hP s₁ hh0 (Stand.of_body B)
    exact ⟨t, o, a1, b1, b2, ⟨b3.1, b3.2⟩⟩
theorem kM_of {Qc : (Nat → Prop) → Array Value → State → Outcome → State → Prop} {ret : Option FieldType} {l : Launch} {y : MethodName} {cc : ByteArray} {n : Nat} {rm : Room} {D : va_G} {cI cJ cQ : ClassId} {tp : Nat} {av : List Value} {W0 : va_W}
    (hy : plainFor y = true) (hn : (lg_sl av).length ≤ n)
    (body : ∀ (p : Program) (e : Env) (s : State) (m : MethodId) (args : Array Value) (below : List Frame) (meth : Method) (c : Code) (A : Nat → Prop) (ls : Array Slot) (R : Room) (Q : State → Prop), R = rm → Q = MQ below (Qc A) args s 0 0 A → kAt D cI cJ cQ tp p s m meth c args cc n ret y.cls A → va_P D vwCl W0 s.heap → va_D A W0 → va_S A s.heap s.heap [] → lv_has ls n (lv_args 0 av) →
      W p l e R s m args below meth c s.heap [] 0 0 Q (F0 m 0 ls [])) : kM Qc ret l y cc n rm D cI cJ cQ tp av W0 := by
  intro sz
  refine Met.ofWF (cc := cc) (maxL := n) (ret := ret) hy rfl ?_
  intro p e s m args below meth c s₁ B hml hv
  obtain ⟨rfl, hsz, hP, hK, hD0, hT, hZ⟩ := hv
  have hown : s.vm.findClass y.cls = some m.cls := findClass_of_methodNamed B.named
  subst hsz
  have hD := hD0.self (sz := s.heap.size)
  have hA : ∀ q : Nat, s.heap.size ≤ q → va_A W0 s.heap.size q := fun q h => Or.inr h
  have hl := lv_entry av (n := n) hn
  rw [lg_entry_eq]
  exact body p e s m _ below meth c _ _ _ _ rfl rfl ⟨B.exec, B.bytes, B.returns, hml, hown, hT.use _, hT, B.notSynchronized, hK, hA, hZ⟩ hP hD va_S.rf hl
theorem kPre.blind {D : va_G} {cI cJ cQ : ClassId} {tp : Nat} {av : List Value} {W0 : va_W} {sz : Nat} : FrameBlind (kPre D cI cJ cQ tp av W0 sz) := by
  intro a U g mk h
  obtain ⟨h0, h1, h2, h3, h4, h5, h6, h7⟩ := h
  exact ⟨h0, h1, h2, va_K.moved (u := U) (U := U.calling g mk a) (Vm.Alike.refl U.vm) h3, h4, kTb.moved (s := U) (U := U.calling g mk a) (State.WarmedH.refl U) h5, va_Z.moved (u := U) (U := U.calling g mk a) (Vm.Alike.refl U.vm) h6, va_T.moved (u := U) (U := U.calling g mk a) (Vm.Alike.refl U.vm) h7⟩
/-- a world that comes of ws by a callee's cells w1 at the places is, the rest at isR as it was -/
theorem kmix_P {D : va_G} {A0 : Nat → Prop} {ws ws' wc w1 : va_W} {H H1 : Heap} {is isR : List Nat} {n : Nat} (hP : va_P D vwCl ws H) (hD : va_D A0 ws) (hC : is.map (fun i => ws[i]?) = wc.map some) (hf : w1.map Prod.fst = wc.map Prod.fst) (h1 : is.map (fun i => ws'[i]?) = w1.map some) (h2 : isR.map (fun i => ws'[i]?) = isR.map (fun i => ws[i]?)) (hn : ws'.length = n) (hcov : (List.range n).all (fun k => decide (k ∈ is) || decide (k ∈ isR)) = true) (hk : ∀ q : Nat, q < H.size → ¬ va_A wc H.size q → H1[q]? = H[q]?) (hP1 : va_P D vwCl w1 H1) : va_P D vwCl ws' H1 ∧ va_D A0 ws' := by
  have hl1 : is.length = wc.length := by simpa using congrArg List.length hC
  have hat : ∀ (j i : Nat), is[j]? = some i → ∃ x, wc[j]? = some x ∧ ws[i]? = some x := by
    intro j i h
    have h1 := congrArg (fun l => l[j]?) hC
    simp only [List.getElem?_map, h, Option.map_some] at h1
    cases hx : wc[j]? with
    | none => rw [hx] at h1; simp at h1
    | some x => rw [hx] at h1; simp at h1; exact ⟨x, rfl, h1⟩
  have hat1 : ∀ (j i : Nat), is[j]? = some i → ∃ x, w1[j]? = some x ∧ ws'[i]? = some x := by
    intro j i h
    have h3 := congrArg (fun l => l[j]?) h1
    simp only [List.getElem?_map, h, Option.map_some] at h3
    cases hx : w1[j]? with
    | none => rw [hx] at h3; simp at h3
    | some x => rw [hx] at h3; simp at h3; exact ⟨x, rfl, h3⟩
  have hsame : ∀ k, k ∈ isR → ws'[k]? = ws[k]? := fun k hk => List.map_inj_left.mp h2 k hk
  have hcase : ∀ (k : Nat) (q : Nat × va_E), ws'[k]? = some q → (∃ j : Nat, is[j]? = some k ∧ w1[j]? = some q) ∨ (k ∉ is ∧ ws[k]? = some q) := by
    intro k q h
    by_cases hki : k ∈ is
    · obtain ⟨j, hj⟩ := List.getElem?_of_mem hki
      obtain ⟨x, hx1, hx2⟩ := hat1 j k hj
      rw [h] at hx2
      cases hx2
      exact Or.inl ⟨j, hj, hx1⟩
    · have hlt : k < n := by rw [← hn]; exact (List.getElem?_eq_some_iff.mp h).1
      have h4 := List.all_eq_true.mp hcov k (List.mem_range.mpr hlt)
      simp [hki] at h4
      exact Or.inr ⟨hki, (hsame k h4) ▸ h⟩
  have hfst : ∀ (k : Nat) (q : Nat × va_E), ws'[k]? = some q → ∃ e, ws[k]? = some (q.1, e) := by
    intro k q h
    rcases hcase k q h with ⟨j, h3, h4⟩ | ⟨h3, h4⟩
    · obtain ⟨x, hx1, hx2⟩ := hat j k h3
      have h5 := congrArg (fun l => l[j]?) hf
      simp only [List.getElem?_map, h4, hx1, Option.map_some] at h5
      have h6 : q.1 = x.1 := Option.some.inj h5
      exact ⟨x.2, by rw [h6]; exact hx2⟩
    · exact ⟨q.2, h4⟩
  refine ⟨?_, ?_, ?_⟩
  · intro k q h
    rcases hcase k q h with ⟨j, h3, h4⟩ | ⟨h3, h4⟩
    · exact hP1 j q h4
    · refine (hP k q h4).kept (hk _ (hP k q h4).lt ?_)
      rintro (⟨j, e, hj⟩ | hge)
      · have hjl : j < is.length := by rw [hl1]; exact (List.getElem?_eq_some_iff.mp hj).1
        obtain ⟨x, hx1, hx2⟩ := hat j is[j] (List.getElem?_eq_getElem hjl)
        rw [hj] at hx1
        cases hx1
        have := hD.1 _ _ _ _ hx2 h4 rfl
        exact h3 (this ▸ List.getElem_mem hjl)
      · exact absurd (hP k q h4).lt (Nat.not_lt.mpr hge)
  · intro i j x y hi hj hxy
    obtain ⟨e1, h1⟩ := hfst i x hi
    obtain ⟨e2, h2⟩ := hfst j y hj
    exact hD.1 _ _ _ _ h1 h2 hxy
  · intro k q h
    obtain ⟨e1, h1⟩ := hfst k q h
    exact hD.2 k (q.1, e1) h1
section KC
variable {p : Program} {l : Launch} {e : Env} {R : Room} {s : State} {m : MethodId} {args : Array Value} {below : List Frame} {meth : Method} {c : Code} {H : Heap} {locs : List Loc} {cells slots : Nat} {Q : State → Prop}
variable {D : va_G} {cI cJ cQ : ClassId} {tp : Nat} {cc : ByteArray} {nL : Nat} {ret : Option FieldType} {C : String} {A : Nat → Prop} {ws : va_W}
variable {pc : Nat} {ls : Array Slot} {rest st0 : List Value} {y : MethodName} {bytes : ByteArray} {maxL : Nat} {rt : Option FieldType} {rm : Room} {wc w1 : va_W} {av As : List Value} {n : Nat} {index : Nat} {b : Nat} {ws' wr : va_W} {nW : Nat}
theorem kpre_of (hat : kAt D cI cJ cQ tp p s m meth c args cc nL ret C A) (hP : va_P D vwCl ws H) (hD : va_D A ws) (hS : va_S A s.heap H locs) (is : List Nat) (hn : va_nd is = true) (hC : is.map (fun i => ws[i]?) = wc.map some) :
    ∀ U : State, U.heap = H → s.WarmedH U.vm → kPre D cI cJ cQ tp av wc H.size av.toArray U := by
  obtain ⟨hx, hb, hr, hml, hown, hts, hT, hlk, hK, hA, hZ⟩ := hat
  intro U hU hW
  have hin : is.filterMap (fun i => ws[i]?) = wc := by
    have h : (is.map (fun i => ws[i]?)).filterMap id = (wc.map some).filterMap id := by rw [hC]
    simpa [List.filterMap_map, Function.comp_def] using h
  have hfree := va_free (wc := wc) hD hS hA is hC
  have hk : ∀ a : Nat, a < s.heap.size → ¬ A a → H[a]? = s.heap[a]? := fun a h1 h2 => hS.2.1 a h1 h2
  refine ⟨rfl, by rw [hU], by rw [hU]; exact hP.sub is hin, va_K.moved hW.alike hK, (hD.sub is hn hC).weaken (fun _ _ _ _ => trivial), kTb.moved hW hT, ?_, ?_⟩
  · rw [hU]; exact va_Z.moved hW.alike ((hZ.1.kept hk).narrow hfree)
  · rw [hU]; exact va_T.moved hW.alike ((hZ.2.kept hk).narrow hfree)
theorem k_gi {r : Int32} {a : Array Value} (hr : va_Run p l e R s m args below meth c H locs cells slots 0 0 (F0 m pc ls st0) rest (kQi D (va_A wc H.size) w1 r a) (va_A wc H.size)) (hat : kAt D cI cJ cQ tp p s m meth c args cc nL ret C A) (hP : va_P D vwCl ws H) (hD : va_D A ws) (hS : va_S A s.heap H locs) (is : List Nat) (hC : is.map (fun i => ws[i]?) = wc.map some) (isR : List Nat) (hf : w1.map Prod.fst = wc.map Prod.fst) (h1' : is.map (fun i => ws'[i]?) = w1.map some) (h2a : isR.map (fun i => ws'[i]?) = wr.map some) (h2b : isR.map (fun i => ws[i]?) = wr.map some) (hn' : ws'.length = nW) (hcov : (List.range nW).all (fun k => decide (k ∈ is) || decide (k ∈ isR)) = true)
    (kk : ∀ (H1 : Heap) (locs1 : List Loc), va_P D vwCl ws' H1 → va_D A ws' → va_S A s.heap H1 locs1 → W p l e R s m args below meth c H1 locs1 cells slots Q (F0 m (pc + 3) ls (.int r :: rest))) : W p l e R s m args below meth c H locs cells slots Q (F0 m pc ls st0) := by
  obtain ⟨-, -, -, -, -, -, -, -, -, hA, -⟩ := hat
  have hfree := va_free (wc := wc) hD hS hA is hC
  refine va_calli hr hS (fun q _ h => hfree q h) hfree (fun r' u t H1 locs1 ht hvm hw hB hz1 hk1 hS1 => ?_)
  subst hw
  have h1 : va_P D vwCl w1 H1 := by rw [← ht]; exact hB
  obtain ⟨hP', hD'⟩ := kmix_P hP hD hC hf h1' (h2a.trans h2b.symm) hn' hcov hk1 h1
  exact kk H1 locs1 hP' hD' hS1
theorem k_gl {r : Int64} {a : Array Value} (hr : va_Run p l e R s m args below meth c H locs cells slots 0 0 (F0 m pc ls st0) rest (kQl D (va_A wc H.size) w1 r a) (va_A wc H.size)) (hat : kAt D cI cJ cQ tp p s m meth c args cc nL ret C A) (hP : va_P D vwCl ws H) (hD : va_D A ws) (hS : va_S A s.heap H locs) (is : List Nat) (hC : is.map (fun i => ws[i]?) = wc.map some) (isR : List Nat) (hf : w1.map Prod.fst = wc.map Prod.fst) (h1' : is.map (fun i => ws'[i]?) = w1.map some) (h2a : isR.map (fun i => ws'[i]?) = wr.map some) (h2b : isR.map (fun i => ws[i]?) = wr.map some) (hn' : ws'.length = nW) (hcov : (List.range nW).all (fun k => decide (k ∈ is) || decide (k ∈ isR)) = true)
    (kk : ∀ (H1 : Heap) (locs1 : List Loc), va_P D vwCl ws' H1 → va_D A ws' → va_S A s.heap H1 locs1 → W p l e R s m args below meth c H1 locs1 cells slots Q (F0 m (pc + 3) ls (.long r :: rest))) : W p l e R s m args below meth c H locs cells slots Q (F0 m pc ls st0) := by
  obtain ⟨-, -, -, -, -, -, -, -, -, hA, -⟩ := hat
  have hfree := va_free (wc := wc) hD hS hA is hC
  refine va_calll hr hS (fun q _ h => hfree q h) hfree (fun r' u t H1 locs1 ht hvm hw hB hz1 hk1 hS1 => ?_)
  subst hw
  have h1 : va_P D vwCl w1 H1 := by rw [← ht]; exact hB
  obtain ⟨hP', hD'⟩ := kmix_P hP hD hC hf h1' (h2a.trans h2b.symm) hn' hcov hk1 h1
  exact kk H1 locs1 hP' hD' hS1
theorem k_gd {r : UInt64} {a : Array Value} (hr : va_Run p l e R s m args below meth c H locs cells slots 0 0 (F0 m pc ls st0) rest (kQd D (va_A wc H.size) w1 r a) (va_A wc H.size)) (hat : kAt D cI cJ cQ tp p s m meth c args cc nL ret C A) (hP : va_P D vwCl ws H) (hD : va_D A ws) (hS : va_S A s.heap H locs) (is : List Nat) (hC : is.map (fun i => ws[i]?) = wc.map some) (isR : List Nat) (hf : w1.map Prod.fst = wc.map Prod.fst) (h1' : is.map (fun i => ws'[i]?) = w1.map some) (h2a : isR.map (fun i => ws'[i]?) = wr.map some) (h2b : isR.map (fun i => ws[i]?) = wr.map some) (hn' : ws'.length = nW) (hcov : (List.range nW).all (fun k => decide (k ∈ is) || decide (k ∈ isR)) = true)
    (kk : ∀ (H1 : Heap) (locs1 : List Loc), va_P D vwCl ws' H1 → va_D A ws' → va_S A s.heap H1 locs1 → W p l e R s m args below meth c H1 locs1 cells slots Q (F0 m (pc + 3) ls (.double r :: rest))) : W p l e R s m args below meth c H locs cells slots Q (F0 m pc ls st0) := by
  obtain ⟨-, -, -, -, -, -, -, -, -, hA, -⟩ := hat
  have hfree := va_free (wc := wc) hD hS hA is hC
  refine va_calld hr hS (fun q _ h => hfree q h) hfree (fun r' u t H1 locs1 ht hvm hw hB hz1 hk1 hS1 => ?_)
  subst hw
  have h1 : va_P D vwCl w1 H1 := by rw [← ht]; exact hB
  obtain ⟨hP', hD'⟩ := kmix_P hP hD hC hf h1' (h2a.trans h2b.symm) hn' hcov hk1 h1
  exact kk H1 locs1 hP' hD' hS1
theorem k_gv {a : Array Value} (hr : va_Run p l e R s m args below meth c H locs cells slots 0 0 (F0 m pc ls st0) rest (kQv D (va_A wc H.size) w1 a) (va_A wc H.size)) (hat : kAt D cI cJ cQ tp p s m meth c args cc nL ret C A) (hP : va_P D vwCl ws H) (hD : va_D A ws) (hS : va_S A s.heap H locs) (is : List Nat) (hC : is.map (fun i => ws[i]?) = wc.map some) (isR : List Nat) (hf : w1.map Prod.fst = wc.map Prod.fst) (h1' : is.map (fun i => ws'[i]?) = w1.map some) (h2a : isR.map (fun i => ws'[i]?) = wr.map some) (h2b : isR.map (fun i => ws[i]?) = wr.map some) (hn' : ws'.length = nW) (hcov : (List.range nW).all (fun k => decide (k ∈ is) || decide (k ∈ isR)) = true)
    (kk : ∀ (H1 : Heap) (locs1 : List Loc), va_P D vwCl ws' H1 → va_D A ws' → va_S A s.heap H1 locs1 → W p l e R s m args below meth c H1 locs1 cells slots Q (F0 m (pc + 3) ls rest)) : W p l e R s m args below meth c H locs cells slots Q (F0 m pc ls st0) := by
  obtain ⟨-, -, -, -, -, -, -, -, -, hA, -⟩ := hat
  have hfree := va_free (wc := wc) hD hS hA is hC
  refine va_callv hr hS (fun q _ h => hfree q h) hfree (fun u t H1 locs1 ht hvm hw hB hz1 hk1 hS1 => ?_)
  have h1 : va_P D vwCl w1 H1 := by rw [← ht]; exact hB
  obtain ⟨hP', hD'⟩ := kmix_P hP hD hC hf h1' (h2a.trans h2b.symm) hn' hcov hk1 h1
  exact kk H1 locs1 hP' hD' hS1
theorem k_gr {r : Nat} {a : Array Value} (hr : va_Run p l e R s m args below meth c H locs cells slots 0 0 (F0 m pc ls st0) rest (kQr D (va_A wc H.size) w1 r a) (va_A wc H.size)) (hat : kAt D cI cJ cQ tp p s m meth c args cc nL ret C A) (hP : va_P D vwCl ws H) (hD : va_D A ws) (hS : va_S A s.heap H locs) (is : List Nat) (hC : is.map (fun i => ws[i]?) = wc.map some) (isR : List Nat) (hf : w1.map Prod.fst = wc.map Prod.fst) (h1' : is.map (fun i => ws'[i]?) = w1.map some) (h2a : isR.map (fun i => ws'[i]?) = wr.map some) (h2b : isR.map (fun i => ws[i]?) = wr.map some) (hn' : ws'.length = nW) (hcov : (List.range nW).all (fun k => decide (k ∈ is) || decide (k ∈ isR)) = true)
    (kk : ∀ (H1 : Heap) (locs1 : List Loc), va_P D vwCl ws' H1 → va_D A ws' → va_S A s.heap H1 locs1 → W p l e R s m args below meth c H1 locs1 cells slots Q (F0 m (pc + 3) ls (.ref r :: rest))) : W p l e R s m args below meth c H locs cells slots Q (F0 m pc ls st0) := by
  obtain ⟨-, -, -, -, -, -, -, -, -, hA, -⟩ := hat
  have hfree := va_free (wc := wc) hD hS hA is hC
  refine va_callr hr hS (fun q _ h => hfree q h) hfree (fun u r' t H1 locs1 ht hvm hw hB hz1 hk1 hS1 => ?_)
  obtain ⟨hrr, hB⟩ := hB
  subst hrr
  have h1 : va_P D vwCl w1 H1 := by rw [← ht]; exact hB
  obtain ⟨hP', hD'⟩ := kmix_P hP hD hC hf h1' (h2a.trans h2b.symm) hn' hcov hk1 h1
  exact kk H1 locs1 hP' hD' hS1
variable {Qc : (Nat → Prop) → Array Value → State → Outcome → State → Prop}
/-- a method of the receiver's own class -/
theorem k_runV {own Cr : String} (hat : kAt D cI cJ cQ tp p s m meth c args cc nL ret own A) (hP : va_P D vwCl ws H) (hD : va_D A ws) (hS : va_S A s.heap H locs) (hls : ls.size = nL) (hM : kM Qc rt l y bytes maxL rm D cI cJ cQ tp (.ref b :: As) wc) (is : List Nat) (hn : va_nd is = true) (hC : is.map (fun i => ws[i]?) = wc.map some)
    (hlk : Cond.methodLink own index y ∈ kTs) (hin : Cond.instanceMethod y ∈ kTs) (hsel : Cond.selects Cr y y ∈ kTs) (hini : Cond.initialized Cr ∈ kTs) (hcd : Cond.code y bytes maxL rt ∈ kTs)
    (hd : y.cls = Cr ∧ y.cls ≠ "java/lang/invoke/MethodHandle" ∧ y.cls ≠ "java/lang/invoke/VarHandle" ∧ (parseMethodDescriptor y.desc).map (fun d => d.parameters.length) = some n)
    (hrm : rm.cells = 0 ∧ rm.slots = 0) (hR : rm.frames + 1 ≤ R.frames ∧ 8 + (maxL + 11) + rm.locals ≤ R.locals) (hq : cells ≤ R.cells ∧ slots ≤ R.slots) (q0 ci : Nat) {T : u_T} {N : Nat} {fs : List Value} (he : ws[q0]? = some (b, .inr (ci, fs))) (hc : vwCl[ci]? = some (Cr, T, N)) (hlen : As.length = n) (hst : st0 = As.reverse ++ .ref b :: rest) (hw8 : (rest.map fun v => v.category).sum ≤ 8) (hdg : decode cc pc = .ok (.invokevirtual index, 3)) :
    va_Run p l e R s m args below meth c H locs cells slots 0 0 (F0 m pc ls st0) rest (Qc (va_A wc H.size) (Value.ref b :: As).toArray) (va_A wc H.size) := by
  have hpre := kpre_of (av := .ref b :: As) hat hP hD hS is hn hC
  obtain ⟨hx, hb, hr, hml, hown, hts, hT, hlk2, hK, hA, hZ⟩ := hat
  have hg : GoodIn kTs (wsV own index Cr y [Cond.code y bytes maxL rt]) := by
    intro w hw
    simp only [wsV, List.cons_append, List.nil_append, List.mem_cons, List.not_mem_nil, or_false] at hw
    rcases hw with rfl | rfl | rfl | rfl | rfl
    · exact ⟨hlk, Or.inl rfl⟩
    · exact ⟨hin, Or.inl rfl⟩
    · exact ⟨hsel, Or.inl rfl⟩
    · exact ⟨hini, Or.inl rfl⟩
    · exact ⟨hcd, Or.inl rfl⟩
  exact va_runV (g := F0 m pc ls st0) ⟨hx, hb, hml, hown, hts⟩ (hM H.size) (cwV n hts hg rfl hrm.1 hrm.2 hd hR) ⟨kPre.blind, va_recv hK hP hc he, hpre⟩ rfl hlen hls hst (lv_room hw8) hdg hq
/-- a static method -/
theorem k_runS {own : String} (hat : kAt D cI cJ cQ tp p s m meth c args cc nL ret own A) (hP : va_P D vwCl ws H) (hD : va_D A ws) (hS : va_S A s.heap H locs) (hls : ls.size = nL) (hM : kM Qc rt l y bytes maxL rm D cI cJ cQ tp As wc) (is : List Nat) (hn : va_nd is = true) (hC : is.map (fun i => ws[i]?) = wc.map some)
    (hlk : Cond.methodLink own index y ∈ kTs) (hin : Cond.static y ∈ kTs) (hini : Cond.initialized y.cls ∈ kTs) (hcd : Cond.code y bytes maxL rt ∈ kTs)
    (hd : y.cls ≠ "java/lang/invoke/MethodHandle" ∧ y.cls ≠ "java/lang/invoke/VarHandle" ∧ (parseMethodDescriptor y.desc).map (fun d => d.parameters.length) = some n)
    (hrm : rm.cells = 0 ∧ rm.slots = 0) (hR : rm.frames + 1 ≤ R.frames ∧ 8 + (maxL + 11) + rm.locals ≤ R.locals) (hq : cells ≤ R.cells ∧ slots ≤ R.slots) (hlen : As.length = n) (hst : st0 = As.reverse ++ rest) (hw8 : (rest.map fun v => v.category).sum ≤ 8) (hdg : decode cc pc = .ok (.invokestatic index, 3)) :
    va_Run p l e R s m args below meth c H locs cells slots 0 0 (F0 m pc ls st0) rest (Qc (va_A wc H.size) As.toArray) (va_A wc H.size) := by
  have hpre := kpre_of (av := As) hat hP hD hS is hn hC
  obtain ⟨hx, hb, hr, hml, hown, hts, hT, hlk2, hK, hA, hZ⟩ := hat
  have hg : GoodIn kTs (va_wsS own index y [Cond.code y bytes maxL rt]) := by
    intro w hw
    simp only [va_wsS, List.cons_append, List.nil_append, List.mem_cons, List.not_mem_nil, or_false] at hw
    rcases hw with rfl | rfl | rfl | rfl
    · exact ⟨hlk, Or.inl rfl⟩
    · exact ⟨hin, Or.inl rfl⟩
    · exact ⟨hini, Or.inl rfl⟩
    · exact ⟨hcd, Or.inl rfl⟩
  exact va_runS (g := F0 m pc ls st0) ⟨hx, hb, hml, hown, hts⟩ (hM H.size) (va_cwS n hts hg rfl hrm.1 hrm.2 hd hR) ⟨kPre.blind, hpre⟩ rfl hlen hls hst (lv_room hw8) hdg hq
/-- a private static method of a nest mate -/
theorem k_runSN {own host : String} (hat : kAt D cI cJ cQ tp p s m meth c args cc nL ret own A) (hP : va_P D vwCl ws H) (hD : va_D A ws) (hS : va_S A s.heap H locs) (hls : ls.size = nL) (hM : kM Qc rt l y bytes maxL rm D cI cJ cQ tp As wc) (is : List Nat) (hn : va_nd is = true) (hC : is.map (fun i => ws[i]?) = wc.map some)
    (hlk : Cond.methodLinkNest own index y host ∈ kTs) (hin : Cond.static y ∈ kTs) (hini : Cond.initialized y.cls ∈ kTs) (hcd : Cond.code y bytes maxL rt ∈ kTs)
    (hd : y.cls ≠ "java/lang/invoke/MethodHandle" ∧ y.cls ≠ "java/lang/invoke/VarHandle" ∧ (parseMethodDescriptor y.desc).map (fun d => d.parameters.length) = some n)
    (hrm : rm.cells = 0 ∧ rm.slots = 0) (hR : rm.frames + 1 ≤ R.frames ∧ 8 + (maxL + 11) + rm.locals ≤ R.locals) (hq : cells ≤ R.cells ∧ slots ≤ R.slots) (hlen : As.length = n) (hst : st0 = As.reverse ++ rest) (hw8 : (rest.map fun v => v.category).sum ≤ 8) (hdg : decode cc pc = .ok (.invokestatic index, 3)) :
    va_Run p l e R s m args below meth c H locs cells slots 0 0 (F0 m pc ls st0) rest (Qc (va_A wc H.size) As.toArray) (va_A wc H.size) := by
  have hpre := kpre_of (av := As) hat hP hD hS is hn hC
  obtain ⟨hx, hb, hr, hml, hown, hts, hT, hlk2, hK, hA, hZ⟩ := hat
  have hg : GoodIn kTs [Cond.code y bytes maxL rt] := by
    intro w hw
    simp only [List.mem_cons, List.not_mem_nil, or_false] at hw
    subst hw
    exact ⟨hcd, Or.inl rfl⟩
  exact va_runSN (g := F0 m pc ls st0) ⟨hx, hb, hml, hown, hts⟩ (hM H.size) ⟨va_cnB n hts hg rfl hrm.1 hrm.2 (hT _ hlk) (hts _ hini) hd hR, hts _ hin, trivial⟩ ⟨kPre.blind, hpre⟩ rfl hlen hls hst (lv_room hw8) hdg hq
/-- an inherited method -/
theorem k_runU {own Cr owner : String} {x : MethodName} (hat : kAt D cI cJ cQ tp p s m meth c args cc nL ret own A) (hP : va_P D vwCl ws H) (hD : va_D A ws) (hS : va_S A s.heap H locs) (hls : ls.size = nL) (hM : kM Qc rt l y bytes maxL rm D cI cJ cQ tp (.ref b :: As) wc) (is : List Nat) (hn : va_nd is = true) (hC : is.map (fun i => ws[i]?) = wc.map some)
    (cw : va_CU R s args own Cr owner index x y bytes maxL rt [Cond.code y bytes maxL rt] rm 0 0 n) (hq : cells ≤ R.cells ∧ slots ≤ R.slots) (q0 ci : Nat) {T : u_T} {N : Nat} {fs : List Value} (he : ws[q0]? = some (b, .inr (ci, fs))) (hc : vwCl[ci]? = some (Cr, T, N)) (hlen : As.length = n) (hst : st0 = As.reverse ++ .ref b :: rest) (hw8 : (rest.map fun v => v.category).sum ≤ 8) (hdg : decode cc pc = .ok (.invokevirtual index, 3)) :
    va_Run p l e R s m args below meth c H locs cells slots 0 0 (F0 m pc ls st0) rest (Qc (va_A wc H.size) (Value.ref b :: As).toArray) (va_A wc H.size) := by
  have hpre := kpre_of (av := .ref b :: As) hat hP hD hS is hn hC
  obtain ⟨hx, hb, hr, hml, hown, hts, hT, hlk2, hK, hA, hZ⟩ := hat
  exact va_runU (g := F0 m pc ls st0) ⟨hx, hb, hml, hown, hts⟩ (hM H.size) cw ⟨kPre.blind, va_recv hK hP hc he, hpre⟩ rfl hlen hls hst (lv_room hw8) hdg hq
/-- the ends -/
theorem k_iret {r v : Int32} (hat : kAt D cI cJ cQ tp p s m meth c args cc nL (some .int) C A) (hP : va_P D vwCl w1 H) (hS : va_S A s.heap H locs) (hv : v = r) (hdg : decode cc pc = .ok (.ireturn, 1)) : W p l e R s m args below meth c H locs 0 0 (MQ below (kQi D A w1 r) args s 0 0 A) (F0 m pc ls [.int v]) := by
  obtain ⟨hx, hb, hr, hml, hown, hts, hT, hlk, hK, hA, hZ⟩ := hat
  exact W.iret hx hb hr (fun t ht hW => ⟨⟨v, (), rfl, hv, by show va_P D vwCl w1 t.heap; rw [ht]; exact hP⟩, hS.F ht⟩) hS.2.2 hdg hlk
theorem k_zret {r v : Int32} (hat : kAt D cI cJ cQ tp p s m meth c args cc nL (some .boolean) C A) (hP : va_P D vwCl w1 H) (hS : va_S A s.heap H locs) (hv : v = r) (h01 : v = 0 ∨ v = 1) (hdg : decode cc pc = .ok (.ireturn, 1)) : W p l e R s m args below meth c H locs 0 0 (MQ below (kQi D A w1 r) args s 0 0 A) (F0 m pc ls [.int v]) := by
  obtain ⟨hx, hb, hr, hml, hown, hts, hT, hlk, hK, hA, hZ⟩ := hat
  exact W.zret hx hb hr (by rcases h01 with rfl | rfl <;> rfl) (fun t ht hW => ⟨⟨v, (), rfl, hv, by show va_P D vwCl w1 t.heap; rw [ht]; exact hP⟩, hS.F ht⟩) hS.2.2 hdg hlk
theorem k_lret {r v : Int64} (hat : kAt D cI cJ cQ tp p s m meth c args cc nL (some .long) C A) (hP : va_P D vwCl w1 H) (hS : va_S A s.heap H locs) (hv : v = r) (hdg : decode cc pc = .ok (.lreturn, 1)) : W p l e R s m args below meth c H locs 0 0 (MQ below (kQl D A w1 r) args s 0 0 A) (F0 m pc ls [.long v]) := by
  obtain ⟨hx, hb, hr, hml, hown, hts, hT, hlk, hK, hA, hZ⟩ := hat
  exact W.lret hx hb hr (fun t ht hW => ⟨⟨v, (), rfl, hv, by show va_P D vwCl w1 t.heap; rw [ht]; exact hP⟩, hS.F ht⟩) hS.2.2 hdg hlk
theorem k_dret {r v : UInt64} (hat : kAt D cI cJ cQ tp p s m meth c args cc nL (some .double) C A) (hP : va_P D vwCl w1 H) (hS : va_S A s.heap H locs) (hv : v = r) (hdg : decode cc pc = .ok (.dreturn, 1)) : W p l e R s m args below meth c H locs 0 0 (MQ below (kQd D A w1 r) args s 0 0 A) (F0 m pc ls [.double v]) := by
  obtain ⟨hx, hb, hr, hml, hown, hts, hT, hlk, hK, hA, hZ⟩ := hat
  exact W.dret hx hb hr (fun t ht hW => ⟨⟨v, (), rfl, hv, by show va_P D vwCl w1 t.heap; rw [ht]; exact hP⟩, hS.F ht⟩) hS.2.2 hdg hlk
theorem k_vret (hat : kAt D cI cJ cQ tp p s m meth c args cc nL none C A) (hP : va_P D vwCl w1 H) (hS : va_S A s.heap H locs) (hdg : decode cc pc = .ok (.return_, 1)) : W p l e R s m args below meth c H locs 0 0 (MQ below (kQv D A w1) args s 0 0 A) (F0 m pc ls []) := by
  obtain ⟨hx, hb, hr, hml, hown, hts, hT, hlk, hK, hA, hZ⟩ := hat
  exact W.vret hx hb hr (fun t ht hW => ⟨⟨(), rfl, trivial, by show va_P D vwCl w1 t.heap; rw [ht]; exact hP⟩, hS.F ht⟩) hS.2.2 hdg hlk
theorem k_aret {r v : Nat} {K : String} (hat : kAt D cI cJ cQ tp p s m meth c args cc nL (some (.object K)) C A) (hP : va_P D vwCl w1 H) (hS : va_S A s.heap H locs) (hv : v = r) (hdg : decode cc pc = .ok (.areturn, 1)) : W p l e R s m args below meth c H locs 0 0 (MQ below (kQr D A w1 r) args s 0 0 A) (F0 m pc ls [.ref v]) := by
  obtain ⟨hx, hb, hr, hml, hown, hts, hT, hlk, hK, hA, hZ⟩ := hat
  exact W.aret hx hb hr (Or.inl ⟨K, rfl⟩) (Or.inr ⟨v, rfl⟩) (fun t ht hW => ⟨⟨(), v, rfl, trivial, hv, by rw [ht]; exact hP⟩, hS.F ht⟩) hS.2.2 hdg hlk
end KC
