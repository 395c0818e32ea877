/-! ===== the start ===== -/
theorem pure_start {F : Nat} (hF : 100 ≤ F) : ∃ nums' w', f_X3_begin F 0 (fun _ => 0) 2 = some (2, nums') ∧ f_X12_layOnes F (fun _ => 0) 2 = some w' ∧ SR 2 3 nums' 0 0 (fun _ => 0) 0 (fun _ => 0) (fun _ => 0) (fun _ => 0) 0 0 0 (fun _ => 0) 0 0 (fun _ => 0) 0 0 0 0 (upd w' (1 : Int32).toNatClampNeg 3) (fun _ => 0) (fun _ => 0) (fun _ => 0) (fun _ => 0) := by
  obtain ⟨nums', b1, b2⟩ := beginC_ok hF (n := 2) (by decide) 0 (fun _ => 0)
  obtain ⟨w', l1, l2, l3, l4, l5⟩ := layM_ok hF (n := 2) (by decide) (fun _ => 0)
  obtain ⟨a1, a2, a3, a4⟩ := A0_T 2
  refine ⟨nums', w', b1, l1, ⟨2, 3, A0 2, rfl, rfl, b2, ⟨⟨?_, by decide, by decide, ⟨fun i j hi hj => ?_, l2.2⟩⟩, ?_, by decide⟩, a2, a3, a4⟩, ⟨0, 0, by decide, by decide, rfl, rfl, rfl, fun i hi => by omega⟩, ⟨0, fun _ => 0, fun _ => 0, fun _ => 0, by decide, rfl, rfl, fun e he => by omega⟩, ⟨0, by decide, rfl, rfl⟩, ⟨0, by decide, rfl, ⟨rfl, fun z => by cases z⟩, ⟨rfl, fun z => by cases z⟩⟩⟩
  · show upd w' 1 3 0 = nI 2
    rw [pk_un (by decide)]; exact l3
  · show upd w' 1 3 (2 + 5 * i + j) = _
    rw [pk_un (by omega)]; exact l2.1 i j hi hj
  · show upd w' 1 3 1 = nI 3
    exact pk_us
