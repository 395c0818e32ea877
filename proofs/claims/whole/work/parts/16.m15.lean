set_option maxHeartbeats 8000000 in
theorem pr3 (a b c y z w : Nat → Int) (r s t u d e f g : Nat) : D4 (fun i j => y j * a i + z j * b i + w j * c i) r s t u d e f g = 0 := by simp only [D2, D3, D4]; grind
