/-! test of identities -/
def D2 (A : Nat → Nat → Int) (r s c d : Nat) : Int := A r c * A s d - A r d * A s c
def D3 (A : Nat → Nat → Int) (r s t c d e : Nat) : Int := A r c * D2 A s t d e - A r d * D2 A s t c e + A r e * D2 A s t c d
def D4 (A : Nat → Nat → Int) (r s t u c d e f : Nat) : Int := A r c * D3 A s t u d e f - A r d * D3 A s t u c e f + A r e * D3 A s t u c d f - A r f * D3 A s t u c d e
theorem t1 (A : Nat → Nat → Int) (r s t c d e : Nat) : D2 A r s c d * D2 A r t c e - D2 A r t c d * D2 A r s c e = A r c * D3 A r s t c d e := by
  simp only [D2, D3]; grind
theorem t2 (A : Nat → Nat → Int) (r s t u c d e f : Nat) : D3 A r s t c d e * D3 A r s u c d f - D3 A r s u c d e * D3 A r s t c d f = D2 A r s c d * D4 A r s t u c d e f := by
  simp only [D2, D3, D4]; grind
