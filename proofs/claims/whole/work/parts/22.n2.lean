/-- no value of two places -/
def am_n2 (w : Value) : Bool := match w with
  | .long _ => false
  | .double _ => false
  | _ => true
theorem am_nl_of {ls : List Value} {i : Nat} {w : Value} (h : ls[i]? = some w) (hw : am_n2 w = true) : am_nl ls (i + 1) = true := by
  simp only [am_nl, h]
  cases w <;> first | rfl | exact hw
