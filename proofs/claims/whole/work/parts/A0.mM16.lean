/-! ===== an alternative's end: the model ===== -/
theorem cvN_neg {n : Nat} {x : Int} (h : x < 0) : cvN n x = -1 := if_pos h
theorem cvN_pos {n : Nat} {x : Int} (h : 0 ≤ x) : cvN n x = (n : Int) - x := if_neg (by omega)
