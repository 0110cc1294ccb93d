/-! The start: nothing beyond. -/
set_option maxRecDepth 100000 in
theorem hE_n (q : Nat) : hE.2.2 (q + 95) = none := rfl
theorem j87 (p : Nat) : jOf (hE.2.2 87) p = 0 := rfl
