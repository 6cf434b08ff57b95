/-! ===== the start is related ===== -/
set_option maxRecDepth 20000 in
theorem z_8 (L : Nat) (xs : Nat → Int32) : gI (wFin L xs) 8 1 = 0 := rfl
