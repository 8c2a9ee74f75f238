theorem law_fun (L : Nat) (xs : Nat → Int32) (hL : L ≤ 4) : ∃ w' : XW, eL_law L xs (loL_law L xs FU) w00 = some (1, w') ∧ w'.1 - 0 ≤ 600000 ∧ w'.2.1 - 0 ≤ 7302250 := sorry
