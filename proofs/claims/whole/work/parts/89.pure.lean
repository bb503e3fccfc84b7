theorem law_pure (xs : Nat → Int32) (Ls : Nat) (hL : Ls ≤ 320) : ∃ F, f_L_law_18 F xs Ls F 0 am_gi am_w0 = some 1 := sorry
