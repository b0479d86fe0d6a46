theorem pure_law (L : Nat) (xs : Nat → Int32) (hL : L ≤ 3584) : ∃ σ', f_law L xs Z9 = some ((), σ') := sorry
