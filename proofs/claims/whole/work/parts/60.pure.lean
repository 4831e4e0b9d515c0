theorem pure_law (L : Nat) (xs : Nat → Int32) (hL : L ≤ 3584) : ∃ σ1 : zS, fn_L_law_18 L xs 600 0 zs0 zm0 = some (1, σ1) := sorry
