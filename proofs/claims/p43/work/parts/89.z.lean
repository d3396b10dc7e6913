theorem council_true (xs : Nat → Int32) (L : Nat) (hL : L ≤ 260) (a0 : Nat) (h0 : a0 ≤ 340) : ∃ σr, f_L_council xs L (nI a0) = some (1, σr) := sorry
