theorem main_f (b L : Nat) (xs : Nat → Int32) (hL : L ≤ 3072) (n : Nat) : ∃ S', f_L_law (b, L, xs) 300 ((fun _ => none, n, 0, n + 601024, 7293033) : xS) = some (1, S') := sorry
