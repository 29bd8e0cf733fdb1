theorem pure_law {L : Nat} {xs : Nat → Int32} (hL : L ≤ 3072) : ∃ h', f_L_law (xs, L) hp0 = some (1, h') := sorry
