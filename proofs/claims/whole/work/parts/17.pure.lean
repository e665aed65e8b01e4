theorem law_pure (L : Nat) (xs : Nat → Int32) (hL : L ≤ 320) : ∃ rs, m_X3_clear z0 = some rs ∧ m_L_law L xs rs = some (1 : Int32) := sorry
