theorem law_pure : ∀ (xs : Nat → Int32) (L : Nat), L ≤ 260 → m_law xs L S_init = some () := sorry
