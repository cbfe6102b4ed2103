/-! the law as a function answers 1 -/
theorem law_one (sL : Nat) (a0 : Nat → Int32) : g_law sL a0 sC0 0 = some 1 := sorry
