/-- the law answers 1, whatever the script -/
theorem law_true (lt : Int32 → Option Int32) (hlt : ∀ i : Int32, ¬ i < 0 → ∃ v, lt i = some v) : F_L_law lt xI = some 1 := sorry
