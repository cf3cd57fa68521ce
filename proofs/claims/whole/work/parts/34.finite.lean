/-! Calls whose arguments are few: both sides worked out. -/
theorem right_in : ∀ l, l < 13 → ∀ o, o < 11 → ∀ b, b < 2 → Fm_right (nI l) (nI o) (nI b) = Md_right (nI l) (nI o) (nI b) ∧ (Fm_right (nI l) (nI o) (nI b)).isSome = true := by decide +kernel
