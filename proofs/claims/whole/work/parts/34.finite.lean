/-! Calls whose arguments are few: both sides worked out. -/
theorem within_isIn (x y z : Int32) : Fm_within x y z = Md_isIn x y z := rfl
theorem isIn_cases (x : Int32) (l h : Nat) (hh : h + 1 < 2 ^ 31) (hl : l ≤ h + 1) : (∃ n, l ≤ n ∧ n ≤ h ∧ x = nI n ∧ Md_isIn x (nI l) (nI h) = some true) ∨ ((∀ n, l ≤ n → n ≤ h → x ≠ nI n) ∧ Md_isIn x (nI l) (nI h) = some false) := by
  unfold Md_isIn
  rcases arg_cases x with q | ⟨j, hj, rfl⟩
  · refine Or.inr ⟨fun n h1 h2 e => ?_, ?_⟩
    · subst e
      exact nI_pos (by omega) q
    · by_cases h1 : x < nI l
      · rw [if_pos h1]
      · exfalso
        exact h1 (Int32.lt_of_lt_of_le q (nI_pos' (by omega)))
  · have hl2 : l < 2 ^ 31 := by omega
    have hh2 : h < 2 ^ 31 := by omega
    · simp only [nI_lt' hj hl2, nI_lt' hh2 hj]
      by_cases h1 : j < l
      · refine Or.inr ⟨fun n a b e => ?_, by rw [if_pos h1]⟩
        rw [nI_eq' hj (by omega)] at e
        omega
      · rw [if_neg h1]
        by_cases h2 : h < j
        · refine Or.inr ⟨fun n a b e => ?_, by rw [if_pos h2]⟩
          rw [nI_eq' hj (by omega)] at e
          omega
        · exact Or.inl ⟨j, by omega, by omega, rfl, by rw [if_neg h2]⟩
theorem right_in : ∀ l, l < 13 → ∀ o, o < 11 → ∀ b, b < 2 → Fm_right (nI l) (nI o) (nI b) = Md_right (nI l) (nI o) (nI b) ∧ (Fm_right (nI l) (nI o) (nI b)).isSome = true := by decide +kernel
theorem tries_in : ∀ l, l < 4 → ∀ o, o < 11 → ∀ t, t < 5 → ∀ b, b < 2 → Fm_tries (nI l) (nI o) (nI t) (nI b) = Md_tries (nI l) (nI o) (nI t) (nI b) ∧ (Fm_tries (nI l) (nI o) (nI t) (nI b)).isSome = true := by decide +kernel
def pc16 (k : Nat) : Nat := (List.range 16).foldl (fun n i => n + (k / 2 ^ i % 2)) 0
theorem bc_in : ∀ a, a < 64 → ∀ b, b < 64 → In_bitCount (nI (64 * a + b)) = some (nI (pc16 (64 * a + b))) := by decide +kernel
