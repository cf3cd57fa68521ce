/-! Calls that look, and calls that tell one number. -/
theorem five (x : Int32) : x = 0 ∨ x = 1 ∨ x = 2 ∨ x = 3 ∨ x = 4 ∨ (x ≠ 0 ∧ x ≠ 1 ∧ x ≠ 2 ∧ x ≠ 3 ∧ x ≠ 4) := by
  by_cases h0 : x = 0
  · exact Or.inl h0
  by_cases h1 : x = 1
  · exact Or.inr (Or.inl h1)
  by_cases h2 : x = 2
  · exact Or.inr (Or.inr (Or.inl h2))
  by_cases h3 : x = 3
  · exact Or.inr (Or.inr (Or.inr (Or.inl h3)))
  by_cases h4 : x = 4
  · exact Or.inr (Or.inr (Or.inr (Or.inr (Or.inl h4))))
  exact Or.inr (Or.inr (Or.inr (Or.inr (Or.inr ⟨h0, h1, h2, h3, h4⟩))))
theorem isIn_out {x : Int32} {l h : Nat} (hh : h < 2 ^ 31) (hl : l < 2 ^ 31) (hn : ∀ n, l ≤ n → n ≤ h → x ≠ nI n) : Md_isIn x (nI l) (nI h) = some false := isIn_f hn hh hl
theorem st_fault {a b : Nat → Nat} {τ : Ex} {ν : Nm} (h : Inv a b τ ν) (x : Int32) : ∃ v, Fm_fault ν x = some v ∧ Md_fault ν x = some v := by
  obtain ⟨_, _, _, _, h6, h7⟩ := h.2.2.2.2.2.2.2
  unfold Fm_fault Md_fault
  rw [h6, h7]
  by_cases h0 : x = 0
  · exact ⟨_, by rw [if_neg (by simp [h0])], by rw [if_neg (by simp [h0])]⟩
  · by_cases h1 : x = 1
    · exact ⟨_, by rw [if_pos h0, if_neg (by simp [h1])], by rw [if_pos h0, if_neg (by simp [h1])]⟩
    · exact ⟨_, by rw [if_pos h0, if_pos h1], by rw [if_pos h0, if_pos h1]⟩
theorem st_of {a b : Nat → Nat} {τ : Ex} {ν : Nm} (h : Inv a b τ ν) (x y : Int32) : ∃ v, Fm_of ν x y = some v ∧ Md_of ν x y = some v := by
  have hw := h.1
  have hc := C1_0 h
  have hm := M1_0 h hc
  unfold Fm_of Md_of
  rcases below_cases x (a 0) with ⟨c, h1, rfl⟩ | hx
  · have h4 : c < 4 := by have := (wb hw).1; omega
    rw [c_has_t hc hw h1, m_isCord_t hm hw h1]
    simp only [Option.bind_some, b2iT, not_false_eq_true, if_true, inb_nI (show c < 2 ^ 31 by omega), nI_clamp (show c < 2 ^ 31 by omega), decide_eq_true h4, cr_rest hc h4, cr_ends hc h4, cr_min hc h4, cr_price hc h4, (cr hc).2.2.2.2.2.2.2.2.2.2.2.2, mr hm (show 28 < 1385 by decide) (by decide)]
    rcases five y with rfl | rfl | rfl | rfl | rfl | ⟨n0, n1, n2, n3, n4⟩
    · refine ⟨_, by rw [if_pos rfl], ?_⟩
      rw [show Md_isIn 0 0 1 = some true from rfl]
      simp only [lit_nI, nI_add, nI_mul, b2iT', b2iF', Option.bind_some, if_true, if_false, not_true_eq_false, not_false_eq_true]
      rw [inb_nI (by omega), nI_clamp (by omega), if_pos (by simp; omega), mr hm (by omega) (by omega)]; rfl
    · refine ⟨_, by rw [if_neg (by decide), if_pos rfl], ?_⟩
      rw [show Md_isIn 1 0 1 = some true from rfl]
      simp only [lit_nI, nI_add, nI_mul, b2iT', b2iF', Option.bind_some, if_true, if_false, not_true_eq_false, not_false_eq_true]
      rw [inb_nI (by omega), nI_clamp (by omega), if_pos (by simp; omega), mr hm (by omega) (by omega), show 20 + 2 * c + 1 = 21 + 2 * c by omega]
    · refine ⟨_, by rw [if_neg (by decide), if_neg (by decide), if_pos rfl], ?_⟩
      rw [show Md_isIn 2 0 1 = some false from rfl, show Md_isIn 2 2 3 = some true from rfl, show (2 : Int32) - 2 = nI 0 from rfl, m_get hm h4 (by decide)]
      rfl
    · refine ⟨_, by rw [if_neg (by decide), if_neg (by decide), if_neg (by decide), if_pos rfl], ?_⟩
      rw [show Md_isIn 3 0 1 = some false from rfl, show Md_isIn 3 2 3 = some true from rfl, show (3 : Int32) - 2 = nI 1 from rfl, m_get hm h4 (by decide), show 12 + 2 * c + 1 = 13 + 2 * c by omega]
      rfl
    · refine ⟨_, by rw [if_neg (by decide), if_neg (by decide), if_neg (by decide), if_neg (by decide), if_pos rfl], ?_⟩
      rw [show Md_isIn 4 0 1 = some false from rfl, show Md_isIn 4 2 3 = some false from rfl]
      rfl
    · refine ⟨_, by rw [if_neg n0, if_neg n1, if_neg n2, if_neg n3, if_neg n4], ?_⟩
      have e1 : Md_isIn y 0 1 = some false := isIn_f (l := 0) (h := 1) (fun n _ h2 => by rcases (show n = 0 ∨ n = 1 by omega) with rfl | rfl <;> assumption) (by decide) (by decide)
      have e2 : Md_isIn y 2 3 = some false := isIn_f (l := 2) (h := 3) (fun n h1 h2 => by rcases (show n = 2 ∨ n = 3 by omega) with rfl | rfl <;> assumption) (by decide) (by decide)
      rw [e1, e2]
      simp only [Option.bind_some, b2iF, if_true, n4, not_false_eq_true]
  · rw [c_has_f hc hw hx, m_isCord_f hm hw hx]
    exact ⟨_, rfl, rfl⟩
