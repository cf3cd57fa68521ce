/-! Numbers that are asked for: cords, sets, texts; both sides. -/
theorem neg1 : ∀ {c : Nat}, c < 2 ^ 31 → nI c ≠ -1 := fun {c} h e => by
  have := nI_pos h
  rw [e] at this
  exact this (by decide)
theorem b2iT : (b2i true = 0) = False := by simp [b2i]
theorem b2iF : (b2i false = 0) = True := by simp [b2i]
theorem below_cases (x : Int32) (n : Nat) : (∃ c, c < n ∧ x = nI c) ∨ ∀ c, c < n → x ≠ nI c := by
  by_cases h : ∃ c, c < n ∧ x = nI c
  · exact Or.inl h
  · exact Or.inr (fun c hc e => h ⟨c, hc, e⟩)
theorem isIn_t {l n h : Nat} (h1 : l ≤ n) (h2 : n ≤ h) (h3 : h < 2 ^ 31) : Md_isIn (nI n) (nI l) (nI h) = some true := by
  unfold Md_isIn
  rw [if_neg (by rw [nI_lt' (by omega) (by omega)]; omega), if_neg (by rw [nI_lt' (by omega) (by omega)]; omega)]
theorem isIn_f {x : Int32} {l h : Nat} (hn : ∀ n, l ≤ n → n ≤ h → x ≠ nI n) (h3 : h < 2 ^ 31) (hl : l < 2 ^ 31) : Md_isIn x (nI l) (nI h) = some false := by
  unfold Md_isIn
  rcases arg_cases x with q | ⟨j, hj, rfl⟩
  · rw [if_pos (Int32.lt_of_lt_of_le q (nI_pos' hl))]
  · by_cases h1 : j < l
    · rw [if_pos (by rw [nI_lt' hj hl]; exact h1)]
    · by_cases h2 : h < j
      · rw [if_neg (by rw [nI_lt' hj hl]; exact h1), if_pos (by rw [nI_lt' h3 hj]; exact h2)]
      · exact absurd rfl (hn j (by omega) (by omega))
theorem isIn0_t {c n : Nat} (h : c < n) (hn : n < 2 ^ 31) : Md_isIn (nI c) (nI 0) (nI n - nI 1) = some true := by
  rw [nI_sub (by omega)]; exact isIn_t (by omega) (by omega) (by omega)
theorem isIn0_f {x : Int32} {n : Nat} (h : ∀ c, c < n → x ≠ nI c) (hn : n < 2 ^ 31) : Md_isIn x (nI 0) (nI n - nI 1) = some false := by
  by_cases e : n = 0
  · subst e
    unfold Md_isIn
    by_cases q : x < nI 0
    · rw [if_pos q]
    · rw [if_neg q, if_pos]
      exact Int32.lt_of_lt_of_le (by decide) (Int32.not_lt.mp q)
  · rw [nI_sub (by omega)]; exact isIn_f (fun c _ h2 => h c (by omega)) (by omega) (by omega)
theorem isInS_t {s k : Nat} (hk : k ≤ 4) (h1 : 1 ≤ s) (h2 : s < 2 ^ k) : Md_isIn (nI s) (nI 1) (nI (1 * 2 ^ k) - nI 1) = some true := by
  have : 2 ^ k ≤ 2 ^ 4 := Nat.pow_le_pow_right (by omega) hk
  rw [nI_sub (by omega)]; exact isIn_t (by omega) (by omega) (by omega)
theorem isInS_f {x : Int32} {k : Nat} (hk : k ≤ 4) (h : ∀ s, 1 ≤ s → s < 2 ^ k → x ≠ nI s) : Md_isIn x (nI 1) (nI (1 * 2 ^ k) - nI 1) = some false := by
  have : 2 ^ k ≤ 2 ^ 4 := Nat.pow_le_pow_right (by omega) hk
  have : 1 ≤ 2 ^ k := Nat.one_le_two_pow
  rw [nI_sub (by omega)]; exact isIn_f (fun c h1 h2 => h c h1 (by omega)) (by omega) (by omega)
theorem set_cases (x : Int32) (k : Nat) : (∃ s, 1 ≤ s ∧ s < 2 ^ k ∧ x = nI s) ∨ ∀ s, 1 ≤ s → s < 2 ^ k → x ≠ nI s := by
  by_cases h : ∃ s, 1 ≤ s ∧ s < 2 ^ k ∧ x = nI s
  · exact Or.inl h
  · exact Or.inr (fun c h1 h2 e => h ⟨c, h1, h2, e⟩)
-- cords
theorem c_has_t {a : Nat → Nat} {ν0 ν : Nm} (h : C1 a ν0 ν) (hw : WF a) {c : Nat} (hc : c < a 0) : Pt_has ν 2 (nI c) = some true := by
  have := (wb hw).1
  unfold Pt_has
  simp only [(cr h).1, lit_nI, nI_add, nI_mul, b2iT', b2iF', Option.bind_some, if_true, if_false, not_true_eq_false, not_false_eq_true]
  rw [if_neg (by rw [nI_lt' (by omega) (by omega)]; omega), if_neg (by rw [nI_le' (by omega) (by omega)]; omega), if_neg (by rw [nI_le' (by omega) (by omega)]; omega)]
theorem c_has_f {a : Nat → Nat} {ν0 ν : Nm} (h : C1 a ν0 ν) (hw : WF a) {x : Int32} (hx : ∀ c, c < a 0 → x ≠ nI c) : Pt_has ν 2 x = some false := by
  have := (wb hw).1
  unfold Pt_has
  simp only [(cr h).1]
  rcases arg_cases x with q | ⟨j, hj, rfl⟩
  · rw [if_pos q]
  · rw [if_neg (nI_pos hj), if_pos]
    rw [nI_le' (by omega) hj]
    exact Nat.le_of_not_lt (fun q => hx j q rfl)
theorem m_isCord_t {a : Nat → Nat} {ν0 ν : Nm} (h : M1 a ν0 ν) (hw : WF a) {c : Nat} (hc : c < a 0) : Md_isCord ν (nI c) = some true := by
  have := (wb hw).1
  unfold Md_isCord
  simp only [mr h (show 0 < 1385 by decide) (by decide), lit_nI, nI_add, nI_mul, b2iT', b2iF', Option.bind_some, if_true, if_false, not_true_eq_false, not_false_eq_true]
  rw [isIn0_t hc (by omega)]; rfl
theorem m_isCord_f {a : Nat → Nat} {ν0 ν : Nm} (h : M1 a ν0 ν) (hw : WF a) {x : Int32} (hx : ∀ c, c < a 0 → x ≠ nI c) : Md_isCord ν x = some false := by
  have := (wb hw).1
  unfold Md_isCord
  simp only [mr h (show 0 < 1385 by decide) (by decide), lit_nI, nI_add, nI_mul, b2iT', b2iF', Option.bind_some, if_true, if_false, not_true_eq_false, not_false_eq_true]
  rw [isIn0_f hx (by omega)]; rfl
-- sets
theorem c_all {a : Nat → Nat} {ν0 ν : Nm} (h : C1 a ν0 ν) (hw : WF a) : Fm_allCords ν = some (nI (2 ^ a 0 - 1)) := by
  have := (wb hw).1
  have : 1 ≤ 2 ^ a 0 := Nat.one_le_two_pow
  unfold Fm_allCords
  simp only [(cr h).1, lit_nI]
  rw [← lit_nI 31, nI_shl (by omega), Nat.one_mul, nI_sub (by omega)]
theorem c_set_t {a : Nat → Nat} {ν0 ν : Nm} (h : C1 a ν0 ν) (hw : WF a) {s : Nat} (h1 : 1 ≤ s) (h2 : s < 2 ^ a 0) : Fm_isSet ν (nI s) = some true := by
  have := (wb hw).1
  have : 2 ^ a 0 ≤ 2 ^ 4 := Nat.pow_le_pow_right (by omega) this
  unfold Fm_isSet
  rw [c_all h hw]
  simp only [lit_nI, nI_add, nI_mul, b2iT', b2iF', Option.bind_some, if_true, if_false, not_true_eq_false, not_false_eq_true, within_isIn]
  rw [isIn_t h1 (by omega) (by omega)]; rfl
theorem c_set_f {a : Nat → Nat} {ν0 ν : Nm} (h : C1 a ν0 ν) (hw : WF a) {x : Int32} (hx : ∀ s, 1 ≤ s → s < 2 ^ a 0 → x ≠ nI s) : Fm_isSet ν x = some false := by
  have := (wb hw).1
  have : 2 ^ a 0 ≤ 2 ^ 4 := Nat.pow_le_pow_right (by omega) this
  unfold Fm_isSet
  rw [c_all h hw]
  simp only [lit_nI, nI_add, nI_mul, b2iT', b2iF', Option.bind_some, if_true, if_false, not_true_eq_false, not_false_eq_true, within_isIn]
  rw [isIn_f (fun n h1 h2 => hx n h1 (by omega)) (by omega) (by omega)]; rfl
theorem m_set_t {a : Nat → Nat} {ν0 ν : Nm} (h : M1 a ν0 ν) (hw : WF a) {s : Nat} (h1 : 1 ≤ s) (h2 : s < 2 ^ a 0) : Md_areCords ν (nI s) = some true := by
  have := (wb hw).1
  have : 2 ^ a 0 ≤ 2 ^ 4 := Nat.pow_le_pow_right (by omega) this
  unfold Md_areCords
  simp only [mr h (show 0 < 1385 by decide) (by decide), lit_nI]
  rw [← lit_nI 31, nI_shl (by omega), isInS_t (by omega) h1 h2]; rfl
theorem m_set_f {a : Nat → Nat} {ν0 ν : Nm} (h : M1 a ν0 ν) (hw : WF a) {x : Int32} (hx : ∀ s, 1 ≤ s → s < 2 ^ a 0 → x ≠ nI s) : Md_areCords ν x = some false := by
  have := (wb hw).1
  unfold Md_areCords
  simp only [mr h (show 0 < 1385 by decide) (by decide), lit_nI]
  rw [← lit_nI 31, nI_shl (by omega), isInS_f (by omega) hx]; rfl
-- texts
theorem c_text_t {a : Nat → Nat} {ν0 ν : Nm} (h : C1 a ν0 ν) (hw : WF a) {c : Nat} (hc : c < a 2) : Fm_hasText ν (nI c) = some true := by
  have := wb hw
  unfold Fm_hasText
  simp only [(cr h).2.2.1, lit_nI, nI_add, nI_mul, b2iT', b2iF', Option.bind_some, if_true, if_false, not_true_eq_false, not_false_eq_true]
  rw [if_neg (by rw [nI_lt' (by omega) (by omega)]; omega), if_neg (by rw [nI_le' (by omega) (by omega)]; omega), if_neg (by rw [nI_le' (by omega) (by omega)]; omega)]
theorem c_text_f {a : Nat → Nat} {ν0 ν : Nm} (h : C1 a ν0 ν) (hw : WF a) {x : Int32} (hx : ∀ c, c < a 2 → x ≠ nI c) : Fm_hasText ν x = some false := by
  have := wb hw
  unfold Fm_hasText
  simp only [(cr h).2.2.1]
  rcases arg_cases x with q | ⟨j, hj, rfl⟩
  · rw [if_pos q]
  · rw [if_neg (nI_pos hj), if_pos]
    rw [nI_le' (by omega) hj]
    exact Nat.le_of_not_lt (fun q => hx j q rfl)
theorem m_get {a : Nat → Nat} {ν0 ν : Nm} (h : M1 a ν0 ν) {c w : Nat} (hc : c < 4) (hw : w < 2) : Md_get ν (nI c) (nI w) = some (nI (a (12 + 2 * c + w))) := by
  unfold Md_get
  simp only [lit_nI, nI_add, nI_mul, b2iT', b2iF', Option.bind_some, if_true, if_false, not_true_eq_false, not_false_eq_true]
  rw [inb_nI (by omega), nI_clamp (by omega), if_pos (by simp; omega), mr h (by omega) (by omega)]
theorem m_put {a : Nat → Nat} {ν0 ν : Nm} (h : M1 a ν0 ν) {c w v : Nat} (hc : c < 4) (hw : w < 2) : ∃ ν2, Md_put (nI c) (nI w) (nI v) ν = some ν2 ∧ M1 (upn a (12 + 2 * c + w) v) ν0 ν2 := by
  unfold Md_put
  simp only [lit_nI, nI_add, nI_mul, b2iT', b2iF', Option.bind_some, if_true, if_false, not_true_eq_false, not_false_eq_true]
  rw [inb_nI (by omega), nI_clamp (by omega), if_pos (by simp; omega)]
  exact ⟨_, rfl, M1_up h v (by omega)⟩
theorem m_full {a : Nat → Nat} {ν0 ν : Nm} (h : M1 a ν0 ν) {c : Nat} (hc : c < 4) : Md_full ν (nI c) = some (nI (64 * a (20 + 2 * c))) := by
  unfold Md_full
  simp only [lit_nI, nI_add, nI_mul, b2iT', b2iF', Option.bind_some, if_true, if_false, not_true_eq_false, not_false_eq_true]
  rw [inb_nI (by omega), nI_clamp (by omega), if_pos (by simp; omega), mr h (by omega) (by omega), nI_mul]
theorem m_isOut {a : Nat → Nat} {ν0 ν : Nm} (h : M1 a ν0 ν) (hw : WF a) {c : Nat} (hc : c < 4) : Md_isOut ν (nI c) = some (decide (a (12 + 2 * c) = 0)) := by
  have := (wbc hw hc).1
  unfold Md_isOut
  simp only [lit_nI, nI_add, nI_mul, b2iT', b2iF', Option.bind_some, if_true, if_false, not_true_eq_false, not_false_eq_true, m_get h hc (show 0 < 2 by decide), Nat.add_zero, nI_eq' (show a (12 + 2 * c) < 2 ^ 31 by omega) (show 0 < 2 ^ 31 by decide)]
  by_cases e : a (12 + 2 * c) = 0 <;> simp [e]
theorem bits_in : ∀ k, k < 16 → Md_bits (nI k) = some (nI (pc16 k)) := by decide +kernel
theorem bc16 {k : Nat} (h : k < 16) : In_bitCount (nI k) = some (nI (pc16 k)) := by
  have := bc_in 0 (by decide) k (by omega)
  simpa using this
theorem pc_le : ∀ k, k < 4 → pc16 k ≤ 2 ∧ (pc16 k = 0 ↔ k = 0) := by decide +kernel
theorem m_g0 {a : Nat → Nat} {ν0 ν : Nm} (h : M1 a ν0 ν) {c : Nat} (hc : c < 4) : Md_get ν (nI c) (nI 0) = some (nI (a (12 + 2 * c))) := m_get h hc (by decide)
theorem m_g1 {a : Nat → Nat} {ν0 ν : Nm} (h : M1 a ν0 ν) {c : Nat} (hc : c < 4) : Md_get ν (nI c) (nI 1) = some (nI (a (13 + 2 * c))) := by
  rw [m_get h hc (by decide), show 12 + 2 * c + 1 = 13 + 2 * c by omega]
theorem nI_shl' {a k : Nat} (hk : k < 32) : nI a <<< (nI k &&& nI 31) = nI (a * 2 ^ k) := nI_shl hk
theorem nI_shr' {a k : Nat} (ha : a < 2 ^ 31) (hk : k < 32) : nI a >>> (nI k &&& nI 31) = nI (a / 2 ^ k) := nI_shr ha hk
theorem nI_mod' {a b : Nat} (ha : a < 2 ^ 31) (hb : b < 2 ^ 31) : nI a - nI (a / b * b) = nI (a % b) := by
  rw [← nI_mul, ← nI_div ha hb, nI_mod ha hb]
theorem nn1 {c : Nat} (h : c < 2 ^ 31) : (nI c = -nI 1) = False := eq_false (fun e => neg1 h e)
theorem nn1' {c : Nat} (h : c < 2 ^ 31) : (-nI 1 = nI c) = False := eq_false (fun e => neg1 h e.symm)
