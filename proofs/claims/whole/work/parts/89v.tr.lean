/-! What the model asks of a token. -/
def tkL : List (Nat × Nat) := [(0, 131), (1, 1), (4, 128), (5, 129), (35, 35), (40, 40), (41, 41), (42, 42), (43, 43), (45, 45), (47, 47), (59, 59), (60, 60), (61, 61), (62, 62)]
theorem tr_a : (∀ r ∈ tkL, (nI 0 = nI r.1 ↔ 131 = r.2)) ∧ (∀ r ∈ tkL, (nI 1 = nI r.1 ↔ 1 = r.2)) ∧ (∀ r ∈ tkL, (nI 4 = nI r.1 ↔ 128 = r.2)) ∧ (∀ r ∈ tkL, (nI 5 = nI r.1 ↔ 129 = r.2)) ∧ (∀ T, T < 27 → 2 ≤ T → ∀ r ∈ tkL, (nI 2 = nI r.1 ↔ T = r.2)) ∧ (∀ T, T < 63 → sgC T = true → ∀ r ∈ tkL, (nI T = nI r.1 ↔ T = r.2)) ∧ (∀ r ∈ tkL, (nI 3 = nI r.1 ↔ 0 = r.2)) ∧ (∀ r ∈ tkL, (nI 58 = nI r.1 ↔ 0 = r.2)) ∧ (∀ r ∈ tkL, (nI 2 = nI r.1 ↔ 0 = r.2)) := by decide +kernel
theorem tr_eq {T : Nat} {t : Int32} {w : Int64} (h : TR T t w) {u v : Nat} (hm : (u, v) ∈ tkL) : (t = nI u) = (T = v) := by
  obtain ⟨a1, a2, a3, a4, a5, a6, a7, a8, a9⟩ := tr_a
  apply propext
  rcases h with ⟨rfl, rfl⟩ | ⟨rfl, rfl⟩ | ⟨h1, h2, rfl, -⟩ | ⟨rfl, rfl⟩ | ⟨rfl, rfl⟩ | ⟨h1, rfl⟩ | ⟨rfl, rfl | rfl | ⟨rfl, -⟩⟩
  · exact a1 _ hm
  · exact a2 _ hm
  · exact a5 T (by omega) h1 _ hm
  · exact a3 _ hm
  · exact a4 _ hm
  · exact a6 T (by have := sgC_rng h1; omega) h1 _ hm
  · exact a7 _ hm
  · exact a8 _ hm
  · exact a9 _ hm
theorem tr_le {T : Nat} {t : Int32} {w : Int64} (h : TR T t w) : T ≤ 131 := by
  rcases h with ⟨rfl, rfl⟩ | ⟨rfl, rfl⟩ | ⟨h1, h2, rfl, -⟩ | ⟨rfl, rfl⟩ | ⟨rfl, rfl⟩ | ⟨h1, rfl⟩ | ⟨rfl, rfl | rfl | ⟨rfl, -⟩⟩ <;> first | omega | (have := sgC_rng h1; omega)
theorem tr_b : ∀ T, T < 63 → sgC T = true → nI T ≠ nI 2 := by decide +kernel
/-- words -/
theorem tr_word {T : Nat} {t : Int32} {w : Int64} (h : TR T t w) : (t = nI 2 ∧ ∀ k, 2 ≤ k → k ≤ 26 → (w = wI k) = (T = k)) ∨ (t ≠ nI 2 ∧ ∀ k, 2 ≤ k → k ≤ 26 → T ≠ k) := by
  rcases h with ⟨rfl, rfl⟩ | ⟨rfl, rfl⟩ | ⟨h1, h2, rfl, rfl⟩ | ⟨rfl, rfl⟩ | ⟨rfl, rfl⟩ | ⟨h1, rfl⟩ | ⟨rfl, rfl | rfl | ⟨rfl, h3⟩⟩
  · exact Or.inr ⟨by decide, fun k _ _ => by omega⟩
  · exact Or.inr ⟨by decide, fun k _ _ => by omega⟩
  · refine Or.inl ⟨rfl, fun k k1 k2 => propext ⟨fun e => wI_inj T (by omega) h1 k (by omega) k1 e, fun e => by rw [e]⟩⟩
  · exact Or.inr ⟨by decide, fun k _ _ => by omega⟩
  · exact Or.inr ⟨by decide, fun k _ _ => by omega⟩
  · have := sgC_rng h1
    exact Or.inr ⟨tr_b T (by omega) h1, fun k _ _ => by omega⟩
  · exact Or.inr ⟨by decide, fun k _ _ => by omega⟩
  · exact Or.inr ⟨by decide, fun k _ _ => by omega⟩
  · exact Or.inl ⟨rfl, fun k k1 k2 => propext ⟨fun e => absurd e (h3 k k1 k2), fun e => by omega⟩⟩
theorem m_isWord {T : Nat} {ν : Nm} (h : TR T (gi ν 313 9) (gl ν 313 11)) {k : Nat} (h2 : 2 ≤ k) (h26 : k ≤ 26) : Md_isWord ν (wI k) = some (decide (T = k)) := by
  unfold Md_isWord
  rw [show (2 : Int32) = nI 2 from rfl]
  rcases tr_word h with ⟨t, hw⟩ | ⟨t, hw⟩
  · rw [if_neg (fun z => z t)]
    simp only [lg_eq, hw k h2 h26]
    by_cases q : T = k
    · rw [if_neg (fun z => z q), decide_eq_true q]
    · rw [if_pos q, decide_eq_false q]
  · rw [if_pos t, decide_eq_false (hw k h2 h26)]
/-- names -/
def nmT (T : Nat) : Nat := if T = 22 then 0 else if T = 4 then 1 else if T = 23 then 2 else if T = 24 then 3 else if T = 5 then 4 else if T = 25 then 5 else if T = 26 then 6 else 7
def orN (b : Nat) (x : Nat) : Int32 := if x < b then nI x else -1
theorem nm_none : ∀ T, T < 132 → (∀ k, k < 27 → 2 ≤ k → T ≠ k) → nmT T = 7 := by decide +kernel
theorem m_nameOf {T : Nat} {ν : Nm} (h : TR T (gi ν 313 9) (gl ν 313 11)) : Md_nameOf ν = some (orN 7 (nmT T)) := by
  have hle := tr_le h
  unfold Md_nameOf
  rw [show (2 : Int32) = nI 2 from rfl]
  rcases tr_word h with ⟨t, hw⟩ | ⟨t, hw⟩
  · rw [if_pos t, w_time, w_cord, w_rest, w_long, w_price, w_lit, w_side]
    simp only [Option.bind_some, lg_eq, hw 22 (by omega) (by omega), hw 4 (by omega) (by omega), hw 23 (by omega) (by omega), hw 24 (by omega) (by omega), hw 5 (by omega) (by omega), hw 25 (by omega) (by omega), hw 26 (by omega) (by omega)]
    unfold nmT
    by_cases c1 : T = 22
    · rw [if_neg (fun z => z c1), if_pos c1]; rfl
    rw [if_pos c1, if_neg c1]
    by_cases c2 : T = 4
    · rw [if_neg (fun z => z c2), if_pos c2]; rfl
    rw [if_pos c2, if_neg c2]
    by_cases c3 : T = 23
    · rw [if_neg (fun z => z c3), if_pos c3]; rfl
    rw [if_pos c3, if_neg c3]
    by_cases c4 : T = 24
    · rw [if_neg (fun z => z c4), if_pos c4]; rfl
    rw [if_pos c4, if_neg c4]
    by_cases c5 : T = 5
    · rw [if_neg (fun z => z c5), if_pos c5]; rfl
    rw [if_pos c5, if_neg c5]
    by_cases c6 : T = 25
    · rw [if_neg (fun z => z c6), if_pos c6]; rfl
    rw [if_pos c6, if_neg c6]
    by_cases c7 : T = 26
    · rw [if_neg (fun z => z c7), if_pos c7]; rfl
    rw [if_pos c7, if_neg c7]; rfl
  · rw [if_neg t, nm_none T (by omega) (fun k k1 k2 => hw k k2 (by omega))]; rfl
/-- comparisons -/
def cmpT (T : Nat) : Nat := if T = 60 then 10 else if T = 128 then 11 else if T = 62 then 12 else if T = 129 then 13 else if T = 61 then 14 else if T = 35 then 15 else 99
theorem m_compareOf {T : Nat} {ν : Nm} (h : TR T (gi ν 313 9) (gl ν 313 11)) : Md_compareOf ν = some (orN 99 (cmpT T)) := by
  unfold Md_compareOf
  have e60 : (gi ν 313 9 = (60 : Int32)) = (T = 60) := tr_eq h (show (60, 60) ∈ tkL by decide)
  have e4 : (gi ν 313 9 = (4 : Int32)) = (T = 128) := tr_eq h (show (4, 128) ∈ tkL by decide)
  have e62 : (gi ν 313 9 = (62 : Int32)) = (T = 62) := tr_eq h (show (62, 62) ∈ tkL by decide)
  have e5 : (gi ν 313 9 = (5 : Int32)) = (T = 129) := tr_eq h (show (5, 129) ∈ tkL by decide)
  have e61 : (gi ν 313 9 = (61 : Int32)) = (T = 61) := tr_eq h (show (61, 61) ∈ tkL by decide)
  have e35 : (gi ν 313 9 = (35 : Int32)) = (T = 35) := tr_eq h (show (35, 35) ∈ tkL by decide)
  simp only [e60, e4, e62, e5, e61, e35]
  unfold cmpT
  by_cases c1 : T = 60
  · rw [if_neg (fun z => z c1), if_pos c1]; rfl
  rw [if_pos c1, if_neg c1]
  by_cases c2 : T = 128
  · rw [if_neg (fun z => z c2), if_pos c2]; rfl
  rw [if_pos c2, if_neg c2]
  by_cases c3 : T = 62
  · rw [if_neg (fun z => z c3), if_pos c3]; rfl
  rw [if_pos c3, if_neg c3]
  by_cases c4 : T = 129
  · rw [if_neg (fun z => z c4), if_pos c4]; rfl
  rw [if_pos c4, if_neg c4]
  by_cases c5 : T = 61
  · rw [if_neg (fun z => z c5), if_pos c5]; rfl
  rw [if_pos c5, if_neg c5]
  by_cases c6 : T = 35
  · rw [if_neg (fun z => z c6), if_pos c6]; rfl
  rw [if_pos c6, if_neg c6]; rfl
/-- kinds of clauses -/
def srT (T : Nat) : Nat := if T = 2 then 0 else if T = 3 then 1 else if T = 4 then 2 else if T = 6 then 3 else if T = 7 then 4 else if T = 8 then 5 else if T = 9 then 6 else if T = 10 then 7 else if T = 11 then 8 else if T = 12 then 9 else 10
theorem b2d0 (p : Prop) [Decidable p] : (b2i (decide p) = 0) = ¬ p := by
  by_cases h : p
  · rw [decide_eq_true h, b2iT]; simp [h]
  · rw [decide_eq_false h, b2iF]; simp [h]
theorem m_sortOf {T : Nat} {ν : Nm} (h : TR T (gi ν 313 9) (gl ν 313 11)) : Md_sortOf ν = some (orN 10 (srT T)) := by
  unfold Md_sortOf
  rw [w_lights, w_fails, w_cord, w_hands, w_left, w_right, w_snuff, w_renew, w_burn, w_minute]
  simp only [Option.bind_some, m_isWord h (show 2 ≤ 2 by omega) (by omega), m_isWord h (show 2 ≤ 3 by omega) (by omega), m_isWord h (show 2 ≤ 4 by omega) (by omega), m_isWord h (show 2 ≤ 6 by omega) (by omega), m_isWord h (show 2 ≤ 7 by omega) (by omega), m_isWord h (show 2 ≤ 8 by omega) (by omega), m_isWord h (show 2 ≤ 9 by omega) (by omega), m_isWord h (show 2 ≤ 10 by omega) (by omega), m_isWord h (show 2 ≤ 11 by omega) (by omega), m_isWord h (show 2 ≤ 12 by omega) (by omega), b2d0]
  unfold srT
  by_cases c1 : T = 2
  · rw [if_neg (fun z => z c1), if_pos c1]; rfl
  rw [if_pos c1, if_neg c1]
  by_cases c2 : T = 3
  · rw [if_neg (fun z => z c2), if_pos c2]; rfl
  rw [if_pos c2, if_neg c2]
  by_cases c3 : T = 4
  · rw [if_neg (fun z => z c3), if_pos c3]; rfl
  rw [if_pos c3, if_neg c3]
  by_cases c4 : T = 6
  · rw [if_neg (fun z => z c4), if_pos c4]; rfl
  rw [if_pos c4, if_neg c4]
  by_cases c5 : T = 7
  · rw [if_neg (fun z => z c5), if_pos c5]; rfl
  rw [if_pos c5, if_neg c5]
  by_cases c6 : T = 8
  · rw [if_neg (fun z => z c6), if_pos c6]; rfl
  rw [if_pos c6, if_neg c6]
  by_cases c7 : T = 9
  · rw [if_neg (fun z => z c7), if_pos c7]; rfl
  rw [if_pos c7, if_neg c7]
  by_cases c8 : T = 10
  · rw [if_neg (fun z => z c8), if_pos c8]; rfl
  rw [if_pos c8, if_neg c8]
  by_cases c9 : T = 11
  · rw [if_neg (fun z => z c9), if_pos c9]; rfl
  rw [if_pos c9, if_neg c9]
  by_cases c10 : T = 12
  · rw [if_neg (fun z => z c10), if_pos c10]; rfl
  rw [if_pos c10, if_neg c10]; rfl
