/-! Calls that look along cords or lines. -/
theorem fsucc {k f : Nat} (h : k < f) : ∃ f2, f = f2 + 1 := ⟨f - 1, by omega⟩
def sm (g : Nat → Nat) : Nat → Nat → Nat
  | 0, _ => 0
  | k + 1, i => g i + sm g k (i + 1)
/-- ends that burn -/
def ebA (a : Nat → Nat) : Nat := sm (fun c => pc16 (a (13 + 2 * c))) 4 0
theorem ends01 : ∀ k, k < 4 → (nI k &&& 1) + (nI k >>> ((1 : Int32) &&& 31)) = nI (pc16 k) := by decide +kernel
theorem c_ends4 {a : Nat → Nat} {ν0 ν : Nm} (h : C1 a ν0 ν) (hw : WF a) : ∀ (k f i s : Nat), i + k = 4 → k < f → Pt_endsBurning_4 ν f 2 (nI s) (nI i) = some (nI (s + sm (fun c => pc16 (a (13 + 2 * c))) k i)) := by
  intro k
  induction k with
  | zero =>
    intro f i s hi hf
    obtain ⟨f, rfl⟩ := fsucc hf
    rw [Pt_endsBurning_4, lit_nI, if_pos (by rw [nI_le' (by omega) (by omega)]; omega)]
    rfl
  | succ k ih =>
    intro f i s hi hf
    obtain ⟨f, rfl⟩ := fsucc hf
    have hb := (wbc hw (show i < 4 by omega)).2.1
    rw [Pt_endsBurning_4, lit_nI, if_neg (by rw [nI_le' (by omega) (by omega)]; omega)]
    simp only [inb_nI (show i < 2 ^ 31 by omega), decide_eq_true (show i < 4 by omega), nI_clamp (show i < 2 ^ 31 by omega), if_true]
    rw [show (2 + 2 : Nat) = 4 from rfl, cr_ends h (by omega), ends01 _ (by omega), nI_add, lit_nI, nI_add, ih f (i + 1) _ (by omega) (by omega)]
    congr 2
    simp only [sm]
    omega
theorem c_ends {a : Nat → Nat} {ν0 ν : Nm} (h : C1 a ν0 ν) (hw : WF a) : Pt_endsBurning ν 2 = some (nI (ebA a)) := by
  unfold Pt_endsBurning ebA
  rw [show (0 : Int32) = nI 0 from rfl, c_ends4 h hw 4 FU 0 0 rfl (by unfold FU; omega), Nat.zero_add]
theorem m_ends4 {a : Nat → Nat} {ν0 ν : Nm} (h : M1 a ν0 ν) (hw : WF a) : ∀ (k f i s : Nat), i + k = a 0 → k < f → Md_endsNow_4 ν f (nI s) (nI i) = some (nI (s + sm (fun c => pc16 (a (13 + 2 * c))) k i)) := by
  have h4 := (wb hw).1
  intro k
  induction k with
  | zero =>
    intro f i s hi hf
    obtain ⟨f, rfl⟩ := fsucc hf
    rw [Md_endsNow_4, mr h (by decide) (by decide), if_pos (by rw [nI_le' (by omega) (by omega)]; omega)]
    rfl
  | succ k ih =>
    intro f i s hi hf
    obtain ⟨f, rfl⟩ := fsucc hf
    have hb := (wbc hw (show i < 4 by omega)).2.1
    rw [Md_endsNow_4, mr h (by decide) (by decide), if_neg (by rw [nI_le' (by omega) (by omega)]; omega), lit_nI, m_get h (show i < 4 by omega) (by decide), Option.bind_some, show 12 + 2 * i + 1 = 13 + 2 * i by omega, bits_in _ (by omega), Option.bind_some, nI_add, nI_add, ih f (i + 1) _ (by omega) (by omega)]
    congr 2
    simp only [sm]
    omega
theorem pc0 : pc16 0 = 0 := by decide
theorem eb_le {a : Nat → Nat} (hw : WF a) : ebA a = sm (fun c => pc16 (a (13 + 2 * c))) (a 0) 0 := by
  have h4 := (wb hw).1
  have e : ∀ c, c < 4 → a 0 ≤ c → a (13 + 2 * c) = 0 := fun c h1 h2 => (hw.2.2.2.1.1 c h1).2.1 h2
  unfold ebA
  rcases (show a 0 = 0 ∨ a 0 = 1 ∨ a 0 = 2 ∨ a 0 = 3 ∨ a 0 = 4 by omega) with q | q | q | q | q <;> rw [q] at e ⊢ <;> simp only [sm]
  · rw [e 0 (by omega) (by omega), e 1 (by omega) (by omega), e 2 (by omega) (by omega), e 3 (by omega) (by omega), pc0]
  · rw [e 1 (by omega) (by omega), e 2 (by omega) (by omega), e 3 (by omega) (by omega), pc0]
  · rw [e 2 (by omega) (by omega), e 3 (by omega) (by omega), pc0]
  · rw [e 3 (by omega) (by omega), pc0]
theorem m_ends {a : Nat → Nat} {ν0 ν : Nm} (h : M1 a ν0 ν) (hw : WF a) : Md_endsNow ν = some (nI (ebA a)) := by
  unfold Md_endsNow
  rw [show (0 : Int32) = nI 0 from rfl, m_ends4 h hw (a 0) FU 0 0 (by omega) (by have := (wb hw).1; unfold FU; omega), Nat.zero_add, eb_le hw]
theorem st_is {a b : Nat → Nat} {τ : Ex} {ν : Nm} (h : Inv a b τ ν) (x : Int32) : ∃ v, Fm_is ν x = some v ∧ Md_is ν x = some v := by
  have hw := h.1
  have hc := C1_0 h
  have hm := M1_0 h hc
  have r := cr hc
  unfold Fm_is Md_is
  rcases five x with rfl | rfl | rfl | rfl | rfl | ⟨n0, n1, n2, n3, n4⟩
  · exact ⟨_, by rw [if_pos rfl, r.2.2.2.2.2.2.2.2.1], by
      rw [show Md_isIn 0 0 2 = some true from rfl, Option.bind_some, if_neg (by decide), show (8 : Int32) + 0 = nI 8 from rfl, inb_nI (by decide), nI_clamp (by decide), if_pos (by decide), mr hm (by decide) (by decide)]⟩
  · exact ⟨_, by rw [if_neg (by decide), if_pos rfl, r.2.2.2.2.2.2.2.2.2.1], by
      rw [show Md_isIn 1 0 2 = some true from rfl, Option.bind_some, if_neg (by decide), show (8 : Int32) + 1 = nI 9 from rfl, inb_nI (by decide), nI_clamp (by decide), if_pos (by decide), mr hm (by decide) (by decide)]⟩
  · exact ⟨_, by rw [if_neg (by decide), if_neg (by decide), if_pos rfl, r.2.2.2.2.2.2.2.2.2.2.1], by
      rw [show Md_isIn 2 0 2 = some true from rfl, Option.bind_some, if_neg (by decide), show (8 : Int32) + 2 = nI 10 from rfl, inb_nI (by decide), nI_clamp (by decide), if_pos (by decide), mr hm (by decide) (by decide)]⟩
  · exact ⟨_, by rw [if_neg (by decide), if_neg (by decide), if_neg (by decide), if_pos rfl, c_ends hc hw, Option.bind_some], by
      rw [show Md_isIn 3 0 2 = some false from rfl, Option.bind_some, if_pos (by decide), if_neg (by decide), m_ends hm hw, Option.bind_some]⟩
  · exact ⟨_, by rw [if_neg (by decide), if_neg (by decide), if_neg (by decide), if_neg (by decide)], rfl⟩
  · have e1 : Md_isIn x 0 2 = some false := isIn_f (l := 0) (h := 2) (fun n _ h2 => by rcases (show n = 0 ∨ n = 1 ∨ n = 2 by omega) with rfl | rfl | rfl <;> assumption) (by decide) (by decide)
    exact ⟨_, by rw [if_neg n0, if_neg n1, if_neg n2, if_neg n3], by rw [e1, Option.bind_some, if_pos (by decide), if_pos n3]⟩
theorem burning_loop {a b : Nat → Nat} {τ : Ex} {ν : Nm} (h : Inv a b τ ν) : ∀ (k f f2 i : Nat) (s : Int32), i + k = a 0 → k < f → k < f2 → ∃ v, Fm_burning_4 ν f s (nI i) = some v ∧ Md_burning_4 ν f2 s (nI i) = some v := by
  have hw := h.1
  have hc := C1_0 h
  have hm := M1_0 h hc
  have h4 := (wb hw).1
  intro k
  induction k with
  | zero =>
    intro f f2 i s hi hf hf2
    obtain ⟨f, rfl⟩ := fsucc hf
    obtain ⟨f2, rfl⟩ := fsucc hf2
    exact ⟨s, by rw [Fm_burning_4, (cr hc).1, if_pos (by rw [nI_le' (by omega) (by omega)]; omega)], by rw [Md_burning_4, mr hm (by decide) (by decide), if_pos (by rw [nI_le' (by omega) (by omega)]; omega)]⟩
  | succ k ih =>
    intro f f2 i s hi hf hf2
    obtain ⟨f, rfl⟩ := fsucc hf
    obtain ⟨f2, rfl⟩ := fsucc hf2
    have hb := (wbc hw (show i < 4 by omega)).2.1
    have n1 : ¬ a 0 ≤ i := by omega
    have n2 : ¬ 4 ≤ i := by omega
    have n3 : i < 4 := by omega
    simp (disch := omega) only [Fm_burning_4, Md_burning_4, Fm_burning_44, Md_burning_31, (cr hc).1, mr hm, cr_ends hc, m_g1 hm, lit_nI, nI_add, nI_mul, nI_sub, nI_le', nI_lt', nI_eq', inb_nI, nI_clamp, b2iT', b2iF', b2i0', Option.bind_some, if_true, if_false, not_true_eq_false, not_false_eq_true, decide_eq_true_eq, decide_eq_false_iff_not, reduceCtorEq, Nat.add_zero, Nat.zero_add, n1, n2, n3]
    by_cases e : a (13 + 2 * i) = 0
    · simp only [e, if_true, show nI 0 = (0 : Int32) from rfl, Int32.or_zero]
      exact ih f f2 (i + 1) _ (by omega) (by omega) (by omega)
    · simp only [e, if_false]
      exact ih f f2 (i + 1) _ (by omega) (by omega) (by omega)
theorem st_burning {a b : Nat → Nat} {τ : Ex} {ν : Nm} (h : Inv a b τ ν) : ∃ v, Fm_burning ν = some v ∧ Md_burning ν = some v :=
  have h4 := (wb h.1).1
  burning_loop h (a 0) FU FU 0 0 (by omega) (by unfold FU; omega) (by unfold FU; omega)
theorem dead_loop {a b : Nat → Nat} {τ : Ex} {ν : Nm} (h : Inv a b τ ν) : ∀ (k f f2 i : Nat) (s : Int32), i + k = a 0 → k < f → k < f2 → ∃ v, Fm_dead_4 ν f s (nI i) = some v ∧ Md_dead_4 ν f2 s (nI i) = some v := by
  have hw := h.1
  have hc := C1_0 h
  have hm := M1_0 h hc
  have h4 := (wb hw).1
  intro k
  induction k with
  | zero =>
    intro f f2 i s hi hf hf2
    obtain ⟨f, rfl⟩ := fsucc hf
    obtain ⟨f2, rfl⟩ := fsucc hf2
    exact ⟨s, by rw [Fm_dead_4, (cr hc).1, if_pos (by rw [nI_le' (by omega) (by omega)]; omega)], by rw [Md_dead_4, mr hm (by decide) (by decide), if_pos (by rw [nI_le' (by omega) (by omega)]; omega)]⟩
  | succ k ih =>
    intro f f2 i s hi hf hf2
    obtain ⟨f, rfl⟩ := fsucc hf
    obtain ⟨f2, rfl⟩ := fsucc hf2
    have hb := (wbc hw (show i < 4 by omega)).1
    have n1 : ¬ a 0 ≤ i := by omega
    have n2 : ¬ 4 ≤ i := by omega
    have n3 : i < 4 := by omega
    simp (disch := omega) only [Fm_dead_4, Md_dead_4, Fm_dead_44, Md_dead_30, (cr hc).1, mr hm, cr_rest hc, m_isOut hm hw, lit_nI, nI_add, nI_mul, nI_sub, nI_le', nI_lt', nI_eq', inb_nI, nI_clamp, b2iT', b2iF', b2i0', Option.bind_some, if_true, if_false, not_true_eq_false, not_false_eq_true, decide_eq_true_eq, decide_eq_false_iff_not, reduceCtorEq, Nat.add_zero, Nat.zero_add, n1, n2, n3]
    by_cases e : a (12 + 2 * i) = 0
    · simp only [e, if_false, not_true_eq_false]
      exact ih f f2 (i + 1) _ (by omega) (by omega) (by omega)
    · simp only [e, if_true, not_false_eq_true, show nI 0 = (0 : Int32) from rfl, Int32.or_zero]
      exact ih f f2 (i + 1) _ (by omega) (by omega) (by omega)
theorem st_dead {a b : Nat → Nat} {τ : Ex} {ν : Nm} (h : Inv a b τ ν) : ∃ v, Fm_dead ν = some v ∧ Md_dead ν = some v :=
  have h4 := (wb h.1).1
  dead_loop h (a 0) FU FU 0 0 (by omega) (by unfold FU; omega) (by unfold FU; omega)
theorem bits2 : ∀ k, k < 4 → k = 0 ∨ k = 1 ∨ k = 2 ∨ k = 3 := by omega
theorem longest_loop {a b : Nat → Nat} {τ : Ex} {ν : Nm} (h : Inv a b τ ν) : ∀ (k f f2 i : Nat) (s : Int32) (m : Nat), i + k = a 0 → k < f → k < f2 → (s = -1 ∧ m = 0 ∨ ∃ c, c < i ∧ s = nI c ∧ m = a (12 + 2 * c)) → ∃ v, Fm_longest_6 ν f s (nI m) (nI i) = some v ∧ Md_longest_4 ν f2 s (nI i) = some v := by
  have hw := h.1
  have hc := C1_0 h
  have hm := M1_0 h hc
  have h4 := (wb hw).1
  intro k
  induction k with
  | zero =>
    intro f f2 i s m hi hf hf2 hs
    obtain ⟨f, rfl⟩ := fsucc hf
    obtain ⟨f2, rfl⟩ := fsucc hf2
    exact ⟨s, by rw [Fm_longest_6, (cr hc).1, if_pos (by rw [nI_le' (by omega) (by omega)]; omega)], by rw [Md_longest_4, mr hm (by decide) (by decide), if_pos (by rw [nI_le' (by omega) (by omega)]; omega)]⟩
  | succ k ih =>
    intro f f2 i s m hi hf hf2 hs
    obtain ⟨f, rfl⟩ := fsucc hf
    obtain ⟨f2, rfl⟩ := fsucc hf2
    have hb := (wbc hw (show i < 4 by omega)).1
    have n1 : ¬ a 0 ≤ i := by omega
    have n2 : ¬ 4 ≤ i := by omega
    have n3 : i < 4 := by omega
    rcases hs with ⟨rfl, rfl⟩ | ⟨c, hci, rfl, rfl⟩
    · simp (disch := omega) only [Fm_longest_6, Md_longest_4, Fm_longest_56, Md_longest_35, Md_longest_40, (cr hc).1, mr hm, cr_rest hc, m_g0 hm, lit_nI, nI_add, nI_mul, nI_sub, nI_le', nI_lt', nI_eq', inb_nI, nI_clamp, b2iT', b2iF', b2i0', Option.bind_some, if_true, if_false, not_true_eq_false, not_false_eq_true, decide_eq_true_eq, decide_eq_false_iff_not, reduceCtorEq, Nat.add_zero, Nat.zero_add, n1, n2, n3]
      by_cases e : a (12 + 2 * i) ≤ 0
      · simp only [e, if_true]
        exact ih f f2 (i + 1) _ _ (by omega) (by omega) (by omega) (Or.inl ⟨rfl, rfl⟩)
      · simp only [e, if_false]
        exact ih f f2 (i + 1) _ _ (by omega) (by omega) (by omega) (Or.inr ⟨i, by omega, rfl, rfl⟩)
    · have hb2 := (wbc hw (show c < 4 by omega)).1
      simp (disch := omega) only [Fm_longest_6, Md_longest_4, Fm_longest_56, Md_longest_35, Md_longest_40, (cr hc).1, mr hm, cr_rest hc, m_g0 hm, lit_nI, nI_add, nI_mul, nI_sub, nI_le', nI_lt', nI_eq', inb_nI, nI_clamp, b2iT', b2iF', b2i0', Option.bind_some, if_true, if_false, not_true_eq_false, not_false_eq_true, decide_eq_true_eq, decide_eq_false_iff_not, reduceCtorEq, Nat.add_zero, Nat.zero_add, nn1, n1, n2, n3]
      by_cases e : a (12 + 2 * i) ≤ a (12 + 2 * c)
      · simp only [e, if_true]
        exact ih f f2 (i + 1) _ _ (by omega) (by omega) (by omega) (Or.inr ⟨c, by omega, rfl, rfl⟩)
      · simp only [e, if_false]
        exact ih f f2 (i + 1) _ _ (by omega) (by omega) (by omega) (Or.inr ⟨i, by omega, rfl, rfl⟩)
theorem st_longest {a b : Nat → Nat} {τ : Ex} {ν : Nm} (h : Inv a b τ ν) : ∃ v, Fm_longest ν = some v ∧ Md_longest ν = some v :=
  have h4 := (wb h.1).1
  longest_loop h (a 0) FU FU 0 (-1) 0 (by omega) (by unfold FU; omega) (by unfold FU; omega) (Or.inl ⟨rfl, rfl⟩)
-- lines of the book
theorem line_1 {v : Nat} (h : v < 2 ^ 31) : Fm_partOfLine (nI v) (nI 0) = some (nI (v / 32)) := by
  show some (nI v >>> (nI 5 &&& 31)) = _
  rw [nI_shr h (by decide)]
theorem and3 (n : Nat) : n &&& 3 = n % 4 := Nat.and_two_pow_sub_one_eq_mod n 2
theorem and1 (n : Nat) : n &&& 1 = n % 2 := Nat.and_two_pow_sub_one_eq_mod n 1
theorem line_2 {v : Nat} (h : v < 2 ^ 31) : Fm_partOfLine (nI v) (nI 1) = some (nI (v / 8 % 4)) := by
  show some ((nI v >>> (nI 3 &&& 31)) &&& nI 3) = _
  rw [nI_shr h (by decide), nI_and, and3]
theorem line_3 {v : Nat} (h : v < 2 ^ 31) : Fm_partOfLine (nI v) (nI 2) = some (nI (v / 2 % 4)) := by
  show some ((nI v >>> (nI 1 &&& 31)) &&& nI 3) = _
  rw [nI_shr h (by decide), nI_and, and3]
theorem line_4 {v : Nat} (h : v < 2 ^ 31) : Fm_partOfLine (nI v) (nI 3) = some (nI (v % 2)) := by
  show some (nI v &&& nI 1) = _
  rw [nI_and, and1]
theorem m_entry {a : Nat → Nat} {ν0 ν : Nm} (h : M1 a ν0 ν) (hw : WF a) {i w : Nat} (hi : i < 30) (hw4 : w < 4) : Md_entry ν (nI i) (nI w) = Fm_partOfLine (nI (a (1355 + i))) (nI w) := by
  have hb := wbb hw hi
  have q := Nat.div_le_self (a (1355 + i)) 2
  have q2 := Nat.div_le_self (a (1355 + i)) 8
  have n3 : 1355 + i < 1385 := by omega
  rcases bits2 w hw4 with rfl | rfl | rfl | rfl
  · rw [line_1 (by omega)]
    simp (disch := omega) only [Md_entry, mr h, lit_nI, nI_add, nI_mul, nI_sub, nI_le', nI_lt', nI_eq', inb_nI, nI_clamp, b2iT', b2iF', b2i0', Option.bind_some, if_true, if_false, not_true_eq_false, not_false_eq_true, decide_eq_true_eq, decide_eq_false_iff_not, reduceCtorEq, Nat.add_zero, Nat.zero_add, n3, nI_div]
  · rw [line_2 (by omega)]
    simp (disch := omega) only [Md_entry, mr h, lit_nI, nI_add, nI_mul, nI_sub, nI_le', nI_lt', nI_eq', inb_nI, nI_clamp, b2iT', b2iF', b2i0', Option.bind_some, if_true, if_false, not_true_eq_false, not_false_eq_true, decide_eq_true_eq, decide_eq_false_iff_not, reduceCtorEq, Nat.add_zero, Nat.zero_add, n3, nI_div, Nat.one_ne_zero, Nat.reduceEqDiff]
    congr 2; omega
  · rw [line_3 (by omega)]
    simp (disch := omega) only [Md_entry, mr h, lit_nI, nI_add, nI_mul, nI_sub, nI_le', nI_lt', nI_eq', inb_nI, nI_clamp, b2iT', b2iF', b2i0', Option.bind_some, if_true, if_false, not_true_eq_false, not_false_eq_true, decide_eq_true_eq, decide_eq_false_iff_not, reduceCtorEq, Nat.add_zero, Nat.zero_add, n3, nI_div, Nat.succ_ne_zero, Nat.reduceEqDiff]
    congr 2; omega
  · rw [line_4 (by omega)]
    simp (disch := omega) only [Md_entry, mr h, lit_nI, nI_add, nI_mul, nI_sub, nI_le', nI_lt', nI_eq', inb_nI, nI_clamp, b2iT', b2iF', b2i0', Option.bind_some, if_true, if_false, not_true_eq_false, not_false_eq_true, decide_eq_true_eq, decide_eq_false_iff_not, reduceCtorEq, Nat.add_zero, Nat.zero_add, n3, nI_div, Nat.succ_ne_zero, Nat.reduceEqDiff]
    congr 2; omega
theorem st_book {a b : Nat → Nat} {τ : Ex} {ν : Nm} (h : Inv a b τ ν) (x y : Int32) : ∃ v, Fm_book ν x y = some v ∧ Md_book ν x y = some v := by
  have hw := h.1
  have hc := C1_0 h
  have hm := M1_0 h hc
  have h30 := (wb hw).2.2.2.2.2.2.2.2.2.2.2.2.1
  unfold Fm_book Md_book
  by_cases hx : x = -1
  · exact ⟨_, by rw [if_neg (by simp [hx]), (cr hc).2.2.2.2.2.2.2.2.2.2.2.1], by rw [if_neg (by simp [hx]), mr hm (by decide) (by decide)]⟩
  rw [if_pos hx, if_pos hx, (cr hc).2.2.2.2.2.2.2.2.2.2.2.1, mr hm (by decide) (by decide)]
  rcases below_cases x (a 11) with ⟨i, hi, rfl⟩ | hn
  · have hb := wbb hw (show i < 30 by omega)
    have n1 : ¬ a 11 ≤ i := by omega
    have n2 : ¬ 30 ≤ i := by omega
    have n3 : i < 30 := by omega
    have n4 : ¬ i < 0 := by omega
    have e1 : Md_isIn (nI i) (nI 0) (nI (a 11 - 1)) = some true := isIn_t (by omega) (by omega) (by omega)
    rcases isIn_cases y 0 3 (by decide) (by decide) with ⟨w, _, h2, rfl, h3⟩ | ⟨hy, h3⟩
    · have e2 := m_entry hm hw n3 (show w < 4 by omega)
      have e3 : ∃ v, Fm_partOfLine (nI (a (1355 + i))) (nI w) = some v := by
        rcases bits2 w (by omega) with rfl | rfl | rfl | rfl
        · exact ⟨_, line_1 (by omega)⟩
        · exact ⟨_, line_2 (by omega)⟩
        · exact ⟨_, line_3 (by omega)⟩
        · exact ⟨_, line_4 (by omega)⟩
      obtain ⟨v, e3⟩ := e3
      simp (disch := omega) only [lit_nI, nI_add, nI_mul, nI_sub, nI_le', nI_lt', nI_eq', inb_nI, nI_clamp, b2iT', b2iF', b2i0', Option.bind_some, if_true, if_false, not_true_eq_false, not_false_eq_true, decide_eq_true_eq, decide_eq_false_iff_not, reduceCtorEq, Nat.add_zero, Nat.zero_add, within_isIn, h3, e1, n1, n2, n3, n4, cr_book hc, e2, e3]
      exact ⟨_, rfl, rfl⟩
    · simp (disch := omega) only [lit_nI, nI_add, nI_mul, nI_sub, nI_le', nI_lt', nI_eq', inb_nI, nI_clamp, b2iT', b2iF', b2i0', Option.bind_some, if_true, if_false, not_true_eq_false, not_false_eq_true, decide_eq_true_eq, decide_eq_false_iff_not, reduceCtorEq, Nat.add_zero, Nat.zero_add, within_isIn, h3, e1, n1, n2, n3, n4]
      exact ⟨_, rfl, rfl⟩
  · have e1 : Md_isIn x (nI 0) (nI (a 11) - nI 1) = some false := isIn0_f hn (by omega)
    simp only [lit_nI, e1]
    rcases arg_cases x with q | ⟨j, hj, rfl⟩
    · rw [if_pos (show x < nI 0 from q)]
      exact ⟨_, rfl, rfl⟩
    · have n1 : a 11 ≤ j := Nat.le_of_not_lt (fun q => hn j q rfl)
      rw [if_neg (show ¬ nI j < nI 0 from nI_pos hj), if_pos (by rw [nI_le' (by omega) hj]; exact n1)]
      exact ⟨_, rfl, rfl⟩
theorem ledger_loop {a b : Nat → Nat} {τ : Ex} {ν : Nm} (h : Inv a b τ ν) (w : Nat) (hw4 : w < 4) : ∀ (k f f2 i : Nat) (s : Int32), i + k = a 11 → k < f → k < f2 → ∃ v, Fm_ledger_16 ν f (nI w) s (nI i) = some v ∧ Md_ledger_16 ν f2 (nI w) s (nI i) = some v := by
  have hw := h.1
  have hc := C1_0 h
  have hm := M1_0 h hc
  have h4 := (wb hw).2.2.2.2.2.2.2.2.2.2.2.2.1
  intro k
  induction k with
  | zero =>
    intro f f2 i s hi hf hf2
    obtain ⟨f, rfl⟩ := fsucc hf
    obtain ⟨f2, rfl⟩ := fsucc hf2
    exact ⟨s, by rw [Fm_ledger_16, (cr hc).2.2.2.2.2.2.2.2.2.2.2.1, if_pos (by rw [nI_le' (by omega) (by omega)]; omega)], by rw [Md_ledger_16, mr hm (by decide) (by decide), if_pos (by rw [nI_le' (by omega) (by omega)]; omega)]⟩
  | succ k ih =>
    intro f f2 i s hi hf hf2
    obtain ⟨f, rfl⟩ := fsucc hf
    obtain ⟨f2, rfl⟩ := fsucc hf2
    have hb := wbb hw (show i < 30 by omega)
    have n1 : ¬ a 11 ≤ i := by omega
    have n2 : ¬ 30 ≤ i := by omega
    have n3 : i < 30 := by omega
    have e2 := m_entry hm hw n3 (show 2 < 4 by omega)
    simp (disch := omega) only [Fm_ledger_16, Md_ledger_16, Fm_ledger_59, Md_ledger_43, (cr hc).2.2.2.2.2.2.2.2.2.2.2.1, mr hm, cr_book hc, e2, line_3, lit_nI, nI_add, nI_mul, nI_sub, nI_le', nI_lt', nI_eq', inb_nI, nI_clamp, b2iT', b2iF', b2i0', Option.bind_some, if_true, if_false, not_true_eq_false, not_false_eq_true, decide_eq_true_eq, decide_eq_false_iff_not, reduceCtorEq, Nat.add_zero, Nat.zero_add, n1, n2, n3]
    by_cases e : a (1355 + i) / 2 % 4 = w
    · simp only [e, if_false, not_true_eq_false]
      exact ih f f2 (i + 1) _ (by omega) (by omega) (by omega)
    · simp only [e, if_true, not_false_eq_true, show nI 0 = (0 : Int32) from rfl, Int32.add_zero]
      exact ih f f2 (i + 1) _ (by omega) (by omega) (by omega)
theorem st_ledger {a b : Nat → Nat} {τ : Ex} {ν : Nm} (h : Inv a b τ ν) (x : Int32) : ∃ v, Fm_ledger ν x = some v ∧ Md_ledger ν x = some v := by
  have h4 := (wb h.1).2.2.2.2.2.2.2.2.2.2.2.2.1
  unfold Fm_ledger Md_ledger
  simp only [lit_nI, within_isIn]
  rcases isIn_cases x 0 3 (by decide) (by decide) with ⟨w, _, h2, rfl, h3⟩ | ⟨hy, h3⟩
  · rw [h3]
    exact ledger_loop h w (by omega) (a 11) FU FU 0 (nI 0) (by omega) (by unfold FU; omega) (by unfold FU; omega)
  · rw [h3]
    exact ⟨_, rfl, rfl⟩
