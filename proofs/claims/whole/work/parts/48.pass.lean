/-! From one cord's end to the next. -/
def passA (w : Bool) : Nat → Nat → (Nat → Nat) × Nat → (Nat → Nat) × Nat
  | 0, _, s => s
  | k + 1, left, s => if left = 0 then s else passA w k (left - min (nextA s.1) left) ((stepA w (min (nextA s.1) left) s.1).1, s.2 + (stepA w (min (nextA s.1) left) s.1).2)
theorem passA_0 {w : Bool} (k : Nat) (s : (Nat → Nat) × Nat) : passA w k 0 s = s := by
  cases k with
  | zero => rfl
  | succ k => unfold passA; rw [if_pos rfl]
/-- cords that burn -/
def bc (a : Nat → Nat) : Nat := sm (fun c => if a (13 + 2 * c) = 0 then 0 else 1) 4 0
theorem bc_le (a : Nat → Nat) : bc a ≤ 4 := by
  unfold bc
  simp only [sm]
  have : ∀ c, (if a c = 0 then 0 else 1) ≤ 1 := fun c => by split <;> omega
  have h0 := this (13 + 2 * 0)
  have h1 := this (13 + 2 * (0 + 1))
  have h2 := this (13 + 2 * (0 + 1 + 1))
  have h3 := this (13 + 2 * (0 + 1 + 1 + 1))
  omega
theorem stepA_low {w : Bool} {n : Nat} (a : Nat → Nat) {j : Nat} (h : j < 12 ∨ 20 ≤ j) (h2 : j < 1355) (h8 : j ≠ 8) (h10 : j ≠ 10) (h11 : j ≠ 11) : (stepA w n a).1 j = a j := by
  unfold stepA
  rw [pwk_low 4 0 _ j (by omega) h2 h11 (by omega)]
  show upn (upn a 8 (a 8 + n)) 10 0 j = a j
  rw [upn_n _ _ h10, upn_n _ _ h8]
theorem stepA_8 {w : Bool} {n : Nat} (a : Nat → Nat) : (stepA w n a).1 8 = a 8 + n := by
  unfold stepA
  rw [pwk_low 4 0 _ 8 (by omega) (by omega) (by omega) (by omega)]
  show upn (upn a 8 (a 8 + n)) 10 0 8 = _
  rw [upn_n _ _ (by omega), upn_s]
theorem stepA_re {w : Bool} {n : Nat} (a : Nat → Nat) {c : Nat} (hc : c < 4) : (stepA w n a).1 (12 + 2 * c) = a (12 + 2 * c) - n * pc16 (a (13 + 2 * c)) ∧ (stepA w n a).1 (13 + 2 * c) = if a (12 + 2 * c) - n * pc16 (a (13 + 2 * c)) = 0 then 0 else a (13 + 2 * c) := by
  have := pwk_re (w := w) (n := n) 4 0 (upn (upn a 8 (a 8 + n)) 10 0, 0) c (by omega) (by omega) (by omega)
  have e1 : upn (upn a 8 (a 8 + n)) 10 0 (12 + 2 * c) = a (12 + 2 * c) := by rw [upn_n _ _ (by omega), upn_n _ _ (by omega)]
  have e2 : upn (upn a 8 (a 8 + n)) 10 0 (13 + 2 * c) = a (13 + 2 * c) := by rw [upn_n _ _ (by omega), upn_n _ _ (by omega)]
  simp only [e1, e2] at this
  exact this
theorem WP_step {w : Bool} {n : Nat} {a : Nat → Nat} (h : WP a) : WP (stepA w n a).1 := by
  refine WP_ext h (stepA_low a (by omega) (by omega) (by omega) (by omega) (by omega)) (fun c hc => stepA_low a (by omega) (by omega) (by omega) (by omega) (by omega)) (fun c hc => by rw [(stepA_re a hc).1]; omega) (fun c hc => ?_)
  rw [(stepA_re a hc).2, (stepA_re a hc).1]
  by_cases e : a (12 + 2 * c) - n * pc16 (a (13 + 2 * c)) = 0
  · rw [if_pos e]; exact Or.inl rfl
  · rw [if_neg e]; exact Or.inr ⟨rfl, Or.inr e⟩
theorem nx_at {a : Nat → Nat} : ∀ (k i s : Nat), nx a k i s = s ∨ ∃ c, i ≤ c ∧ c < i + k ∧ a (13 + 2 * c) ≠ 0 ∧ outA a c = nx a k i s := by
  intro k
  induction k with
  | zero => intro i s; exact Or.inl rfl
  | succ k ih =>
    intro i s
    unfold nx
    by_cases e : a (13 + 2 * i) = 0
    · rw [if_pos e]
      rcases ih (i + 1) s with q | ⟨c, c1, c2, c3, c4⟩
      · exact Or.inl q
      · exact Or.inr ⟨c, by omega, by omega, c3, c4⟩
    · rw [if_neg e]
      by_cases e2 : s ≤ outA a i
      · rw [if_pos e2]
        rcases ih (i + 1) s with q | ⟨c, c1, c2, c3, c4⟩
        · exact Or.inl q
        · exact Or.inr ⟨c, by omega, by omega, c3, c4⟩
      · rw [if_neg e2]
        rcases ih (i + 1) (outA a i) with q | ⟨c, c1, c2, c3, c4⟩
        · exact Or.inr ⟨i, by omega, by omega, e, q.symm⟩
        · exact Or.inr ⟨c, by omega, by omega, c3, c4⟩
theorem bc_step {w : Bool} {a : Nat → Nat} (h : WP a) (hn : nextA a ≠ 1000000) : bc (stepA w (nextA a) a).1 < bc a := by
  rcases nx_at (a := a) 4 0 1000000 with q | ⟨c, _, c2, c3, c4⟩
  · exact absurd q hn
  have c4' : outA a c = nextA a := c4
  have hb := h.2.2 c (by omega)
  have hp := pc_le (a (13 + 2 * c)) (by omega)
  have hp0 : pc16 (a (13 + 2 * c)) ≠ 0 := fun q => c3 (hp.2.mp q)
  have ez : (stepA w (nextA a) a).1 (13 + 2 * c) = 0 := by
    rw [(stepA_re a (by omega)).2, if_pos]
    rw [← c4']
    unfold outA
    rcases (show pc16 (a (13 + 2 * c)) = 1 ∨ pc16 (a (13 + 2 * c)) = 2 by omega) with q | q <;> rw [q] <;> omega
  have le : ∀ d, d < 4 → (if (stepA w (nextA a) a).1 (13 + 2 * d) = 0 then 0 else 1) ≤ (if a (13 + 2 * d) = 0 then 0 else 1) := by
    intro d hd
    rw [(stepA_re a hd).2]
    by_cases e : a (12 + 2 * d) - nextA a * pc16 (a (13 + 2 * d)) = 0
    · rw [if_pos e]; simp
    · rw [if_neg e]; exact Nat.le_refl _
  have lt : (if (stepA w (nextA a) a).1 (13 + 2 * c) = 0 then 0 else 1) < (if a (13 + 2 * c) = 0 then 0 else 1) := by
    rw [if_pos ez, if_neg c3]; omega
  have l0 := le 0 (by omega)
  have l1 := le 1 (by omega)
  have l2 := le 2 (by omega)
  have l3 := le 3 (by omega)
  unfold bc
  simp only [sm, Nat.zero_add, Nat.reduceAdd]
  rcases (show c = 0 ∨ c = 1 ∨ c = 2 ∨ c = 3 by omega) with rfl | rfl | rfl | rfl <;> omega
theorem pass_8 {w : Bool} : ∀ (k left : Nat) (s : (Nat → Nat) × Nat), bc s.1 < k → WP s.1 → left < 1000000 → (passA w k left s).1 8 = s.1 8 + left := by
  intro k
  induction k with
  | zero => intro left s h _ _; omega
  | succ k ih =>
    intro left s h hp hl
    by_cases e : left = 0
    · subst e; rw [passA_0]; rfl
    · unfold passA
      rw [if_neg e]
      by_cases e2 : left ≤ nextA s.1
      · rw [Nat.min_eq_right e2, Nat.sub_self, passA_0]
        exact stepA_8 _
      · rw [Nat.min_eq_left (by omega)]
        have hs := bc_step (w := w) hp (by omega)
        rw [ih (left - nextA s.1) ((stepA w (nextA s.1) s.1).1, s.2 + (stepA w (nextA s.1) s.1).2) (by show bc (stepA w (nextA s.1) s.1).1 < k; omega) (WP_step hp) (by omega)]
        show (stepA w (nextA s.1) s.1).1 8 + _ = _
        rw [stepA_8]; omega
theorem pass_low {w : Bool} : ∀ (k left : Nat) (s : (Nat → Nat) × Nat) {j : Nat}, (j < 12 ∨ 20 ≤ j) → j < 1355 → j ≠ 8 → j ≠ 10 → j ≠ 11 → (passA w k left s).1 j = s.1 j := by
  intro k
  induction k with
  | zero => intro left s j _ _ _ _ _; rfl
  | succ k ih =>
    intro left s j h h2 h8 h10 h11
    unfold passA
    by_cases e : left = 0
    · rw [if_pos e]
    · rw [if_neg e, ih _ _ h h2 h8 h10 h11]
      exact stepA_low _ h h2 h8 h10 h11
theorem WF_step {n : Nat} {a : Nat → Nat} (hw : WF a) (h8 : a 8 + n ≤ 639936) : WF (stepA true n a).1 := WF_pwk 4 0 _ (by omega) (WF_free (WF_free hw (by omega) (show a 8 + n ≤ 639936 from h8)) (by omega) (by omega))
theorem WF_pass : ∀ (k left : Nat) (s : (Nat → Nat) × Nat), WF s.1 → s.1 8 + left ≤ 639936 → WF (passA true k left s).1 := by
  intro k
  induction k with
  | zero => intro left s h _; exact h
  | succ k ih =>
    intro left s h h8
    unfold passA
    by_cases e : left = 0
    · rw [if_pos e]; exact h
    · rw [if_neg e]
      have hm := Nat.min_le_right (nextA s.1) left
      refine ih _ _ (WF_step h (by omega)) ?_
      show (stepA true _ s.1).1 8 + _ ≤ _
      rw [stepA_8]; omega
/-- what is left of a cord -/
theorem pass_rest {w : Bool} : ∀ (k left : Nat) (s : (Nat → Nat) × Nat), bc s.1 < k → WP s.1 → left < 1000000 → ∀ c, c < 4 → (passA w k left s).1 (12 + 2 * c) = s.1 (12 + 2 * c) - left * pc16 (s.1 (13 + 2 * c)) := by
  intro k
  induction k with
  | zero => intro left s h _ _; omega
  | succ k ih =>
    intro left s h hp hl c hc
    by_cases e : left = 0
    · subst e; rw [passA_0]; omega
    · unfold passA
      rw [if_neg e]
      by_cases e2 : left ≤ nextA s.1
      · rw [Nat.min_eq_right e2, Nat.sub_self, passA_0]
        exact (stepA_re _ hc).1
      · rw [Nat.min_eq_left (by omega)]
        have hs := bc_step (w := w) hp (by omega)
        rw [ih (left - nextA s.1) ((stepA w (nextA s.1) s.1).1, s.2 + (stepA w (nextA s.1) s.1).2) (by show bc (stepA w (nextA s.1) s.1).1 < k; omega) (WP_step hp) (by omega) c hc]
        show (stepA w (nextA s.1) s.1).1 (12 + 2 * c) - _ * pc16 ((stepA w (nextA s.1) s.1).1 (13 + 2 * c)) = _
        rw [(stepA_re s.1 hc).1, (stepA_re s.1 hc).2]
        have em : left * pc16 (s.1 (13 + 2 * c)) = nextA s.1 * pc16 (s.1 (13 + 2 * c)) + (left - nextA s.1) * pc16 (s.1 (13 + 2 * c)) := by
          rw [← Nat.add_mul]; congr 1; omega
        by_cases e3 : s.1 (12 + 2 * c) - nextA s.1 * pc16 (s.1 (13 + 2 * c)) = 0
        · rw [if_pos e3, pc0, e3]; omega
        · rw [if_neg e3]; omega
theorem c_pass7 {ν0 : Nm} : ∀ (k f left : Nat) (s : (Nat → Nat) × Nat) (ν : Nm), k ≤ 5 → k < f → left ≤ 4000 → WF s.1 → s.1 8 + left ≤ 639936 → C1 s.1 ν0 ν → ∃ ν2, Pt_pass_7 f 2 (nI s.2) (nI left) (nI (5 - k)) ν = some (nI (passA true k left s).2, ν2) ∧ C1 (passA true k left s).1 ν0 ν2 := by
  intro k
  induction k with
  | zero =>
    intro f left s ν h5 hf hl hw h8 h
    obtain ⟨f, rfl⟩ := fsucc hf
    exact ⟨ν, by rw [Pt_pass_7, if_pos (by decide)]; rfl, h⟩
  | succ k ih =>
    intro f left s ν h5 hf hl hw h8 h
    obtain ⟨f, rfl⟩ := fsucc hf
    have n1 : ¬ (4 : Int32) < nI (5 - (k + 1)) := by rw [show (4 : Int32) = nI 4 from rfl, nI_lt' (by omega) (by omega)]; omega
    rw [Pt_pass_7, if_neg n1]
    have e' : (nI left ≤ 0) = (left ≤ 0) := nI_le' (b := 0) (by omega) (by decide)
    by_cases e : left = 0
    · subst e
      rw [if_pos (by decide), passA_0]
      exact ⟨ν, rfl, h⟩
    · rw [if_neg (by rw [e']; omega), c_next h hw, Option.bind_some]
      have hp := WF_WP hw
      have hnx := next_le hp
      have ep : (if ¬ enN (nextA s.1) = -1 then Pt_pass_39 (Pt_pass_7 f) 2 (nI s.2) (nI left) (nI (5 - (k + 1))) (imin (nI left) (enN (nextA s.1))) ν else Pt_pass_39 (Pt_pass_7 f) 2 (nI s.2) (nI left) (nI (5 - (k + 1))) (nI left) ν) = Pt_pass_39 (Pt_pass_7 f) 2 (nI s.2) (nI left) (nI (5 - (k + 1))) (nI (min (nextA s.1) left)) ν := by
        by_cases q : nextA s.1 = 1000000
        · rw [if_neg (by unfold enN; rw [if_pos q]; simp), Nat.min_eq_right (by omega)]
        · have en : enN (nextA s.1) = nI (nextA s.1) := by unfold enN; rw [if_neg q]
          rw [en, if_pos (neg1 (by omega))]
          unfold imin
          by_cases q2 : nextA s.1 < left
          · rw [if_pos (by rw [nI_lt' (by omega) (by omega)]; exact q2), Nat.min_eq_left (by omega)]
          · rw [if_neg (by rw [nI_lt' (by omega) (by omega)]; exact q2), Nat.min_eq_right (by omega)]
      rw [ep]
      have hm := Nat.min_le_right (nextA s.1) left
      generalize hg : min (nextA s.1) left = p at hm
      unfold Pt_pass_39
      obtain ⟨ν1, q1, q2, q3⟩ := c_step (n := p) (by omega) hw (by omega) h
      rw [q1, Option.bind_some]
      simp only []
      rw [nI_add, nI_sub hm, show (1 : Int32) = nI 1 from rfl, nI_add, show 5 - (k + 1) + 1 = 5 - k by omega]
      have := ih f (left - p) ((stepA true p s.1).1, s.2 + (stepA true p s.1).2) ν1 (by omega) (by omega) (by omega) q3 (by show (stepA true p s.1).1 8 + _ ≤ _; rw [stepA_8]; omega) q2
      have ea : passA true (k + 1) left s = passA true k (left - p) ((stepA true p s.1).1, s.2 + (stepA true p s.1).2) := by
        rw [passA, if_neg e, hg]
      rw [ea]
      exact this
theorem m_pass2 {w : Bool} {ν0 : Nm} (hq : gi ν0 313 23 = b2i w) : ∀ (k f left : Nat) (s : (Nat → Nat) × Nat) (G : Int32) (ν : Nm), bc s.1 < k → k < f → left ≤ 4000 → WP s.1 → (w = true → WF s.1 ∧ s.1 8 + left ≤ 639936) → M1 s.1 ν0 ν → gi ν 313 24 = G + nI s.2 → ∃ ν2, Md_pass_2 f (nI left) ν = some ν2 ∧ M1 (passA w k left s).1 ν0 ν2 ∧ gi ν2 313 24 = G + nI (passA w k left s).2 := by
  intro k
  induction k with
  | zero => intro f left s G ν h; omega
  | succ k ih =>
    intro f left s G ν hb hf hl hp hw h hg
    obtain ⟨f, rfl⟩ := fsucc hf
    rw [Md_pass_2]
    have e' : (nI left ≤ 0) = (left ≤ 0) := nI_le' (b := 0) (by omega) (by decide)
    by_cases e : left = 0
    · subst e
      rw [if_pos (by decide), passA_0]
      exact ⟨ν, rfl, h, hg⟩
    · rw [if_neg (by rw [e']; omega), m_next h hp, Option.bind_some, Option.bind_some]
      have hnx := next_le hp
      have ep : (if nI left ≤ nI (nextA s.1) then Md_pass_22 (Md_pass_2 f) (nI left) (nI left) ν else Md_pass_22 (Md_pass_2 f) (nI left) (nI (nextA s.1)) ν) = Md_pass_22 (Md_pass_2 f) (nI left) (nI (min (nextA s.1) left)) ν := by
        by_cases q2 : left ≤ nextA s.1
        · rw [if_pos (by rw [nI_le' (by omega) (by omega)]; exact q2), Nat.min_eq_right (by omega)]
        · rw [if_neg (by rw [nI_le' (by omega) (by omega)]; exact q2), Nat.min_eq_left (by omega)]
      rw [ep]
      have hm := Nat.min_le_right (nextA s.1) left
      have ea : passA w (k + 1) left s = passA w k (left - min (nextA s.1) left) ((stepA w (min (nextA s.1) left) s.1).1, s.2 + (stepA w (min (nextA s.1) left) s.1).2) := by
        rw [passA, if_neg e]
      have h1 : 1 ≤ min (nextA s.1) left := by omega
      have hcase : left ≤ nextA s.1 ∨ min (nextA s.1) left = nextA s.1 ∧ nextA s.1 < left := by omega
      generalize hg2 : min (nextA s.1) left = p at hm h1 ea hcase
      unfold Md_pass_22
      obtain ⟨ν1, q1, q2, q3⟩ := m_step (w := w) (n := p) h1 (by omega) hq hp (fun ew => ⟨(hw ew).1, by have := (hw ew).2; omega⟩) h
      rw [q1, Option.bind_some, nI_sub hm, ea]
      have q4 : gi ν1 313 24 = G + nI (s.2 + (stepA w p s.1).2) := by rw [q3, hg, ← nI_add, Int32.add_assoc]
      rcases hcase with hc | ⟨hc, hc2⟩
      · have e0 : left - p = 0 := by omega
        rw [e0, passA_0]
        obtain ⟨f, rfl⟩ : ∃ f2, f = f2 + 1 := ⟨f - 1, by omega⟩
        exact ⟨ν1, by rw [Md_pass_2, if_pos (by decide)], q2, q4⟩
      · subst hc
        have hs := bc_step (w := w) hp (by omega)
        refine ih f _ _ G ν1 (by show bc (stepA w (nextA s.1) s.1).1 < k; omega) (by omega) (by omega) (WP_step hp) (fun ew => ?_) q2 q4
        subst ew
        refine ⟨WF_step (hw rfl).1 (by have := (hw rfl).2; omega), ?_⟩
        show (stepA true _ s.1).1 8 + _ ≤ _
        rw [stepA_8]
        have := (hw rfl).2
        omega
/-- n sparks pass -/
def PA (w : Bool) (n : Nat) (a : Nat → Nat) : (Nat → Nat) × Nat := passA w 5 n (a, 0)
theorem c_pass {n : Nat} (hn : n ≤ 4000) {a : Nat → Nat} {ν0 ν : Nm} (hw : WF a) (h8 : a 8 + n ≤ 639936) (h : C1 a ν0 ν) : ∃ ν2, Pt_pass 2 (nI n) ν = some (nI (PA true n a).2, ν2) ∧ C1 (PA true n a).1 ν0 ν2 :=
  c_pass7 5 FU n (a, 0) ν (by omega) (by unfold FU; omega) hn hw h8 h
theorem m_pass {w : Bool} {n : Nat} (hn : n ≤ 4000) {a : Nat → Nat} {ν0 ν : Nm} (hq : gi ν0 313 23 = b2i w) (hp : WP a) (hw : w = true → WF a ∧ a 8 + n ≤ 639936) (h : M1 a ν0 ν) : ∃ ν2, Md_pass (nI n) ν = some ν2 ∧ M1 (PA w n a).1 ν0 ν2 ∧ gi ν2 313 24 = gi ν 313 24 + nI (PA w n a).2 :=
  m_pass2 hq 5 FU n (a, 0) (gi ν 313 24) ν (by have := bc_le a; show bc a < 5; omega) (by unfold FU; omega) hn hp hw h (Int32.add_zero _).symm
theorem WF_PA {n : Nat} {a : Nat → Nat} (hw : WF a) (h8 : a 8 + n ≤ 639936) : WF (PA true n a).1 := WF_pass 5 n (a, 0) hw h8
theorem PA_8 {w : Bool} {n : Nat} {a : Nat → Nat} (hp : WP a) (hn : n < 1000000) : (PA w n a).1 8 = a 8 + n := pass_8 5 n (a, 0) (by have := bc_le a; show bc a < 5; omega) hp hn
theorem PA_low {w : Bool} {n : Nat} {a : Nat → Nat} {j : Nat} (h : j < 12 ∨ 20 ≤ j) (h2 : j < 1355) (h8 : j ≠ 8) (h10 : j ≠ 10) (h11 : j ≠ 11) : (PA w n a).1 j = a j := pass_low 5 n (a, 0) h h2 h8 h10 h11
