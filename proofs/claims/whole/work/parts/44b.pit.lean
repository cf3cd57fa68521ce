/-! The same with a narrower frame: a line that is written changes the row alone. -/
def MT (T : Nat → Nat → Prop) (a : Nat → Nat) (ν0 ν : Nm) : Prop := MX 314 a ν ∧ Fr (fun q j => q = 314 ∨ T q j) ν0 ν
theorem MT_up {T : Nat → Nat → Prop} {a : Nat → Nat} {ν0 ν : Nm} (h : MT T a ν0 ν) {i : Nat} (v : Nat) (hi : i ≠ 3) : MT T (upn a i v) ν0 (si ν 314 i (nI v)) := ⟨MX_up h.1 hi, Fr_si h.2 _ (Or.inl rfl)⟩
theorem mrT {T : Nat → Nat → Prop} {a : Nat → Nat} {ν0 ν : Nm} (h : MT T a ν0 ν) {j : Nat} (h1 : j < 1385) (h3 : j ≠ 3) : gi ν 314 j = nI (a j) := h.1.1 j h1 h3
theorem cp_loopT {β : Type} {T : Nat → Nat → Prop} (F : Nat → Nat → Nm → Option β) (s d n : Nat) (hd : d ≤ s ∨ s + n ≤ d) (h1 : s + n ≤ 1385) (h2 : d + n ≤ 1385) (h3 : 3 < s) (h4 : 3 < d) (hs : ∀ f i ν, i < n → F (f + 1) i ν = F f (i + 1) (si ν 314 (d + i) (gi ν 314 (s + i)))) (a : Nat → Nat) (ν0 : Nm) : ∀ (k f i : Nat) (ν : Nm), i + k = n → k ≤ f → MT T (cpA a s d i) ν0 ν → ∃ ν2, F f i ν = F (f - k) n ν2 ∧ MT T (cpA a s d n) ν0 ν2 := by
  intro k
  induction k with
  | zero =>
    intro f i ν hi hf h
    have e : i = n := by omega
    subst e
    exact ⟨ν, rfl, h⟩
  | succ k ih =>
    intro f i ν hi hf h
    obtain ⟨f, rfl⟩ : ∃ f2, f = f2 + 1 := ⟨f - 1, by omega⟩
    have r : gi ν 314 (s + i) = nI (a (s + i)) := by
      rw [mrT h (by omega) (by omega), cpA_out _ (by omega)]
    have h5 := MT_up h (i := d + i) (a (s + i)) (by omega)
    rw [cpA_succ] at h5
    obtain ⟨ν2, q1, q2⟩ := ih f (i + 1) _ (by omega) (by omega) h5
    refine ⟨ν2, ?_, q2⟩
    rw [hs f i ν (by omega), r, q1]
    congr 1
    omega
theorem m_write71T {T : Nat → Nat → Prop} {a : Nat → Nat} {ν0 ν : Nm} (h : MT T a ν0 ν) (h29 : a 11 ≤ 29) {c w s : Nat} : ∃ ν2, Md_write_71 (nI c) (nI w) (nI s) ν = some ν2 ∧ MT T (upn (upn a (1355 + a 11) (lineA a c w s)) 11 (a 11 + 1)) ν0 ν2 := by
  unfold Md_write_71 Md_write_118
  have n1 : 1355 + a 11 < 1385 := by omega
  simp (disch := omega) only [mrT h, lit_nI, nI_add, nI_mul, nI_sub, nI_le', nI_lt', nI_eq', inb_nI, nI_clamp, b2iT', b2iF', b2i0', Option.bind_some, if_true, if_false, not_true_eq_false, not_false_eq_true, decide_eq_true_eq, decide_eq_false_iff_not, reduceCtorEq, Nat.add_zero, Nat.zero_add, n1, gi_si_j]
  exact ⟨_, rfl, MT_up (MT_up h _ (by omega)) _ (by omega)⟩
theorem m_writeT {T : Nat → Nat → Prop} {a : Nat → Nat} {ν0 ν : Nm} (h : MT T a ν0 ν) (hw : WF a) (hq : gi ν 313 23 = 1) {c w s : Nat} : ∃ ν2, Md_write (nI c) (nI w) (nI s) ν = some ν2 ∧ MT T (writeA a c w s) ν0 ν2 := by
  have hb := wb hw
  unfold Md_write
  rw [hq, if_pos (by decide), mrT h (by decide) (by decide)]
  have e' : (nI (a 11) = 30) = (a 11 = 30) := nI_eq' (b := 30) (by omega) (by decide)
  by_cases e : a 11 = 30
  · rw [if_neg (by rw [e']; simp [e])]
    have hs : ∀ f i ν, i < 29 → Md_write_23 (f + 1) (nI c) (nI w) (nI s) (nI (i + 1)) ν = Md_write_23 f (nI c) (nI w) (nI s) (nI (i + 1 + 1)) (si ν 314 (1355 + i) (gi ν 314 (1356 + i))) := by
      intro f i ν hi
      have n0 : ¬ 30 ≤ i + 1 := by omega
      have n1 : 1355 + (i + 1) < 1385 := by omega
      have n2 : 1355 + (i + 1) - 1 < 1385 := by omega
      have e1 : 1355 + (i + 1) = 1356 + i := by omega
      have e2 : 1356 + i - 1 = 1355 + i := by omega
      simp (disch := omega) only [Md_write_23, lit_nI, nI_add, nI_mul, nI_sub, nI_le', nI_lt', nI_eq', inb_nI, nI_clamp, b2iT', b2iF', b2i0', Option.bind_some, if_true, if_false, not_true_eq_false, not_false_eq_true, decide_eq_true_eq, decide_eq_false_iff_not, reduceCtorEq, Nat.add_zero, Nat.zero_add, n0, n1, n2]
      rw [e1, e2]
    have h0 : MT T (cpA a 1356 1355 0) ν0 ν := by rw [cpA_0]; exact h
    obtain ⟨ν2, q1, q2⟩ := cp_loopT (fun f i ν => Md_write_23 f (nI c) (nI w) (nI s) (nI (i + 1)) ν) 1356 1355 29 (by omega) (by omega) (by omega) (by omega) (by omega) hs a ν0 29 FU 0 ν (by omega) (by unfold FU; omega) h0
    have e11 : cpA a 1356 1355 29 11 = 30 := by rw [cpA_out _ (by omega)]; exact e
    have q3 := MT_up q2 (i := 11) 29 (by omega)
    obtain ⟨ν3, r1, r2⟩ := m_write71T q3 (show upn (cpA a 1356 1355 29) 11 29 11 ≤ 29 by rw [upn_s]; omega) (c := c) (w := w) (s := s)
    refine ⟨ν3, ?_, ?_⟩
    · have q1' : Md_write_23 FU (nI c) (nI w) (nI s) 1 ν = Md_write_23 (FU - 29) (nI c) (nI w) (nI s) (nI 30) ν2 := q1
      rw [q1', show FU - 29 = (FU - 30) + 1 from rfl, Md_write_23, if_pos (by decide), mrT q2 (by decide) (by decide), e11, show nI 30 - 1 = nI 29 from rfl]
      exact r1
    · have ew : wr0 a = upn (cpA a 1356 1355 29) 11 29 := by unfold wr0; rw [if_pos e]
      unfold writeA
      rw [ew]
      have el : lineA (upn (cpA a 1356 1355 29) 11 29) c w s = lineA a c w s := by
        unfold lineA; rw [upn_n _ _ (by omega), cpA_out _ (by omega)]
      rw [← el]
      exact r2
  · rw [if_pos (by rw [e']; exact e)]
    have ew : wr0 a = a := by unfold wr0; rw [if_neg e]
    unfold writeA
    rw [ew]
    exact m_write71T h (by omega)
theorem m_write' {a : Nat → Nat} {ν0 ν : Nm} (h : M1 a ν0 ν) (hw : WF a) (hq : gi ν 313 23 = 1) {c w s : Nat} : ∃ ν2, Md_write (nI c) (nI w) (nI s) ν = some ν2 ∧ M1 (writeA a c w s) ν0 ν2 ∧ gi ν2 313 24 = gi ν 313 24 := by
  obtain ⟨ν2, q1, q2⟩ := m_writeT (T := fun _ _ => False) ⟨h.1, Fr_rfl _ ν⟩ hw hq (c := c) (w := w) (s := s)
  exact ⟨ν2, q1, ⟨q2.1, Fr_tr h.2 (Fr_mono q2.2 (fun q j m => Or.inl (m.elim id False.elim)))⟩, q2.2.1 _ _ (fun m => m.elim (by decide) id)⟩
