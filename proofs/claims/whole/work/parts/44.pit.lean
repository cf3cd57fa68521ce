/-! What is written, kept, taken back: as functions of numbers; the model does them. -/
/-- n numbers from s on are laid from d on -/
def cpA (a : Nat → Nat) (s d n : Nat) : Nat → Nat := fun j => if d ≤ j ∧ j < d + n then a (s + (j - d)) else a j
theorem cpA_0 (a : Nat → Nat) (s d : Nat) : cpA a s d 0 = a := by
  funext j; unfold cpA; rw [if_neg (by omega)]
theorem cpA_in (a : Nat → Nat) {s d n i : Nat} (h : i < n) : cpA a s d n (d + i) = a (s + i) := by
  unfold cpA; rw [if_pos (by omega)]; congr 1; omega
theorem cpA_out (a : Nat → Nat) {s d n j : Nat} (h : j < d ∨ d + n ≤ j) : cpA a s d n j = a j := by
  unfold cpA; rw [if_neg (by omega)]
theorem cpA_succ (a : Nat → Nat) (s d i : Nat) : upn (cpA a s d i) (d + i) (a (s + i)) = cpA a s d (i + 1) := by
  funext j
  by_cases e : j = d + i
  · subst e; rw [upn_s, cpA_in _ (by omega)]
  · rw [upn_n _ _ e]; unfold cpA
    by_cases h : d ≤ j ∧ j < d + i
    · rw [if_pos h, if_pos (by omega)]
    · rw [if_neg h, if_neg (by omega)]
/-- a loop of the model that lays numbers, one by one -/
theorem cp_loop {β : Type} (F : Nat → Nat → Nm → Option β) (s d n : Nat) (hd : d ≤ s ∨ s + n ≤ d) (h1 : s + n ≤ 1385) (h2 : d + n ≤ 1385) (h3 : 3 < s) (h4 : 3 < d) (hs : ∀ f i ν, i < n → F (f + 1) i ν = F f (i + 1) (si ν 314 (d + i) (gi ν 314 (s + i)))) (a : Nat → Nat) (ν0 : Nm) : ∀ (k f i : Nat) (ν : Nm), i + k = n → k ≤ f → M1 (cpA a s d i) ν0 ν → ∃ ν2, F f i ν = F (f - k) n ν2 ∧ M1 (cpA a s d n) ν0 ν2 := by
  intro k
  induction k with
  | zero =>
    intro f i ν hi hf h
    have e : i = n := by omega
    subst e
    exact ⟨ν, rfl, h⟩
  | succ k ih =>
    intro f i ν hi hf h
    obtain ⟨f, rfl⟩ : ∃ f2, f = f2 + 1 := ⟨f - 1, by omega⟩
    have r : gi ν 314 (s + i) = nI (a (s + i)) := by
      rw [mr h (by omega) (by omega), cpA_out _ (by omega)]
    have h5 := M1_up h (i := d + i) (a (s + i)) (by omega)
    rw [cpA_succ] at h5
    obtain ⟨ν2, q1, q2⟩ := ih f (i + 1) _ (by omega) (by omega) h5
    refine ⟨ν2, ?_, q2⟩
    rw [hs f i ν (by omega), r, q1]
    congr 1
    omega
/-- a line is written -/
def lineA (a : Nat → Nat) (c w s : Nat) : Nat := (a 8 * 4 + c) * 8 + 2 * w + s
def wr0 (a : Nat → Nat) : Nat → Nat := if a 11 = 30 then upn (cpA a 1356 1355 29) 11 29 else a
def writeA (a : Nat → Nat) (c w s : Nat) : Nat → Nat := upn (upn (wr0 a) (1355 + wr0 a 11) (lineA a c w s)) 11 (wr0 a 11 + 1)
theorem wr0_low {a : Nat → Nat} {j : Nat} (h : j < 1355) (h2 : j ≠ 11) : wr0 a j = a j := by
  unfold wr0
  by_cases e : a 11 = 30
  · rw [if_pos e, upn_n _ _ h2, cpA_out _ (by omega)]
  · rw [if_neg e]
theorem wr0_11 {a : Nat → Nat} (h : a 11 ≤ 30) : wr0 a 11 ≤ 29 := by
  unfold wr0
  by_cases e : a 11 = 30
  · rw [if_pos e, upn_s]; omega
  · rw [if_neg e]; omega
theorem writeA_low {a : Nat → Nat} {c w s j : Nat} (h : j < 1355) (h2 : j ≠ 11) : writeA a c w s j = a j := by
  unfold writeA
  rw [upn_n _ _ h2, upn_n _ _ (by omega), wr0_low h h2]
theorem lineA_le {a : Nat → Nat} (hw : WF a) {c w s : Nat} (hc : c < 4) (h4 : w < 4) (hs : s < 2) : lineA a c w s ≤ 33554431 := by
  have := wb hw
  unfold lineA
  omega
theorem WF_cp {a : Nat → Nat} (hw : WF a) : WF (cpA a 1356 1355 29) := by
  have n : ∀ j, j < 1355 → cpA a 1356 1355 29 j = a j := fun j hj => cpA_out _ (by omega)
  obtain ⟨u, w1, w2, w3, w4, w5, w6⟩ := hw
  refine ⟨fun i hi => ?_, by unfold W1; rw [n 1 (by omega)]; exact w1, by unfold W2; rw [n 3 (by omega), n 2 (by omega)]; exact w2, W3_keep w3 (fun j hj => n j (by omega)), W4_keep w4 (fun j hj => n j (by omega)), W5_keep w5 (fun j hj => n j (by omega)), W6_keep w6 (fun j hj => n j (by omega))⟩
  have k : ∀ c, c < 30 → ub (1355 + c) = 33554431 := by decide
  by_cases q : i < 1355
  · rw [n i q]; exact u i hi
  · have e : i = 1355 + (i - 1355) := by omega
    by_cases q2 : i < 1384
    · have e2 : i + 1 = 1355 + (i - 1354) := by omega
      have e3 : cpA a 1356 1355 29 i = a (i + 1) := by unfold cpA; rw [if_pos (by omega)]; exact congrArg a (by omega)
      have u1 := u (i + 1) (by omega)
      have u2 := k (i - 1354) (by omega)
      have u3 := k (i - 1355) (by omega)
      rw [← e2] at u2
      rw [← e] at u3
      rw [e3, u3, ← u2]
      exact u1
    · rw [cpA_out _ (by omega)]; exact u i hi
theorem WF_wr0 {a : Nat → Nat} (hw : WF a) : WF (wr0 a) := by
  unfold wr0
  by_cases e : a 11 = 30
  · rw [if_pos e]; exact WF_free (WF_cp hw) (by omega) (show 29 ≤ 30 by omega)
  · rw [if_neg e]; exact hw
theorem WF_write {a : Nat → Nat} (hw : WF a) {c w s : Nat} (hc : c < 4) (h4 : w < 4) (hs : s < 2) : WF (writeA a c w s) := by
  have hb := wb hw
  have h29 := wr0_11 hb.2.2.2.2.2.2.2.2.2.2.2.2.1
  have k : ∀ c, c < 30 → ub (1355 + c) = 33554431 := by decide
  exact WF_free (WF_free (WF_wr0 hw) (by omega) (by rw [k _ (by omega)]; exact lineA_le hw hc h4 hs)) (by omega) (show wr0 a 11 + 1 ≤ 30 by omega)
theorem m_write71 {a : Nat → Nat} {ν0 ν : Nm} (h : M1 a ν0 ν) (h29 : a 11 ≤ 29) {c w s : Nat} : ∃ ν2, Md_write_71 (nI c) (nI w) (nI s) ν = some ν2 ∧ M1 (upn (upn a (1355 + a 11) (lineA a c w s)) 11 (a 11 + 1)) ν0 ν2 := by
  unfold Md_write_71 Md_write_118
  have n1 : 1355 + a 11 < 1385 := by omega
  simp (disch := omega) only [mr h, lit_nI, nI_add, nI_mul, nI_sub, nI_le', nI_lt', nI_eq', inb_nI, nI_clamp, b2iT', b2iF', b2i0', Option.bind_some, if_true, if_false, not_true_eq_false, not_false_eq_true, decide_eq_true_eq, decide_eq_false_iff_not, reduceCtorEq, Nat.add_zero, Nat.zero_add, n1, gi_si_j]
  exact ⟨_, rfl, M1_up (M1_up h _ (by omega)) _ (by omega)⟩
theorem m_write {a : Nat → Nat} {ν0 ν : Nm} (h : M1 a ν0 ν) (hw : WF a) (hq : gi ν 313 23 = 1) {c w s : Nat} : ∃ ν2, Md_write (nI c) (nI w) (nI s) ν = some ν2 ∧ M1 (writeA a c w s) ν0 ν2 := by
  have hb := wb hw
  unfold Md_write
  rw [hq, if_pos (by decide), mr h (by decide) (by decide)]
  have e' : (nI (a 11) = 30) = (a 11 = 30) := nI_eq' (b := 30) (by omega) (by decide)
  by_cases e : a 11 = 30
  · rw [if_neg (by rw [e']; simp [e])]
    have hs : ∀ f i ν, i < 29 → Md_write_23 (f + 1) (nI c) (nI w) (nI s) (nI (i + 1)) ν = Md_write_23 f (nI c) (nI w) (nI s) (nI (i + 1 + 1)) (si ν 314 (1355 + i) (gi ν 314 (1356 + i))) := by
      intro f i ν hi
      have n0 : ¬ 30 ≤ i + 1 := by omega
      have n1 : 1355 + (i + 1) < 1385 := by omega
      have n2 : 1355 + (i + 1) - 1 < 1385 := by omega
      have e1 : 1355 + (i + 1) = 1356 + i := by omega
      have e2 : 1356 + i - 1 = 1355 + i := by omega
      simp (disch := omega) only [Md_write_23, lit_nI, nI_add, nI_mul, nI_sub, nI_le', nI_lt', nI_eq', inb_nI, nI_clamp, b2iT', b2iF', b2i0', Option.bind_some, if_true, if_false, not_true_eq_false, not_false_eq_true, decide_eq_true_eq, decide_eq_false_iff_not, reduceCtorEq, Nat.add_zero, Nat.zero_add, n0, n1, n2]
      rw [e1, e2]
    have h0 : M1 (cpA a 1356 1355 0) ν0 ν := by rw [cpA_0]; exact h
    obtain ⟨ν2, q1, q2⟩ := cp_loop (fun f i ν => Md_write_23 f (nI c) (nI w) (nI s) (nI (i + 1)) ν) 1356 1355 29 (by omega) (by omega) (by omega) (by omega) (by omega) hs a ν0 29 FU 0 ν (by omega) (by unfold FU; omega) h0
    have e11 : cpA a 1356 1355 29 11 = 30 := by rw [cpA_out _ (by omega)]; exact e
    have q3 := M1_up q2 (i := 11) 29 (by omega)
    obtain ⟨ν3, r1, r2⟩ := m_write71 q3 (show upn (cpA a 1356 1355 29) 11 29 11 ≤ 29 by rw [upn_s]; omega) (c := c) (w := w) (s := s)
    refine ⟨ν3, ?_, ?_⟩
    · have q1' : Md_write_23 FU (nI c) (nI w) (nI s) 1 ν = Md_write_23 (FU - 29) (nI c) (nI w) (nI s) (nI 30) ν2 := q1
      rw [q1', show FU - 29 = (FU - 30) + 1 from rfl, Md_write_23, if_pos (by decide), mr q2 (by decide) (by decide), e11, show nI 30 - 1 = nI 29 from rfl]
      exact r1
    · have ew : wr0 a = upn (cpA a 1356 1355 29) 11 29 := by unfold wr0; rw [if_pos e]
      unfold writeA
      rw [ew]
      have el : lineA (upn (cpA a 1356 1355 29) 11 29) c w s = lineA a c w s := by
        unfold lineA; rw [upn_n _ _ (by omega), cpA_out _ (by omega)]
      rw [← el]
      exact r2
  · rw [if_pos (by rw [e']; exact e)]
    have ew : wr0 a = a := by unfold wr0; rw [if_neg e]
    unfold writeA
    rw [ew]
    exact m_write71 h (by omega)
/-- a cord is made new -/
def beginA (a : Nat → Nat) (c : Nat) : Nat → Nat := upn (upn a (12 + 2 * c) (64 * a (20 + 2 * c))) (13 + 2 * c) 0
theorem m_begin {a : Nat → Nat} {ν0 ν : Nm} (h : M1 a ν0 ν) {c : Nat} (hc : c < 4) : ∃ ν2, Md_begin (nI c) ν = some ν2 ∧ M1 (beginA a c) ν0 ν2 := by
  unfold Md_begin beginA
  rw [m_full h hc, Option.bind_some, show (0 : Int32) = nI 0 from rfl, show (1 : Int32) = nI 1 from rfl]
  obtain ⟨ν1, q1, q2⟩ := m_put h (w := 0) (v := 64 * a (20 + 2 * c)) hc (by decide)
  rw [q1, Option.bind_some]
  obtain ⟨ν2, r1, r2⟩ := m_put q2 (w := 1) (v := 0) hc (by decide)
  rw [r1, Option.bind_some]
  rw [show 12 + 2 * c + 1 = 13 + 2 * c by omega] at r2
  exact ⟨_, rfl, r2⟩
/-- a step is kept -/
def kp0 (a : Nat → Nat) : Nat → Nat := if a 4 = 30 then upn (cpA a 108 65 1247) 4 29 else a
def keepA (a : Nat → Nat) : Nat → Nat :=
  upn (cpA (cpA (upn (kp0 a) (65 + 43 * kp0 a 4) (a 0)) 8 (65 + 43 * kp0 a 4 + 1) 12) 1355 (65 + 43 * kp0 a 4 + 13) 30) 4 (kp0 a 4 + 1)
theorem kp0_4 {a : Nat → Nat} (h : a 4 ≤ 30) : kp0 a 4 ≤ 29 := by
  unfold kp0
  by_cases e : a 4 = 30
  · rw [if_pos e, upn_s]; omega
  · rw [if_neg e]; omega
theorem kp0_low {a : Nat → Nat} {j : Nat} (h : j < 65 ∨ 1355 ≤ j) (h2 : j ≠ 4) : kp0 a j = a j := by
  unfold kp0
  by_cases e : a 4 = 30
  · rw [if_pos e, upn_n _ _ h2, cpA_out _ (by omega)]
  · rw [if_neg e]
theorem keepA_low {a : Nat → Nat} (h30 : a 4 ≤ 30) {j : Nat} (h : j < 65 ∨ 1355 ≤ j) (h2 : j ≠ 4) : keepA a j = a j := by
  have := kp0_4 h30
  unfold keepA
  rw [upn_n _ _ h2, cpA_out _ (by omega), cpA_out _ (by omega), upn_n _ _ (by omega), kp0_low h h2]
theorem keepA_4 (a : Nat → Nat) : keepA a 4 = kp0 a 4 + 1 := by unfold keepA; rw [upn_s]
/-- the newest step -/
theorem keepA_x {a : Nat → Nat} (h30 : a 4 ≤ 30) : keepA a (65 + 43 * kp0 a 4) = a 0 := by
  have := kp0_4 h30
  unfold keepA
  rw [upn_n _ _ (by omega), cpA_out _ (by omega), cpA_out _ (by omega), upn_s]
theorem keepA_k {a : Nat → Nat} (h30 : a 4 ≤ 30) {k : Nat} (hk : k < 12) : keepA a (65 + 43 * kp0 a 4 + 1 + k) = a (8 + k) := by
  have := kp0_4 h30
  unfold keepA
  rw [upn_n _ _ (by omega), cpA_out _ (by omega), cpA_in _ hk, upn_n _ _ (by omega), kp0_low (by omega) (by omega)]
theorem keepA_b {a : Nat → Nat} (h30 : a 4 ≤ 30) {k : Nat} (hk : k < 30) : keepA a (65 + 43 * kp0 a 4 + 13 + k) = a (1355 + k) := by
  have := kp0_4 h30
  unfold keepA
  rw [upn_n _ _ (by omega), cpA_in _ hk, cpA_out _ (by omega), upn_n _ _ (by omega), kp0_low (by omega) (by omega)]
/-- an older step -/
theorem keepA_o {a : Nat → Nat} (h30 : a 4 ≤ 30) {i k : Nat} (hi : i < kp0 a 4) (hk : k < 43) : keepA a (65 + 43 * i + k) = a (65 + 43 * (if a 4 = 30 then i + 1 else i) + k) := by
  have h29 := kp0_4 h30
  unfold keepA
  rw [upn_n _ _ (by omega), cpA_out _ (by omega), cpA_out _ (by omega), upn_n _ _ (by omega)]
  unfold kp0 at hi ⊢
  by_cases e : a 4 = 30
  · rw [if_pos e, upn_s] at hi
    rw [if_pos e, if_pos e, upn_n _ _ (by omega), show 65 + 43 * i + k = 65 + (43 * i + k) by omega, cpA_in _ (by omega)]
    congr 1; omega
  · rw [if_neg e, if_neg e]
theorem m_keep54 {a : Nat → Nat} {ν0 ν : Nm} (h : M1 a ν0 ν) (h29 : a 4 ≤ 29) : ∃ ν2, Md_keep_54 ν = some ν2 ∧ M1 (upn (cpA (cpA (upn a (65 + 43 * a 4) (a 0)) 8 (65 + 43 * a 4 + 1) 12) 1355 (65 + 43 * a 4 + 13) 30) 4 (a 4 + 1)) ν0 ν2 := by
  unfold Md_keep_54
  have n1 : 65 + 43 * a 4 < 1385 := by omega
  simp (disch := omega) only [mr h, lit_nI, nI_add, nI_mul, nI_sub, nI_le', nI_lt', nI_eq', inb_nI, nI_clamp, b2iT', b2iF', b2i0', Option.bind_some, if_true, if_false, not_true_eq_false, not_false_eq_true, decide_eq_true_eq, decide_eq_false_iff_not, reduceCtorEq, Nat.add_zero, Nat.zero_add, n1]
  have h1 := M1_up h (i := 65 + 43 * a 4) (a 0) (by omega)
  generalize hx : 65 + 43 * a 4 = x at *
  have hs : ∀ f i ν, i < 12 → Md_keep_81 (f + 1) (nI x) (nI i) ν = Md_keep_81 f (nI x) (nI (i + 1)) (si ν 314 (x + 1 + i) (gi ν 314 (8 + i))) := by
    intro f i ν hi
    have n0 : ¬ 12 ≤ i := by omega
    have n2 : 8 + i < 1385 := by omega
    have n3 : x + 1 + i < 1385 := by omega
    simp (disch := omega) only [Md_keep_81, lit_nI, nI_add, nI_mul, nI_sub, nI_le', nI_lt', nI_eq', inb_nI, nI_clamp, b2iT', b2iF', b2i0', Option.bind_some, if_true, if_false, not_true_eq_false, not_false_eq_true, decide_eq_true_eq, decide_eq_false_iff_not, reduceCtorEq, Nat.add_zero, Nat.zero_add, n0, n2, n3]
  obtain ⟨ν2, q1, q2⟩ := cp_loop (fun f i ν => Md_keep_81 f (nI x) (nI i) ν) 8 (x + 1) 12 (by omega) (by omega) (by omega) (by omega) (by omega) hs (upn a x (a 0)) ν0 12 FU 0 _ (by omega) (by unfold FU; omega) (by rw [cpA_0]; exact h1)
  have hs2 : ∀ f i ν, i < 30 → Md_keep_114 (f + 1) (nI x) (nI i) ν = Md_keep_114 f (nI x) (nI (i + 1)) (si ν 314 (x + 13 + i) (gi ν 314 (1355 + i))) := by
    intro f i ν hi
    have n0 : ¬ 30 ≤ i := by omega
    have n2 : 1355 + i < 1385 := by omega
    have n3 : x + 1 + 12 + i < 1385 := by omega
    simp (disch := omega) only [Md_keep_114, lit_nI, nI_add, nI_mul, nI_sub, nI_le', nI_lt', nI_eq', inb_nI, nI_clamp, b2iT', b2iF', b2i0', Option.bind_some, if_true, if_false, not_true_eq_false, not_false_eq_true, decide_eq_true_eq, decide_eq_false_iff_not, reduceCtorEq, Nat.add_zero, Nat.zero_add, n0, n2, n3]
  obtain ⟨ν3, r1, r2⟩ := cp_loop (fun f i ν => Md_keep_114 f (nI x) (nI i) ν) 1355 (x + 13) 30 (by omega) (by omega) (by omega) (by omega) (by omega) hs2 _ ν0 30 FU 0 ν2 (by omega) (by unfold FU; omega) (by rw [cpA_0]; exact q2)
  have e4 : cpA (cpA (upn a x (a 0)) 8 (x + 1) 12) 1355 (x + 13) 30 4 = a 4 := by rw [cpA_out _ (by omega), cpA_out _ (by omega), upn_n _ _ (by omega)]
  refine ⟨si ν3 314 4 (nI (a 4 + 1)), ?_, M1_up r2 _ (by omega)⟩
  have q1' : Md_keep_81 FU (nI x) (nI 0) (si ν 314 x (nI (a 0))) = Md_keep_81 (FU - 12) (nI x) (nI 12) ν2 := q1
  have r1' : Md_keep_114 FU (nI x) (nI 0) ν2 = Md_keep_114 (FU - 30) (nI x) (nI 30) ν3 := r1
  rw [q1', show FU - 12 = (FU - 13) + 1 from rfl, Md_keep_81, if_pos (by decide), show (0 : Int32) = nI 0 from rfl, r1', show FU - 30 = (FU - 31) + 1 from rfl, Md_keep_114, if_pos (by decide), mr r2 (by decide) (by decide), e4, show (1 : Int32) = nI 1 from rfl, nI_add]
theorem m_keep {a : Nat → Nat} {ν0 ν : Nm} (h : M1 a ν0 ν) (h30 : a 4 ≤ 30) : ∃ ν2, Md_keep ν = some ν2 ∧ M1 (keepA a) ν0 ν2 := by
  unfold Md_keep
  rw [mr h (by decide) (by decide)]
  have e' : (nI (a 4) = 30) = (a 4 = 30) := nI_eq' (b := 30) (by omega) (by decide)
  by_cases e : a 4 = 30
  · rw [if_neg (by rw [e']; simp [e])]
    have hs : ∀ f i ν, i < 1247 → Md_keep_13 (f + 1) (nI i) ν = Md_keep_13 f (nI (i + 1)) (si ν 314 (65 + i) (gi ν 314 (108 + i))) := by
      intro f i ν hi
      have n0 : ¬ 1247 ≤ i := by omega
      have n1 : 108 + i < 1385 := by omega
      have n2 : 65 + i < 1385 := by omega
      simp (disch := omega) only [Md_keep_13, lit_nI, nI_add, nI_mul, nI_sub, nI_le', nI_lt', nI_eq', inb_nI, nI_clamp, b2iT', b2iF', b2i0', Option.bind_some, if_true, if_false, not_true_eq_false, not_false_eq_true, decide_eq_true_eq, decide_eq_false_iff_not, reduceCtorEq, Nat.add_zero, Nat.zero_add, n0, n1, n2]
    obtain ⟨ν2, q1, q2⟩ := cp_loop (fun f i ν => Md_keep_13 f (nI i) ν) 108 65 1247 (by omega) (by omega) (by omega) (by omega) (by omega) hs a ν0 1247 FU 0 ν (by omega) (by unfold FU; omega) (by rw [cpA_0]; exact h)
    have e4 : cpA a 108 65 1247 4 = 30 := by rw [cpA_out _ (by omega)]; exact e
    have q3 := M1_up q2 (i := 4) 29 (by omega)
    obtain ⟨ν3, r1, r2⟩ := m_keep54 q3 (by rw [upn_s]; omega)
    have q1' : Md_keep_13 FU (nI 0) ν = Md_keep_13 (FU - 1247) (nI 1247) ν2 := q1
    refine ⟨ν3, ?_, ?_⟩
    · rw [show (0 : Int32) = nI 0 from rfl, q1', show FU - 1247 = (FU - 1248) + 1 from rfl, Md_keep_13, if_pos (by decide), mr q2 (by decide) (by decide), e4, show nI 30 - 1 = nI 29 from rfl]
      exact r1
    · have ek : kp0 a = upn (cpA a 108 65 1247) 4 29 := by unfold kp0; rw [if_pos e]
      have e0 : upn (cpA a 108 65 1247) 4 29 0 = a 0 := by rw [upn_n _ _ (by omega), cpA_out _ (by omega)]
      rw [e0] at r2
      unfold keepA
      rw [ek]
      exact r2
  · rw [if_pos (by rw [e']; exact e)]
    have ek : kp0 a = a := by unfold kp0; rw [if_neg e]
    unfold keepA
    rw [ek]
    exact m_keep54 h (by omega)
