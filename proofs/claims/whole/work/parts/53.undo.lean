/-! Taken back. -/
def layK : Nat → Nat → (Nat → Nat) → (Nat → Nat)
  | 0, _, a => a
  | k + 1, i, a => layK k (i + 1) (beginA a i)
theorem begin_cp (a : Nat → Nat) {c s : Nat} (hc : c < 4) (hs : 28 ≤ s) : cpA (beginA a c) s 1355 30 = beginA (cpA a s 1355 30) c := by
  funext j
  unfold beginA
  by_cases h : 1355 ≤ j ∧ j < 1355 + 30
  · rw [upn_n _ _ (by omega), upn_n _ _ (by omega)]
    unfold cpA
    rw [if_pos h, if_pos h, upn_n _ _ (by omega), upn_n _ _ (by omega)]
  · rw [cpA_out _ (by omega)]
    by_cases e : j = 13 + 2 * c
    · subst e; rw [upn_s, upn_s]
    · rw [upn_n _ _ e, upn_n _ _ e]
      by_cases e2 : j = 12 + 2 * c
      · subst e2; rw [upn_s, upn_s, cpA_out _ (by omega)]
      · rw [upn_n _ _ e2, upn_n _ _ e2, cpA_out _ (by omega)]
theorem lay_cp : ∀ (k i : Nat) (a : Nat → Nat) {s : Nat}, i + k ≤ 4 → 28 ≤ s → cpA (layK k i a) s 1355 30 = layK k i (cpA a s 1355 30) := by
  intro k
  induction k with
  | zero => intro i a s _ _; rfl
  | succ k ih =>
    intro i a s h hs
    show cpA (layK k (i + 1) (beginA a i)) s 1355 30 = layK k (i + 1) (beginA (cpA a s 1355 30) i)
    rw [ih (i + 1) _ (by omega) hs, begin_cp a (by omega) hs]
theorem lay_low : ∀ (k i : Nat) (a : Nat → Nat) {j : Nat}, (j < 12 + 2 * i ∨ 12 + 2 * (i + k) ≤ j) → layK k i a j = a j := by
  intro k
  induction k with
  | zero => intro i a j _; rfl
  | succ k ih =>
    intro i a j h
    show layK k (i + 1) (beginA a i) j = _
    rw [ih (i + 1) _ (by omega)]
    unfold beginA
    rw [upn_n _ _ (by omega), upn_n _ _ (by omega)]
theorem lay_in : ∀ (k i : Nat) (a : Nat → Nat) {c : Nat}, i + k ≤ 4 → i ≤ c → c < i + k → layK k i a (12 + 2 * c) = 64 * a (20 + 2 * c) ∧ layK k i a (13 + 2 * c) = 0 := by
  intro k
  induction k with
  | zero => intro i a c _ _ _; omega
  | succ k ih =>
    intro i a c h h1 h2
    show layK k (i + 1) (beginA a i) _ = _ ∧ layK k (i + 1) (beginA a i) _ = _
    by_cases e : c = i
    · subst e
      rw [lay_low k (c + 1) _ (by omega), lay_low k (c + 1) _ (by omega)]
      unfold beginA
      rw [upn_s, upn_n _ _ (by omega), upn_s]
      exact ⟨rfl, rfl⟩
    · have := ih (i + 1) (beginA a i) (c := c) (by omega) (by omega) (by omega)
      have e20 : beginA a i (20 + 2 * c) = a (20 + 2 * c) := by unfold beginA; rw [upn_n _ _ (by omega), upn_n _ _ (by omega)]
      rw [e20] at this
      exact this
def unx (a : Nat → Nat) : Nat := 65 + 43 * (a 4 - 1)
def un1 (a : Nat → Nat) : Nat → Nat := cpA (cpA (upn a 4 (a 4 - 1)) (unx a + 1) 8 12) (unx a + 13) 1355 30
def undoA (a : Nat → Nat) : Nat → Nat := layK (a 0 - a (unx a)) (a (unx a)) (un1 a)
theorem un1_low {a : Nat → Nat} {j : Nat} (h : j < 8 ∨ (20 ≤ j ∧ j < 1355)) (h4 : j ≠ 4) : un1 a j = a j := by
  unfold un1
  rw [cpA_out _ (by omega), cpA_out _ (by omega), upn_n _ _ h4]
theorem un1_k {a : Nat → Nat} (h30 : a 4 ≤ 30) (h1 : 1 ≤ a 4) {k : Nat} (hk : k < 12) : un1 a (8 + k) = a (unx a + 1 + k) := by
  unfold un1
  rw [cpA_out _ (by omega), cpA_in _ hk, upn_n _ _ (by unfold unx; omega)]
theorem un1_b {a : Nat → Nat} (h30 : a 4 ≤ 30) (h1 : 1 ≤ a 4) {k : Nat} (hk : k < 30) : un1 a (1355 + k) = a (unx a + 13 + k) := by
  unfold un1
  rw [cpA_in _ hk, cpA_out _ (by unfold unx; omega), upn_n _ _ (by unfold unx; omega)]
theorem un1_4 (a : Nat → Nat) : un1 a 4 = a 4 - 1 := by
  unfold un1
  rw [cpA_out _ (by omega), cpA_out _ (by omega), upn_s]
theorem un_steps {a : Nat → Nat} (hw : WF a) (h1 : 1 ≤ a 4) : a (unx a) ≤ a 0 ∧ PW a (a (unx a)) (unx a + 5) := by
  have hb := wb hw
  have := hw.2.2.2.2.2.2 (a 4 - 1) (by omega) (by omega)
  unfold unx
  rw [show 65 + 43 * (a 4 - 1) + 5 = 70 + 43 * (a 4 - 1) by omega]
  exact this
theorem undoA_low {a : Nat → Nat} {j : Nat} (ho : a (unx a) ≤ a 0) (h0 : a 0 ≤ 4) (h : j < 8 ∨ (20 ≤ j ∧ j < 1355)) (h4 : j ≠ 4) : undoA a j = a j := by
  unfold undoA
  rw [lay_low _ _ _ (by omega), un1_low h h4]
theorem ub_step : ∀ n, n < 30 → (∀ k, k < 12 → ub (65 + 43 * n + 1 + k) = ub (8 + k)) ∧ ∀ k, k < 30 → ub (65 + 43 * n + 13 + k) = ub (1355 + k) := by decide +kernel
theorem WF_undo {a : Nat → Nat} (hw : WF a) (h1 : 1 ≤ a 4) : WF (undoA a) := by
  have hb := wb hw
  obtain ⟨ho, hp⟩ := un_steps hw h1
  have h30 := hb.2.2.2.2.2.1
  have n : ∀ j, (j < 8 ∨ (20 ≤ j ∧ j < 1355)) → j ≠ 4 → undoA a j = a j := fun j => undoA_low ho hb.1
  have e4 : undoA a 4 = a 4 - 1 := by unfold undoA; rw [lay_low _ _ _ (by omega), un1_4]
  have us := ub_step (a 4 - 1) (by omega)
  have kc : ∀ c, c < 4 → ub (12 + 2 * c) = 3840 ∧ ub (13 + 2 * c) = 3 := by decide
  have re : ∀ c, c < 4 → (undoA a (12 + 2 * c) = if a (unx a) ≤ c ∧ c < a 0 then 64 * a (20 + 2 * c) else a (unx a + 5 + 2 * c)) ∧ (undoA a (13 + 2 * c) = if a (unx a) ≤ c ∧ c < a 0 then 0 else a (unx a + 6 + 2 * c)) := by
    intro c hc
    unfold undoA
    by_cases e : a (unx a) ≤ c ∧ c < a 0
    · rw [if_pos e, if_pos e]
      have := lay_in (a 0 - a (unx a)) (a (unx a)) (un1 a) (c := c) (by omega) (by omega) (by omega)
      rw [un1_low (by omega) (by omega)] at this
      exact this
    · rw [if_neg e, if_neg e, lay_low _ _ _ (by omega), lay_low _ _ _ (by omega), show 12 + 2 * c = 8 + (4 + 2 * c) by omega, un1_k h30 h1 (by omega), show 13 + 2 * c = 8 + (5 + 2 * c) by omega, un1_k h30 h1 (by omega)]
      exact ⟨congrArg a (by omega), congrArg a (by omega)⟩
  obtain ⟨u, w1, w2, w3, w4, w5, w6⟩ := hw
  refine ⟨fun i hi => ?_, by unfold W1; rw [n 1 (by omega) (by omega)]; exact w1, by unfold W2; rw [n 3 (by omega) (by omega), n 2 (by omega) (by omega)]; exact w2, ⟨?_, fun c c4 h => ?_⟩, W4_keep w4 (fun j hj => n j (by omega) (by omega)), W5_keep w5 (fun j hj => n j (by omega) (by omega)), fun i i30 hi => ?_⟩
  · by_cases e : i = 4
    · subst e; rw [e4]; exact Nat.le_trans (Nat.sub_le _ _) h30
    · by_cases e2 : i < 8 ∨ (20 ≤ i ∧ i < 1355)
      · rw [n i e2 e]; exact u i hi
      · by_cases e3 : i < 12
        · have e5 : undoA a i = a (unx a + 1 + (i - 8)) := by
            unfold undoA
            rw [lay_low _ _ _ (by omega), ← un1_k h30 h1 (by omega)]
            exact congrArg _ (by omega)
          have q := us.1 (i - 8) (by omega)
          have q2 := u (unx a + 1 + (i - 8)) (by unfold unx; omega)
          rw [e5]
          unfold unx at q2 ⊢
          rw [q, show 8 + (i - 8) = i by omega] at q2
          exact q2
        · by_cases e6 : i < 20
          · have hcs : ∃ c, c < 4 ∧ (i = 12 + 2 * c ∨ i = 13 + 2 * c) := ⟨(i - 12) / 2, by omega, by omega⟩
            obtain ⟨c, hc, hcs⟩ := hcs
            obtain ⟨r1, r2⟩ := re c hc
            obtain ⟨k1, k2⟩ := kc c hc
            have hm := u (20 + 2 * c) (by omega)
            have km : ∀ c, c < 4 → ub (20 + 2 * c) = 60 := by decide
            rw [km c hc] at hm
            rcases hcs with rfl | rfl
            · rw [r1, k1]
              split
              · omega
              · have q := us.1 (4 + 2 * c) (by omega)
                have q2 := u (unx a + 5 + 2 * c) (by unfold unx; omega)
                unfold unx at q2 ⊢
                rw [show 65 + 43 * (a 4 - 1) + 5 + 2 * c = 65 + 43 * (a 4 - 1) + 1 + (4 + 2 * c) by omega, q, show 8 + (4 + 2 * c) = 12 + 2 * c by omega, k1] at q2
                rw [show 65 + 43 * (a 4 - 1) + 5 + 2 * c = 65 + 43 * (a 4 - 1) + 1 + (4 + 2 * c) by omega]
                exact q2
            · rw [r2, k2]
              split
              · omega
              · have q := us.1 (5 + 2 * c) (by omega)
                have q2 := u (unx a + 6 + 2 * c) (by unfold unx; omega)
                unfold unx at q2 ⊢
                rw [show 65 + 43 * (a 4 - 1) + 6 + 2 * c = 65 + 43 * (a 4 - 1) + 1 + (5 + 2 * c) by omega, q, show 8 + (5 + 2 * c) = 13 + 2 * c by omega, k2] at q2
                rw [show 65 + 43 * (a 4 - 1) + 6 + 2 * c = 65 + 43 * (a 4 - 1) + 1 + (5 + 2 * c) by omega]
                exact q2
          · have e5 : undoA a i = a (unx a + 13 + (i - 1355)) := by
              unfold undoA
              rw [lay_low _ _ _ (by omega), ← un1_b h30 h1 (by omega)]
              exact congrArg _ (by omega)
            have q := us.2 (i - 1355) (by omega)
            have q2 := u (unx a + 13 + (i - 1355)) (by unfold unx; omega)
            rw [e5]
            unfold unx at q2 ⊢
            rw [q, show 1355 + (i - 1355) = i by omega] at q2
            exact q2
  · rw [n 0 (by omega) (by omega)]
    intro c hc
    obtain ⟨r1, r2⟩ := re c hc
    have hpc := hp c hc
    rw [show unx a + 5 + 1 + 2 * c = unx a + 6 + 2 * c by omega] at hpc
    rw [show 12 + 1 + 2 * c = 13 + 2 * c by omega, r1, r2, n (20 + 2 * c) (by omega) (by omega)]
    by_cases e : a (unx a) ≤ c ∧ c < a 0
    · rw [if_pos e, if_pos e]
      exact ⟨fun q => absurd rfl q, fun _ => rfl, fun _ => Nat.le_refl _⟩
    · rw [if_neg e, if_neg e]
      exact ⟨hpc.1, fun q => hpc.2.1 (by omega), fun q => hpc.2.2 (by omega)⟩
  · rw [n 0 (by omega) (by omega)] at h
    rw [n _ (by omega) (by omega)]
    exact w3.2 c c4 h
  · rw [e4] at hi
    obtain ⟨q1, q2⟩ := w6 i i30 (by omega)
    rw [n _ (by omega) (by omega), n 0 (by omega) (by omega)]
    exact ⟨q1, PW_keep q2 (fun j hj => n j (by omega) (by omega))⟩
/-- the model -/
theorem m_lay {x : Int32} {ν0 : Nm} : ∀ (k f i : Nat) (a : Nat → Nat) (ν : Nm), i + k = a 0 → a 0 ≤ 4 → k < f → M1 a ν0 ν → ∃ ν2, Md_undo_74 f x (nI i) ν = Md_undo_97 FU x 0 ν2 ∧ M1 (layK k i a) ν0 ν2 := by
  intro k
  induction k with
  | zero =>
    intro f i a ν hi h4 hf h
    obtain ⟨f, rfl⟩ := fsucc hf
    exact ⟨ν, by rw [Md_undo_74, mr h (by decide) (by decide), if_pos (by rw [nI_le' (by omega) (by omega)]; omega)], h⟩
  | succ k ih =>
    intro f i a ν hi h4 hf h
    obtain ⟨f, rfl⟩ := fsucc hf
    obtain ⟨ν1, p1, p2⟩ := m_begin h (show i < 4 by omega)
    have e0 : beginA a i 0 = a 0 := by unfold beginA; rw [upn_n _ _ (by omega), upn_n _ _ (by omega)]
    obtain ⟨ν2, q1, q2⟩ := ih f (i + 1) (beginA a i) ν1 (by rw [e0]; omega) (by rw [e0]; exact h4) (by omega) p2
    refine ⟨ν2, ?_, q2⟩
    rw [Md_undo_74, mr h (by decide) (by decide), if_neg (by rw [nI_le' (by omega) (by omega)]; omega), p1, Option.bind_some, show (1 : Int32) = nI 1 from rfl, nI_add]
    exact q1
theorem m_undo {a : Nat → Nat} {ν0 ν : Nm} (h : M1 a ν0 ν) (hw : WF a) (h1 : 1 ≤ a 4) : ∃ ν2, Md_undo ν = some (nI (a 4 - 1), ν2) ∧ M1 (undoA a) ν0 ν2 := by
  have hb := wb hw
  obtain ⟨ho, -⟩ := un_steps hw h1
  have h30 := hb.2.2.2.2.2.1
  have hx : unx a + 43 ≤ 1355 := by unfold unx; omega
  unfold Md_undo
  rw [mr h (by decide) (by decide), if_pos (by rw [show (0 : Int32) = nI 0 from rfl, nI_eq' (by omega) (by omega)]; omega), show (1 : Int32) = nI 1 from rfl, nI_sub h1, gi_si_s, show (65 : Int32) = nI 65 from rfl, show (43 : Int32) = nI 43 from rfl, nI_mul, nI_add]
  have ex : 65 + 43 * (a 4 - 1) = unx a := rfl
  rw [ex]
  have m1 := M1_up h (i := 4) (a 4 - 1) (by omega)
  have hx0 : 65 ≤ unx a := by unfold unx; omega
  have eu : upn a 4 (a 4 - 1) (unx a) = a (unx a) := upn_n _ _ (by omega)
  have eU : undoA a = layK (a 0 - a (unx a)) (a (unx a)) (cpA (cpA (upn a 4 (a 4 - 1)) (unx a + 1) 8 12) (unx a + 13) 1355 30) := rfl
  generalize unx a = x at *
  have hs : ∀ f i ν, i < 12 → Md_undo_36 (f + 1) (nI x) (nI i) ν = Md_undo_36 f (nI x) (nI (i + 1)) (si ν 314 (8 + i) (gi ν 314 (x + 1 + i))) := by
    intro f i ν hi
    have n0 : ¬ 12 ≤ i := by omega
    have n2 : 8 + i < 1385 := by omega
    have n3 : x + 1 + i < 1385 := by omega
    simp (disch := omega) only [Md_undo_36, lit_nI, nI_add, nI_mul, nI_sub, nI_le', nI_lt', nI_eq', inb_nI, nI_clamp, b2iT', b2iF', b2i0', Option.bind_some, if_true, if_false, not_true_eq_false, not_false_eq_true, decide_eq_true_eq, decide_eq_false_iff_not, reduceCtorEq, Nat.add_zero, Nat.zero_add, n0, n2, n3]
  obtain ⟨ν2, q1, q2⟩ := cp_loop (fun f i ν => Md_undo_36 f (nI x) (nI i) ν) (x + 1) 8 12 (by omega) (by omega) (by omega) (by omega) (by omega) hs (upn a 4 (a 4 - 1)) ν0 12 FU 0 _ (by omega) (by unfold FU; omega) (by rw [cpA_0]; exact m1)
  have q1' : Md_undo_36 FU (nI x) (nI 0) (si ν 314 4 (nI (a 4 - 1))) = Md_undo_36 (FU - 12) (nI x) (nI 12) ν2 := q1
  have e0 : cpA (upn a 4 (a 4 - 1)) (x + 1) 8 12 0 = a 0 := by rw [cpA_out _ (by omega), upn_n _ _ (by omega)]
  have exx : cpA (upn a 4 (a 4 - 1)) (x + 1) 8 12 x = a x := by rw [cpA_out _ (by omega), eu]
  obtain ⟨ν3, r1, r2⟩ := m_lay (x := nI x) (a 0 - a x) FU (a x) _ ν2 (by rw [e0]; omega) (by rw [e0]; exact hb.1) (by unfold FU; omega) q2
  have hs2 : ∀ f i ν, i < 30 → Md_undo_97 (f + 1) (nI x) (nI i) ν = Md_undo_97 f (nI x) (nI (i + 1)) (si ν 314 (1355 + i) (gi ν 314 (x + 13 + i))) := by
    intro f i ν hi
    have n0 : ¬ 30 ≤ i := by omega
    have n2 : 1355 + i < 1385 := by omega
    have n3 : x + 1 + 12 + i < 1385 := by omega
    simp (disch := omega) only [Md_undo_97, lit_nI, nI_add, nI_mul, nI_sub, nI_le', nI_lt', nI_eq', inb_nI, nI_clamp, b2iT', b2iF', b2i0', Option.bind_some, if_true, if_false, not_true_eq_false, not_false_eq_true, decide_eq_true_eq, decide_eq_false_iff_not, reduceCtorEq, Nat.add_zero, Nat.zero_add, n0, n2, n3]
  obtain ⟨ν4, t1, t2⟩ := cp_loop (fun f i ν => Md_undo_97 f (nI x) (nI i) ν) (x + 13) 1355 30 (by omega) (by omega) (by omega) (by omega) (by omega) hs2 _ ν0 30 FU 0 ν3 (by omega) (by unfold FU; omega) (by rw [cpA_0]; exact r2)
  have t1' : Md_undo_97 FU (nI x) (nI 0) ν3 = Md_undo_97 (FU - 30) (nI x) (nI 30) ν4 := t1
  rw [lay_cp _ _ _ (by omega) (by omega)] at t2
  refine ⟨ν4, ?_, by rw [eU]; exact t2⟩
  have e4 : layK (a 0 - a x) (a x) (cpA (cpA (upn a 4 (a 4 - 1)) (x + 1) 8 12) (x + 13) 1355 30) 4 = a 4 - 1 := by
    rw [lay_low _ _ _ (by omega), cpA_out _ (by omega), cpA_out _ (by omega), upn_s]
  rw [show (0 : Int32) = nI 0 from rfl, q1', show FU - 12 = (FU - 13) + 1 from rfl, Md_undo_36, if_pos (by decide), inb_nI (by omega), nI_clamp (by omega), if_pos (by simp; omega), mr q2 (by omega) (by omega), exx, r1, show (0 : Int32) = nI 0 from rfl, t1', show FU - 30 = (FU - 31) + 1 from rfl, Md_undo_97, if_pos (by decide), mr t2 (by decide) (by decide), e4]
