/-! Sparks pass, on both sides. -/
theorem WF_re {a : Nat → Nat} (hw : WF a) {c r e : Nat} (hc : c < 4) (hr : r ≤ 3840) (he : e ≤ 3) (h1 : e ≠ 0 → r ≠ 0) (h2 : a 0 ≤ c → e = 0) (h3 : c < a 0 → r ≤ 64 * a (20 + 2 * c)) : WF (upn (upn a (12 + 2 * c) r) (13 + 2 * c) e) := by
  have k : ∀ c, c < 4 → ub (12 + 2 * c) = 3840 ∧ ub (13 + 2 * c) = 3 := by decide
  have n : ∀ j, j ≠ 12 + 2 * c → j ≠ 13 + 2 * c → upn (upn a (12 + 2 * c) r) (13 + 2 * c) e j = a j := fun j h1 h2 => by rw [upn_n _ _ h2, upn_n _ _ h1]
  have e1 : upn (upn a (12 + 2 * c) r) (13 + 2 * c) e (12 + 2 * c) = r := by rw [upn_n _ _ (by omega), upn_s]
  have e2 : upn (upn a (12 + 2 * c) r) (13 + 2 * c) e (13 + 2 * c) = e := by rw [upn_s]
  obtain ⟨u, w1, w2, w3, w4, w5, w6⟩ := hw
  refine ⟨UB_up (UB_up u (by rw [(k c hc).1]; omega)) (by rw [(k c hc).2]; omega), by unfold W1; rw [n 1 (by omega) (by omega)]; exact w1, by unfold W2; rw [n 3 (by omega) (by omega), n 2 (by omega) (by omega)]; exact w2, ⟨fun d hd => ?_, fun d h1 h2 => ?_⟩, W4_keep w4 (fun j hj => n j (by omega) (by omega)), W5_keep w5 (fun j hj => n j (by omega) (by omega)), W6_keep w6 (fun j hj => n j (by omega) (by omega))⟩
  · rw [n 0 (by omega) (by omega)]
    by_cases q : d = c
    · subst q
      rw [show 12 + 1 + 2 * d = 13 + 2 * d by omega, e1, e2, n _ (by omega) (by omega)]
      exact ⟨h1, h2, h3⟩
    · rw [n _ (by omega) (by omega), n _ (by omega) (by omega), n _ (by omega) (by omega)]
      exact w3.1 d hd
  · rw [n 0 (by omega) (by omega)] at h2; rw [n _ (by omega) (by omega)]; exact w3.2 d h1 h2
theorem upn_id (a : Nat → Nat) (i : Nat) : upn a i (a i) = a := by
  funext j; unfold upn; split
  · rename_i e; rw [e]
  · rfl
theorem WF_pw1 {n i : Nat} (hi : i < 4) {s : (Nat → Nat) × Nat} (h : WF s.1) : WF (pw1 true n i s).1 := by
  have hb := wbc h hi
  have hp := WP_e (WF_WP h) hi
  unfold pw1
  by_cases e : s.1 (13 + 2 * i) = 0
  · rw [if_pos e]; exact h
  · rw [if_neg e]
    by_cases e2 : s.1 (12 + 2 * i) - n * pc16 (s.1 (13 + 2 * i)) = 0
    · rw [if_pos e2]
      show WF (writeA _ _ _ _)
      exact WF_write (WF_re h hi (by omega) (by omega) (fun z => absurd rfl z) (fun _ => rfl) (fun _ => by omega)) hi (by omega) (by omega)
    · rw [if_neg e2]
      show WF (upn s.1 _ _)
      have := WF_re h hi (r := s.1 (12 + 2 * i) - n * pc16 (s.1 (13 + 2 * i))) (e := s.1 (13 + 2 * i)) (by omega) (by omega) (fun _ => e2) hp.2.1 (fun z => by have := hp.2.2 z; omega)
      have e3 : upn (upn s.1 (12 + 2 * i) (s.1 (12 + 2 * i) - n * pc16 (s.1 (13 + 2 * i)))) (13 + 2 * i) (s.1 (13 + 2 * i)) = upn s.1 (12 + 2 * i) (s.1 (12 + 2 * i) - n * pc16 (s.1 (13 + 2 * i))) := by
        have q := upn_id (upn s.1 (12 + 2 * i) (s.1 (12 + 2 * i) - n * pc16 (s.1 (13 + 2 * i)))) (13 + 2 * i)
        rw [upn_n _ _ (show 13 + 2 * i ≠ 12 + 2 * i by omega)] at q
        exact q
      rw [e3] at this
      exact this
/-- along the cords -/
theorem pwk_low {w : Bool} {n : Nat} : ∀ (k i : Nat) (s : (Nat → Nat) × Nat) (j : Nat), i + k ≤ 4 → j < 1355 → j ≠ 11 → (j < 12 + 2 * i ∨ 12 + 2 * (i + k) ≤ j) → (pwk w n k i s).1 j = s.1 j := by
  intro k
  induction k with
  | zero => intro i s j _ _ _ _; rfl
  | succ k ih =>
    intro i s j h h1 h2 h3
    unfold pwk
    rw [ih (i + 1) _ j (by omega) h1 h2 (by omega), pw1_low (by omega) s h1 h2 (by omega) (by omega)]
theorem pw1_u {w : Bool} {n i : Nat} (hi : i < 4) (s : (Nat → Nat) × Nat) : (pw1 w n i s).1 (12 + 2 * i) = s.1 (12 + 2 * i) - n * pc16 (s.1 (13 + 2 * i)) ∧ (pw1 w n i s).1 (13 + 2 * i) = if s.1 (12 + 2 * i) - n * pc16 (s.1 (13 + 2 * i)) = 0 then 0 else s.1 (13 + 2 * i) := by
  obtain ⟨r1, r2⟩ := pw1_re (w := w) (n := n) hi s
  refine ⟨?_, r2⟩
  rw [r1]
  by_cases e : s.1 (13 + 2 * i) = 0
  · rw [if_pos e, e, pc0]; omega
  · rw [if_neg e]
theorem pwk_re {w : Bool} {n : Nat} : ∀ (k i : Nat) (s : (Nat → Nat) × Nat) (c : Nat), i + k ≤ 4 → i ≤ c → c < i + k → (pwk w n k i s).1 (12 + 2 * c) = s.1 (12 + 2 * c) - n * pc16 (s.1 (13 + 2 * c)) ∧ (pwk w n k i s).1 (13 + 2 * c) = if s.1 (12 + 2 * c) - n * pc16 (s.1 (13 + 2 * c)) = 0 then 0 else s.1 (13 + 2 * c) := by
  intro k
  induction k with
  | zero => intro i s c _ _ _; omega
  | succ k ih =>
    intro i s c h h1 h2
    unfold pwk
    by_cases e : c = i
    · subst e
      rw [pwk_low k (c + 1) _ _ (by omega) (by omega) (by omega) (by omega), pwk_low k (c + 1) _ _ (by omega) (by omega) (by omega) (by omega)]
      exact pw1_u (by omega) s
    · have := ih (i + 1) (pw1 w n i s) c (by omega) (by omega) (by omega)
      rw [pw1_low (by omega) s (by omega) (by omega) (by omega) (by omega), pw1_low (by omega) s (by omega) (by omega) (by omega) (by omega)] at this
      exact this
theorem WP_pwk {w : Bool} {n : Nat} : ∀ (k i : Nat) (s : (Nat → Nat) × Nat), i + k ≤ 4 → WP s.1 → WP (pwk w n k i s).1 := by
  intro k
  induction k with
  | zero => intro i s _ h; exact h
  | succ k ih => intro i s h1 h; exact ih (i + 1) _ (by omega) (WP_pw1 (by omega) h)
theorem WF_pwk {n : Nat} : ∀ (k i : Nat) (s : (Nat → Nat) × Nat), i + k ≤ 4 → WF s.1 → WF (pwk true n k i s).1 := by
  intro k
  induction k with
  | zero => intro i s _ h; exact h
  | succ k ih => intro i s h1 h; exact ih (i + 1) _ (by omega) (WF_pw1 (by omega) h)
theorem pwk_cords {w : Bool} {n : Nat} {s : (Nat → Nat) × Nat} (h : WP s.1) : pwk w n (s.1 0) 0 s = pwk w n 4 0 s := by
  have add : ∀ (k m i : Nat) (s : (Nat → Nat) × Nat), pwk w n (k + m) i s = pwk w n m (i + k) (pwk w n k i s) := by
    intro k
    induction k with
    | zero => intro m i s; rw [Nat.zero_add]; rfl
    | succ k ih => intro m i s; rw [show k + 1 + m = (k + m) + 1 by omega]; show pwk w n (k + m) (i + 1) (pw1 w n i s) = pwk w n m (i + (k + 1)) (pwk w n k (i + 1) (pw1 w n i s)); rw [ih m (i + 1), show i + 1 + k = i + (k + 1) by omega]
  have idl : ∀ (m i : Nat) (s : (Nat → Nat) × Nat), i + m ≤ 4 → (∀ c, i ≤ c → c < 4 → s.1 (13 + 2 * c) = 0) → pwk w n m i s = s := by
    intro m
    induction m with
    | zero => intro i s _ _; rfl
    | succ m ih =>
      intro i s h1 h2
      have e : pw1 w n i s = s := by unfold pw1; rw [if_pos (h2 i (by omega) (by omega))]
      unfold pwk
      rw [e]
      exact ih (i + 1) s (by omega) (fun c c1 c2 => h2 c (by omega) c2)
  have h4 := h.1
  have := add (s.1 0) (4 - s.1 0) 0 s
  rw [show s.1 0 + (4 - s.1 0) = 4 by omega, Nat.zero_add] at this
  rw [this]
  have hp := WP_pwk (w := w) (n := n) (s.1 0) 0 s (by omega) h
  have e0 : (pwk w n (s.1 0) 0 s).1 0 = s.1 0 := pwk_low _ 0 s 0 (by omega) (by omega) (by omega) (by omega)
  exact (idl _ _ _ (by omega) (fun c c1 c2 => (WP_e hp c2).2.1 (by rw [e0]; exact c1))).symm
/-- the class, cord by cord -/
theorem c_pw {n : Nat} (hn : n ≤ 4000) {ν0 : Nm} : ∀ (k f i : Nat) (s : (Nat → Nat) × Nat) (ν : Nm), i + k = 4 → k < f → WF s.1 → C1 s.1 ν0 ν → ∃ ν2, Pt_passWithin_19 f 2 (nI n) (nI s.2) (nI i) ν = some (nI (pwk true n k i s).2, ν2) ∧ C1 (pwk true n k i s).1 ν0 ν2 := by
  intro k
  induction k with
  | zero =>
    intro f i s ν hi hf hw h
    obtain ⟨f, rfl⟩ := fsucc hf
    exact ⟨ν, by rw [Pt_passWithin_19, if_pos (by rw [show (4 : Int32) = nI 4 from rfl, nI_le' (by omega) (by omega)]; omega)]; rfl, h⟩
  | succ k ih =>
    intro f i s ν hi hf hw h
    obtain ⟨f, rfl⟩ := fsucc hf
    have i4 : i < 4 := by omega
    have hb := wbc hw i4
    have h30 := (wb hw).2.2.2.2.2.1
    have n4 : ¬ 4 ≤ i := by omega
    have hp := pc_le (s.1 (13 + 2 * i)) (by omega)
    have hm : n * pc16 (s.1 (13 + 2 * i)) ≤ 4000 * 2 := Nat.mul_le_mul hn hp.1
    have hW := WF_pw1 (n := n) i4 hw
    rw [Pt_passWithin_19]
    simp (disch := omega) only [lit_nI, nI_add, nI_mul, nI_sub, nI_le', nI_lt', nI_eq', inb_nI, nI_clamp, b2iT', b2iF', b2i0', Option.bind_some, if_true, if_false, not_true_eq_false, not_false_eq_true, decide_eq_true_eq, decide_eq_false_iff_not, reduceCtorEq, Nat.add_zero, Nat.zero_add, n4, i4, Nat.reduceAdd, cr_ends h, bc16, cr_rest h, gi_si_s]
    unfold Pt_passWithin_87
    rw [show nI 0 = (0 : Int32) from rfl, imax_sub (by omega) (by omega)]
    by_cases e : s.1 (13 + 2 * i) = 0
    · rw [if_pos e, show (1 : Int32) = nI 1 from rfl, nI_add]
      have e1 : pw1 true n i s = s := by unfold pw1; rw [if_pos e]
      unfold pwk
      rw [e1]
      exact ih f (i + 1) s ν (by omega) (by omega) hw h
    · rw [if_neg e]
      have e' : (nI (s.1 (12 + 2 * i) - n * pc16 (s.1 (13 + 2 * i))) = 0) = (s.1 (12 + 2 * i) - n * pc16 (s.1 (13 + 2 * i)) = 0) := nI_eq' (b := 0) (by omega) (by decide)
      have h1 := C1_pl h (12 + 2 * i) 3 i (plc1 i i4) (by omega) (by omega) h30 (s.1 (12 + 2 * i) - n * pc16 (s.1 (13 + 2 * i)))
      by_cases e2 : s.1 (12 + 2 * i) - n * pc16 (s.1 (13 + 2 * i)) = 0
      · rw [if_neg (by rw [e']; simp [e2])]
        rw [e2] at h1 ⊢
        have h2 := C1_pl h1 (13 + 2 * i) 4 i (plc2 i i4) (by omega) (by omega) (by rw [upn_n _ _ (by omega)]; exact h30) 0
        have w2 : WF (upn (upn s.1 (12 + 2 * i) 0) (13 + 2 * i) 0) := WF_re hw i4 (by omega) (by omega) (fun z => absurd rfl z) (fun _ => rfl) (fun _ => by omega)
        obtain ⟨ν2, q1, q2⟩ := c_write h2 w2 i4 (show 3 < 4 by omega) (show 0 < 2 by omega)
        have e1 : pw1 true n i s = (writeA (upn (upn s.1 (12 + 2 * i) 0) (13 + 2 * i) 0) i 3 0, s.2 + 1) := by unfold pw1; rw [if_neg e, if_pos e2]; rfl
        rw [show (0 : Int32) = nI 0 from rfl, q1, Option.bind_some, show (1 : Int32) = nI 1 from rfl, nI_add]
        unfold pwk
        rw [e1] at hW ⊢
        exact ih f (i + 1) _ ν2 (by omega) (by omega) hW q2
      · rw [if_pos (by rw [e']; exact e2)]
        have e1 : pw1 true n i s = (upn s.1 (12 + 2 * i) (s.1 (12 + 2 * i) - n * pc16 (s.1 (13 + 2 * i))), s.2) := by unfold pw1; rw [if_neg e, if_neg e2]
        rw [show (1 : Int32) = nI 1 from rfl, nI_add]
        unfold pwk
        rw [e1] at hW ⊢
        exact ih f (i + 1) _ _ (by omega) (by omega) hW h1
theorem c_step {n : Nat} (hn : n ≤ 4000) {a : Nat → Nat} {ν0 ν : Nm} (hw : WF a) (h8 : a 8 + n ≤ 639936) (h : C1 a ν0 ν) : ∃ ν2, Pt_passWithin 2 (nI n) ν = some (nI (stepA true n a).2, ν2) ∧ C1 (stepA true n a).1 ν0 ν2 ∧ WF (stepA true n a).1 := by
  have hb := wb hw
  have w2 : WF (upn (upn a 8 (a 8 + n)) 10 0) := WF_free (WF_free hw (by omega) (show a 8 + n ≤ 639936 from h8)) (by omega) (by omega)
  have h1 := C1_pl (C1_pl h 8 2 1 (by decide) (by omega) (by omega) hb.2.2.2.2.2.1 (a 8 + n)) 10 2 3 (by decide) (by omega) (by omega) (by rw [upn_n _ _ (by omega)]; exact hb.2.2.2.2.2.1) 0
  unfold Pt_passWithin
  rw [(cr h).2.2.2.2.2.2.2.2.1, nI_add]
  obtain ⟨ν2, q1, q2⟩ := c_pw hn 4 FU 0 (upn (upn a 8 (a 8 + n)) 10 0, 0) _ (by omega) (by unfold FU; omega) w2 h1
  exact ⟨ν2, q1, q2, WF_pwk 4 0 _ (by omega) w2⟩
/-- the model, cord by cord; what went out is counted in a field -/
theorem m_pw {w : Bool} {n : Nat} (hn : n ≤ 4000) {ν0 : Nm} (hq : gi ν0 313 23 = b2i w) : ∀ (k f i : Nat) (s : (Nat → Nat) × Nat) (G : Int32) (ν : Nm), i + k = s.1 0 → k < f → WP s.1 → (w = true → WF s.1) → M1 s.1 ν0 ν → gi ν 313 24 = G + nI s.2 → ∃ ν2, Md_passOne_26 f (nI n) (nI i) ν = some ν2 ∧ M1 (pwk w n k i s).1 ν0 ν2 ∧ gi ν2 313 24 = G + nI (pwk w n k i s).2 := by
  intro k
  induction k with
  | zero =>
    intro f i s G ν hi hf hp hw h hg
    obtain ⟨f, rfl⟩ := fsucc hf
    have := hp.1
    exact ⟨ν, by rw [Md_passOne_26, mr h (by decide) (by decide), if_pos (by rw [nI_le' (by omega) (by omega)]; omega)], h, hg⟩
  | succ k ih =>
    intro f i s G ν hi hf hp hw h hg
    obtain ⟨f, rfl⟩ := fsucc hf
    have h4 := hp.1
    have i4 : i < 4 := by omega
    have hb := hp.2.2 i i4
    have n4 : ¬ s.1 0 ≤ i := by omega
    have hpc := pc_le (s.1 (13 + 2 * i)) (by omega)
    have hm : n * pc16 (s.1 (13 + 2 * i)) ≤ 4000 * 2 := Nat.mul_le_mul hn hpc.1
    have hP := WP_pw1 (w := w) (n := n) i4 hp
    have hW : w = true → WF (pw1 w n i s).1 := fun e => by subst e; exact WF_pw1 i4 (hw rfl)
    have e0 : (pw1 w n i s).1 0 = s.1 0 := pw1_low i4 s (by omega) (by omega) (by omega) (by omega)
    rw [Md_passOne_26]
    simp (disch := omega) only [mr h, lit_nI, nI_add, nI_mul, nI_sub, nI_le', nI_lt', nI_eq', inb_nI, nI_clamp, b2iT', b2iF', b2i0', Option.bind_some, if_true, if_false, not_true_eq_false, not_false_eq_true, decide_eq_true_eq, decide_eq_false_iff_not, reduceCtorEq, Nat.add_zero, Nat.zero_add, n4, m_g1 h, m_g0 h, bits_in]
    unfold Md_passOne_112
    by_cases e : s.1 (13 + 2 * i) = 0
    · rw [if_neg (by rw [e, pc0]; simp), show (1 : Int32) = nI 1 from rfl, nI_add]
      have e1 : pw1 w n i s = s := by unfold pw1; rw [if_pos e]
      unfold pwk
      rw [e1]
      exact ih f (i + 1) s G ν (by omega) (by omega) hp hw h hg
    · rw [if_pos (fun z => e (hpc.2.mp z)), Nat.mul_comm (pc16 (s.1 (13 + 2 * i))) n, show nI 0 = (0 : Int32) from rfl, show nI 639936 = (639936 : Int32) from rfl, cut_sub (by omega) (by omega), Option.bind_some, show (0 : Int32) = nI 0 from rfl]
      obtain ⟨ν1, p1, p2⟩ := m_put h (w := 0) (v := s.1 (12 + 2 * i) - n * pc16 (s.1 (13 + 2 * i))) i4 (by decide)
      rw [Nat.add_zero] at p2
      rw [p1, Option.bind_some, m_isOutP p2 i4 (by rw [upn_s]; omega), Option.bind_some, upn_s]
      have g1 : gi ν1 313 24 = gi ν 313 24 := by
        unfold Md_put at p1
        rw [show (12 : Int32) = nI 12 from rfl, show (2 : Int32) = nI 2 from rfl, nI_mul, nI_add, nI_add, inb_nI (by omega), if_pos (by simp; omega)] at p1
        rw [← Option.some.inj p1, gi_si_q _ _ _ _ (by omega)]
      by_cases e2 : s.1 (12 + 2 * i) - n * pc16 (s.1 (13 + 2 * i)) = 0
      · rw [e2] at p2 ⊢
        rw [if_pos (by simp [b2i, nI]), show (1 : Int32) = nI 1 from rfl]
        obtain ⟨ν2, r1, r2⟩ := m_put p2 (w := 1) (v := 0) i4 (by decide)
        rw [show 12 + 2 * i + 1 = 13 + 2 * i by omega] at r2
        have g2 : gi ν2 313 24 = gi ν1 313 24 := by
          unfold Md_put at r1
          rw [show (12 : Int32) = nI 12 from rfl, show (2 : Int32) = nI 2 from rfl, nI_mul, nI_add, nI_add, inb_nI (by omega), if_pos (by simp; omega)] at r1
          rw [← Option.some.inj r1, gi_si_q _ _ _ _ (by omega)]
        rw [r1, Option.bind_some, g2, g1, hg]
        have r3 : M1 (upn (upn s.1 (12 + 2 * i) 0) (13 + 2 * i) 0) ν0 (si ν2 313 24 (G + nI s.2 + nI 1)) := ⟨MX_keep r2.1 (fun j => gi_si_q _ _ _ _ (by omega)), Fr_si r2.2 _ (Or.inr (Or.inl ⟨rfl, rfl⟩))⟩
        have g3 : gi (si ν2 313 24 (G + nI s.2 + nI 1)) 313 24 = G + nI (s.2 + 1) := by rw [gi_si_s, ← nI_add, Int32.add_assoc]
        cases w with
        | true =>
          have w2 : WF (upn (upn s.1 (12 + 2 * i) 0) (13 + 2 * i) 0) := WF_re (hw rfl) i4 (by omega) (by omega) (fun z => absurd rfl z) (fun _ => rfl) (fun _ => by omega)
          obtain ⟨ν3, t1, t2, t3⟩ := m_write' r3 w2 (by rw [r3.2.1 _ _ (by unfold fm; omega), hq]; rfl) (c := i) (w := 3) (s := 0)
          have e1 : pw1 true n i s = (writeA (upn (upn s.1 (12 + 2 * i) 0) (13 + 2 * i) 0) i 3 0, s.2 + 1) := by unfold pw1; rw [if_neg e, if_pos e2]; rfl
          rw [t1, Option.bind_some, nI_add]
          unfold pwk
          rw [e1] at hW hP e0 ⊢
          exact ih f (i + 1) _ G ν3 (by rw [e0]; omega) (by omega) hP hW t2 (by rw [t3]; exact g3)
        | false =>
          have e1 : pw1 false n i s = (upn (upn s.1 (12 + 2 * i) 0) (13 + 2 * i) 0, s.2 + 1) := by unfold pw1; rw [if_neg e, if_pos e2]; rfl
          have t1 : Md_write (nI i) (nI 3) (nI 0) (si ν2 313 24 (G + nI s.2 + nI 1)) = some (si ν2 313 24 (G + nI s.2 + nI 1)) := by
            unfold Md_write
            rw [r3.2.1 _ _ (by unfold fm; omega), hq, if_neg (by decide)]
          rw [t1, Option.bind_some, nI_add]
          unfold pwk
          rw [e1] at hW hP e0 ⊢
          exact ih f (i + 1) _ G _ (by rw [e0]; omega) (by omega) hP hW r3 g3
      · rw [if_neg (by simp [b2i, e2, nI])]
        have e1 : pw1 w n i s = (upn s.1 (12 + 2 * i) (s.1 (12 + 2 * i) - n * pc16 (s.1 (13 + 2 * i))), s.2) := by unfold pw1; rw [if_neg e, if_neg e2]
        rw [show (1 : Int32) = nI 1 from rfl, nI_add]
        unfold pwk
        rw [e1] at hW hP e0 ⊢
        exact ih f (i + 1) _ G ν1 (by rw [e0]; omega) (by omega) hP hW p2 (by rw [g1]; exact hg)
theorem m_step {w : Bool} {n : Nat} (h1 : 1 ≤ n) (hn : n ≤ 4000) {a : Nat → Nat} {ν0 ν : Nm} (hq : gi ν0 313 23 = b2i w) (hp : WP a) (hw : w = true → WF a ∧ a 8 + n ≤ 639936) (h : M1 a ν0 ν) : ∃ ν2, Md_passOne (nI n) ν = some ν2 ∧ M1 (stepA w n a).1 ν0 ν2 ∧ gi ν2 313 24 = gi ν 313 24 + nI (stepA w n a).2 := by
  have h4 := hp.1
  have p2 : WP (upn (upn a 8 (a 8 + n)) 10 0) := by
    have q : ∀ j, j ≠ 8 → j ≠ 10 → upn (upn a 8 (a 8 + n)) 10 0 j = a j := fun j q1 q2 => by rw [upn_n _ _ q2, upn_n _ _ q1]
    exact WP_ext hp (q 0 (by omega) (by omega)) (fun c hc => q _ (by omega) (by omega)) (fun c hc => by rw [q _ (by omega) (by omega)]; exact Nat.le_refl _) (fun c hc => by
      rw [q _ (by omega) (by omega), q _ (by omega) (by omega)]
      by_cases e : a (13 + 2 * c) = 0
      · exact Or.inl e
      · exact Or.inr ⟨rfl, Or.inr ((WP_e hp hc).1 e)⟩)
  have w2 : w = true → WF (upn (upn a 8 (a 8 + n)) 10 0) := fun e => WF_free (WF_free (hw e).1 (by omega) (show a 8 + n ≤ 639936 from (hw e).2)) (by omega) (by omega)
  have m2 := M1_up (M1_up h (i := 8) (a 8 + n) (by omega)) (i := 10) 0 (by omega)
  have e0 : upn (upn a 8 (a 8 + n)) 10 0 0 = a 0 := by rw [upn_n _ _ (by omega), upn_n _ _ (by omega)]
  obtain ⟨ν2, q1, q2, q3⟩ := m_pw hn hq (a 0) FU 0 (upn (upn a 8 (a 8 + n)) 10 0, 0) (gi ν 313 24) _ (by rw [Nat.zero_add]; exact e0.symm) (by unfold FU; omega) p2 w2 m2 (by rw [gi_si_q _ _ _ _ (by omega), gi_si_q _ _ _ _ (by omega)]; exact (Int32.add_zero _).symm)
  have e4 := pwk_cords (w := w) (n := n) (s := (upn (upn a 8 (a 8 + n)) 10 0, 0)) p2
  simp only [e0] at e4
  rw [e4] at q2 q3
  refine ⟨ν2, ?_, q2, q3⟩
  unfold Md_passOne
  rw [if_pos (by rw [show (0 : Int32) = nI 0 from rfl, nI_eq' (by omega) (by omega)]; omega), mr h (by decide) (by decide), nI_add]
  exact q1
