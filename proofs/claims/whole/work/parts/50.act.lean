/-! Burnt, minutes. -/
theorem nx_ext {a a2 : Nat → Nat} (e : ∀ j, 12 ≤ j → j < 20 → a2 j = a j) : ∀ (k i s : Nat), i + k ≤ 4 → nx a2 k i s = nx a k i s := by
  intro k
  induction k with
  | zero => intro i s _; rfl
  | succ k ih =>
    intro i s h
    unfold nx outA
    rw [e (13 + 2 * i) (by omega) (by omega), e (12 + 2 * i) (by omega) (by omega)]
    exact ih (i + 1) _ (by omega)
theorem next_ext {a a2 : Nat → Nat} (e : ∀ j, 12 ≤ j → j < 20 → a2 j = a j) : nextA a2 = nextA a := nx_ext e 4 0 1000000 (by omega)
theorem next_keep {a : Nat → Nat} (h30 : a 4 ≤ 30) : nextA (keepA a) = nextA a := next_ext (fun j h1 h2 => keepA_low h30 (by omega) (by omega))
def canB (a : Nat → Nat) : Bool := decide (nextA a ≠ 1000000 ∧ a 8 + nextA a ≤ 639936)
theorem c_toBurn {a : Nat → Nat} {ν0 ν : Nm} (h : C1 a ν0 ν) (hw : WF a) : Pt_sparksToBurn ν 2 = some (if canB a = true then nI (nextA a) else -1) := by
  have hb := wb hw
  have hn := next_le (WF_WP hw)
  unfold Pt_sparksToBurn canB
  rw [c_next h hw, Option.bind_some, (cr h).2.2.2.2.2.2.2.2.1]
  by_cases e : nextA a = 1000000
  · rw [if_pos (by unfold enN; rw [if_pos e])]
    simp [e]
  · have en : enN (nextA a) = nI (nextA a) := by unfold enN; rw [if_neg e]
    rw [en, if_neg (neg1 (by omega)), nI_add, show (639936 : Int32) = nI 639936 from rfl]
    by_cases e2 : a 8 + nextA a ≤ 639936
    · rw [if_pos (by rw [nI_le' (by omega) (by omega)]; exact e2)]; simp [e, e2]
    · rw [if_neg (by rw [nI_le' (by omega) (by omega)]; exact e2)]; simp [e2]
theorem m_canBurn {a : Nat → Nat} {ν0 ν : Nm} (h : M1 a ν0 ν) (hw : WF a) : Md_canBurn ν = some (canB a) := by
  have hb := wb hw
  have hn := next_le (WF_WP hw)
  unfold Md_canBurn canB
  rw [m_next h (WF_WP hw), Option.bind_some, Option.bind_some, mr h (by decide) (by decide), nI_add, show (639936 : Int32) = nI 639936 from rfl, show (1000000 : Int32) = nI 1000000 from rfl]
  by_cases e : nextA a = 1000000
  · rw [if_pos (by rw [nI_le' (by omega) (by omega)]; omega)]; simp [e]
  · rw [if_neg (by rw [nI_le' (by omega) (by omega)]; omega)]
    by_cases e2 : a 8 + nextA a ≤ 639936
    · rw [if_neg (by rw [nI_lt' (by omega) (by omega)]; omega)]; simp [e, e2]
    · rw [if_pos (by rw [nI_lt' (by omega) (by omega)]; omega)]; simp [e2]
theorem canB_le {a : Nat → Nat} (hw : WF a) (e : canB a = true) : nextA a ≤ 3841 ∧ 1 ≤ nextA a ∧ a 8 + nextA a ≤ 639936 := by
  have hn := next_le (WF_WP hw)
  unfold canB at e
  have := of_decide_eq_true e
  omega
def burnB (a : Nat → Nat) : Nat → Nat := if canB a = true then (PA true (nextA a) (keepA a)).1 else a
def burnV (a : Nat → Nat) : Int32 := if canB a = true then nI (nextA a) else -1
theorem keep8 {a : Nat → Nat} (h30 : a 4 ≤ 30) : keepA a 8 = a 8 := keepA_low h30 (by omega) (by omega)
theorem c_burn {a : Nat → Nat} {ν0 ν : Nm} (h : C1 a ν0 ν) (hw : WF a) : ∃ ν2, Fm_burn ν = some (burnV a, ν2) ∧ C1 (burnB a) ν0 ν2 := by
  have hb := wb hw
  have h30 := hb.2.2.2.2.2.1
  unfold Fm_burn burnB burnV
  rw [c_toBurn h hw, Option.bind_some]
  by_cases e : canB a = true
  · have hl := canB_le hw e
    obtain ⟨ν1, p1, p2⟩ := c_keep h h30
    obtain ⟨ν2, r1, r2⟩ := c_pass (n := nextA a) (by omega) (WF_keep hw) (by rw [keep8 h30]; omega) p2
    rw [if_pos e, if_pos e, if_pos (neg1 (by omega)), p1, Option.bind_some, r1, Option.bind_some]
    exact ⟨ν2, rfl, r2⟩
  · rw [if_neg e, if_neg e, if_neg (by simp)]
    exact ⟨ν, rfl, h⟩
theorem m_burn {a : Nat → Nat} {ν0 ν : Nm} (h : M1 a ν0 ν) (hw : WF a) (hq : gi ν0 313 23 = 1) : ∃ ν2, Md_burn ν = some (burnV a, ν2) ∧ M1 (burnB a) ν0 ν2 := by
  have hb := wb hw
  have h30 := hb.2.2.2.2.2.1
  unfold Md_burn burnB burnV
  rw [m_canBurn h hw, Option.bind_some]
  by_cases e : canB a = true
  · have hl := canB_le hw e
    obtain ⟨ν1, p1, p2⟩ := m_keep h h30
    have wk := WF_keep hw
    obtain ⟨ν2, r1, r2, -⟩ := m_pass (w := true) (n := nextA a) (by omega) hq (WF_WP wk) (fun _ => ⟨wk, by rw [keep8 h30]; omega⟩) p2
    rw [if_pos e, if_pos e, e, if_pos (by rw [b2iT]; exact id), p1, Option.bind_some, m_next p2 (WF_WP wk), Option.bind_some, next_keep h30, r1, Option.bind_some]
    exact ⟨ν2, rfl, r2⟩
  · rw [if_neg e, if_neg e, Bool.eq_false_iff.mpr e, if_neg (by rw [b2iF]; simp)]
    exact ⟨ν, rfl, h⟩
theorem WF_burnB {a : Nat → Nat} (hw : WF a) : WF (burnB a) := by
  have hb := wb hw
  unfold burnB
  split
  · rename_i e
    exact WF_PA (WF_keep hw) (by rw [keep8 hb.2.2.2.2.2.1]; have := canB_le hw e; omega)
  · exact hw
theorem burnB_low {a : Nat → Nat} (h30 : a 4 ≤ 30) {j : Nat} (h : j < 4 ∨ (20 ≤ j ∧ j < 65)) : burnB a j = a j := by
  unfold burnB
  split
  · rw [PA_low (by omega) (by omega) (by omega) (by omega) (by omega), keepA_low h30 (by omega) (by omega)]
  · rfl
theorem st_burn {a b : Nat → Nat} {τ : Ex} {ν : Nm} (h : Inv a b τ ν) : Step τ Fm_burn Md_burn ν := by
  have hw := h.1
  obtain ⟨ν1, p1, p2⟩ := c_burn (C1_0 h) hw
  obtain ⟨ν2, q1, q2⟩ := m_burn (M1_0 h p2) hw (i23 h p2)
  exact Step_mk h p2 q2 (WF_burnB hw) (fun i hi => burnB_low (wb hw).2.2.2.2.2.1 (by omega)) _ p1 q1
/-! Minutes, one by one; they stop where they can't pass. -/
def min1 (s : (Nat → Nat) × Nat) : (Nat → Nat) × Nat := ((PA true 64 (keepA s.1)).1, s.2 + (PA true 64 (keepA s.1)).2)
def minS : Nat → (Nat → Nat) × Nat → Bool × (Nat → Nat) × Nat
  | 0, s => (true, s)
  | k + 1, s => if 639936 < s.1 8 + 64 then (false, s) else minS k (min1 s)
theorem min1_8 {s : (Nat → Nat) × Nat} (hw : WF s.1) : (min1 s).1 8 = s.1 8 + 64 := by
  have h30 := (wb hw).2.2.2.2.2.1
  show (PA true 64 (keepA s.1)).1 8 = _
  rw [PA_8 (WF_WP (WF_keep hw)) (by omega), keep8 h30]
theorem WF_min1 {s : (Nat → Nat) × Nat} (hw : WF s.1) (h : s.1 8 + 64 ≤ 639936) : WF (min1 s).1 := by
  have h30 := (wb hw).2.2.2.2.2.1
  have e : keepA s.1 8 + 64 ≤ 639936 := by rw [keep8 h30]; exact h
  show WF (PA true 64 (keepA s.1)).1
  exact WF_PA (n := 64) (a := keepA s.1) (WF_keep hw) e
theorem min1_low {s : (Nat → Nat) × Nat} (h30 : s.1 4 ≤ 30) {j : Nat} (h : j < 4 ∨ (20 ≤ j ∧ j < 65)) : (min1 s).1 j = s.1 j := by
  show (PA true 64 (keepA s.1)).1 j = _
  rw [PA_low (by omega) (by omega) (by omega) (by omega) (by omega), keepA_low h30 (by omega) (by omega)]
theorem minS_ok : ∀ (k : Nat) (s : (Nat → Nat) × Nat), WF s.1 → WF (minS k s).2.1 ∧ (∀ j, j < 4 ∨ (20 ≤ j ∧ j < 65) → (minS k s).2.1 j = s.1 j) ∧ (s.1 8 + 64 * k ≤ 639936 → (minS k s).1 = true) := by
  intro k
  induction k with
  | zero => intro s hw; exact ⟨hw, fun _ _ => rfl, fun _ => rfl⟩
  | succ k ih =>
    intro s hw
    unfold minS
    by_cases e : 639936 < s.1 8 + 64
    · rw [if_pos e]; exact ⟨hw, fun _ _ => rfl, fun q => by omega⟩
    · rw [if_neg e]
      obtain ⟨i1, i2, i3⟩ := ih (min1 s) (WF_min1 hw (by omega))
      exact ⟨i1, fun j hj => by rw [i2 j hj, min1_low (wb hw).2.2.2.2.2.1 hj], fun q => i3 (by rw [min1_8 hw]; omega)⟩
theorem keep114_fr : ∀ (f : Nat) (x i : Int32) (ν ν2 : Nm), Md_keep_114 f x i ν = some ν2 → ∀ q j, q ≠ 314 → gi ν2 q j = gi ν q j := by
  intro f
  induction f with
  | zero => intro x i ν ν2 h; cases h
  | succ f ih =>
    intro x i ν ν2 h q j hq
    rw [Md_keep_114] at h
    split at h
    · rw [← Option.some.inj h, gi_si_q _ _ _ _ hq]
    · split at h
      · split at h
        · rw [ih _ _ _ _ h q j hq, gi_si_q _ _ _ _ hq]
        · cases h
      · cases h
theorem keep81_fr : ∀ (f : Nat) (x i : Int32) (ν ν2 : Nm), Md_keep_81 f x i ν = some ν2 → ∀ q j, q ≠ 314 → gi ν2 q j = gi ν q j := by
  intro f
  induction f with
  | zero => intro x i ν ν2 h; cases h
  | succ f ih =>
    intro x i ν ν2 h q j hq
    rw [Md_keep_81] at h
    split at h
    · exact keep114_fr _ _ _ _ _ h q j hq
    · split at h
      · split at h
        · rw [ih _ _ _ _ h q j hq, gi_si_q _ _ _ _ hq]
        · cases h
      · cases h
theorem keep54_fr {ν ν2 : Nm} (h : Md_keep_54 ν = some ν2) : ∀ q j, q ≠ 314 → gi ν2 q j = gi ν q j := by
  intro q j hq
  unfold Md_keep_54 at h
  split at h
  · rw [keep81_fr _ _ _ _ _ h q j hq, gi_si_q _ _ _ _ hq]
  · cases h
theorem keep13_fr : ∀ (f : Nat) (i : Int32) (ν ν2 : Nm), Md_keep_13 f i ν = some ν2 → ∀ q j, q ≠ 314 → gi ν2 q j = gi ν q j := by
  intro f
  induction f with
  | zero => intro i ν ν2 h; cases h
  | succ f ih =>
    intro i ν ν2 h q j hq
    rw [Md_keep_13] at h
    split at h
    · rw [keep54_fr h q j hq, gi_si_q _ _ _ _ hq]
    · split at h
      · split at h
        · rw [ih _ _ _ h q j hq, gi_si_q _ _ _ _ hq]
        · cases h
      · cases h
theorem keep_fr {ν ν2 : Nm} (h : Md_keep ν = some ν2) : ∀ q j, q ≠ 314 → gi ν2 q j = gi ν q j := by
  intro q j hq
  unfold Md_keep at h
  split at h
  · exact keep54_fr h q j hq
  · exact keep13_fr _ _ _ _ h q j hq
theorem c_min {n : Nat} (hn : n ≤ 60) {ν0 : Nm} : ∀ (k f i : Nat) (s : (Nat → Nat) × Nat) (ν : Nm), i + k = n → k < f → WF s.1 → s.1 8 + 64 * k ≤ 639936 → C1 s.1 ν0 ν → ∃ ν2, Fm_minute_30 f (nI n) (nI s.2) (nI i) ν = some (nI (minS k s).2.2, ν2) ∧ C1 (minS k s).2.1 ν0 ν2 := by
  intro k
  induction k with
  | zero =>
    intro f i s ν hi hf hw h8 h
    obtain ⟨f, rfl⟩ := fsucc hf
    exact ⟨ν, by rw [Fm_minute_30, if_pos (by rw [nI_le' (by omega) (by omega)]; omega)]; rfl, h⟩
  | succ k ih =>
    intro f i s ν hi hf hw h8 h
    obtain ⟨f, rfl⟩ := fsucc hf
    have h30 := (wb hw).2.2.2.2.2.1
    obtain ⟨ν1, p1, p2⟩ := c_keep h h30
    obtain ⟨ν2, r1, r2⟩ := c_pass (n := 64) (by omega) (WF_keep hw) (by rw [keep8 h30]; omega) p2
    rw [Fm_minute_30, if_neg (by rw [nI_le' (by omega) (by omega)]; omega), p1, Option.bind_some, show (64 : Int32) = nI 64 from rfl, r1, Option.bind_some]
    unfold minS
    rw [if_neg (by omega), show (1 : Int32) = nI 1 from rfl]
    simp only [nI_add]
    exact ih f (i + 1) (min1 s) ν2 (by omega) (by omega) (WF_min1 hw (by omega)) (by rw [min1_8 hw]; omega) r2
theorem m_min {n : Nat} (hn : n ≤ 60) {ν0 : Nm} (hq : gi ν0 313 23 = 1) : ∀ (k f i : Nat) (s : (Nat → Nat) × Nat) (ν : Nm), i + k = n → k < f → WF s.1 → M1 s.1 ν0 ν → gi ν 313 24 = nI s.2 → ∃ ν2, Md_arePassed_7 f (nI n) (nI i) ν = some ((minS k s).1, ν2) ∧ M1 (minS k s).2.1 ν0 ν2 ∧ gi ν2 313 24 = nI (minS k s).2.2 := by
  intro k
  induction k with
  | zero =>
    intro f i s ν hi hf hw h hg
    obtain ⟨f, rfl⟩ := fsucc hf
    exact ⟨ν, by rw [Md_arePassed_7, if_pos (by rw [nI_le' (by omega) (by omega)]; omega)]; rfl, h, hg⟩
  | succ k ih =>
    intro f i s ν hi hf hw h hg
    obtain ⟨f, rfl⟩ := fsucc hf
    have hb := wb hw
    have h30 := hb.2.2.2.2.2.1
    rw [Md_arePassed_7, if_neg (by rw [nI_le' (by omega) (by omega)]; omega)]
    unfold Md_canPass minS
    rw [mr h (by decide) (by decide), show (64 : Int32) = nI 64 from rfl, nI_add, show (639936 : Int32) = nI 639936 from rfl]
    by_cases e : 639936 < s.1 8 + 64
    · rw [if_pos (show nI 639936 < nI (s.1 8 + 64) by rw [nI_lt' (by omega) (by omega)]; exact e), if_pos e, Option.bind_some, if_neg (by rw [b2iF]; simp)]
      exact ⟨ν, rfl, h, hg⟩
    · rw [if_neg (show ¬ nI 639936 < nI (s.1 8 + 64) by rw [nI_lt' (by omega) (by omega)]; exact e), if_neg e, Option.bind_some, if_pos (by rw [b2iT]; exact id)]
      obtain ⟨ν1, p1, p2⟩ := m_keep h h30
      have wk := WF_keep hw
      obtain ⟨ν2, r1, r2, r3⟩ := m_pass (w := true) (n := 64) (by omega) hq (WF_WP wk) (fun _ => ⟨wk, by rw [keep8 h30]; omega⟩) p2
      have g1 : gi ν1 313 24 = gi ν 313 24 := keep_fr p1 _ _ (by decide)
      rw [p1, Option.bind_some, r1, Option.bind_some, show (1 : Int32) = nI 1 from rfl, nI_add]
      exact ih f (i + 1) (min1 s) ν2 (by omega) (by omega) (WF_min1 hw (by omega)) r2 (by rw [r3, g1, hg, nI_add]; rfl)
theorem m_arePassed {n : Nat} (hn : n ≤ 60) {a : Nat → Nat} {ν0 ν : Nm} (h : M1 a ν0 ν) (hw : WF a) (hq : gi ν0 313 23 = 1) : ∃ ν2, Md_arePassed (nI n) ν = some ((minS n (a, 0)).1, ν2) ∧ M1 (minS n (a, 0)).2.1 ν0 ν2 ∧ gi ν2 313 24 = nI (minS n (a, 0)).2.2 := by
  have h0 : M1 a ν0 (si ν 313 24 0) := ⟨MX_keep h.1 (fun j => gi_si_q _ _ _ _ (by omega)), Fr_si h.2 _ (Or.inr (Or.inl ⟨rfl, rfl⟩))⟩
  exact m_min hn hq n FU 0 (a, 0) _ (by omega) (by unfold FU; omega) hw h0 (gi_si_s _ _ _ _)
theorem c_time {a : Nat → Nat} {ν0 ν : Nm} (h : C1 a ν0 ν) (hw : WF a) {n : Nat} (hn : n ≤ 60) : Pt_hasTimeFor ν 2 (nI n) = some (decide (a 8 + 64 * n ≤ 639936)) := by
  have hb := wb hw
  unfold Pt_hasTimeFor
  rw [(cr h).2.2.2.2.2.2.2.2.1, show (64 : Int32) = nI 64 from rfl, nI_mul, nI_add, show (639936 : Int32) = nI 639936 from rfl]
  by_cases e : a 8 + 64 * n ≤ 639936
  · rw [if_neg (by rw [nI_lt' (by omega) (by omega)]; omega), decide_eq_true e]
  · rw [if_pos (by rw [nI_lt' (by omega) (by omega)]; omega), decide_eq_false e]
theorem c_minute {n : Nat} (h1 : 1 ≤ n) (hn : n ≤ 60) {a : Nat → Nat} {ν0 ν : Nm} (h : C1 a ν0 ν) (hw : WF a) (e : a 8 + 64 * n ≤ 639936) : ∃ ν2, Fm_minute (nI n) ν = some (nI (minS n (a, 0)).2.2, ν2) ∧ C1 (minS n (a, 0)).2.1 ν0 ν2 := by
  unfold Fm_minute
  rw [within_isIn, show (1 : Int32) = nI 1 from rfl, show (60 : Int32) = nI 60 from rfl, isIn_t h1 hn (by decide), Option.bind_some, if_neg (by rw [b2iT]; exact id), c_time h hw hn, decide_eq_true e, Option.bind_some, if_pos (by rw [b2iT]; exact id)]
  exact c_min hn n FU 0 (a, 0) ν (by omega) (by unfold FU; omega) hw e h
theorem c_minute_f {n : Nat} (h1 : 1 ≤ n) (hn : n ≤ 60) {a : Nat → Nat} {ν0 ν : Nm} (h : C1 a ν0 ν) (hw : WF a) (e : ¬ a 8 + 64 * n ≤ 639936) : Fm_minute (nI n) ν = some (-1, ν) := by
  unfold Fm_minute
  rw [within_isIn, show (1 : Int32) = nI 1 from rfl, show (60 : Int32) = nI 60 from rfl, isIn_t h1 hn (by decide), Option.bind_some, if_neg (by rw [b2iT]; exact id), c_time h hw hn, decide_eq_false e, Option.bind_some, if_neg (by rw [b2iF]; simp)]
theorem st_minute {a b : Nat → Nat} {τ : Ex} {ν : Nm} (h : Inv a b τ ν) (x : Int32) : Step τ (Fm_minute x) (Md_minute x) ν := by
  have hw := h.1
  have hb := wb hw
  have hc0 := C1_0 h
  rcases isIn_cases x 1 60 (by decide) (by decide) with ⟨n, h1, h2, rfl, h3⟩ | ⟨h1, h3⟩
  · have h3' : Md_isIn (nI n) 1 60 = some true := h3
    by_cases e : a 8 + 64 * n ≤ 639936
    · obtain ⟨ν1, p1, p2⟩ := c_minute h1 h2 hc0 hw e
      obtain ⟨ν2, q1, q2, q3⟩ := m_arePassed h2 (M1_0 h p2) hw (i23 h p2)
      obtain ⟨k1, k2, k3⟩ := minS_ok n (a, 0) hw
      refine Step_mk h p2 q2 k1 (fun i hi => k2 i (by omega)) _ p1 ?_
      unfold Md_minute
      rw [h3', Option.bind_some, if_neg (by rw [b2iT]; exact id), mr (M1_0 h p2) (by decide) (by decide), show (64 : Int32) = nI 64 from rfl, nI_mul, nI_add, show (639936 : Int32) = nI 639936 from rfl, if_neg (by rw [nI_lt' (by omega) (by omega)]; omega), q1, Option.bind_some, k3 e, if_neg (by rw [b2iT]; exact id), q3]
    · refine Step_no h (-1) (c_minute_f h1 h2 hc0 hw e) ?_
      unfold Md_minute
      rw [h3', Option.bind_some, if_neg (by rw [b2iT]; exact id), mr (M1_0 h hc0) (by decide) (by decide), show (64 : Int32) = nI 64 from rfl, nI_mul, nI_add, show (639936 : Int32) = nI 639936 from rfl, if_pos (by rw [nI_lt' (by omega) (by omega)]; omega)]
  · have h3' : Md_isIn x 1 60 = some false := h3
    exact Step_no h (-1) (by unfold Fm_minute; rw [within_isIn, h3']; rfl) (by unfold Md_minute; rw [h3']; rfl)
