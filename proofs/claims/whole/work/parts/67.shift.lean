/-! Shifts of draws. -/
def shiftA (D : Nat → TD) (a : Nat → Nat) (x : Nat) : Nat → Nat :=
  if x % 7 = 5 then (if canB a = true then (PA true (nextA a) a).1 else a)
  else if x % 7 = 6 then (if a 8 + 64 * (1 + x % 5) ≤ 639936 then (PA true (64 * (1 + x % 5)) a).1 else a)
  else if a 0 = 0 then a
  else if x % 7 ≤ 2 then (if canL D a (x % a 0) (x / 7 % 2) = true then litA D a (x % a 0) (x / 7 % 2) else a)
  else if x % 7 = 3 then (if a (13 + 2 * (x % a 0)) / 2 ^ (x / 7 % 2) % 2 = 1 then snuffA a (x % a 0) (x / 7 % 2) else a)
  else beginA a (x % a 0)
theorem begin_id {a : Nat → Nat} {c : Nat} (h1 : a (12 + 2 * c) = 64 * a (20 + 2 * c)) (h2 : a (13 + 2 * c) = 0) : beginA a c = a := by
  unfold beginA
  rw [← h1, upn_id]
  have := upn_id a (13 + 2 * c)
  rw [h2] at this
  exact this
theorem not_canR {a : Nat → Nat} (hw : WF a) {c : Nat} (hc : c < a 0) (h : ¬ canR a c = true) : beginA a c = a := by
  have hb := (wb hw).1
  have hp := (WP_e (WF_WP hw) (show c < 4 by omega)).2.2 hc
  unfold canR at h
  rw [decide_eq_true_iff] at h
  exact begin_id (by omega) (by omega)
theorem WF_shift {D : Nat → TD} {a : Nat → Nat} (hw : WF a) (x : Nat) : WF (shiftA D a x) := by
  have hb := wb hw
  have m0 : a 0 ≠ 0 → x % a 0 < a 0 := fun q => Nat.mod_lt _ (by omega)
  unfold shiftA
  split
  · split
    · rename_i e; exact WF_PA hw (canB_le hw e).2.2
    · exact hw
  split
  · split
    · rename_i e; exact WF_PA hw e
    · exact hw
  split
  · exact hw
  rename_i e0
  have hm := m0 e0
  split
  · split
    · rename_i e
      have ct := canL_t e
      exact WF_lit hw hm (by omega) ct.1 ct.2
    · exact hw
  split
  · split
    · exact WF_snuff hw hm (by omega)
    · exact hw
  · exact WF_begin hw (by omega)
theorem shiftA_low {D : Nat → TD} {a : Nat → Nat} (hw : WF a) (x : Nat) {j : Nat} (h : j < 8 ∨ (20 ≤ j ∧ j < 1355)) : shiftA D a x j = a j := by
  have hb := wb hw
  have m0 : a 0 ≠ 0 → x % a 0 < a 0 := fun q => Nat.mod_lt _ (by omega)
  unfold shiftA
  split
  · split
    · exact PA_low (by omega) (by omega) (by omega) (by omega) (by omega)
    · rfl
  split
  · split
    · exact PA_low (by omega) (by omega) (by omega) (by omega) (by omega)
    · rfl
  split
  · rfl
  rename_i e0
  have hm := m0 e0
  split
  · split
    · exact litA_low (by omega) (by omega) (by omega) (by omega) (by omega)
    · rfl
  split
  · split
    · exact snuffA_low (by omega) (by omega) (by omega)
    · rfl
  · unfold beginA
    rw [upn_n _ _ (by omega), upn_n _ _ (by omega)]
theorem c_shift {D : Nat → TD} {a : Nat → Nat} {ν0 ν : Nm} (hT : TO D a ν0) (h : C1 a ν0 ν) (hw : WF a) {x : Nat} (hx : x ≤ 30780) : ∃ ν2, Fm_shiftBy (nI x) ν = some ν2 ∧ C1 (shiftA D a x) ν0 ν2 := by
  have hb := wb hw
  have hd := Nat.div_le_self x 7
  have e7 : nI x - nI x / 7 * 7 = nI (x % 7) := nI_mod (b := 7) (by omega) (by decide)
  have e5 : nI x - nI x / 5 * 5 = nI (x % 5) := nI_mod (b := 5) (by omega) (by decide)
  have d7 : nI x / 7 = nI (x / 7) := nI_div (b := 7) (by omega) (by decide)
  have e2 : nI (x / 7) - nI (x / 7) / 2 * 2 = nI (x / 7 % 2) := nI_mod (b := 2) (by omega) (by decide)
  unfold Fm_shiftBy
  rw [e7, e5, d7, e2, (cr h).1]
  have z5 : (nI (x % 7) = 5) = (x % 7 = 5) := nI_eq' (b := 5) (by omega) (by decide)
  have z6 : (nI (x % 7) = 6) = (x % 7 = 6) := nI_eq' (b := 6) (by omega) (by decide)
  have z0 : (nI (a 0) ≤ 0) = (a 0 ≤ 0) := nI_le' (b := 0) (by omega) (by decide)
  have z0' : (nI (a 0) = 0) = (a 0 = 0) := nI_eq' (b := 0) (by omega) (by decide)
  simp only [z5, z6, z0, z0']
  unfold shiftA
  by_cases q5 : x % 7 = 5
  · rw [if_neg (by simp [q5]), if_pos q5, c_toBurn h hw, Option.bind_some]
    by_cases e : canB a = true
    · have hl := canB_le hw e
      obtain ⟨ν2, r1, r2⟩ := c_pass (n := nextA a) (by omega) hw (by omega) h
      rw [if_pos e, if_pos e, if_neg (neg1 (by omega)), r1, Option.bind_some]
      exact ⟨ν2, rfl, r2⟩
    · rw [if_neg e, if_neg e, if_pos rfl]
      exact ⟨ν, rfl, h⟩
  · rw [if_pos q5, if_neg q5]
    by_cases q6 : x % 7 = 6
    · have e1 : (1 : Int32) + nI (x % 5) = nI (1 + x % 5) := nI_add 1 (x % 5)
      rw [if_neg (by simp [q6]), if_pos q6, e1, c_time h hw (by omega), Option.bind_some]
      by_cases e : a 8 + 64 * (1 + x % 5) ≤ 639936
      · obtain ⟨ν2, r1, r2⟩ := c_pass (n := 64 * (1 + x % 5)) (by omega) hw e h
        rw [if_pos e, decide_eq_true e, if_neg (by rw [b2iT]; exact id), show nI (1 + x % 5) * 64 = nI (64 * (1 + x % 5)) by rw [Nat.mul_comm]; exact nI_mul (1 + x % 5) 64, r1, Option.bind_some]
        exact ⟨ν2, rfl, r2⟩
      · rw [if_neg e, decide_eq_false e, if_pos (by rw [b2iF]; exact True.intro)]
        exact ⟨ν, rfl, h⟩
    · rw [if_pos q6, if_neg q6]
      by_cases q0 : a 0 = 0
      · rw [if_pos (by omega), if_pos q0]
        exact ⟨ν, rfl, h⟩
      · have hm : x % a 0 < a 0 := Nat.mod_lt _ (by omega)
        rw [if_neg (by omega), if_neg q0, if_neg q0, nI_mod (by omega) (by omega)]
        generalize hc : x % a 0 = c at hm
        generalize hs : x / 7 % 2 = s
        have hs2 : s < 2 := by omega
        have h4 : c < 4 := by omega
        have hbc := wbc hw h4
        unfold Fm_shiftCord
        have y2 : ((2 : Int32) < nI (x % 7)) = (2 < x % 7) := nI_lt' (a := 2) (by decide) (by omega)
        have y3 : (nI (x % 7) = 3) = (x % 7 = 3) := nI_eq' (b := 3) (by omega) (by decide)
        simp only [y2, y3]
        by_cases q2 : x % 7 ≤ 2
        · obtain ⟨ν1, p1, p2, -⟩ := c_canLight (TO_c hT rfl h) h hw hm hs2
          rw [if_neg (by omega), if_pos q2, p1, Option.bind_some]
          by_cases e : canL D a c s = true
          · have ct := canL_t e
            obtain ⟨ν2, r1, r2⟩ := c_kindle (TO_c hT rfl p2) p2 hw hm hs2 ct.1 ct.2
            simp only []
            rw [e, if_neg (by rw [b2iT]; exact id), if_pos rfl, r1, Option.bind_some, Option.bind_some]
            exact ⟨ν2, rfl, r2⟩
          · simp only []
            rw [Bool.eq_false_iff.mpr e, if_pos (by rw [b2iF]; exact True.intro), if_neg (by simp), Option.bind_some]
            exact ⟨ν1, rfl, p2⟩
        · rw [if_pos (by omega), if_neg q2]
          by_cases q3 : x % 7 = 3
          · rw [if_neg (by simp [q3]), if_pos q3, c_burns h hw hm hs2, Option.bind_some]
            by_cases e : a (13 + 2 * c) / 2 ^ s % 2 = 1
            · obtain ⟨ν2, r1, r2⟩ := c_putOut h hw hm hs2
              rw [if_pos e, decide_eq_true e, if_neg (by rw [b2iT]; exact id), r1, Option.bind_some, Option.bind_some]
              exact ⟨ν2, rfl, r2⟩
            · rw [if_neg e, decide_eq_false e, if_pos (by rw [b2iF]; exact True.intro), Option.bind_some]
              exact ⟨ν, rfl, h⟩
          · rw [if_pos q3, if_neg q3, c_canRenew h hw hm, Option.bind_some]
            by_cases e : canR a c = true
            · obtain ⟨ν2, r1, r2⟩ := c_new h hb.2.2.2.2.2.1 h4
              rw [e, if_neg (by rw [b2iT]; exact id), inb_nI (by omega), nI_clamp (by omega), if_pos (decide_eq_true h4), cr_min h h4, r1, Option.bind_some, Option.bind_some]
              exact ⟨ν2, rfl, r2⟩
            · rw [Bool.eq_false_iff.mpr e, if_pos (by rw [b2iF]; exact True.intro), Option.bind_some, not_canR hw hm e]
              exact ⟨ν, rfl, h⟩
theorem canB_0 {a : Nat → Nat} (hw : WF a) (h0 : a 0 = 0) : canB a = false := by
  have e : ∀ c, c < 4 → a (13 + 2 * c) = 0 := fun c hc => (WP_e (WF_WP hw) hc).2.1 (by omega)
  have : nextA a = 1000000 := by
    unfold nextA
    simp only [nx]
    rw [if_pos (e 0 (by omega)), if_pos (e 1 (by omega)), if_pos (e 2 (by omega)), if_pos (e 3 (by omega))]
  unfold canB
  rw [this]
  simp
theorem m_shift {D : Nat → TD} {a : Nat → Nat} {ν0 ν : Nm} (hT : TO D a ν0) (h : M1 a ν0 ν) (hw : WF a) (hq : gi ν0 313 23 = 1) {x : Nat} (hx : x ≤ 30780) : ∃ ν2, Md_happens (nI x) ν = some ν2 ∧ M1 (shiftA D a x) ν0 ν2 := by
  have hb := wb hw
  have hd := Nat.div_le_self x 7
  have e7 : nI x - nI x / 7 * 7 = nI (x % 7) := nI_mod (b := 7) (by omega) (by decide)
  have e5 : nI x - nI x / 5 * 5 = nI (x % 5) := nI_mod (b := 5) (by omega) (by decide)
  have d7 : nI x / 7 = nI (x / 7) := nI_div (b := 7) (by omega) (by decide)
  have e2 : nI (x / 7) - nI (x / 7) / 2 * 2 = nI (x / 7 % 2) := nI_mod (b := 2) (by omega) (by decide)
  unfold Md_happens
  rw [e7, e5, d7, e2, mr h (by decide) (by decide), mr h (by decide) (by decide)]
  have z6 : (nI (x % 7) = 6) = (x % 7 = 6) := nI_eq' (b := 6) (by omega) (by decide)
  have z0' : (nI (a 0) = 0) = (a 0 = 0) := nI_eq' (b := 0) (by omega) (by decide)
  have z1 : (nI (x / 7 % 2) = 1) = (x / 7 % 2 = 1) := nI_eq' (b := 1) (by omega) (by decide)
  simp only [z6, z0', z1]
  unfold shiftA
  by_cases q6 : x % 7 = 6
  · have e1 : (1 : Int32) + nI (x % 5) = nI (1 + x % 5) := nI_add 1 (x % 5)
    have e64 : (64 : Int32) * nI (1 + x % 5) = nI (64 * (1 + x % 5)) := nI_mul 64 (1 + x % 5)
    rw [if_neg (by simp [q6]), if_neg (show ¬ x % 7 = 5 by omega), if_pos q6, e1, e64, nI_add, show (639936 : Int32) = nI 639936 from rfl]
    by_cases e : a 8 + 64 * (1 + x % 5) ≤ 639936
    · obtain ⟨ν2, r1, r2, -⟩ := m_pass (w := true) (n := 64 * (1 + x % 5)) (by omega) hq (WF_WP hw) (fun _ => ⟨hw, e⟩) h
      rw [if_neg (by rw [nI_lt' (by omega) (by omega)]; omega), if_pos e, r1, Option.bind_some]
      exact ⟨ν2, rfl, r2⟩
    · rw [if_pos (by rw [nI_lt' (by omega) (by omega)]; omega), if_neg e]
      exact ⟨ν, rfl, h⟩
  · rw [if_pos q6]
    by_cases q0 : a 0 = 0
    · rw [if_neg (by simp [q0]), if_neg q6, if_pos q0]
      by_cases q5 : x % 7 = 5
      · rw [if_pos q5, if_neg (by rw [canB_0 hw q0]; simp)]; exact ⟨ν, rfl, h⟩
      · rw [if_neg q5]; exact ⟨ν, rfl, h⟩
    · have hm : x % a 0 < a 0 := Nat.mod_lt _ (by omega)
      have y : (if ¬ x / 7 % 2 = 1 then Md_happens_78 (nI x) (nI x - nI x / nI (a 0) * nI (a 0)) 0 ν else Md_happens_78 (nI x) (nI x - nI x / nI (a 0) * nI (a 0)) 1 ν) = Md_happens_78 (nI x) (nI (x % a 0)) (nI (x / 7 % 2)) ν := by
        rw [nI_mod (by omega) (by omega)]
        by_cases q : x / 7 % 2 = 1
        · rw [if_neg (by simp [q]), q]; rfl
        · rw [if_pos q, show x / 7 % 2 = 0 by omega]; rfl
      rw [if_pos q0, if_neg q0, y, if_neg q6, if_neg q0]
      generalize hc : x % a 0 = c at hm
      generalize hs : x / 7 % 2 = s
      have hs2 : s < 2 := by omega
      have sbs : sb (nI s) = s := by
        rcases (show s = 0 ∨ s = 1 by omega) with rfl | rfl <;> rfl
      have h4 : c < 4 := by omega
      have hbc := wbc hw h4
      unfold Md_happens_78
      rw [e7]
      have y3 : (nI (x % 7) = 3) = (x % 7 = 3) := nI_eq' (b := 3) (by omega) (by decide)
      have y4 : (nI (x % 7) = 4) = (x % 7 = 4) := nI_eq' (b := 4) (by omega) (by decide)
      have y5 : (nI (x % 7) = 5) = (x % 7 = 5) := nI_eq' (b := 5) (by omega) (by decide)
      simp only [y3, y4, y5]
      by_cases q3 : x % 7 = 3
      · rw [if_pos q3, if_neg (by omega), if_neg (by omega), if_pos q3, m_canSnuff h hw hm, Option.bind_some, sbs]
        by_cases e : a (13 + 2 * c) / 2 ^ s % 2 = 1
        · obtain ⟨ν2, r1, r2⟩ := m_snuffNow h hw hq hm (nI s)
          rw [sbs] at r2
          rw [if_pos e, decide_eq_true e, if_neg (by rw [b2iT]; exact id), r1, Option.bind_some]
          exact ⟨ν2, rfl, r2⟩
        · rw [if_neg e, decide_eq_false e, if_pos (by rw [b2iF]; exact True.intro)]
          exact ⟨ν, rfl, h⟩
      · rw [if_neg q3, if_neg q3]
        by_cases q4 : x % 7 = 4
        · obtain ⟨ν2, r1, r2⟩ := m_begin h h4
          rw [if_pos q4, if_neg (by omega), if_neg (by omega), r1, Option.bind_some]
          exact ⟨ν2, rfl, r2⟩
        · rw [if_neg q4]
          by_cases q5 : x % 7 = 5
          · rw [if_pos q5, if_pos q5, m_canBurn h hw, Option.bind_some]
            by_cases e : canB a = true
            · have hl := canB_le hw e
              obtain ⟨ν2, r1, r2, -⟩ := m_pass (w := true) (n := nextA a) (by omega) hq (WF_WP hw) (fun _ => ⟨hw, by omega⟩) h
              rw [e, if_neg (by rw [b2iT]; exact id), if_pos rfl, m_next h (WF_WP hw), Option.bind_some, r1, Option.bind_some]
              exact ⟨ν2, rfl, r2⟩
            · rw [Bool.eq_false_iff.mpr e, if_pos (by rw [b2iF]; exact True.intro), if_neg (by simp)]
              exact ⟨ν, rfl, h⟩
          · obtain ⟨ν1, p1, p2⟩ := m_canLight (TO_m hT rfl h) h hw hm (nI s)
            rw [sbs] at p1
            rw [if_neg q5, if_neg q5, if_pos (by omega), p1, Option.bind_some]
            by_cases e : canL D a c s = true
            · have ct := canL_t e
              obtain ⟨ν2, r1, r2⟩ := m_lightNow (TO_m hT rfl p2) p2 hw hq hm (nI s) ct.1 ct.2
              rw [sbs] at r2
              simp only []
              rw [e, if_neg (by rw [b2iT]; exact id), if_pos rfl, r1, Option.bind_some]
              simp only []
              rw [if_pos (by unfold litV; split <;> decide)]
              exact ⟨ν2, rfl, r2⟩
            · simp only []
              rw [Bool.eq_false_iff.mpr e, if_pos (by rw [b2iF]; exact True.intro), if_neg (by simp)]
              exact ⟨ν1, rfl, p2⟩
def shN (D : Nat → TD) : Nat → (Nat → Nat) → (Nat → Nat)
  | 0, a => a
  | k + 1, a => shN D k (shiftA D (drA a) (a 9))
theorem shN_ok {D : Nat → TD} : ∀ (k : Nat) (a : Nat → Nat), WF a → WF (shN D k a) ∧ ∀ j, (j < 8 ∨ (20 ≤ j ∧ j < 1355)) → shN D k a j = a j := by
  intro k
  induction k with
  | zero => intro a hw; exact ⟨hw, fun _ _ => rfl⟩
  | succ k ih =>
    intro a hw
    obtain ⟨i1, i2⟩ := ih (shiftA D (drA a) (a 9)) (WF_shift (WF_dr hw) _)
    exact ⟨i1, fun j hj => by
      show shN D k (shiftA D (drA a) (a 9)) j = _
      rw [i2 j hj, shiftA_low (WF_dr hw) _ hj, drA_low (by omega)]⟩
theorem c_shN {D : Nat → TD} {n : Nat} (hn : n ≤ 40) {ν0 : Nm} : ∀ (k f i : Nat) (a : Nat → Nat) (ν : Nm), i + k = n → k < f → TO D a ν0 → WF a → C1 a ν0 ν → ∃ ν2, Fm_shifts_59 f (nI n) (nI i) ν = some (nI (shN D k a 8), ν2) ∧ C1 (shN D k a) ν0 ν2 := by
  intro k
  induction k with
  | zero =>
    intro f i a ν hi hf hT hw h
    obtain ⟨f, rfl⟩ := fsucc hf
    refine ⟨ν, ?_, h⟩
    rw [Fm_shifts_59, if_pos (by rw [nI_le' (by omega) (by omega)]; omega), (cr h).2.2.2.2.2.2.2.2.1]; rfl
  | succ k ih =>
    intro f i a ν hi hf hT hw h
    obtain ⟨f, rfl⟩ := fsucc hf
    have hb := wb hw
    obtain ⟨ν1, p1, p2⟩ := c_draw h hw
    have hT1 : TO D (drA a) ν0 := TO_fr hT (drA_low (by omega)) (fun _ _ _ => rfl)
    obtain ⟨ν2, q1, q2⟩ := c_shift hT1 p2 (WF_dr hw) (x := a 9) (by omega)
    have hT2 : TO D (shiftA D (drA a) (a 9)) ν0 := TO_fr hT1 (shiftA_low (WF_dr hw) _ (by omega)) (fun _ _ _ => rfl)
    obtain ⟨ν3, r1, r2⟩ := ih f (i + 1) _ ν2 (by omega) (by omega) hT2 (WF_shift (WF_dr hw) _) q2
    refine ⟨ν3, ?_, r2⟩
    rw [Fm_shifts_59, if_neg (by rw [nI_le' (by omega) (by omega)]; omega), p1, Option.bind_some]
    simp only []
    rw [q1, Option.bind_some, show (1 : Int32) = nI 1 from rfl, nI_add]
    exact r1
theorem m_shN {D : Nat → TD} {n : Nat} (hn : n ≤ 40) {ν0 : Nm} (hq : gi ν0 313 23 = 1) : ∀ (k f i : Nat) (a : Nat → Nat) (ν : Nm), i + k = n → k < f → TO D a ν0 → WF a → M1 a ν0 ν → ∃ ν2, Md_shifts_43 f (nI n) (nI i) ν = some (nI (shN D k a 8), ν2) ∧ M1 (shN D k a) ν0 ν2 := by
  intro k
  induction k with
  | zero =>
    intro f i a ν hi hf hT hw h
    obtain ⟨f, rfl⟩ := fsucc hf
    refine ⟨ν, ?_, h⟩
    rw [Md_shifts_43, if_pos (by rw [nI_le' (by omega) (by omega)]; omega), mr h (by decide) (by decide)]; rfl
  | succ k ih =>
    intro f i a ν hi hf hT hw h
    obtain ⟨f, rfl⟩ := fsucc hf
    have hb := wb hw
    obtain ⟨ν1, p1, p2⟩ := m_anew h hw
    have hT1 : TO D (drA a) ν0 := TO_fr hT (drA_low (by omega)) (fun _ _ _ => rfl)
    obtain ⟨ν2, q1, q2⟩ := m_shift hT1 p2 (WF_dr hw) hq (x := a 9) (by omega)
    have hT2 : TO D (shiftA D (drA a) (a 9)) ν0 := TO_fr hT1 (shiftA_low (WF_dr hw) _ (by omega)) (fun _ _ _ => rfl)
    obtain ⟨ν3, r1, r2⟩ := ih f (i + 1) _ ν2 (by omega) (by omega) hT2 (WF_shift (WF_dr hw) _) q2
    refine ⟨ν3, ?_, r2⟩
    rw [Md_shifts_43, if_neg (by rw [nI_le' (by omega) (by omega)]; omega), p1, Option.bind_some, mr h (by decide) (by decide), q1, Option.bind_some, show (1 : Int32) = nI 1 from rfl, nI_add]
    exact r1
theorem st_shifts {a b : Nat → Nat} {τ : Ex} (hτ : ExT τ) {ν : Nm} (h : Inv a b τ ν) (x y : Int32) : Step τ (Fm_shifts x y) (Md_shifts x y) ν := by
  have hw := h.1
  have hc0 := C1_0 h
  have hb := wb hw
  have h30 := hb.2.2.2.2.2.1
  obtain ⟨D, hT⟩ := Inv_TO hτ h
  rcases isIn_cases x 0 9999 (by decide) (by decide) with ⟨m, _, m2, rfl, m3⟩ | ⟨_, m3⟩
  · have m3' : Md_isIn (nI m) 0 9999 = some true := m3
    rcases isIn_cases y 1 40 (by decide) (by decide) with ⟨n, n1, n2, rfl, n3⟩ | ⟨_, n3⟩
    · have n3' : Md_isIn (nI n) 1 40 = some true := n3
      have ex : nI m * 2 + 311 = nI (m * 2 + 311) := by rw [show (2 : Int32) = nI 2 from rfl, show (311 : Int32) = nI 311 from rfl, nI_mul, nI_add]
      have w2 : WF (upn (keepA a) 9 (m * 2 + 311)) := WF_free (WF_keep hw) (by omega) (show m * 2 + 311 ≤ 30780 by omega)
      have e2 : upn (keepA a) 9 (m * 2 + 311) 2 = a 2 := by rw [upn_n _ _ (by omega), keep_2 h30]
      obtain ⟨ν1, p1, p2⟩ := c_keep hc0 h30
      have k4 := (wb (WF_keep hw)).2.2.2.2.2.1
      have p3 := C1_pl p2 9 2 2 (by decide) (by omega) (by omega) k4 (m * 2 + 311)
      obtain ⟨ν2, q1, q2⟩ := c_shN n2 n FU 0 _ _ (by omega) (by unfold FU; omega) (TO_fr hT e2 (fun _ _ _ => rfl)) w2 p3
      have hT2 : TO D a ν2 := TO_fr hT rfl (fun q j hq => q2.2.1 q j (by unfold fc; omega))
      obtain ⟨ν3, r1, r2⟩ := m_keep (M1_0 h q2) h30
      have r3 := M1_up r2 (i := 9) (m * 2 + 311) (by omega)
      obtain ⟨ν4, s1, s2⟩ := m_shN n2 (i23 h q2) n FU 0 _ _ (by omega) (by unfold FU; omega) (TO_fr hT2 e2 (fun _ _ _ => rfl)) w2 r3
      obtain ⟨k1, k2⟩ := shN_ok (D := D) n _ w2
      refine Step_mk h q2 s2 k1 (fun i hi => by rw [k2 i (by omega), upn_n _ _ (by omega), keepA_low h30 (by omega) (by omega)]) (nI (shN D n (upn (keepA a) 9 (m * 2 + 311)) 8)) ?_ ?_
      · unfold Fm_shifts
        rw [within_isIn, within_isIn, m3', Option.bind_some, if_neg (by rw [b2iT]; exact id), n3', Option.bind_some, if_pos (by rw [b2iT]; exact id), p1, Option.bind_some, ex]
        exact q1
      · unfold Md_shifts
        rw [m3', Option.bind_some, if_neg (by rw [b2iT]; exact id), n3', Option.bind_some, if_pos (by rw [b2iT]; exact id), r1, Option.bind_some, ex]
        exact s1
    · have n3' : Md_isIn y 1 40 = some false := n3
      exact Step_no h (-1) (by unfold Fm_shifts; rw [within_isIn, within_isIn, m3', n3']; rfl) (by unfold Md_shifts; rw [m3', n3']; rfl)
  · have m3' : Md_isIn x 0 9999 = some false := m3
    exact Step_no h (-1) (by unfold Fm_shifts; rw [within_isIn, m3']; rfl) (by unfold Md_shifts; rw [m3']; rfl)
