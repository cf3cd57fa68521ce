/-! Whose law it was. -/
def agA (D : Nat → TD) (a : Nat → Nat) (t : Nat) : Nat → Nat → Bool
  | 0, _ => true
  | k + 1, i => decide (flV D a t (a (49 + 2 * i)) = nI (a (50 + 2 * i))) && agA D a t k (i + 1)
theorem c_agrees {D : Nat → TD} {a : Nat → Nat} {ν0 : Nm} (hT : TO D a ν0) (hw : WF a) {t : Nat} (ht : t < a 2) : ∀ (k f i : Nat) (ν : Nm), i + k = a 7 → k < f → C1 a ν0 ν → ∃ ν2, Fm_agreesWithAllSaid_10 f (nI t) (nI i) ν = some (agA D a t k i, ν2) ∧ C1 a ν0 ν2 := by
  have hb := wb hw
  intro k
  induction k with
  | zero =>
    intro f i ν hi hf h
    obtain ⟨f, rfl⟩ := fsucc hf
    exact ⟨ν, by rw [Fm_agreesWithAllSaid_10, (cr h).2.2.2.2.2.2.2.1, if_pos (by rw [nI_le' (by omega) (by omega)]; omega)]; rfl, h⟩
  | succ k ih =>
    intro f i ν hi hf h
    obtain ⟨f, rfl⟩ := fsucc hf
    have hbt := wbt hw (show i < 8 by omega)
    have hc := hw.2.2.2.2.2.1 i (by omega) (by omega)
    have hd := Nat.div_le_self (11 * a (49 + 2 * i) + a (50 + 2 * i)) 11
    obtain ⟨ν1, p1, p2, -⟩ := c_failsT (TO_c hT rfl h) h hw ht (c := a (49 + 2 * i)) (by omega)
    have e1 : nI (11 * a (49 + 2 * i) + a (50 + 2 * i)) / 11 = nI (a (49 + 2 * i)) := by
      rw [show (11 : Int32) = nI 11 from rfl, nI_div (by omega) (by omega)]; congr 1; omega
    have e2 : nI (11 * a (49 + 2 * i) + a (50 + 2 * i)) - nI (a (49 + 2 * i)) * 11 = nI (a (50 + 2 * i)) := by
      rw [show (11 : Int32) = nI 11 from rfl, nI_mul, nI_sub (by omega)]; congr 1; omega
    have st : Fm_agreesWithAllSaid_10 (f + 1) (nI t) (nI i) ν = if flV D a t (a (49 + 2 * i)) = nI (a (50 + 2 * i)) then Fm_agreesWithAllSaid_10 f (nI t) (nI (i + 1)) ν1 else some (false, ν1) := by
      rw [Fm_agreesWithAllSaid_10, (cr h).2.2.2.2.2.2.2.1, if_neg (by rw [nI_le' (by omega) (by omega)]; omega), if_neg (by rw [show (8 : Int32) = nI 8 from rfl, nI_le' (by omega) (by omega)]; omega), inb_nI (by omega), nI_clamp (by omega), if_pos (decide_eq_true (show i < 8 by omega)), cr_said h (by omega), e1, p1, Option.bind_some, if_pos (decide_eq_true (show i < 8 by omega))]
      simp only []
      rw [cr_said p2 (by omega), e1, e2, show (1 : Int32) = nI 1 from rfl, nI_add]
    rw [st]
    unfold agA
    by_cases e : flV D a t (a (49 + 2 * i)) = nI (a (50 + 2 * i))
    · rw [if_pos e, decide_eq_true e, Bool.true_and]
      exact ih f (i + 1) ν1 (by omega) (by omega) p2
    · rw [if_neg e, decide_eq_false e, Bool.false_and]
      exact ⟨ν1, rfl, p2⟩
def whA (D : Nat → TD) (a : Nat → Nat) : Nat → Nat → Int32 → Int32
  | 0, _, s => s
  | k + 1, t, s => whA D a k (t + 1) (if agA D a t (a 7) 0 = true then s ||| ((1 : Int32) <<< (nI t &&& 31)) else s)
theorem c_whose {D : Nat → TD} {a : Nat → Nat} {ν0 : Nm} (hT : TO D a ν0) (hw : WF a) : ∀ (k f t : Nat) (s : Int32) (ν : Nm), t + k = a 2 → k < f → C1 a ν0 ν → ∃ ν2, Fm_whose_4 f s (nI t) ν = some (whA D a k t s, ν2) ∧ C1 a ν0 ν2 := by
  have hb := wb hw
  intro k
  induction k with
  | zero =>
    intro f t s ν hi hf h
    obtain ⟨f, rfl⟩ := fsucc hf
    exact ⟨ν, by rw [Fm_whose_4, (cr h).2.2.1, if_pos (by rw [nI_le' (by omega) (by omega)]; omega)]; rfl, h⟩
  | succ k ih =>
    intro f t s ν hi hf h
    obtain ⟨f, rfl⟩ := fsucc hf
    obtain ⟨ν1, p1, p2⟩ := c_agrees hT hw (show t < a 2 by omega) (a 7) FU 0 ν (by omega) (by unfold FU; omega) h
    have p1' : Fm_agreesWithAllSaid (nI t) ν = some (agA D a t (a 7) 0, ν1) := p1
    rw [Fm_whose_4, (cr h).2.2.1, if_neg (by rw [nI_le' (by omega) (by omega)]; omega), if_neg (by rw [show (4 : Int32) = nI 4 from rfl, nI_le' (by omega) (by omega)]; omega), p1', Option.bind_some]
    simp only []
    unfold Fm_whose_34 whA
    have e1 : nI t + 1 = nI (t + 1) := nI_add t 1
    rw [e1]
    by_cases e : agA D a t (a 7) 0 = true
    · rw [e, if_neg (by rw [b2iT]; exact id), if_pos rfl]
      exact ih f (t + 1) _ ν1 (by omega) (by omega) p2
    · rw [Bool.eq_false_iff.mpr e, if_pos (by rw [b2iF]; exact True.intro), if_neg (by simp)]
      exact ih f (t + 1) _ ν1 (by omega) (by omega) p2
/-- behind a difference the model goes on, and stays at it -/
theorem m_agF {a : Nat → Nat} {ν0 : Nm} (hw : WF a) (k4 : Int32 → Int32 → Nm → Option (Int32 × Nm)) (s t : Int32) : ∀ (k f i : Nat) (ν : Nm), i + k = a 7 → k < f → M1 a ν0 ν → Md_whose_19 k4 f s t 0 (nI i) ν = Md_whose_93 k4 t 0 s ν := by
  have hb := wb hw
  intro k
  induction k with
  | zero =>
    intro f i ν hi hf h
    obtain ⟨f, rfl⟩ := fsucc hf
    rw [Md_whose_19, mr h (by decide) (by decide), if_pos (by rw [nI_le' (by omega) (by omega)]; omega), if_pos rfl]
  | succ k ih =>
    intro f i ν hi hf h
    obtain ⟨f, rfl⟩ := fsucc hf
    rw [Md_whose_19, mr h (by decide) (by decide), if_neg (by rw [nI_le' (by omega) (by omega)]; omega), if_pos rfl]
    unfold Md_whose_73 Md_whose_74
    have e1 : nI i + 1 = nI (i + 1) := nI_add i 1
    rw [e1]
    exact ih f (i + 1) ν (by omega) (by omega) h
theorem m_agrees {D : Nat → TD} {a : Nat → Nat} {ν0 : Nm} (hT : TO D a ν0) (hw : WF a) (k4 : Int32 → Int32 → Nm → Option (Int32 × Nm)) (s : Int32) {t : Nat} (ht : t < a 2) : ∀ (k f i : Nat) (ν : Nm), i + k = a 7 → k < f → M1 a ν0 ν → ∃ ν2, Md_whose_19 k4 f s (nI t) 1 (nI i) ν = k4 (if agA D a t k i = true then s ||| ((1 : Int32) <<< (nI t &&& 31)) else s) (nI (t + 1)) ν2 ∧ M1 a ν0 ν2 := by
  have hb := wb hw
  have et : nI t + 1 = nI (t + 1) := nI_add t 1
  intro k
  induction k with
  | zero =>
    intro f i ν hi hf h
    obtain ⟨f, rfl⟩ := fsucc hf
    refine ⟨ν, ?_, h⟩
    rw [Md_whose_19, mr h (by decide) (by decide), if_pos (by rw [nI_le' (by omega) (by omega)]; omega), if_neg (by decide)]
    unfold Md_whose_93 agA
    rw [et, if_pos rfl]
  | succ k ih =>
    intro f i ν hi hf h
    obtain ⟨f, rfl⟩ := fsucc hf
    have hbt := wbt hw (show i < 8 by omega)
    have hc := hw.2.2.2.2.2.1 i (by omega) (by omega)
    obtain ⟨ν1, p1, p2⟩ := m_failsT (TO_m hT rfl h) h hw ht (c := a (49 + 2 * i)) (by omega)
    have e1 : nI i + 1 = nI (i + 1) := nI_add i 1
    have st : Md_whose_19 k4 (f + 1) s (nI t) 1 (nI i) ν = if ¬ flV D a t (a (49 + 2 * i)) = nI (a (50 + 2 * i)) then Md_whose_19 k4 f s (nI t) 0 (nI (i + 1)) ν1 else Md_whose_19 k4 f s (nI t) 1 (nI (i + 1)) ν1 := by
      rw [Md_whose_19, mr h (by decide) (by decide), if_neg (by rw [nI_le' (by omega) (by omega)]; omega), if_neg (by decide), show (49 : Int32) = nI 49 from rfl, show (2 : Int32) = nI 2 from rfl, nI_mul, nI_add, inb_nI (by omega), nI_clamp (by omega), if_pos (by simp; omega), mr h (by omega) (by omega), p1, Option.bind_some, show nI (49 + 2 * i) + 1 = nI (50 + 2 * i) by rw [show (1 : Int32) = nI 1 from rfl, nI_add]; congr 1; omega, inb_nI (by omega), nI_clamp (by omega), if_pos (by simp; omega)]
      simp only []
      rw [mr p2 (by omega) (by omega)]
      unfold Md_whose_73 Md_whose_74
      rw [e1]
    rw [st]
    unfold agA
    by_cases e : flV D a t (a (49 + 2 * i)) = nI (a (50 + 2 * i))
    · rw [if_neg (by simp [e]), decide_eq_true e, Bool.true_and]
      exact ih f (i + 1) ν1 (by omega) (by omega) p2
    · rw [if_pos e, decide_eq_false e, Bool.false_and, m_agF hw k4 s (nI t) k f (i + 1) ν1 (by omega) (by omega) p2]
      refine ⟨ν1, ?_, p2⟩
      unfold Md_whose_93
      rw [et, Int32.or_zero, if_neg (by simp)]
theorem m_whose {D : Nat → TD} {a : Nat → Nat} {ν0 : Nm} (hT : TO D a ν0) (hw : WF a) : ∀ (k f t : Nat) (s : Int32) (ν : Nm), t + k = a 2 → k < f → M1 a ν0 ν → ∃ ν2, Md_whose_4 f s (nI t) ν = some (whA D a k t s, ν2) ∧ M1 a ν0 ν2 := by
  have hb := wb hw
  intro k
  induction k with
  | zero =>
    intro f t s ν hi hf h
    obtain ⟨f, rfl⟩ := fsucc hf
    exact ⟨ν, by rw [Md_whose_4, mr h (by decide) (by decide), if_pos (by rw [nI_le' (by omega) (by omega)]; omega)]; rfl, h⟩
  | succ k ih =>
    intro f t s ν hi hf h
    obtain ⟨f, rfl⟩ := fsucc hf
    obtain ⟨ν1, p1, p2⟩ := m_agrees hT hw (Md_whose_4 f) s (show t < a 2 by omega) (a 7) FU 0 ν (by omega) (by unfold FU; omega) h
    have p1' : Md_whose_19 (Md_whose_4 f) FU s (nI t) 1 0 ν = Md_whose_4 f (if agA D a t (a 7) 0 = true then s ||| ((1 : Int32) <<< (nI t &&& 31)) else s) (nI (t + 1)) ν1 := p1
    rw [Md_whose_4, mr h (by decide) (by decide), if_neg (by rw [nI_le' (by omega) (by omega)]; omega), p1']
    unfold whA
    exact ih f (t + 1) _ ν1 (by omega) (by omega) p2
theorem st_whose {a b : Nat → Nat} {τ : Ex} (hτ : ExT τ) {ν : Nm} (h : Inv a b τ ν) : Step τ Fm_whose Md_whose ν := by
  have hw := h.1
  have hb := wb hw
  obtain ⟨D, hT⟩ := Inv_TO hτ h
  obtain ⟨ν1, p1, p2⟩ := c_whose hT hw (a 2) FU 0 0 ν (by omega) (by unfold FU; omega) (C1_0 h)
  have hT1 : TO D a ν1 := TO_c hT rfl p2
  obtain ⟨ν2, q1, q2⟩ := m_whose hT1 hw (a 2) FU 0 0 ν1 (by omega) (by unfold FU; omega) (M1_0 h p2)
  exact Step_mk h p2 q2 hw (fun i _ => rfl) _ p1 q1
