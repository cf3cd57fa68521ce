/-! Sparks pass. -/
theorem lg_eq (x y : Int64) : (lg_cmp x y = 0) = (x = y) := by
  unfold lg_cmp
  apply propext
  by_cases h : x > y
  · rw [if_pos h]
    exact ⟨fun e => absurd e (by decide), fun e => absurd h (by rw [e]; exact Int64.lt_irrefl)⟩
  · rw [if_neg h]
    by_cases h2 : x = y
    · rw [if_pos h2]; exact ⟨fun _ => h2, fun _ => rfl⟩
    · rw [if_neg h2]; exact ⟨fun e => absurd e (by decide), fun e => absurd e h2⟩
theorem lg_le (x y : Int64) : (lg_cmp x y ≤ 0) = (x.toInt ≤ y.toInt) := by
  unfold lg_cmp
  apply propext
  rw [← Int64.le_iff_toInt_le]
  by_cases h : x > y
  · rw [if_pos h]
    exact ⟨fun e => absurd e (by decide), fun e => absurd h (Int64.not_lt.mpr e)⟩
  · rw [if_neg h]
    refine ⟨fun _ => Int64.not_lt.mp h, fun _ => ?_⟩
    by_cases h2 : x = y
    · rw [if_pos h2]; decide
    · rw [if_neg h2]; decide
theorem lg_ge (x y : Int64) : (0 ≤ lg_cmp x y) = (y.toInt ≤ x.toInt) := by
  unfold lg_cmp
  apply propext
  rw [← Int64.le_iff_toInt_le]
  by_cases h : x > y
  · rw [if_pos h]
    exact ⟨fun _ => Int64.le_of_lt h, fun _ => by decide⟩
  · rw [if_neg h]
    by_cases h2 : x = y
    · rw [if_pos h2]
      exact ⟨fun _ => by rw [h2]; exact Int64.le_refl _, fun _ => by decide⟩
    · rw [if_neg h2]
      exact ⟨fun e => absurd e (by decide), fun e => absurd (Int64.le_antisymm (Int64.not_lt.mp h) e) h2⟩
theorem nI_sub_toInt {r m : Nat} (hr : r < 2 ^ 30) (hm : m < 2 ^ 30) : (nI r - nI m).toInt = (r : Int) - (m : Int) := by
  rw [Int32.toInt_sub, nI_toInt (by omega), nI_toInt (by omega)]
  exact Int.bmod_eq_of_le (by omega) (by omega)
theorem imax_sub {r m : Nat} (hr : r < 2 ^ 30) (hm : m < 2 ^ 30) : imax 0 (nI r - nI m) = nI (r - m) := by
  unfold imax
  by_cases h : m < r
  · rw [if_pos (by rw [nI_sub (by omega)]; rw [show (0 : Int32) = nI 0 from rfl, nI_lt' (by omega) (by omega)]; omega), nI_sub (by omega)]
  · rw [if_neg, show r - m = 0 by omega]; rfl
    rw [Int32.lt_iff_toInt_lt, nI_sub_toInt hr hm]
    show ¬ (0 : Int) < _
    omega
theorem cut_sub {r m : Nat} (hr : r ≤ 3840) (hm : m < 2 ^ 30) : Md_cut (nI r - nI m).toInt64 0 639936 = some (nI (r - m)) := by
  unfold Md_cut
  have e0 : ((0 : Int32).toInt64).toInt = 0 := rfl
  have e1 : ((639936 : Int32).toInt64).toInt = 639936 := rfl
  simp only [lg_ge, lg_le, e0, e1, Int32.toInt_toInt64, nI_sub_toInt (show r < 2 ^ 30 by omega) hm]
  by_cases h : m ≤ r
  · rw [if_pos (by omega), if_pos (by omega), Int32.toInt32_toInt64, nI_sub h]
  · rw [if_neg (by omega), show r - m = 0 by omega]; rfl
/-- the first cord that goes out, in so many sparks (1000000: none) -/
def nx (a : Nat → Nat) : Nat → Nat → Nat → Nat
  | 0, _, s => s
  | k + 1, i, s => nx a k (i + 1) (if a (13 + 2 * i) = 0 then s else if s ≤ outA a i then s else outA a i)
def nextA (a : Nat → Nat) : Nat := nx a 4 0 1000000
/-- what the model's looks need -/
def WP (a : Nat → Nat) : Prop := a 0 ≤ 4 ∧ PW a (a 0) 12 ∧ ∀ c, c < 4 → a (12 + 2 * c) ≤ 3840 ∧ a (13 + 2 * c) ≤ 3 ∧ a (20 + 2 * c) ≤ 60
theorem WF_WP {a : Nat → Nat} (hw : WF a) : WP a := ⟨(wb hw).1, hw.2.2.2.1.1, fun c hc => ⟨(wbc hw hc).1, (wbc hw hc).2.1, (wbc hw hc).2.2.1⟩⟩
theorem WP_e {a : Nat → Nat} (h : WP a) {c : Nat} (hc : c < 4) : (a (13 + 2 * c) ≠ 0 → a (12 + 2 * c) ≠ 0) ∧ (a 0 ≤ c → a (13 + 2 * c) = 0) ∧ (c < a 0 → a (12 + 2 * c) ≤ 64 * a (20 + 2 * c)) := by
  have := h.2.1 c hc
  rw [show 12 + 1 + 2 * c = 13 + 2 * c by omega] at this
  exact this
theorem outP {a : Nat → Nat} (h : WP a) {c : Nat} (hc : c < 4) (e : a (13 + 2 * c) ≠ 0) : 1 ≤ outA a c ∧ outA a c ≤ 3841 := by
  have hb := h.2.2 c hc
  have hp := pc_le (a (13 + 2 * c)) (by omega)
  have hp0 : pc16 (a (13 + 2 * c)) ≠ 0 := fun q => e (hp.2.mp q)
  have hr := (WP_e h hc).1 e
  unfold outA
  constructor
  · rw [Nat.le_div_iff_mul_le (by omega)]; omega
  · exact Nat.le_trans (Nat.div_le_self _ _) (by omega)
theorem m_outP {a : Nat → Nat} {ν0 ν : Nm} (h : M1 a ν0 ν) (hw : WP a) {c : Nat} (hc : c < 4) : Md_outIn ν (nI c) = if a (13 + 2 * c) = 0 then some (nI 1000000) else some (nI (outA a c)) := by
  have hb := hw.2.2 c hc
  have hp := pc_le (a (13 + 2 * c)) (by omega)
  unfold Md_outIn
  rw [show (1 : Int32) = nI 1 from rfl, m_g1 h hc, Option.bind_some, bits_in _ (by omega), Option.bind_some]
  by_cases e : a (13 + 2 * c) = 0
  · rw [if_pos e, e, if_neg (by decide)]; rfl
  · have hp0 : pc16 (a (13 + 2 * c)) ≠ 0 := fun q => e (hp.2.mp q)
    have e0 : ¬ nI (pc16 (a (13 + 2 * c))) = nI 0 := by rw [nI_eq' (by omega) (by omega)]; exact hp0
    rw [if_neg e, show (0 : Int32) = nI 0 from rfl, if_pos e0, m_g0 h hc, Option.bind_some, if_neg e0, nI_add, nI_sub (by omega), nI_div (by omega) (by omega)]
    rfl
theorem m_isOutP {a : Nat → Nat} {ν0 ν : Nm} (h : M1 a ν0 ν) {c : Nat} (hc : c < 4) (hr : a (12 + 2 * c) ≤ 3840) : Md_isOut ν (nI c) = some (decide (a (12 + 2 * c) = 0)) := by
  unfold Md_isOut
  simp only [lit_nI, nI_add, nI_mul, b2iT', b2iF', Option.bind_some, if_true, if_false, not_true_eq_false, not_false_eq_true, m_get h hc (show 0 < 2 by decide), Nat.add_zero, nI_eq' (show a (12 + 2 * c) < 2 ^ 31 by omega) (show 0 < 2 ^ 31 by decide)]
  by_cases e : a (12 + 2 * c) = 0 <;> simp [e]
theorem nx_le {a : Nat → Nat} (h : WP a) : ∀ (k i s : Nat), i + k ≤ 4 → 1 ≤ s → s ≤ 1000000 → 1 ≤ nx a k i s ∧ nx a k i s ≤ s ∧ (nx a k i s = s ∨ nx a k i s ≤ 3841) := by
  intro k
  induction k with
  | zero => intro i s _ h1 _; exact ⟨h1, Nat.le_refl _, Or.inl rfl⟩
  | succ k ih =>
    intro i s hi h1 h2
    unfold nx
    by_cases e : a (13 + 2 * i) = 0
    · rw [if_pos e]; exact ih (i + 1) s (by omega) h1 h2
    · have := outP h (show i < 4 by omega) e
      rw [if_neg e]
      by_cases e2 : s ≤ outA a i
      · rw [if_pos e2]; exact ih (i + 1) s (by omega) h1 h2
      · rw [if_neg e2]
        have q := ih (i + 1) (outA a i) (by omega) this.1 (by omega)
        omega
theorem next_le {a : Nat → Nat} (h : WP a) : 1 ≤ nextA a ∧ (nextA a = 1000000 ∨ nextA a ≤ 3841) := by
  have := nx_le h 4 0 1000000 (by omega) (by omega) (by omega)
  unfold nextA
  omega
theorem nx_cords {a : Nat → Nat} (h : WP a) (s : Nat) : nx a (a 0) 0 s = nx a 4 0 s := by
  have h4 := h.1
  have e : ∀ c, c < 4 → a 0 ≤ c → a (13 + 2 * c) = 0 := fun c h1 h2 => (WP_e h h1).2.1 h2
  rcases (show a 0 = 0 ∨ a 0 = 1 ∨ a 0 = 2 ∨ a 0 = 3 ∨ a 0 = 4 by omega) with q | q | q | q | q <;> rw [q] at e ⊢ <;> simp only [nx]
  · rw [if_pos (e 0 (by omega) (by omega)), if_pos (e 1 (by omega) (by omega)), if_pos (e 2 (by omega) (by omega)), if_pos (e 3 (by omega) (by omega))]
  · rw [if_pos (e 1 (by omega) (by omega)), if_pos (e 2 (by omega) (by omega)), if_pos (e 3 (by omega) (by omega))]
  · rw [if_pos (e 2 (by omega) (by omega)), if_pos (e 3 (by omega) (by omega))]
  · rw [if_pos (e 3 (by omega) (by omega))]
theorem m_next6 {a : Nat → Nat} {ν0 ν : Nm} (h : M1 a ν0 ν) (hw : WP a) : ∀ (k f i s : Nat), i + k = a 0 → k < f → s ≤ 1000000 → Md_nextOut_6 ν f (nI s) (nI i) = some (nI (nx a k i s)) := by
  have h4 := hw.1
  intro k
  induction k with
  | zero =>
    intro f i s hi hf hs
    obtain ⟨f, rfl⟩ := fsucc hf
    rw [Md_nextOut_6, mr h (by decide) (by decide), if_pos (by rw [nI_le' (by omega) (by omega)]; omega)]
    rfl
  | succ k ih =>
    intro f i s hi hf hs
    obtain ⟨f, rfl⟩ := fsucc hf
    have i4 : i < 4 := by omega
    have n1 : ¬ a 0 ≤ i := by omega
    simp (disch := omega) only [Md_nextOut_6, Md_nextOut_34, mr h, lit_nI, nI_add, nI_mul, nI_sub, nI_le', nI_lt', nI_eq', inb_nI, nI_clamp, b2iT', b2iF', b2i0', Option.bind_some, if_true, if_false, not_true_eq_false, not_false_eq_true, decide_eq_true_eq, decide_eq_false_iff_not, reduceCtorEq, Nat.add_zero, Nat.zero_add, n1, m_outP h hw i4]
    unfold nx
    by_cases e : a (13 + 2 * i) = 0
    · simp only [e, if_true, Option.bind_some]
      rw [if_pos (by rw [nI_le' (by omega) (by omega)]; exact hs)]
      exact ih f (i + 1) s (by omega) (by omega) hs
    · have ho := outP hw i4 e
      simp only [e, if_false, Option.bind_some]
      by_cases e2 : s ≤ outA a i
      · rw [if_pos (by rw [nI_le' (by omega) (by omega)]; exact e2), if_pos e2]
        exact ih f (i + 1) s (by omega) (by omega) hs
      · rw [if_neg (by rw [nI_le' (by omega) (by omega)]; exact e2), if_neg e2]
        exact ih f (i + 1) _ (by omega) (by omega) (by omega)
theorem m_next {a : Nat → Nat} {ν0 ν : Nm} (h : M1 a ν0 ν) (hw : WP a) : Md_nextOut ν = some (nI (nextA a)) := by
  have := hw.1
  unfold Md_nextOut nextA
  rw [← nx_cords hw]
  exact m_next6 h hw (a 0) FU 0 1000000 (by omega) (by unfold FU; omega) (by omega)
/-- the class's number for none is -1 -/
def enN (s : Nat) : Int32 := if s = 1000000 then -1 else nI s
theorem c_next4 {a : Nat → Nat} {ν0 ν : Nm} (h : C1 a ν0 ν) (hw : WF a) : ∀ (k f i s : Nat), i + k = 4 → k < f → s = 1000000 ∨ s ≤ 3841 → Pt_sparksToNextOut_4 ν f 2 (enN s) (nI i) = some (enN (nx a k i s)) := by
  intro k
  induction k with
  | zero =>
    intro f i s hi hf hs
    obtain ⟨f, rfl⟩ := fsucc hf
    rw [Pt_sparksToNextOut_4, if_pos (by rw [show (4 : Int32) = nI 4 from rfl, nI_le' (by omega) (by omega)]; omega)]
    rfl
  | succ k ih =>
    intro f i s hi hf hs
    obtain ⟨f, rfl⟩ := fsucc hf
    have i4 : i < 4 := by omega
    rw [Pt_sparksToNextOut_4, if_neg (by rw [show (4 : Int32) = nI 4 from rfl, nI_le' (by omega) (by omega)]; omega), c_out h hw i4]
    unfold nx Pt_sparksToNextOut_30 Pt_sparksToNextOut_32
    by_cases e : a (13 + 2 * i) = 0
    · rw [if_pos e, if_pos e, Option.bind_some, if_pos rfl, show (1 : Int32) = nI 1 from rfl, nI_add]
      exact ih f (i + 1) s (by omega) (by omega) hs
    · have ho := outA_le hw i4 e
      rw [if_neg e, if_neg e, Option.bind_some, if_neg (neg1 (by omega)), show (1 : Int32) = nI 1 from rfl, nI_add]
      have eo : nI (outA a i) = enN (outA a i) := by unfold enN; rw [if_neg (by omega)]
      rcases hs with rfl | hs
      · rw [if_pos (by unfold enN; rw [if_pos rfl]; rfl), if_neg (by omega), eo]
        exact ih f (i + 1) _ (by omega) (by omega) (by omega)
      · have es : enN s = nI s := by unfold enN; rw [if_neg (by omega)]
        have e1 : ¬ enN s = -nI 1 := by rw [es]; exact neg1 (by omega)
        rw [if_neg e1, es]
        by_cases e2 : s ≤ outA a i
        · rw [if_pos (by rw [nI_le' (by omega) (by omega)]; exact e2), if_pos e2, ← es]
          exact ih f (i + 1) s (by omega) (by omega) (Or.inr hs)
        · rw [if_neg (by rw [nI_le' (by omega) (by omega)]; exact e2), if_neg e2, eo]
          exact ih f (i + 1) _ (by omega) (by omega) (by omega)
theorem c_next {a : Nat → Nat} {ν0 ν : Nm} (h : C1 a ν0 ν) (hw : WF a) : Pt_sparksToNextOut ν 2 = some (enN (nextA a)) :=
  c_next4 h hw 4 FU 0 1000000 (by omega) (by unfold FU; omega) (Or.inl rfl)
/-- n sparks, within which no cord goes out ahead of the last: one cord -/
def pw1 (w : Bool) (n i : Nat) (s : (Nat → Nat) × Nat) : (Nat → Nat) × Nat :=
  if s.1 (13 + 2 * i) = 0 then s
  else if s.1 (12 + 2 * i) - n * pc16 (s.1 (13 + 2 * i)) = 0 then
    ((if w then writeA (upn (upn s.1 (12 + 2 * i) 0) (13 + 2 * i) 0) i 3 0 else upn (upn s.1 (12 + 2 * i) 0) (13 + 2 * i) 0), s.2 + 1)
  else (upn s.1 (12 + 2 * i) (s.1 (12 + 2 * i) - n * pc16 (s.1 (13 + 2 * i))), s.2)
def pwk (w : Bool) (n : Nat) : Nat → Nat → (Nat → Nat) × Nat → (Nat → Nat) × Nat
  | 0, _, s => s
  | k + 1, i, s => pwk w n k (i + 1) (pw1 w n i s)
def stepA (w : Bool) (n : Nat) (a : Nat → Nat) : (Nat → Nat) × Nat := pwk w n 4 0 (upn (upn a 8 (a 8 + n)) 10 0, 0)
theorem pw1_low {w : Bool} {n i : Nat} (hi : i < 4) (s : (Nat → Nat) × Nat) {j : Nat} (h : j < 1355) (h2 : j ≠ 11) (h3 : j ≠ 12 + 2 * i) (h4 : j ≠ 13 + 2 * i) : (pw1 w n i s).1 j = s.1 j := by
  unfold pw1
  by_cases e : s.1 (13 + 2 * i) = 0
  · rw [if_pos e]
  · rw [if_neg e]
    by_cases e2 : s.1 (12 + 2 * i) - n * pc16 (s.1 (13 + 2 * i)) = 0
    · rw [if_pos e2]
      cases w
      · show upn _ _ _ j = _
        rw [upn_n _ _ h4, upn_n _ _ h3]
      · show writeA _ _ _ _ j = _
        rw [writeA_low h h2, upn_n _ _ h4, upn_n _ _ h3]
    · rw [if_neg e2]
      show upn _ _ _ j = _
      rw [upn_n _ _ h3]
/-- rest and ends behind it -/
theorem pw1_re {w : Bool} {n i : Nat} (hi : i < 4) (s : (Nat → Nat) × Nat) : ((pw1 w n i s).1 (12 + 2 * i) = (if s.1 (13 + 2 * i) = 0 then s.1 (12 + 2 * i) else s.1 (12 + 2 * i) - n * pc16 (s.1 (13 + 2 * i)))) ∧ ((pw1 w n i s).1 (13 + 2 * i) = if s.1 (12 + 2 * i) - n * pc16 (s.1 (13 + 2 * i)) = 0 then 0 else s.1 (13 + 2 * i)) := by
  unfold pw1
  by_cases e : s.1 (13 + 2 * i) = 0
  · rw [if_pos e, if_pos e, e]; simp
  · rw [if_neg e, if_neg e]
    by_cases e2 : s.1 (12 + 2 * i) - n * pc16 (s.1 (13 + 2 * i)) = 0
    · rw [if_pos e2, if_pos e2]
      cases w
      · show upn _ _ _ _ = _ ∧ upn _ _ _ _ = _
        rw [upn_s, upn_n _ _ (by omega), upn_s]; exact ⟨e2.symm, rfl⟩
      · show writeA _ _ _ _ _ = _ ∧ writeA _ _ _ _ _ = _
        rw [writeA_low (by omega) (by omega), writeA_low (by omega) (by omega), upn_s, upn_n _ _ (by omega), upn_s]; exact ⟨e2.symm, rfl⟩
    · rw [if_neg e2, if_neg e2]
      show upn _ _ _ _ = _ ∧ upn _ _ _ _ = _
      rw [upn_s, upn_n _ _ (by omega)]; exact ⟨rfl, rfl⟩
theorem WP_ext {a a2 : Nat → Nat} (h : WP a) (h0 : a2 0 = a 0) (hm : ∀ c, c < 4 → a2 (20 + 2 * c) = a (20 + 2 * c)) (hr : ∀ c, c < 4 → a2 (12 + 2 * c) ≤ a (12 + 2 * c)) (he : ∀ c, c < 4 → (a2 (13 + 2 * c) = 0 ∨ (a2 (13 + 2 * c) = a (13 + 2 * c) ∧ (a (13 + 2 * c) = 0 ∨ a2 (12 + 2 * c) ≠ 0)))) : WP a2 := by
  refine ⟨by rw [h0]; exact h.1, fun c hc => ?_, fun c hc => ?_⟩
  · have k1 := WP_e h hc
    have k2 := hr c hc
    rw [show 12 + 1 + 2 * c = 13 + 2 * c by omega, h0, hm c hc]
    rcases he c hc with q | ⟨q, q2⟩
    · rw [q]; exact ⟨fun z => absurd rfl z, fun _ => rfl, fun z => Nat.le_trans k2 (k1.2.2 z)⟩
    · rw [q]; exact ⟨fun z => q2.elim (fun q3 => absurd q3 z) id, k1.2.1, fun z => Nat.le_trans k2 (k1.2.2 z)⟩
  · have k1 := h.2.2 c hc
    have k2 := hr c hc
    rw [hm c hc]
    rcases he c hc with q | ⟨q, q2⟩
    · rw [q]; omega
    · rw [q]; omega
theorem WP_pw1 {w : Bool} {n i : Nat} (hi : i < 4) {s : (Nat → Nat) × Nat} (h : WP s.1) : WP (pw1 w n i s).1 := by
  obtain ⟨r1, r2⟩ := pw1_re (w := w) (n := n) hi s
  refine WP_ext h (pw1_low hi s (by omega) (by omega) (by omega) (by omega)) (fun c hc => pw1_low hi s (by omega) (by omega) (by omega) (by omega)) (fun c hc => ?_) (fun c hc => ?_)
  · by_cases e : c = i
    · subst e; rw [r1]; split <;> omega
    · rw [pw1_low hi s (by omega) (by omega) (by omega) (by omega)]; exact Nat.le_refl _
  · by_cases e : c = i
    · subst e
      rw [r1, r2]
      by_cases e0 : s.1 (13 + 2 * c) = 0
      · rw [e0]; left; split <;> rfl
      · by_cases e2 : s.1 (12 + 2 * c) - n * pc16 (s.1 (13 + 2 * c)) = 0
        · rw [if_pos e2]; exact Or.inl rfl
        · rw [if_neg e2, if_neg e0]; exact Or.inr ⟨rfl, Or.inr e2⟩
    · rw [pw1_low hi s (by omega) (by omega) (by omega) (by omega), pw1_low hi s (by omega) (by omega) (by omega) (by omega)]
      by_cases e0 : s.1 (13 + 2 * c) = 0
      · exact Or.inl e0
      · exact Or.inr ⟨rfl, Or.inr ((WP_e h hc).1 e0)⟩
