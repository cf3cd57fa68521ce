/-! Bundles: the model's parts. -/
/-- of the first n cords, those whose digit (of five) is d -/
def ptK (y d : Nat) : Nat → Nat
  | 0 => 0
  | c + 1 => ptK y d c + (if y / 5 ^ c % 5 = d then 2 ^ c else 0)
theorem ptK_lt (y d : Nat) : ∀ c, ptK y d c < 2 ^ c := by
  intro c
  induction c with
  | zero => exact Nat.one_pos
  | succ c ih =>
    show ptK y d c + (if y / 5 ^ c % 5 = d then 2 ^ c else 0) < 2 ^ (c + 1)
    rw [Nat.pow_succ]
    split <;> omega
theorem m_ap2 (y : Nat) {a : Nat → Nat} {ν0 : Nm} : ∀ (k f i : Nat) (ν : Nm), i + k = 5 → k < f → MR a ν0 ν → ∃ ν2, Md_areParts_2 f (nI y) (nI i) ν = Md_areParts_24 FU (nI y) 0 ν2 ∧ MR a ν0 ν2 ∧ (∀ p, i ≤ p → p < 5 → gi ν2 329 p = nI 0) ∧ (∀ q j, ¬ (q = 329 ∧ i ≤ j) → gi ν2 q j = gi ν q j) := by
  intro k
  induction k with
  | zero =>
    intro f i ν hi hf h
    obtain ⟨f, rfl⟩ := fsucc hf
    exact ⟨ν, by rw [Md_areParts_2, if_pos (by rw [show (5 : Int32) = nI 5 from rfl, nI_le' (by omega) (by omega)]; omega)], h, fun p _ _ => by omega, fun _ _ _ => rfl⟩
  | succ k ih =>
    intro f i ν hi hf h
    obtain ⟨f, rfl⟩ := fsucc hf
    obtain ⟨ν2, p1, p2, p3, p4⟩ := ih f (i + 1) (si ν 329 i 0) (by omega) (by omega) (MR_si h 0 (by omega))
    refine ⟨ν2, ?_, p2, fun p q1 q2 => ?_, fun q j hq => by rw [p4 q j (by omega), gi_si, if_neg (by omega)]⟩
    · rw [Md_areParts_2, if_neg (by rw [show (5 : Int32) = nI 5 from rfl, nI_le' (by omega) (by omega)]; omega), inb_nI (by omega), nI_clamp (by omega), if_pos (by simp; omega), show nI i + 1 = nI (i + 1) from nI_add i 1]
      exact p1
    · by_cases z : p = i
      · subst z; rw [p4 _ _ (by omega), gi_si_s]; rfl
      · exact p3 p (by omega) q2
theorem m_ap24 {y : Nat} (hy : y < 625) {a : Nat → Nat} (hw : WF a) {ν0 : Nm} : ∀ (k f c : Nat) (ν : Nm), c + k = a 0 → k < f → MR a ν0 ν → (∀ p, p < 5 → gi ν 329 p = nI (ptK y p c)) → ∃ ν2, Md_areParts_24 f (nI (y / 5 ^ c)) (nI c) ν = Md_areParts_60 FU 1 ν2 ∧ MR a ν0 ν2 ∧ (∀ p, p < 5 → gi ν2 329 p = nI (ptK y p (a 0))) ∧ (∀ q j, q ≠ 329 → gi ν2 q j = gi ν q j) := by
  have hb := wb hw
  intro k
  induction k with
  | zero =>
    intro f c ν hc hf h hP
    obtain ⟨f, rfl⟩ := fsucc hf
    obtain rfl : c = a 0 := by omega
    exact ⟨ν, by rw [Md_areParts_24, mr (MR_M h) (by decide) (by decide), if_pos (by rw [nI_le' (by omega) (by omega)]; omega)], h, hP, fun _ _ _ => rfl⟩
  | succ k ih =>
    intro f c ν hc hf h hP
    obtain ⟨f, rfl⟩ := fsucc hf
    have hd := Nat.div_le_self y (5 ^ c)
    have hd2 := Nat.div_le_self (y / 5 ^ c) 5
    have hm := Nat.mod_lt (y / 5 ^ c) (show 0 < 5 by omega)
    have e1 : nI (y / 5 ^ c) / 5 = nI (y / 5 ^ (c + 1)) := by rw [show (5 : Int32) = nI 5 from rfl, nI_div (by omega) (by omega), Nat.div_div_eq_div_mul, Nat.pow_succ]
    have e2 : nI (y / 5 ^ c) - nI (y / 5 ^ c) / 5 * 5 = nI (y / 5 ^ c % 5) := nI_mod (b := 5) (by omega) (by omega)
    have hl := ptK_lt y (y / 5 ^ c % 5) c
    obtain ⟨ν2, p1, p2, p3, p4⟩ := ih f (c + 1) (si ν 329 (y / 5 ^ c % 5) (nI (ptK y (y / 5 ^ c % 5) c + 2 ^ c))) (by omega) (by omega) (MR_si h _ (by omega)) (fun p hp => by
      show _ = nI (ptK y p c + (if y / 5 ^ c % 5 = p then 2 ^ c else 0))
      by_cases w : p = y / 5 ^ c % 5
      · subst w; rw [gi_si_s, if_pos rfl]
      · rw [gi_si_j _ _ _ w, if_neg (fun z => w z.symm), Nat.add_zero]; exact hP p hp)
    refine ⟨ν2, ?_, p2, p3, fun q j hq => by rw [p4 q j hq, gi_si_q _ _ _ _ hq]⟩
    rw [Md_areParts_24, mr (MR_M h) (by decide) (by decide), if_neg (by rw [nI_le' (by omega) (by omega)]; omega), e2, e1, inb_nI (by omega), nI_clamp (by omega)]
    simp only [dT hm, if_true]
    rw [hP _ hm, show (1 : Int32) = nI 1 from rfl, nI_shl (by omega), Nat.one_mul, nI_or, show ptK y (y / 5 ^ c % 5) c ||| 2 ^ c = ptK y (y / 5 ^ c % 5) c + 2 ^ c by rw [Nat.or_comm, Nat.add_comm, show 2 ^ c = 1 * 2 ^ c by omega, or_add hl], show nI c + nI 1 = nI (c + 1) from nI_add c 1]
    exact p1
/-- are they parts, from part p on -/
def apK (a : Nat → Nat) (S : Nat → Nat) : Nat → Nat → Bool
  | 0, _ => true
  | k + 1, p => (if p < a 5 then decide (S p ≠ 0) && gvB a (S p) (a (29 + p)) else decide (S p = 0)) && apK a S k (p + 1)
theorem m_ap60 {a : Nat → Nat} (hw : WF a) {S : Nat → Nat} (hS : ∀ p, S p < 2 ^ a 0) {ν0 : Nm} : ∀ (k f p : Nat) (ν : Nm), p + k = 4 → k < f → MR a ν0 ν → (∀ p, p < 4 → gi ν 329 (p + 1) = nI (S p)) → ∃ ν2, Md_areParts_60 f (nI (p + 1)) ν = some (apK a S k p, ν2) ∧ MR a ν0 ν2 ∧ ∀ q j, 329 ≤ q → gi ν2 q j = gi ν q j := by
  have hb := wb hw
  have p4 : 2 ^ a 0 ≤ 2 ^ 4 := Nat.pow_le_pow_right (by omega) hb.1
  intro k
  induction k with
  | zero =>
    intro f p ν hp hf h hP
    obtain ⟨f, rfl⟩ := fsucc hf
    exact ⟨ν, by rw [Md_areParts_60, if_pos (by rw [show (5 : Int32) = nI 5 from rfl, nI_le' (by omega) (by omega)]; omega)]; rfl, h, fun _ _ _ => rfl⟩
  | succ k ih =>
    intro f p ν hp hf h hP
    obtain ⟨f, rfl⟩ := fsucc hf
    have hs := hS p
    rw [Md_areParts_60, if_neg (by rw [show (5 : Int32) = nI 5 from rfl, nI_le' (by omega) (by omega)]; omega), mr (MR_M h) (by decide) (by decide), inb_nI (by omega), nI_clamp (by omega)]
    simp only [dT (show p + 1 < 5 by omega), if_true]
    rw [hP p (by omega)]
    unfold Md_areParts_122
    rw [show nI (p + 1) + 1 = nI (p + 1 + 1) from nI_add (p + 1) 1]
    have en : apK a S (k + 1) p = ((if p < a 5 then decide (S p ≠ 0) && gvB a (S p) (a (29 + p)) else decide (S p = 0)) && apK a S k (p + 1)) := rfl
    rw [en]
    by_cases w : p < a 5
    · rw [if_pos (by rw [nI_le' (by omega) (by omega)]; omega), if_pos w]
      by_cases z : S p = 0
      · rw [if_pos (by rw [z]; rfl), decide_eq_false (by simp [z]), Bool.false_and, Bool.false_and]
        exact ⟨ν, rfl, h, fun _ _ _ => rfl⟩
      · rw [if_neg (by rw [show (0 : Int32) = nI 0 from rfl, nI_eq' (by omega) (by omega)]; exact z), show (29 : Int32) + nI (p + 1) = nI (29 + (p + 1)) from nI_add 29 (p + 1), show nI (29 + (p + 1)) - 1 = nI (29 + (p + 1) - 1) from nI_sub (b := 1) (by omega), show 29 + (p + 1) - 1 = 29 + p by omega, inb_nI (by omega), nI_clamp (by omega), if_pos (by simp; omega), mr (MR_M h) (by omega) (by omega)]
        obtain ⟨ν1, g1, g2, g3⟩ := m_given h hw (s := S p) (v := a (29 + p)) (by omega) hs (wbc hw (show p < 4 by omega)).2.2.2.2
        rw [g1, Option.bind_some]
        simp only []
        have k1 : ∀ q j, 329 ≤ q → gi ν1 q j = gi ν q j := fun q j hq => g3.1 q j (by omega)
        rw [decide_eq_true (show S p ≠ 0 from z), Bool.true_and]
        cases gvB a (S p) (a (29 + p)) with
        | false =>
          rw [if_neg (by rw [b2iF]; simp), Bool.false_and]
          exact ⟨ν1, rfl, g2, k1⟩
        | true =>
          rw [if_pos (by rw [b2iT]; exact id), Bool.true_and]
          obtain ⟨ν2, q1, q2, q3⟩ := ih f (p + 1) ν1 (by omega) (by omega) g2 (fun p2 hp2 => by rw [k1 _ _ (by omega)]; exact hP p2 hp2)
          exact ⟨ν2, q1, q2, fun q j hq => by rw [q3 q j hq, k1 q j hq]⟩
    · rw [if_neg (by rw [nI_le' (by omega) (by omega)]; omega), if_neg w]
      by_cases z : S p = 0
      · rw [if_pos (by rw [z]; rfl), decide_eq_true z, Bool.true_and]
        exact ih f (p + 1) ν (by omega) (by omega) h hP
      · rw [if_neg (by rw [show (0 : Int32) = nI 0 from rfl, nI_eq' (by omega) (by omega)]; exact z), decide_eq_false z, Bool.false_and]
        exact ⟨ν, rfl, h, fun _ _ _ => rfl⟩
/-- the shares of a code of the model -/
def shM (a : Nat → Nat) (y p : Nat) : Nat := ptK y (p + 1) (a 0)
theorem m_parts {a : Nat → Nat} (hw : WF a) {ν0 ν : Nm} (h : MR a ν0 ν) {y : Nat} (hy : y < 625) : ∃ ν2, Md_areParts (nI y) ν = some (apK a (shM a y) 4 0, ν2) ∧ MR a ν0 ν2 ∧ (∀ p, p < 5 → gi ν2 329 p = nI (ptK y p (a 0))) ∧ ∀ q j, 330 ≤ q → gi ν2 q j = gi ν q j := by
  have hb := wb hw
  obtain ⟨ν1, p1, p2, p3, p4⟩ := m_ap2 y (a := a) (ν0 := ν0) 5 FU 0 ν (by omega) (by unfold FU; omega) h
  obtain ⟨ν2, q1, q2, q3, q4⟩ := m_ap24 hy hw (ν0 := ν0) (a 0) FU 0 ν1 (by omega) (by unfold FU; omega) p2 (fun p hp => p3 p (by omega) hp)
  obtain ⟨ν3, r1, r2, r3⟩ := m_ap60 hw (S := shM a y) (fun p => ptK_lt _ _ _) (ν0 := ν0) 4 FU 0 ν2 (by omega) (by unfold FU; omega) q2 (fun p hp => q3 (p + 1) (by omega))
  refine ⟨ν3, ?_, r2, fun p hp => by rw [r3 _ _ (by omega)]; exact q3 p hp, fun q j hq => by rw [r3 q j (by omega), q4 q j (by omega), p4 q j (by omega)]⟩
  unfold Md_areParts
  have p1' : Md_areParts_2 FU (nI y) 0 ν = _ := p1
  rw [Nat.pow_zero, Nat.div_one] at q1
  have q1' : Md_areParts_24 FU (nI y) 0 ν1 = _ := q1
  have r1' : Md_areParts_60 FU 1 ν2 = _ := r1
  rw [p1', q1', r1']
