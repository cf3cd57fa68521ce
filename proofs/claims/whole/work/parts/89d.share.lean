/-! Bundles: the class's shares. -/
/-- of the first n cords, those whose digit is p + 1 -/
def shK (b y p : Nat) : Nat → Nat
  | 0 => 0
  | c + 1 => shK b y p c + (if y / b ^ c % b = p + 1 then 2 ^ c else 0)
theorem shK_lt (b y p : Nat) : ∀ c, shK b y p c < 2 ^ c := by
  intro c
  induction c with
  | zero => exact Nat.one_pos
  | succ c ih =>
    show shK b y p c + (if y / b ^ c % b = p + 1 then 2 ^ c else 0) < 2 ^ (c + 1)
    rw [Nat.pow_succ]
    split <;> omega
theorem c_sh24 {b y : Nat} (b1 : 1 ≤ b) (b5 : b ≤ 5) (hy : y < 625) : ∀ (k f c : Nat) (ν : Nm), c + k = 4 → k < f → gi ν 282 2 = nI (b - 1) → (∀ p, p < 4 → gi ν 284 p = nI (shK b y p c)) → ∃ ν2, Bu_shareOut_24 f (nI (y / b ^ c)) (nI c) ν = some ν2 ∧ (∀ p, p < 4 → gi ν2 284 p = nI (shK b y p 4)) ∧ (∀ q j, q ≠ 284 → gi ν2 q j = gi ν q j) ∧ ∀ q j, gl ν2 q j = gl ν q j := by
  intro k
  induction k with
  | zero =>
    intro f c ν hc hf hb hP
    obtain ⟨f, rfl⟩ := fsucc hf
    obtain rfl : c = 4 := by omega
    exact ⟨ν, by rw [Bu_shareOut_24, if_pos (by decide)], hP, fun _ _ _ => rfl, fun _ _ => rfl⟩
  | succ k ih =>
    intro f c ν hc hf hb hP
    obtain ⟨f, rfl⟩ := fsucc hf
    have hd := Nat.div_le_self y (b ^ c)
    have hd2 := Nat.div_le_self (y / b ^ c) b
    have hm := Nat.mod_lt (y / b ^ c) (show 0 < b by omega)
    have eb : gi ν 282 2 + 1 = nI b := by rw [hb, show nI (b - 1) + 1 = nI (b - 1 + 1) from nI_add _ 1]; congr 1; omega
    have e1 : nI (y / b ^ c) / nI b = nI (y / b ^ (c + 1)) := by rw [nI_div (by omega) (by omega), Nat.div_div_eq_div_mul, Nat.pow_succ]
    have e2 : nI (y / b ^ c) - nI (y / b ^ c) / nI b * nI b = nI (y / b ^ c % b) := nI_mod (by omega) (by omega)
    have e3 : nI c + 1 = nI (c + 1) := nI_add c 1
    rw [Bu_shareOut_24, if_neg (by rw [show (4 : Int32) = nI 4 from rfl, nI_le' (by omega) (by omega)]; omega), eb, if_neg (by rw [show (0 : Int32) = nI 0 from rfl, nI_eq' (by omega) (by omega)]; omega), if_neg (by rw [show (0 : Int32) = nI 0 from rfl, nI_eq' (by omega) (by omega)]; omega), e2, e1]
    unfold Bu_shareOut_68
    rw [e3]
    by_cases z : y / b ^ c % b = 0
    · rw [if_pos (by rw [z]; decide)]
      refine ih f (c + 1) ν (by omega) (by omega) hb (fun p hp => ?_)
      show _ = nI (shK b y p c + (if y / b ^ c % b = p + 1 then 2 ^ c else 0))
      rw [if_neg (by omega), Nat.add_zero]
      exact hP p hp
    · have e4 : nI (y / b ^ c % b) - 1 = nI (y / b ^ c % b - 1) := nI_sub (b := 1) (by omega)
      rw [if_neg (by rw [show (0 : Int32) = nI 0 from rfl, nI_le' (by omega) (by omega)]; omega), e4, inb_nI (by omega), nI_clamp (by omega)]
      simp only [dT (show y / b ^ c % b - 1 < 4 by omega), if_true]
      have hl := shK_lt b y (y / b ^ c % b - 1) c
      rw [hP _ (by omega), show (1 : Int32) = nI 1 from rfl, nI_shl (by omega), Nat.one_mul, nI_or, show shK b y (y / b ^ c % b - 1) c ||| 2 ^ c = shK b y (y / b ^ c % b - 1) c + 2 ^ c by rw [Nat.or_comm, Nat.add_comm, show 2 ^ c = 1 * 2 ^ c by omega, or_add hl]]
      obtain ⟨ν2, p1, p2, p3, p4⟩ := ih f (c + 1) (si ν 284 (y / b ^ c % b - 1) (nI (shK b y (y / b ^ c % b - 1) c + 2 ^ c))) (by omega) (by omega) (by rw [gi_si_q _ _ _ _ (by omega)]; exact hb) (fun p hp => by
        show _ = nI (shK b y p c + (if y / b ^ c % b = p + 1 then 2 ^ c else 0))
        by_cases w : p = y / b ^ c % b - 1
        · subst w; rw [gi_si_s, if_pos (by omega)]
        · rw [gi_si_j _ _ _ w, if_neg (by omega), Nat.add_zero]; exact hP p hp)
      exact ⟨ν2, p1, p2, fun q j hq => by rw [p3 q j hq, gi_si_q _ _ _ _ hq], fun q j => by rw [p4, gl_si]⟩
theorem c_sh2 (y : Nat) : ∀ (k f i : Nat) (ν : Nm), i + k = 4 → k < f → ∃ ν2, Bu_shareOut_2 f (nI y) (nI i) ν = Bu_shareOut_24 FU (nI y) 0 ν2 ∧ (∀ p, i ≤ p → p < 4 → gi ν2 284 p = nI 0) ∧ (∀ q j, ¬ (q = 284 ∧ i ≤ j) → gi ν2 q j = gi ν q j) ∧ ∀ q j, gl ν2 q j = gl ν q j := by
  intro k
  induction k with
  | zero =>
    intro f i ν hi hf
    obtain ⟨f, rfl⟩ := fsucc hf
    exact ⟨ν, by rw [Bu_shareOut_2, if_pos (by rw [show (4 : Int32) = nI 4 from rfl, nI_le' (by omega) (by omega)]; omega)], fun p _ _ => by omega, fun _ _ _ => rfl, fun _ _ => rfl⟩
  | succ k ih =>
    intro f i ν hi hf
    obtain ⟨f, rfl⟩ := fsucc hf
    obtain ⟨ν2, p1, p2, p3, p4⟩ := ih f (i + 1) (si ν 284 i 0) (by omega) (by omega)
    refine ⟨ν2, ?_, fun p q1 q2 => ?_, fun q j hq => by rw [p3 q j (by omega), gi_si, if_neg (by omega)], fun q j => by rw [p4, gl_si]⟩
    · rw [Bu_shareOut_2, if_neg (by rw [show (4 : Int32) = nI 4 from rfl, nI_le' (by omega) (by omega)]; omega), inb_nI (by omega), nI_clamp (by omega), if_pos (by simp; omega), show nI i + 1 = nI (i + 1) from nI_add i 1]
      exact p1
    · by_cases z : p = i
      · subst z; rw [p3 _ _ (by omega), gi_si_s]; rfl
      · exact p2 p (by omega) q2
def shF (b y p : Nat) : Nat := shK b y p 4
theorem shF_16 (b y p : Nat) : shF b y p < 16 := shK_lt b y p 4
theorem c_shareOut {b y : Nat} (b1 : 1 ≤ b) (b5 : b ≤ 5) (hy : y < 625) {ν : Nm} (hb : gi ν 282 2 = nI (b - 1)) : ∃ ν2, Bu_shareOut (nI y) ν = some ν2 ∧ (∀ p, p < 4 → gi ν2 284 p = nI (shF b y p)) ∧ (∀ q j, q ≠ 284 → gi ν2 q j = gi ν q j) ∧ ∀ q j, gl ν2 q j = gl ν q j := by
  obtain ⟨ν1, p1, p2, p3, p4⟩ := c_sh2 y 4 FU 0 ν (by omega) (by unfold FU; omega)
  obtain ⟨ν2, q1, q2, q3, q4⟩ := c_sh24 b1 b5 hy 4 FU 0 ν1 (by omega) (by unfold FU; omega) (by rw [p3 _ _ (by omega)]; exact hb) (fun p hp => p2 p (by omega) hp)
  refine ⟨ν2, ?_, q2, fun q j hq => by rw [q3 q j hq, p3 q j (by omega)], fun q j => by rw [q4, p4]⟩
  unfold Bu_shareOut
  have p1' : Bu_shareOut_2 FU (nI y) 0 ν = _ := p1
  rw [p1']
  rw [Nat.pow_zero, Nat.div_one] at q1
  exact q1
/-- every share gives what is wanted -/
def alK (a : Nat → Nat) (S : Nat → Nat) : Nat → Nat → Bool
  | 0, _ => true
  | k + 1, i => (decide (S i < 2 ^ a 0) && gvP a (a (29 + i)) (S i)) && alK a S k (i + 1)
def GV (a : Nat → Nat) (ν : Nm) : Prop := ∀ i, i < a 5 → gi ν 283 i = nI (mask (gvP a (a (29 + i))) (2 ^ a 0))
theorem c_all2 {a : Nat → Nat} (hw : WF a) {S : Nat → Nat} (hS : ∀ p, S p < 16) {ν : Nm} (h2 : gi ν 282 2 = nI (a 5)) (hG : GV a ν) (hP : ∀ p, p < 4 → gi ν 284 p = nI (S p)) : ∀ (k f i : Nat), i + k = a 5 → k < f → Bu_givesAll_2 ν f (nI i) = some (alK a S k i) := by
  have hb := wb hw
  have p4 : 2 ^ a 0 ≤ 2 ^ 4 := Nat.pow_le_pow_right (by omega) hb.1
  intro k
  induction k with
  | zero =>
    intro f i hi hf
    obtain ⟨f, rfl⟩ := fsucc hf
    rw [Bu_givesAll_2, h2, if_pos (by rw [nI_le' (by omega) (by omega)]; omega)]
    rfl
  | succ k ih =>
    intro f i hi hf
    obtain ⟨f, rfl⟩ := fsucc hf
    have hi4 : i < 4 := by omega
    have hml := mask_lt (gvP a (a (29 + i))) (2 ^ a 0)
    have h16 : 2 ^ 2 ^ a 0 ≤ 2 ^ 16 := Nat.pow_le_pow_right (by omega) (by omega)
    rw [Bu_givesAll_2, h2, if_neg (by rw [nI_le' (by omega) (by omega)]; omega), inb_nI (by omega), nI_clamp (by omega)]
    simp only [dT hi4, if_true]
    rw [hG i (by omega), hP i hi4]
    have bt : ((nI (mask (gvP a (a (29 + i))) (2 ^ a 0)) >>> (nI (S i) &&& 31)) &&& 1 = 0) = ¬ (S i < 2 ^ a 0 ∧ gvP a (a (29 + i)) (S i) = true) := by
      apply propext
      rw [bit_tst (by omega) (hS i), mask_bit]
    simp only [bt]
    show _ = some ((decide (S i < 2 ^ a 0) && gvP a (a (29 + i)) (S i)) && alK a S k (i + 1))
    by_cases z : S i < 2 ^ a 0 ∧ gvP a (a (29 + i)) (S i) = true
    · rw [if_pos (by simp [z]), decide_eq_true z.1, z.2, show nI i + 1 = nI (i + 1) from nI_add i 1, ih f (i + 1) (by omega) (by omega)]
      rfl
    · rw [if_neg (by intro w; exact w z)]
      by_cases z1 : S i < 2 ^ a 0
      · have : gvP a (a (29 + i)) (S i) = false := Bool.eq_false_iff.mpr (fun w => z ⟨z1, w⟩)
        rw [this, Bool.and_false, Bool.false_and]
      · rw [decide_eq_false z1, Bool.false_and, Bool.false_and]
