/-! Suspects. -/
/-- sets below m for which p holds, a bit each -/
def mask (p : Nat → Bool) : Nat → Nat
  | 0 => 0
  | m + 1 => mask p m + (if p m then 2 ^ m else 0)
theorem mask_lt (p : Nat → Bool) : ∀ m, mask p m < 2 ^ m := by
  intro m
  induction m with
  | zero => exact Nat.zero_lt_one
  | succ m ih =>
    unfold mask
    rw [Nat.pow_succ]
    split <;> omega
theorem tbit (n i : Nat) : n.testBit i = true ↔ n / 2 ^ i % 2 = 1 := by rw [Nat.testBit_eq_decide_div_mod_eq, decide_eq_true_iff]
theorem mask_bit (p : Nat → Bool) : ∀ m i, (mask p m / 2 ^ i % 2 = 1) ↔ (i < m ∧ p i = true) := by
  intro m
  induction m with
  | zero => intro i; simp [mask]
  | succ m ih =>
    intro i
    have hl := mask_lt p m
    have e : (mask p (m + 1)).testBit i = true ↔ (i < m + 1 ∧ p i = true) := by
      unfold mask
      by_cases hp : p m = true
      · rw [if_pos hp, Nat.add_comm]
        by_cases h1 : i = m
        · subst h1
          rw [Nat.testBit_two_pow_add_eq, Nat.testBit_lt_two_pow hl]; simp [hp]
        · rcases Nat.lt_or_ge i m with h2 | h2
          · rw [Nat.testBit_two_pow_add_gt h2]
            rw [tbit, ih i]; constructor <;> (rintro ⟨q1, q2⟩; exact ⟨by omega, q2⟩)
          · have : 2 ^ m + mask p m < 2 ^ i := by
              have : 2 ^ (m + 1) ≤ 2 ^ i := Nat.pow_le_pow_right (by omega) (by omega)
              rw [Nat.pow_succ] at this; omega
            rw [Nat.testBit_lt_two_pow this]; simp; omega
      · rw [if_neg hp, Nat.add_zero]
        rw [tbit, ih i]
        constructor
        · rintro ⟨q1, q2⟩; exact ⟨by omega, q2⟩
        · rintro ⟨q1, q2⟩
          refine ⟨?_, q2⟩
          by_cases h1 : i = m
          · subst h1; exact absurd q2 hp
          · omega
    rw [← e, tbit]
/-- how many below m -/
def cnt (p : Nat → Bool) : Nat → Nat
  | 0 => 0
  | m + 1 => cnt p m + (if p m then 1 else 0)
theorem cnt_le (p : Nat → Bool) : ∀ m, cnt p m ≤ m := by
  intro m
  induction m with
  | zero => exact Nat.le_refl 0
  | succ m ih => unfold cnt; split <;> omega
theorem cnt_ext {p q : Nat → Bool} : ∀ m, (∀ i, i < m → p i = q i) → cnt p m = cnt q m := by
  intro m
  induction m with
  | zero => intro _; rfl
  | succ m ih => intro h; unfold cnt; rw [ih (fun i hi => h i (by omega)), h m (by omega)]
theorem pc16_cnt (k : Nat) : pc16 k = cnt (fun i => decide (k / 2 ^ i % 2 = 1)) 16 := by
  have e : ∀ i, (if decide (k / 2 ^ i % 2 = 1) = true then 1 else 0) = k / 2 ^ i % 2 := fun i => by
    by_cases h : k / 2 ^ i % 2 = 1
    · rw [if_pos (decide_eq_true h), h]
    · rw [if_neg (by simp [h])]; omega
  unfold pc16
  simp only [List.range, List.range.loop, List.foldl, cnt, e]
theorem cnt_more (p : Nat → Bool) (m : Nat) (h : ∀ i, m ≤ i → p i = false) : ∀ d, cnt p (m + d) = cnt p m := by
  intro d
  induction d with
  | zero => rfl
  | succ d ih => show cnt p (m + d) + (if p (m + d) = true then 1 else 0) = _; rw [ih, h _ (Nat.le_add_right m d)]; rfl
theorem pc_mask (p : Nat → Bool) {m : Nat} (hm : m ≤ 16) : pc16 (mask p m) = cnt p m := by
  rw [pc16_cnt]
  have e : ∀ i, decide (mask p m / 2 ^ i % 2 = 1) = (decide (i < m) && p i) := fun i => by
    by_cases h : i < m ∧ p i = true
    · rw [decide_eq_true ((mask_bit p m i).mpr h), decide_eq_true h.1, h.2]; rfl
    · rw [decide_eq_false (fun q => h ((mask_bit p m i).mp q))]
      by_cases h1 : i < m
      · have : p i = false := Bool.eq_false_iff.mpr (fun q => h ⟨h1, q⟩)
        rw [this]; simp
      · rw [decide_eq_false h1]; rfl
  rw [cnt_ext (q := fun i => decide (i < m) && p i) 16 (fun i _ => e i), show (16 : Nat) = m + (16 - m) by omega, cnt_more _ m (fun i hi => by rw [decide_eq_false (by omega)]; rfl)]
  exact cnt_ext m (fun i hi => by rw [decide_eq_true hi]; rfl)
theorem bit_tst {k i : Nat} (hk : k < 65536) (hi : i < 16) : ((nI k >>> (nI i &&& 31)) &&& 1 = 0) ↔ ¬ (k / 2 ^ i % 2 = 1) := by
  have hd := Nat.div_le_self k (2 ^ i)
  rw [nI_shr (by omega) (by omega), show (1 : Int32) = nI 1 from rfl, nI_and, and1, show (0 : Int32) = nI 0 from rfl, nI_eq' (by omega) (by omega)]
  omega
/-- is a set suspect -/
def spA (a : Nat → Nat) (s : Nat) : Nat → Nat → Bool
  | 0, _ => true
  | k + 1, i => (decide ((a (33 + 2 * i) &&& s) ≠ 0) == decide (a (34 + 2 * i) = 1)) && spA a s k (i + 1)
def susp (a : Nat → Nat) (s : Nat) : Bool := spA a s (a 6) 0
theorem c_fits {a : Nat → Nat} {ν0 ν : Nm} (h : C1 a ν0 ν) (hw : WF a) {s : Nat} (hs : s < 16) : ∀ (k f i : Nat), i + k = a 6 → k < f → Sp_fits_2 ν f (nI s) 132 (nI i) = some (spA a s k i) := by
  have hb := wb hw
  intro k
  induction k with
  | zero =>
    intro f i hi hf
    obtain ⟨f, rfl⟩ := fsucc hf
    rw [Sp_fits_2, (cr h).2.2.2.2.2.2.1, if_pos (by rw [nI_le' (by omega) (by omega)]; omega)]; rfl
  | succ k ih =>
    intro f i hi hf
    obtain ⟨f, rfl⟩ := fsucc hf
    have ht := wbt hw (show i < 8 by omega)
    have nx := ih f (i + 1) (by omega) (by omega)
    have e1 : nI (2 * a (33 + 2 * i) + a (34 + 2 * i)) &&& 1 = nI (a (34 + 2 * i)) := by
      rw [show (1 : Int32) = nI 1 from rfl, nI_and, and1]; congr 1; omega
    have e2 : nI (2 * a (33 + 2 * i) + a (34 + 2 * i)) >>> ((1 : Int32) &&& 31) = nI (a (33 + 2 * i)) := by
      rw [show (1 : Int32) = nI 1 from rfl, nI_shr (by omega) (by omega)]; congr 1; omega
    have hand : a (33 + 2 * i) &&& s < 16 := Nat.lt_of_le_of_lt Nat.and_le_right hs
    rw [Sp_fits_2, (cr h).2.2.2.2.2.2.1, if_neg (by rw [nI_le' (by omega) (by omega)]; omega), tl_132, if_neg (by show ¬ nI 8 ≤ nI i; rw [nI_le' (by omega) (by omega)]; omega), inb_nI (by omega), nI_clamp (by omega), if_pos (by simp; omega), show (132 + 1 : Nat) = 133 from rfl, cr_tried h (by omega), e1]
    unfold Sp_fits_35 Sp_fits_54 spA
    rw [tl_132, inb_nI (by omega), nI_clamp (by omega), show (132 + 1 : Nat) = 133 from rfl, cr_tried h (by omega), e2, nI_and, Nat.and_comm s, show (1 : Int32) = nI 1 from rfl, nI_add, nx]
    simp only [decide_eq_true (show i < 8 by omega), if_true]
    have z1 : (nI (a (34 + 2 * i)) = 0) = (a (34 + 2 * i) = 0) := nI_eq' (b := 0) (by omega) (by decide)
    have z2 : (nI (a (33 + 2 * i) &&& s) = 0) = (a (33 + 2 * i) &&& s = 0) := nI_eq' (b := 0) (by omega) (by decide)
    simp only [z1, z2]
    rcases (show a (34 + 2 * i) = 0 ∨ a (34 + 2 * i) = 1 by omega) with q | q <;> by_cases q2 : a (33 + 2 * i) &&& s = 0 <;> simp [q, q2, nI]
theorem c_fits' {a : Nat → Nat} {ν0 ν : Nm} (h : C1 a ν0 ν) (hw : WF a) {s : Nat} (hs : s < 16) : Sp_fits ν (nI s) 132 = some (susp a s) := by
  have hb := wb hw
  exact c_fits h hw hs (a 6) FU 0 (by omega) (by unfold FU; omega)
theorem m_susp {a : Nat → Nat} {ν0 ν : Nm} (h : M1 a ν0 ν) (hw : WF a) {s : Nat} (hs : s < 16) : ∀ (k f i : Nat), i + k = a 6 → k < f → Md_isSuspect_3 ν f (nI s) (nI (33 + 2 * i)) = some (spA a s k i) := by
  have hb := wb hw
  intro k
  induction k with
  | zero =>
    intro f i hi hf
    obtain ⟨f, rfl⟩ := fsucc hf
    rw [Md_isSuspect_3, mr h (by decide) (by decide), show (33 : Int32) = nI 33 from rfl, show (2 : Int32) = nI 2 from rfl, nI_mul, nI_add, if_pos (by rw [nI_le' (by omega) (by omega)]; omega)]; rfl
  | succ k ih =>
    intro f i hi hf
    obtain ⟨f, rfl⟩ := fsucc hf
    have ht := wbt hw (show i < 8 by omega)
    have nx := ih f (i + 1) (by omega) (by omega)
    have hand : a (33 + 2 * i) &&& s < 16 := Nat.lt_of_le_of_lt Nat.and_le_right hs
    rw [Md_isSuspect_3, mr h (by decide) (by decide), show (33 : Int32) = nI 33 from rfl, show (2 : Int32) = nI 2 from rfl, nI_mul, nI_add, if_neg (by rw [nI_le' (by omega) (by omega)]; omega), inb_nI (by omega), nI_clamp (by omega), if_pos (by simp; omega), mr h (by omega) (by omega), nI_and]
    unfold Md_isSuspect_35 Md_isSuspect_52 spA
    rw [show (1 : Int32) = nI 1 from rfl, nI_add, inb_nI (by omega), nI_clamp (by omega), mr h (by omega) (by omega), show (2 : Int32) = nI 2 from rfl, nI_add, show 33 + 2 * i + 2 = 33 + 2 * (i + 1) by omega, nx, show 33 + 2 * i + 1 = 34 + 2 * i by omega]
    simp only [decide_eq_true (show 34 + 2 * i < 1385 by omega), if_true]
    have z2 : (nI (a (33 + 2 * i) &&& s) = 0) = (a (33 + 2 * i) &&& s = 0) := nI_eq' (b := 0) (by omega) (by decide)
    simp only [z2]
    rcases (show a (34 + 2 * i) = 0 ∨ a (34 + 2 * i) = 1 by omega) with q | q <;> by_cases q2 : a (33 + 2 * i) &&& s = 0 <;> simp [q, q2, nI]
theorem m_susp' {a : Nat → Nat} {ν0 ν : Nm} (h : M1 a ν0 ν) (hw : WF a) {s : Nat} (hs : s < 16) : Md_isSuspect ν (nI s) = some (susp a s) := by
  have hb := wb hw
  exact m_susp h hw hs (a 6) FU 0 (by omega) (by unfold FU; omega)
theorem c_sets {a : Nat → Nat} {ν0 ν : Nm} (h : C1 a ν0 ν) (hw : WF a) : ∀ (k f i : Nat), i + k = 2 ^ a 0 → k < f → Fm_suspectSets_4 ν f (nI (mask (susp a) i)) (nI i) = some (nI (mask (susp a) (2 ^ a 0))) := by
  have hb := wb hw
  have p4 : 2 ^ a 0 ≤ 2 ^ 4 := Nat.pow_le_pow_right (by omega) hb.1
  have p0 : 1 ≤ 2 ^ a 0 := Nat.one_le_two_pow
  intro k
  induction k with
  | zero =>
    intro f i hi hf
    obtain ⟨f, rfl⟩ := fsucc hf
    rw [Fm_suspectSets_4, c_all h hw, Option.bind_some, if_pos (by rw [nI_lt' (by omega) (by omega)]; omega), show i = 2 ^ a 0 by omega]
  | succ k ih =>
    intro f i hi hf
    obtain ⟨f, rfl⟩ := fsucc hf
    rw [Fm_suspectSets_4, c_all h hw, Option.bind_some, if_neg (by rw [nI_lt' (by omega) (by omega)]; omega), c_fits' h hw (by omega), Option.bind_some]
    unfold Fm_suspectSets_32
    have nx := ih f (i + 1) (by omega) (by omega)
    have hl := mask_lt (susp a) i
    rw [show (1 : Int32) = nI 1 from rfl, nI_add, nI_shl (by omega), nI_or, Nat.one_mul, show mask (susp a) i ||| 2 ^ i = mask (susp a) i + 2 ^ i by rw [Nat.or_comm, Nat.add_comm, show 2 ^ i = 1 * 2 ^ i by omega, or_add hl]]
    rw [show mask (susp a) (i + 1) = mask (susp a) i + (if susp a i = true then 2 ^ i else 0) from rfl] at nx
    by_cases q : susp a i = true
    · rw [q] at nx ⊢
      rw [if_neg (by rw [b2iT]; exact id)]
      exact nx
    · rw [Bool.eq_false_iff.mpr q] at nx ⊢
      rw [if_pos (by rw [b2iF]; exact True.intro)]
      exact nx
theorem c_sets' {a : Nat → Nat} {ν0 ν : Nm} (h : C1 a ν0 ν) (hw : WF a) : Fm_suspectSets ν = some (nI (mask (susp a) (2 ^ a 0))) := by
  have hb := wb hw
  have p4 : 2 ^ a 0 ≤ 2 ^ 4 := Nat.pow_le_pow_right (by omega) hb.1
  exact c_sets h hw (2 ^ a 0) FU 0 (by omega) (by unfold FU; omega)
