/-! Longs: cut at a million; the greatest of 1, 2, 4, .. that parts a number. -/
def rng (v : Int64) : Prop := -1000000 ≤ v.toInt ∧ v.toInt ≤ 1000000
theorem bm64 {x : Int} (h1 : -9000000000000000000 ≤ x) (h2 : x ≤ 9000000000000000000) : x.bmod (2 ^ 64) = x := Int.bmod_eq_of_le (by omega) (by omega)
theorem rng_rt {v : Int64} (h : rng v) : v.toInt32.toInt64 = v := by
  obtain ⟨h1, h2⟩ := h
  apply Int64.toInt_inj.mp
  rw [Int32.toInt_toInt64, Int64.toInt_toInt32]
  exact Int.bmod_eq_of_le (by omega) (by omega)
theorem lg_lt (x y : Int64) : (lg_cmp x y < 0) = (x.toInt < y.toInt) := by
  apply propext
  have := lg_ge x y
  constructor
  · intro h
    have h2 : ¬ (0 ≤ lg_cmp x y) := fun q => Int32.not_le.mpr h q
    rw [this] at h2
    omega
  · intro h
    have h2 : ¬ (0 ≤ lg_cmp x y) := by rw [this]; omega
    exact Int32.not_le.mp h2
theorem lg_gt (x y : Int64) : (0 < lg_cmp x y) = (y.toInt < x.toInt) := by
  apply propext
  have := lg_le x y
  constructor
  · intro h
    have h2 : ¬ (lg_cmp x y ≤ 0) := fun q => Int32.not_le.mpr h q
    rw [this] at h2
    omega
  · intro h
    have h2 : ¬ (lg_cmp x y ≤ 0) := by rw [this]; omega
    exact Int32.not_le.mp h2
theorem mil : (1000000 : Int64).toInt = 1000000 := rfl
theorem nmil : (-1000000 : Int64).toInt = -1000000 := rfl
def clipL (r : Int64) : Int64 := lmax (-1000000) (lmin 1000000 r)
theorem clipL_int (r : Int64) : (clipL r).toInt = if r.toInt < -1000000 then -1000000 else if r.toInt < 1000000 then r.toInt else 1000000 := by
  unfold clipL lmax lmin
  by_cases h : r.toInt < 1000000
  · rw [if_pos (show r < 1000000 from Int64.lt_iff_toInt_lt.mpr h)]
    by_cases h2 : r.toInt < -1000000
    · rw [if_pos (show r < -1000000 from Int64.lt_iff_toInt_lt.mpr h2), if_pos h2]; rfl
    · rw [if_neg (show ¬ r < -1000000 from fun q => h2 (Int64.lt_iff_toInt_lt.mp q)), if_neg h2, if_pos h]
  · rw [if_neg (show ¬ r < 1000000 from fun q => h (Int64.lt_iff_toInt_lt.mp q)), if_neg (show ¬ (1000000 : Int64) < -1000000 by decide), if_neg (by omega), if_neg h]; rfl
theorem clipL_rng (r : Int64) : rng (clipL r) := by
  unfold rng
  rw [clipL_int]
  split
  · omega
  · split <;> omega
theorem clipL_id {r : Int64} (h : rng r) : clipL r = r := by
  obtain ⟨h1, h2⟩ := h
  apply Int64.toInt_inj.mp
  rw [clipL_int]
  split
  · omega
  · split <;> omega
theorem clip_eq (r : Int64) : Md_clip r = some (clipL r) := by
  unfold Md_clip
  simp only [lg_le, lg_ge, mil, nmil]
  by_cases h : r.toInt ≤ 1000000
  · rw [if_pos h]
    by_cases h2 : -1000000 ≤ r.toInt
    · rw [if_pos h2, clipL_id ⟨h2, h⟩]
    · rw [if_neg h2]
      congr 1
      apply Int64.toInt_inj.mp
      rw [clipL_int, if_pos (by omega)]; rfl
  · rw [if_neg h]
    congr 1
    apply Int64.toInt_inj.mp
    rw [clipL_int, if_neg (by omega), if_neg (by omega)]; rfl
theorem lim_eq (r : Int64) : Su_limited r = some (clipL r).toInt32 := rfl
theorem rng_neg {v : Int64} (h : rng v) : rng (-v) := by
  obtain ⟨h1, h2⟩ := h
  unfold rng
  rw [Int64.toInt_neg, bm64 (by omega) (by omega)]
  omega
/-! twos -/
def twL (x : Int64) : Int64 := labs x &&& -(labs x)
theorem split2 : ∀ n : Nat, 1 ≤ n → ∃ k m, n = 2 ^ k * (2 * m + 1) := by
  intro n
  induction n using Nat.strongRecOn with
  | _ n ih =>
    intro h
    by_cases e : n % 2 = 1
    · exact ⟨0, n / 2, by omega⟩
    · obtain ⟨k, m, q⟩ := ih (n / 2) (by omega) (by omega)
      refine ⟨k + 1, m, ?_⟩
      have : n = 2 * (n / 2) := by omega
      rw [this, q, Nat.pow_succ, Nat.mul_comm (2 ^ k) 2, Nat.mul_assoc]
theorem low_bit (k m i : Nat) : (2 ^ k * (2 * m + 1)).testBit i = if i < k then false else (2 * m + 1).testBit (i - k) := by
  rw [Nat.mul_comm, Nat.testBit_mul_two_pow]
  by_cases h : i < k
  · rw [if_pos h]; simp; omega
  · rw [if_neg h]; simp; omega
theorem bv_low {k m : Nat} (h : 2 ^ k * (2 * m + 1) < 2 ^ 64) : BitVec.ofNat 64 (2 ^ k * (2 * m + 1)) &&& -(BitVec.ofNat 64 (2 ^ k * (2 * m + 1))) = BitVec.ofNat 64 (2 ^ k) := by
  have hk : k < 64 := by
    apply Nat.lt_of_not_le
    intro q
    have : 2 ^ 64 ≤ 2 ^ k := Nat.pow_le_pow_right (by omega) q
    have : 2 ^ k * 1 ≤ 2 ^ k * (2 * m + 1) := Nat.mul_le_mul_left _ (by omega)
    omega
  have b : ∀ i, (BitVec.ofNat 64 (2 ^ k * (2 * m + 1))).getLsbD i = (decide (i < 64) && if i < k then false else (2 * m + 1).testBit (i - k)) := by
    intro i
    rw [BitVec.getLsbD_ofNat, low_bit]
  have o : (2 * m + 1).testBit 0 = true := by simp [Nat.testBit_zero]
  apply BitVec.eq_of_getLsbD_eq
  intro i hi
  rw [BitVec.getLsbD_and, BitVec.getLsbD_neg, BitVec.getLsbD_ofNat (x := 2 ^ k), Nat.testBit_two_pow, b i]
  by_cases h1 : i < k
  · rw [if_pos h1, decide_eq_false (show ¬ k = i by omega)]; simp
  · by_cases h2 : k = i
    · subst h2
      have ne : ¬ ∃ j, j < k ∧ (BitVec.ofNat 64 (2 ^ k * (2 * m + 1))).getLsbD j = true := by
        rintro ⟨j, j1, j2⟩
        rw [b j, if_pos j1] at j2
        simp at j2
      rw [if_neg h1, Nat.sub_self, o, decide_eq_false ne]
      simp [hi]
    · have ex : ∃ j, j < i ∧ (BitVec.ofNat 64 (2 ^ k * (2 * m + 1))).getLsbD j = true := ⟨k, by omega, by rw [b k, if_neg (by omega), Nat.sub_self, o]; simp [hk]⟩
      rw [decide_eq_true ex, decide_eq_false h2, if_neg h1]
      simp [hi]
def lq (n : Nat) : Int64 := Int64.ofNat n
theorem lq_int {n : Nat} (h : n < 2 ^ 63) : (lq n).toInt = n := Int64.toInt_ofNat_of_lt h
theorem twL_eq {x : Int64} (h : rng x) {k m : Nat} (e : x.toInt.natAbs = 2 ^ k * (2 * m + 1)) : twL x = lq (2 ^ k) := by
  obtain ⟨h1, h2⟩ := h
  have el : (labs x).toInt = x.toInt.natAbs := by
    unfold labs
    by_cases q : 0 < x
    · have q2 : 0 < x.toInt := Int64.lt_iff_toInt_lt.mp q
      rw [if_pos q]; omega
    · have q2 : ¬ 0 < x.toInt := fun z => q (Int64.lt_iff_toInt_lt.mpr z)
      rw [if_neg q, Int64.toInt_neg, bm64 (by omega) (by omega)]; omega
  have eb : labs x = lq (2 ^ k * (2 * m + 1)) := by
    apply Int64.toInt_inj.mp
    rw [el, lq_int (by omega), e]
  unfold twL
  rw [eb]
  apply Int64.toBitVec_inj.mp
  rw [Int64.toBitVec_and, Int64.toBitVec_neg]
  exact bv_low (by omega)
theorem rem_int {x y : Int64} (hx : rng x) (hy : 0 < y.toInt) (hy2 : y.toInt ≤ 4000000) : (x - x / y * y).toInt = x.toInt.tmod y.toInt := by
  obtain ⟨h1, h2⟩ := hx
  have hd : (x / y).toInt = x.toInt.tdiv y.toInt := by
    rw [Int64.toInt_div]
    have a1 : (x.toInt.tdiv y.toInt).natAbs ≤ x.toInt.natAbs := by rw [Int.natAbs_tdiv]; exact Nat.div_le_self _ _
    exact bm64 (by omega) (by omega)
  have hm := Int.tmod_add_mul_tdiv x.toInt y.toInt
  have hl : (x.toInt.tmod y.toInt).natAbs ≤ x.toInt.natAbs := by rw [Int.natAbs_tmod]; exact Nat.mod_le _ _
  have hp : (x / y * y).toInt = x.toInt - x.toInt.tmod y.toInt := by
    rw [Int64.toInt_mul, hd, Int.mul_comm, show y.toInt * x.toInt.tdiv y.toInt = x.toInt - x.toInt.tmod y.toInt by omega]
    exact bm64 (by omega) (by omega)
  rw [Int64.toInt_sub, hp, show x.toInt - (x.toInt - x.toInt.tmod y.toInt) = x.toInt.tmod y.toInt by omega]
  exact bm64 (by omega) (by omega)
theorem lq_eq0 {n : Nat} (h : n < 2 ^ 63) : (lq n = 0) = (n = 0) := by
  apply propext
  rw [← Int64.toInt_inj, lq_int h]
  show ((n : Int) = 0) ↔ _
  omega
theorem lq_mul (a b : Nat) : lq a * lq b = lq (a * b) := by unfold lq; rw [Int64.ofNat_mul]
theorem m_twos {x : Int64} (h : rng x) (hx : x ≠ 0) {k m : Nat} (e : x.toInt.natAbs = 2 ^ k * (2 * m + 1)) : ∀ (d j f : Nat), j + d = k → d < f → Md_twosOf_12 f x (lq (2 ^ j)) = some (lq (2 ^ k)) := by
  have hk : 2 ^ k ≤ 1000000 := by
    have : 2 ^ k * 1 ≤ 2 ^ k * (2 * m + 1) := Nat.mul_le_mul_left _ (by omega)
    obtain ⟨h1, h2⟩ := h
    omega
  intro d
  induction d with
  | zero =>
    intro j f hj hf
    obtain ⟨f, rfl⟩ := fsucc hf
    obtain rfl : j = k := by omega
    rw [Md_twosOf_12, if_neg (by rw [lg_eq]; exact hx), show (2 : Int64) = lq 2 from rfl, lq_mul, if_neg (by rw [lq_eq0 (by omega)]; have : 0 < 2 ^ j := Nat.pow_pos (by omega); omega), if_pos]
    rw [lg_eq]
    intro q
    have q2 := congrArg Int64.toInt q
    rw [rem_int h (by rw [lq_int (by omega)]; have : 0 < 2 ^ j := Nat.pow_pos (by omega); omega) (by rw [lq_int (by omega)]; omega), lq_int (by omega)] at q2
    have q3 : x.toInt.tmod ((2 * 2 ^ j : Nat) : Int) = 0 := q2
    have q4 := congrArg Int.natAbs q3
    rw [Int.natAbs_tmod, e] at q4
    have q5 : (2 ^ j * (2 * m + 1)) % (2 * 2 ^ j) = 0 := q4
    rw [Nat.mul_comm 2 (2 ^ j), Nat.mul_mod_mul_left] at q5
    have : 0 < 2 ^ j := Nat.pow_pos (by omega)
    have q6 : (2 * m + 1) % 2 = 0 := by
      rcases Nat.mul_eq_zero.mp q5 with z | z
      · omega
      · exact z
    omega
  | succ d ih =>
    intro j f hj hf
    obtain ⟨f, rfl⟩ := fsucc hf
    have hjk : 2 ^ (j + 1) ≤ 2 ^ k := Nat.pow_le_pow_right (by omega) (by omega)
    rw [Nat.pow_succ] at hjk
    rw [Md_twosOf_12, if_neg (by rw [lg_eq]; exact hx), show (2 : Int64) = lq 2 from rfl, lq_mul, if_neg (by rw [lq_eq0 (by omega)]; have : 0 < 2 ^ j := Nat.pow_pos (by omega); omega), if_neg, lq_mul, ← Nat.pow_succ]
    · exact ih (j + 1) f (by omega) (by omega)
    · rw [lg_eq]
      intro q
      apply q
      apply Int64.toInt_inj.mp
      rw [rem_int h (by rw [lq_int (by omega)]; have : 0 < 2 ^ j := Nat.pow_pos (by omega); omega) (by rw [lq_int (by omega)]; omega), lq_int (by omega)]
      show x.toInt.tmod ((2 * 2 ^ j : Nat) : Int) = 0
      apply Int.natAbs_eq_zero.mp
      rw [Int.natAbs_tmod, e]
      show (2 ^ k * (2 * m + 1)) % (2 * 2 ^ j) = 0
      obtain ⟨r, rfl⟩ : ∃ r, k = j + 1 + r := ⟨d, by omega⟩
      apply Nat.mod_eq_zero_of_dvd
      refine ⟨2 ^ r * (2 * m + 1), ?_⟩
      rw [Nat.pow_add, Nat.pow_succ, Nat.mul_comm (2 ^ j) 2, Nat.mul_assoc]
theorem twos_eq {x : Int64} (h : rng x) : Md_twosOf x = some (twL x) ∧ rng (twL x) := by
  unfold Md_twosOf Md_twosOf_11
  by_cases e : x = 0
  · subst e
    rw [if_neg (by rw [lg_eq]; simp)]
    refine ⟨?_, by unfold rng; decide⟩
    rw [show FU = 999999999 + 1 from rfl, Md_twosOf_12, if_pos (by rw [lg_eq])]
    rfl
  · rw [if_pos (by rw [lg_eq]; exact e)]
    have hn : 1 ≤ x.toInt.natAbs := by
      apply Nat.pos_of_ne_zero
      intro q
      exact e (Int64.toInt_inj.mp (Int.natAbs_eq_zero.mp q))
    obtain ⟨k, m, q⟩ := split2 _ hn
    have hk : 2 ^ k ≤ 1000000 := by
      have : 2 ^ k * 1 ≤ 2 ^ k * (2 * m + 1) := Nat.mul_le_mul_left _ (by omega)
      obtain ⟨h1, h2⟩ := h
      omega
    have k30 : k < 30 := by
      apply Nat.lt_of_not_le
      intro z
      have : 2 ^ 30 ≤ 2 ^ k := Nat.pow_le_pow_right (by omega) z
      omega
    rw [twL_eq h q]
    refine ⟨m_twos h e q k 0 FU (by omega) (by unfold FU; omega), ?_⟩
    unfold rng
    rw [lq_int (by omega)]
    generalize 2 ^ k = z at hk ⊢
    omega
