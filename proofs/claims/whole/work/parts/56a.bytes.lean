/-! Bits, byte by byte. -/
/-- bytes -/
theorem and8 {h b M m : Nat} (hb : b < 256) (hm : m < 256) : (256 * h + b) &&& (256 * M + m) = 256 * (h &&& M) + (b &&& m) := by
  apply Nat.eq_of_testBit_eq
  intro i
  have hbm : b &&& m < 2 ^ 8 := Nat.and_lt_two_pow b hm
  rw [Nat.testBit_and, show 256 * h + b = 2 ^ 8 * h + b from rfl, show 256 * M + m = 2 ^ 8 * M + m from rfl, show 256 * (h &&& M) + (b &&& m) = 2 ^ 8 * (h &&& M) + (b &&& m) from rfl, Nat.testBit_two_pow_mul_add _ hb, Nat.testBit_two_pow_mul_add _ hm, Nat.testBit_two_pow_mul_add _ hbm]
  split
  · rw [Nat.testBit_and]
  · rw [Nat.testBit_and]
def mk8 (c : Nat) : Nat → Nat
  | 0 => 0
  | n + 1 => 256 * mk8 c n + c
def bp1 (n x : Nat) : Nat := x - (x / 2 &&& mk8 85 n)
def bp2 (n x : Nat) : Nat := (x &&& mk8 51 n) + (x / 4 &&& mk8 51 n)
def bp3 (n x : Nat) : Nat := (x + x / 16) &&& mk8 15 n
def bp4 (n x : Nat) : Nat := bp3 n (bp2 n (bp1 n x))
theorem bd1 : ∀ b, b < 256 → ∀ t, t < 2 → (128 * t + b / 2) &&& 85 = (b / 2) &&& 85 ∧ ((b / 2) &&& 85) ≤ b := by decide +kernel
theorem bd2 : ∀ b, b < 256 → ∀ t, t < 4 → (64 * t + b / 4) &&& 51 = (b / 4) &&& 51 := by decide +kernel
theorem bp1_s (n h : Nat) {b : Nat} (hb : b < 256) : bp1 (n + 1) (256 * h + b) = 256 * bp1 n h + bp1 1 b := by
  unfold bp1
  have e1 : (256 * h + b) / 2 = 256 * (h / 2) + (128 * (h % 2) + b / 2) := by omega
  obtain ⟨q1, q2⟩ := bd1 b hb (h % 2) (by omega)
  have q3 : h / 2 &&& mk8 85 n ≤ h := Nat.le_trans Nat.and_le_left (Nat.div_le_self _ _)
  rw [e1, show mk8 85 (n + 1) = 256 * mk8 85 n + 85 from rfl, and8 (by omega) (by omega), q1, show mk8 85 1 = 85 from rfl]
  omega
theorem bp2_s (n h : Nat) {b : Nat} (hb : b < 256) : bp2 (n + 1) (256 * h + b) = 256 * bp2 n h + bp2 1 b := by
  unfold bp2
  have e1 : (256 * h + b) / 4 = 256 * (h / 4) + (64 * (h % 4) + b / 4) := by omega
  have q1 := bd2 b hb (h % 4) (by omega)
  rw [e1, show mk8 51 (n + 1) = 256 * mk8 51 n + 51 from rfl, and8 (by omega) (by omega), and8 (by omega) (by omega), q1, show mk8 51 1 = 51 from rfl]
  omega
theorem bd3 : ∀ b, b < 256 → bp2 1 (bp1 1 b) ≤ 68 ∧ bp2 1 (bp1 1 b) % 16 ≤ 4 ∧ bp1 1 b < 256 := by decide +kernel
theorem bd4 : ∀ y, y < 69 → ∀ t, t < 5 → y % 16 ≤ 4 → (y + y / 16 + 16 * t) &&& 15 = (y + y / 16) &&& 15 := by decide +kernel
theorem bp3_s (n h : Nat) {y : Nat} (hy : y ≤ 68) (hy2 : y % 16 ≤ 4) (hh : h % 16 ≤ 4) : bp3 (n + 1) (256 * h + y) = 256 * bp3 n h + bp3 1 y := by
  unfold bp3
  have e1 : 256 * h + y + (256 * h + y) / 16 = 256 * (h + h / 16) + (y + y / 16 + 16 * (h % 16)) := by omega
  rw [e1, show mk8 15 (n + 1) = 256 * mk8 15 n + 15 from rfl, and8 (by omega) (by omega), bd4 y (by omega) (h % 16) (by omega) hy2, show mk8 15 1 = 15 from rfl]
/-- the low four bits of what two steps give -/
theorem bp12_lo : ∀ (n x : Nat), bp2 n (bp1 n x) % 16 ≤ 4 := by
  intro n
  cases n with
  | zero => intro x; unfold bp2; rw [show mk8 51 0 = 0 from rfl, Nat.and_zero, Nat.and_zero]; omega
  | succ n =>
    intro x
    have e : x = 256 * (x / 256) + x % 256 := by omega
    rw [e, bp1_s n _ (Nat.mod_lt _ (by omega)), bp2_s n _ (bd3 _ (Nat.mod_lt _ (by omega))).2.2]
    have := (bd3 (x % 256) (Nat.mod_lt _ (by omega))).2.1
    omega
theorem bp4_s (n h : Nat) {b : Nat} (hb : b < 256) : bp4 (n + 1) (256 * h + b) = 256 * bp4 n h + bp4 1 b := by
  unfold bp4
  obtain ⟨q1, q2, q3⟩ := bd3 b hb
  rw [bp1_s n h hb, bp2_s n _ q3, bp3_s n _ q1 q2 (bp12_lo n h)]
theorem bd6 : ∀ b, b < 256 → bp4 1 b = pc16 b ∧ bp4 1 b ≤ 8 := by decide +kernel
theorem nI_ush {a : Nat} (ha : a < 2 ^ 31) (c : UInt32) (k : Nat) (hc : c.toNat = k) (hk : k < 32) : ((nI a).toUInt32 >>> c).toInt32 = nI (a / 2 ^ k) := by
  apply Int32.toBitVec_inj.mp
  apply BitVec.eq_of_toNat_eq
  show ((nI a).toUInt32 >>> c).toNat = (BitVec.ofNat 32 (a / 2 ^ k)).toNat
  have hd : a / 2 ^ k < 2 ^ 31 := Nat.lt_of_le_of_lt (Nat.div_le_self _ _) ha
  rw [UInt32.toNat_shiftRight, hc, Nat.mod_eq_of_lt hk, Nat.shiftRight_eq_div_pow, BitVec.toNat_ofNat, Nat.mod_eq_of_lt (by omega)]
  show (BitVec.ofNat 32 a).toNat / 2 ^ k = _
  rw [BitVec.toNat_ofNat, Nat.mod_eq_of_lt (by omega)]
