/-! Bits of sixty four, counted. -/
def b2n (w : Int64) : Nat := w.toUInt64.toNat
theorem b2n_add (x y : Int64) : b2n (x + y) = (b2n x + b2n y) % 2 ^ 64 := rfl
theorem b2n_and (x y : Int64) : b2n (x &&& y) = b2n x &&& b2n y := by
  show (x.toBitVec &&& y.toBitVec).toNat = x.toBitVec.toNat &&& y.toBitVec.toNat
  exact BitVec.toNat_and _ _
theorem b2n_sub {x y : Int64} (h : b2n y ≤ b2n x) : b2n (x - y) = b2n x - b2n y := by
  show (x.toBitVec - y.toBitVec).toNat = x.toBitVec.toNat - y.toBitVec.toNat
  exact BitVec.toNat_sub_of_le h
theorem b2n_lt (x : Int64) : b2n x < 2 ^ 64 := x.toBitVec.isLt
theorem b2n_shr (x : Int64) (c : UInt64) (k : Nat) (hc : c.toNat = k) (hk : k < 64) : b2n ((x.toUInt64 >>> c).toInt64) = b2n x / 2 ^ k := by
  show (x.toUInt64 >>> c).toNat = _
  rw [UInt64.toNat_shiftRight, hc, Nat.mod_eq_of_lt hk, Nat.shiftRight_eq_div_pow]
  rfl
theorem cnt_app (P : Nat → Bool) (m : Nat) : ∀ n, cnt P (m + n) = cnt P m + cnt (fun i => P (m + i)) n := by
  intro n
  induction n with
  | zero => rfl
  | succ n ih =>
    show cnt P (m + n) + (if P (m + n) = true then 1 else 0) = cnt P m + (cnt (fun i => P (m + i)) n + (if P (m + n) = true then 1 else 0))
    rw [ih, Nat.add_assoc]
theorem cnt_cg {P Q : Nat → Bool} : ∀ n, (∀ k, k < n → P k = Q k) → cnt P n = cnt Q n := by
  intro n
  induction n with
  | zero => intro _; rfl
  | succ n ih =>
    intro h
    show cnt P n + (if P n = true then 1 else 0) = cnt Q n + (if Q n = true then 1 else 0)
    rw [ih (fun k hk => h k (by omega)), h n (by omega)]
theorem bd5 : ∀ b, b < 256 → bp4 1 b = cnt (fun i => b.testBit i) 8 ∧ bp4 1 b ≤ 8 := by decide +kernel
theorem cnt_8 (x n : Nat) : cnt (fun i => x.testBit i) (8 + n) = bp4 1 (x % 256) + cnt (fun i => (x / 256).testBit i) n := by
  rw [cnt_app, (bd5 (x % 256) (Nat.mod_lt _ (by omega))).1]
  congr 1
  · apply cnt_cg
    intro k hk
    rw [show (256 : Nat) = 2 ^ 8 from rfl, Nat.testBit_mod_two_pow, decide_eq_true hk, Bool.true_and]
  · apply cnt_cg
    intro k hk
    rw [show (256 : Nat) = 2 ^ 8 from rfl, Nat.testBit_div_two_pow, Nat.add_comm]
def itd (x : Nat) : Nat → Nat
  | 0 => x
  | k + 1 => itd x k / 256
def cby (x k : Nat) : Nat := if k < 8 then bp4 1 (itd x k % 256) else 0
theorem cby_le (x k : Nat) : cby x k ≤ 8 := by
  unfold cby
  by_cases h : k < 8
  · rw [if_pos h]; exact (bd5 _ (Nat.mod_lt _ (by omega))).2
  · rw [if_neg h]; omega
theorem cnt_64 (x : Nat) : cnt (fun i => x.testBit i) 64 = cby x 0 + (cby x 1 + (cby x 2 + (cby x 3 + (cby x 4 + (cby x 5 + (cby x 6 + cby x 7)))))) := by
  rw [show (64 : Nat) = 8 + 56 from rfl, cnt_8, show (56 : Nat) = 8 + 48 from rfl, cnt_8, show (48 : Nat) = 8 + 40 from rfl, cnt_8, show (40 : Nat) = 8 + 32 from rfl, cnt_8, show (32 : Nat) = 8 + 24 from rfl, cnt_8, show (24 : Nat) = 8 + 16 from rfl, cnt_8, show (16 : Nat) = 8 + 8 from rfl, cnt_8, show (8 : Nat) = 8 + 0 from rfl, cnt_8]
  rfl
/-- digits -/
def DG (A c : Nat → Nat) (m : Nat) : Prop := (∀ k, A k = 256 * A (k + 1) + c k ∧ c k ≤ m) ∧ A 8 = 0
theorem DG_add {A c : Nat → Nat} {m : Nat} (h : DG A c m) (hm : m ≤ 100) (s : Nat) (h8 : A (8 + s) = 0) : DG (fun k => A k + A (k + s)) (fun k => c k + c (k + s)) (2 * m) := by
  refine ⟨fun k => ?_, ?_⟩
  · obtain ⟨q1, q2⟩ := h.1 k
    obtain ⟨q3, q4⟩ := h.1 (k + s)
    refine ⟨?_, ?_⟩
    · show A k + A (k + s) = 256 * (A (k + 1) + A (k + 1 + s)) + (c k + c (k + s))
      rw [show k + 1 + s = k + s + 1 by omega, q1, q3]
      omega
    · show c k + c (k + s) ≤ 2 * m
      omega
  · show A 8 + A (8 + s) = 0
    rw [h.2, h8]
theorem DG_z {A c : Nat → Nat} {m : Nat} (h : DG A c m) : ∀ k, A (8 + k) = 0 := by
  intro k
  induction k with
  | zero => exact h.2
  | succ k ih =>
    have := (h.1 (8 + k)).1
    rw [ih] at this
    show A (8 + k + 1) = 0
    omega
theorem DG_d {A c : Nat → Nat} {m : Nat} (h : DG A c m) (hm : m ≤ 100) (k : Nat) : A (k + 1) = A k / 256 := by
  obtain ⟨q1, q2⟩ := h.1 k
  omega
theorem DG_lt {A c : Nat → Nat} {m : Nat} (h : DG A c m) (hm : m ≤ 64) : A 0 < 2 ^ 64 := by
  have e7 : A 7 ≤ 64 := by have q : A 7 = 256 * A 8 + c 7 ∧ c 7 ≤ m := h.1 7; have := h.2; omega
  have e6 : A 6 ≤ 16448 := by have q : A 6 = 256 * A 7 + c 6 ∧ c 6 ≤ m := h.1 6; omega
  have e5 : A 5 ≤ 4210752 := by have q : A 5 = 256 * A 6 + c 5 ∧ c 5 ≤ m := h.1 5; omega
  have e4 : A 4 ≤ 1077952576 := by have q : A 4 = 256 * A 5 + c 4 ∧ c 4 ≤ m := h.1 4; omega
  have e3 : A 3 ≤ 275955859520 := by have q : A 3 = 256 * A 4 + c 3 ∧ c 3 ≤ m := h.1 3; omega
  have e2 : A 2 ≤ 70644700037184 := by have q : A 2 = 256 * A 3 + c 2 ∧ c 2 ≤ m := h.1 2; omega
  have e1 : A 1 ≤ 18085043209519168 := by have q : A 1 = 256 * A 2 + c 1 ∧ c 1 ≤ m := h.1 1; omega
  have q : A 0 = 256 * A 1 + c 0 ∧ c 0 ≤ m := h.1 0
  omega
theorem DG_x (x : Nat) : DG (fun k => bp4 (8 - k) (itd x k)) (cby x) 8 := by
  have z0 : ∀ y, bp4 0 y = 0 := fun y => by unfold bp4 bp3; rw [show mk8 15 0 = 0 from rfl, Nat.and_zero]
  have g : ∀ (n x : Nat), bp4 (n + 1) x = 256 * bp4 n (x / 256) + bp4 1 (x % 256) := fun n x => by
    have e : x = 256 * (x / 256) + x % 256 := by omega
    have := bp4_s n (x / 256) (Nat.mod_lt x (show 0 < 256 by omega))
    rw [← e] at this
    exact this
  refine ⟨fun k => ⟨?_, cby_le x k⟩, z0 _⟩
  show bp4 (8 - k) (itd x k) = 256 * bp4 (8 - (k + 1)) (itd x k / 256) + cby x k
  unfold cby
  by_cases h : k < 8
  · rw [if_pos h, show 8 - k = (8 - (k + 1)) + 1 by omega, g]
  · rw [if_neg h, show 8 - k = 0 by omega, show 8 - (k + 1) = 0 by omega, z0, z0]
theorem fin64 (x : Nat) : ∃ z1 z2 z3, z1 = bp4 8 x + bp4 8 x / 256 ∧ z1 < 2 ^ 64 ∧ z2 = z1 + z1 / 65536 ∧ z2 < 2 ^ 64 ∧ z3 = z2 + z2 / 4294967296 ∧ z3 < 2 ^ 64 ∧ z3 % 128 = cnt (fun i => x.testBit i) 64 := by
  have hA := DG_x x
  have hB := DG_add hA (by omega) 1 (DG_z hA 1)
  have hC := DG_add hB (by omega) 2 (DG_z hB 2)
  have hD := DG_add hC (by omega) 4 (DG_z hC 4)
  have lB := DG_lt hB (by omega)
  have lC := DG_lt hC (by omega)
  have lD := DG_lt hD (by omega)
  have dA := DG_d hA (by omega) 0
  have dB0 := DG_d hB (by omega) 0
  have dB1 := DG_d hB (by omega) 1
  have dC0 := DG_d hC (by omega) 0
  have dC1 := DG_d hC (by omega) 1
  have dC2 := DG_d hC (by omega) 2
  have dC3 := DG_d hC (by omega) 3
  have vD := hD.1 0
  rw [cnt_64]
  simp only [Nat.zero_add, Nat.reduceAdd] at lB lC lD dA dB0 dB1 dC0 dC1 dC2 dC3 vD
  have s0 : bp4 (8 - 0) (itd x 0) = bp4 8 x := rfl
  rw [s0] at lB lC lD dA dB0 dC0 vD
  generalize hz : bp4 8 x = z at *
  clear hA hB hC hD hz s0
  generalize bp4 (8 - 1) (itd x 1) = a1 at *
  generalize bp4 (8 - 2) (itd x 2) = a2 at *
  generalize bp4 (8 - 3) (itd x 3) = a3 at *
  have e1 : z + z / 256 = z + a1 := by rw [dA]
  have e2 : (z + a1) / 65536 = a2 + a3 := by
    rw [dB1, dB0, Nat.div_div_eq_div_mul]
  have e3 : (z + a1 + (a2 + a3)) / 4294967296 = (z + a1 + (a2 + a3)) / 256 / 256 / 256 / 256 := by rw [Nat.div_div_eq_div_mul, Nat.div_div_eq_div_mul, Nat.div_div_eq_div_mul]
  rw [← dC0, ← dC1, ← dC2, ← dC3] at e3
  refine ⟨z + a1, z + a1 + (a2 + a3), _, e1.symm, lB, by rw [e2], lC, rfl, ?_, ?_⟩
  · rw [e3]; exact lD
  · rw [e3, vD.1]
    have := vD.2
    generalize cby x 0 = c0 at *
    generalize cby x 1 = c1 at *
    generalize cby x 2 = c2 at *
    generalize cby x 3 = c3 at *
    generalize cby x 4 = c4 at *
    generalize cby x 5 = c5 at *
    generalize cby x 6 = c6 at *
    generalize cby x 7 = c7 at *
    clear vD e1 e2 e3 lB lC lD dA dB0 dB1 dC0 dC1 dC2 dC3
    omega
theorem mk5 : mk8 85 8 = 6148914691236517205 := by decide +kernel
theorem mk3 : mk8 51 8 = 3689348814741910323 := by decide +kernel
theorem mkf : mk8 15 8 = 1085102592571150095 := by decide +kernel
theorem n5 : b2n (6148914691236517205 : Int64) = 6148914691236517205 := by decide +kernel
theorem n3 : b2n (3689348814741910323 : Int64) = 3689348814741910323 := by decide +kernel
theorem nf : b2n (1085102592571150095 : Int64) = 1085102592571150095 := by decide +kernel
theorem sc1 : (((1 : Int32).toInt64.toUInt64) &&& Int64.toUInt64 63).toNat = 1 := by decide +kernel
theorem sc2 : (((2 : Int32).toInt64.toUInt64) &&& Int64.toUInt64 63).toNat = 2 := by decide +kernel
theorem sc4 : (((4 : Int32).toInt64.toUInt64) &&& Int64.toUInt64 63).toNat = 4 := by decide +kernel
theorem sc8 : (((8 : Int32).toInt64.toUInt64) &&& Int64.toUInt64 63).toNat = 8 := by decide +kernel
theorem sc16 : (((16 : Int32).toInt64.toUInt64) &&& Int64.toUInt64 63).toNat = 16 := by decide +kernel
theorem sc32 : (((32 : Int32).toInt64.toUInt64) &&& Int64.toUInt64 63).toNat = 32 := by decide +kernel
theorem lo7 (z : Int64) : z.toInt32 &&& (127 : Int32) = nI (b2n z % 128) := by
  apply Int32.toBitVec_inj.mp
  apply BitVec.eq_of_toNat_eq
  rw [Int32.toBitVec_and, BitVec.toNat_and]
  have e1 : z.toInt32.toBitVec.toNat = b2n z % 2 ^ 32 := by
    show (z.toBitVec.signExtend 32).toNat = z.toBitVec.toNat % 2 ^ 32
    rw [BitVec.signExtend_eq_setWidth_of_le _ (by omega), BitVec.toNat_setWidth]
  have e2 : (127 : Int32).toBitVec.toNat = 2 ^ 7 - 1 := rfl
  have e3 : (nI (b2n z % 128)).toBitVec.toNat = b2n z % 128 := by
    show (BitVec.ofNat 32 (b2n z % 128)).toNat = _
    rw [BitVec.toNat_ofNat]
    omega
  rw [e1, e2, e3, Nat.and_two_pow_sub_one_eq_mod]
  omega
theorem bp1_le (x : Nat) : x / 2 &&& mk8 85 8 ≤ x := Nat.le_trans Nat.and_le_left (Nat.div_le_self _ _)
theorem and_lt8 {y m : Nat} (h : m < 2 ^ 63) : (y &&& m) < 2 ^ 63 := Nat.lt_of_le_of_lt Nat.and_le_right h
theorem bc64 (w : Int64) : Lo_bitCountJ w = some (nI (cnt (fun i => w.toBitVec.getLsbD i) 64)) := by
  obtain ⟨z1, z2, z3, q1, q2, q3, q4, q5, q6, q7⟩ := fin64 (b2n w)
  have hw := b2n_lt w
  unfold Lo_bitCountJ Lo_bitCountJ_24 Lo_bitCountJ_41 Lo_bitCountJ_55
  have u1 : b2n (w - ((w.toUInt64 >>> ((1 : Int32).toInt64.toUInt64 &&& Int64.toUInt64 63)).toInt64 &&& (6148914691236517205 : Int64))) = bp1 8 (b2n w) := by
    have e : b2n ((w.toUInt64 >>> ((1 : Int32).toInt64.toUInt64 &&& Int64.toUInt64 63)).toInt64 &&& (6148914691236517205 : Int64)) = b2n w / 2 &&& mk8 85 8 := by
      rw [b2n_and, n5, mk5, b2n_shr w _ 1 sc1 (by omega)]
    rw [b2n_sub (by rw [e]; exact bp1_le _), e]
    rfl
  generalize w - ((w.toUInt64 >>> ((1 : Int32).toInt64.toUInt64 &&& Int64.toUInt64 63)).toInt64 &&& (6148914691236517205 : Int64)) = w1 at *
  have u2 : b2n ((w1 &&& (3689348814741910323 : Int64)) + ((w1.toUInt64 >>> ((2 : Int32).toInt64.toUInt64 &&& Int64.toUInt64 63)).toInt64 &&& (3689348814741910323 : Int64))) = bp2 8 (bp1 8 (b2n w)) := by
    rw [b2n_add, b2n_and, b2n_and, n3, b2n_shr w1 _ 2 sc2 (by omega), u1]
    unfold bp2
    rw [mk3]
    have a1 := and_lt8 (y := bp1 8 (b2n w)) (m := 3689348814741910323) (by decide)
    have a2 := and_lt8 (y := bp1 8 (b2n w) / 2 ^ 2) (m := 3689348814741910323) (by decide)
    rw [Nat.mod_eq_of_lt (by omega)]
  have b2 : bp2 8 (bp1 8 (b2n w)) ≤ 7378697629483820646 := by
    unfold bp2
    rw [mk3]
    have a1 : bp1 8 (b2n w) &&& 3689348814741910323 ≤ 3689348814741910323 := Nat.and_le_right
    have a2 : bp1 8 (b2n w) / 4 &&& 3689348814741910323 ≤ 3689348814741910323 := Nat.and_le_right
    omega
  generalize (w1 &&& (3689348814741910323 : Int64)) + ((w1.toUInt64 >>> ((2 : Int32).toInt64.toUInt64 &&& Int64.toUInt64 63)).toInt64 &&& (3689348814741910323 : Int64)) = w2 at *
  have u3 : b2n ((w2 + (w2.toUInt64 >>> ((4 : Int32).toInt64.toUInt64 &&& Int64.toUInt64 63)).toInt64) &&& (1085102592571150095 : Int64)) = bp4 8 (b2n w) := by
    rw [b2n_and, b2n_add, nf, b2n_shr w2 _ 4 sc4 (by omega), u2]
    unfold bp4 bp3
    rw [mkf, Nat.mod_eq_of_lt (by omega)]
  generalize (w2 + (w2.toUInt64 >>> ((4 : Int32).toInt64.toUInt64 &&& Int64.toUInt64 63)).toInt64) &&& (1085102592571150095 : Int64) = w3 at *
  have u4 : b2n (w3 + (w3.toUInt64 >>> ((8 : Int32).toInt64.toUInt64 &&& Int64.toUInt64 63)).toInt64) = z1 := by
    rw [b2n_add, b2n_shr w3 _ 8 sc8 (by omega), u3, q1]
    rw [q1] at q2
    exact Nat.mod_eq_of_lt q2
  generalize w3 + (w3.toUInt64 >>> ((8 : Int32).toInt64.toUInt64 &&& Int64.toUInt64 63)).toInt64 = w4 at *
  have u5 : b2n (w4 + (w4.toUInt64 >>> ((16 : Int32).toInt64.toUInt64 &&& Int64.toUInt64 63)).toInt64) = z2 := by
    rw [b2n_add, b2n_shr w4 _ 16 sc16 (by omega), u4, q3]
    rw [q3] at q4
    exact Nat.mod_eq_of_lt q4
  generalize w4 + (w4.toUInt64 >>> ((16 : Int32).toInt64.toUInt64 &&& Int64.toUInt64 63)).toInt64 = w5 at *
  have u6 : b2n (w5 + (w5.toUInt64 >>> ((32 : Int32).toInt64.toUInt64 &&& Int64.toUInt64 63)).toInt64) = z3 := by
    rw [b2n_add, b2n_shr w5 _ 32 sc32 (by omega), u5, q5]
    rw [q5] at q6
    exact Nat.mod_eq_of_lt q6
  rw [lo7, u6, q7]
  rfl
