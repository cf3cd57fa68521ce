/-! Bits of sixteen, counted. -/
/-- the words' steps, on numbers -/
def bs1 (k : Nat) : Nat := k - (k / 2 &&& 1431655765)
def bs2 (y : Nat) : Nat := (y &&& 858993459) + (y / 4 &&& 858993459)
def bs3 (y : Nat) : Nat := (y + y / 16) &&& 252645135
def bs5 (y : Nat) : Nat := (y + y / 256 + (y + y / 256) / 65536) &&& 63
def bcN (k : Nat) : Nat := bs5 (bs3 (bs2 (bs1 k)))
theorem bc_N {k : Nat} (hk : k < 65536) : In_bitCount (nI k) = some (nI (bcN k)) := by
  have c1 : ((1 : Int32).toUInt32 &&& Int32.toUInt32 31).toNat = 1 := by decide
  have c2 : ((2 : Int32).toUInt32 &&& Int32.toUInt32 31).toNat = 2 := by decide
  have c4 : ((4 : Int32).toUInt32 &&& Int32.toUInt32 31).toNat = 4 := by decide
  have c8 : ((8 : Int32).toUInt32 &&& Int32.toUInt32 31).toNat = 8 := by decide
  have c16 : ((16 : Int32).toUInt32 &&& Int32.toUInt32 31).toNat = 16 := by decide
  have h1 : k / 2 &&& 1431655765 ≤ k := Nat.le_trans Nat.and_le_left (Nat.div_le_self _ _)
  unfold In_bitCount In_bitCount_24 In_bitCount_41
  rw [nI_ush (by omega) _ 1 c1 (by omega), show (1431655765 : Int32) = nI 1431655765 from rfl, nI_and, show k / 2 ^ 1 = k / 2 from rfl, nI_sub h1, show k - (k / 2 &&& 1431655765) = bs1 k from rfl]
  have g1 : bs1 k < 65536 := by unfold bs1; omega
  unfold bcN
  generalize bs1 k = y1 at *
  have h2 : y1 &&& 858993459 ≤ y1 := Nat.and_le_left
  have h3 : y1 / 4 &&& 858993459 ≤ y1 / 4 := Nat.and_le_left
  rw [nI_ush (by omega) _ 2 c2 (by omega), show (858993459 : Int32) = nI 858993459 from rfl, nI_and, nI_and, show y1 / 2 ^ 2 = y1 / 4 from rfl, nI_add, show (y1 &&& 858993459) + (y1 / 4 &&& 858993459) = bs2 y1 from rfl]
  have g2 : bs2 y1 < 131072 := by unfold bs2; omega
  generalize bs2 y1 = y2 at *
  have h4 : (y2 + y2 / 16) &&& 252645135 ≤ y2 + y2 / 16 := Nat.and_le_left
  rw [nI_ush (by omega) _ 4 c4 (by omega), show (252645135 : Int32) = nI 252645135 from rfl, show y2 / 2 ^ 4 = y2 / 16 from rfl, nI_add, nI_and, show (y2 + y2 / 16) &&& 252645135 = bs3 y2 from rfl]
  have g3 : bs3 y2 < 1000000 := by unfold bs3; omega
  generalize bs3 y2 = y3 at *
  rw [nI_ush (by omega) _ 8 c8 (by omega), show y3 / 2 ^ 8 = y3 / 256 from rfl, nI_add, nI_ush (by omega) _ 16 c16 (by omega), show (y3 + y3 / 256) / 2 ^ 16 = (y3 + y3 / 256) / 65536 from rfl, nI_add, show (63 : Int32) = nI 63 from rfl, nI_and]
  rfl
theorem and_lo {x M m : Nat} (hx : x < 2 ^ 16) (hm : M % 2 ^ 16 = m) : x &&& M = x &&& m := by
  apply Nat.eq_of_testBit_eq
  intro i
  rw [Nat.testBit_and, Nat.testBit_and]
  by_cases h : i < 16
  · rw [← hm, Nat.testBit_mod_two_pow, decide_eq_true h, Bool.true_and]
  · have : x.testBit i = false := Nat.testBit_lt_two_pow (Nat.lt_of_lt_of_le hx (Nat.pow_le_pow_right (by omega) (by omega)))
    rw [this, Bool.false_and, Bool.false_and]
theorem pc16_s {h b : Nat} (hh : h < 256) (hb : b < 256) : pc16 (256 * h + b) = pc16 h + pc16 b := by
  unfold pc16
  simp only [show List.range 16 = [0, 1, 2, 3, 4, 5, 6, 7, 8, 9, 10, 11, 12, 13, 14, 15] from rfl, List.foldl_cons, List.foldl_nil, Nat.reducePow]
  have a0 : (256 * h + b) / 1 % 2 = b / 1 % 2 := by omega
  have a1 : (256 * h + b) / 2 % 2 = b / 2 % 2 := by omega
  have a2 : (256 * h + b) / 4 % 2 = b / 4 % 2 := by omega
  have a3 : (256 * h + b) / 8 % 2 = b / 8 % 2 := by omega
  have a4 : (256 * h + b) / 16 % 2 = b / 16 % 2 := by omega
  have a5 : (256 * h + b) / 32 % 2 = b / 32 % 2 := by omega
  have a6 : (256 * h + b) / 64 % 2 = b / 64 % 2 := by omega
  have a7 : (256 * h + b) / 128 % 2 = b / 128 % 2 := by omega
  have b0 : (256 * h + b) / 256 % 2 = h / 1 % 2 := by omega
  have b1 : (256 * h + b) / 512 % 2 = h / 2 % 2 := by omega
  have b2 : (256 * h + b) / 1024 % 2 = h / 4 % 2 := by omega
  have b3 : (256 * h + b) / 2048 % 2 = h / 8 % 2 := by omega
  have b4 : (256 * h + b) / 4096 % 2 = h / 16 % 2 := by omega
  have b5 : (256 * h + b) / 8192 % 2 = h / 32 % 2 := by omega
  have b6 : (256 * h + b) / 16384 % 2 = h / 64 % 2 := by omega
  have b7 : (256 * h + b) / 32768 % 2 = h / 128 % 2 := by omega
  have z : ∀ x, x < 256 → x / 256 % 2 = 0 ∧ x / 512 % 2 = 0 ∧ x / 1024 % 2 = 0 ∧ x / 2048 % 2 = 0 ∧ x / 4096 % 2 = 0 ∧ x / 8192 % 2 = 0 ∧ x / 16384 % 2 = 0 ∧ x / 32768 % 2 = 0 := fun x hx => by omega
  obtain ⟨x0, x1, x2, x3, x4, x5, x6, x7⟩ := z h hh
  obtain ⟨w0, w1, w2, w3, w4, w5, w6, w7⟩ := z b hb
  rw [a0, a1, a2, a3, a4, a5, a6, a7, b0, b1, b2, b3, b4, b5, b6, b7, x0, x1, x2, x3, x4, x5, x6, x7, w0, w1, w2, w3, w4, w5, w6, w7]
  generalize b / 1 % 2 = u0
  generalize b / 2 % 2 = u1
  generalize b / 4 % 2 = u2
  generalize b / 8 % 2 = u3
  generalize b / 16 % 2 = u4
  generalize b / 32 % 2 = u5
  generalize b / 64 % 2 = u6
  generalize b / 128 % 2 = u7
  generalize h / 1 % 2 = v0
  generalize h / 2 % 2 = v1
  generalize h / 4 % 2 = v2
  generalize h / 8 % 2 = v3
  generalize h / 16 % 2 = v4
  generalize h / 32 % 2 = v5
  generalize h / 64 % 2 = v6
  generalize h / 128 % 2 = v7
  omega
theorem bcN_eq {k : Nat} (hk : k < 65536) : bcN k = pc16 k := by
  have e : k = 256 * (k / 256) + k % 256 := by omega
  have hh : k / 256 < 256 := by omega
  have hb : k % 256 < 256 := by omega
  obtain ⟨p1, p2⟩ := bd6 _ hh
  obtain ⟨q1, q2⟩ := bd6 _ hb
  have s4 := bp4_s 1 (k / 256) hb
  rw [← e] at s4
  have hm1 : (1431655765 : Nat) % 2 ^ 16 = mk8 85 2 := by decide
  have hm2 : (858993459 : Nat) % 2 ^ 16 = mk8 51 2 := by decide
  have hm3 : (252645135 : Nat) % 2 ^ 16 = mk8 15 2 := by decide
  have y1 : k - (k / 2 &&& 1431655765) = bp1 2 k := by unfold bp1; rw [and_lo (by omega) hm1]
  have l1 : bp1 2 k < 65536 := by unfold bp1; omega
  have y2 : (bp1 2 k &&& 858993459) + (bp1 2 k / 4 &&& 858993459) = bp2 2 (bp1 2 k) := by unfold bp2; rw [and_lo l1 hm2, and_lo (by omega) hm2]
  have l2 : bp2 2 (bp1 2 k) ≤ 34952 := by
    unfold bp2
    have a1 : bp1 2 k &&& mk8 51 2 ≤ mk8 51 2 := Nat.and_le_right
    have a2 : bp1 2 k / 4 &&& mk8 51 2 ≤ mk8 51 2 := Nat.and_le_right
    have a3 : mk8 51 2 = 13107 := by decide
    omega
  have y3 : (bp2 2 (bp1 2 k) + bp2 2 (bp1 2 k) / 16) &&& 252645135 = bp4 2 k := by unfold bp4 bp3; rw [and_lo (by omega) hm3]
  have e1 : bs1 k = bp1 2 k := y1
  have e2 : bs2 (bp1 2 k) = bp2 2 (bp1 2 k) := y2
  have e3 : bs3 (bp2 2 (bp1 2 k)) = bp4 2 k := y3
  unfold bcN
  rw [e1, e2, e3]
  unfold bs5
  rw [show (63 : Nat) = 2 ^ 6 - 1 from rfl, Nat.and_two_pow_sub_one_eq_mod]
  have s5 : bp4 2 k = 256 * bp4 1 (k / 256) + bp4 1 (k % 256) := s4
  have s6 : pc16 k = pc16 (k / 256) + pc16 (k % 256) := by
    have := pc16_s hh hb
    rw [← e] at this
    exact this
  rw [s6, ← p1, ← q1, s5]
  clear s4 s5 s6 y1 y2 y3 l1 l2 e1 e2 e3
  revert p2 q2
  generalize bp4 1 (k / 256) = P
  generalize bp4 1 (k % 256) = Q
  intro p2 q2
  have d1 : (256 * P + Q) / 256 = P := by omega
  have d2 : (256 * P + Q + P) / 65536 = 0 := by omega
  rw [d1, d2]
  omega
theorem bc16w {k : Nat} (hk : k < 65536) : In_bitCount (nI k) = some (nI (pc16 k)) := by rw [bc_N hk, bcN_eq hk]
