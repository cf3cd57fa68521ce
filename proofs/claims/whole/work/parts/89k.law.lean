/-! The law's loop, once text is known. -/
def TXT : Prop := ∀ (a b : Nat → Nat) (ν : Nm), Inv a b tau ν → Step tau Fm_text Md_text ν
theorem lc_text {a b : Nat → Nat} {ν : Nm} {N : Nat} {xs : Nat → Int32} {k18 : Int32 → Nm → Option Bool} {x3 : Int32} (ht : TXT) (h : Inv a b tau ν) (hk : ∀ ν2 a2 b2, Inv a2 b2 tau ν2 → k18 (x3 + (6 : Int32)) ν2 = some true) : Lw_382 N xs k18 x3 ν = some true := by
  obtain ⟨v, ν1, ν2, a2, b2, e1, e2, hI⟩ := ht a b ν h
  unfold Lw_382 Lw_1706
  simp only [↓reduceIte, e1, e2, Option.bind_some]
  exact hk ν2 a2 b2 hI
theorem neg6 : ∀ L, L < 6 → (nI L - 6).toInt < 0 := by decide +kernel
theorem lw_all (ht : TXT) {L : Nat} (hL : L ≤ 384) (xs : Nat → Int32) : ∀ (d f i : Nat) (ν : Nm) (a b : Nat → Nat), i + d = 400 → d < f → Inv a b tau ν → Lw_18 L xs f (nI i) ν = some true := by
  intro d
  induction d using Nat.strongRecOn with
  | _ d ih =>
  intro f i ν a b hi hf h
  obtain ⟨f, rfl⟩ : ∃ f2, f = f2 + 1 := ⟨f - 1, by omega⟩
  have eL : Int32.ofNat L = nI L := rfl
  rw [Lw_18, eL]
  by_cases hlt : nI L - 6 < nI i
  · rw [if_pos hlt]
  · rw [if_neg hlt]
    have h6 : 6 ≤ L := by
      apply Nat.le_of_not_lt
      intro q
      apply hlt
      rw [Int32.lt_iff_toInt_lt, nI_toInt (by omega)]
      have := neg6 L q
      omega
    rw [show nI L - 6 = nI (L - 6) from nI_sub (b := 6) h6, nI_lt' (by omega) (by omega)] at hlt
    have hin : ∀ j, j ≤ 5 → inb (nI i + nI j) L = true := fun j hj => by rw [nI_add, inb_nI (by omega)]; exact decide_eq_true (by omega)
    have i0 : inb (nI i) L = true := by rw [inb_nI (by omega)]; exact decide_eq_true (by omega)
    have i1 : inb (nI i + (1 : Int32)) L = true := hin 1 (by omega)
    have i2 : inb (nI i + (2 : Int32)) L = true := hin 2 (by omega)
    have i3 : inb (nI i + (3 : Int32)) L = true := hin 3 (by omega)
    have i4 : inb (nI i + (4 : Int32)) L = true := hin 4 (by omega)
    have i5 : inb (nI i + (5 : Int32)) L = true := hin 5 (by omega)
    have hk : ∀ ν2 a2 b2, Inv a2 b2 tau ν2 → Lw_18 L xs f (nI i + (6 : Int32)) ν2 = some true := fun ν2 a2 b2 h2 => by
      rw [show nI i + (6 : Int32) = nI (i + 6) from nI_add i 6]
      exact ih (d - 6) (by omega) f (i + 6) ν2 a2 b2 (by omega) (by omega) h2
    rw [if_pos i0]
    generalize xs (nI i).toNatClampNeg &&& (63 : Int32) = op
    by_cases c0 : op = (0 : Int32)
    · rw [if_pos c0]; exact lc_cord h i1 i2 i3 i4 i5 hk
    rw [if_neg c0]
    by_cases c1 : op = (1 : Int32)
    · rw [if_pos c1]; exact lc_hands h i1 i2 i3 i4 i5 hk
    rw [if_neg c1]
    by_cases c2 : op = (2 : Int32)
    · rw [if_pos c2]; exact lc_feed h i1 i2 i3 i4 i5 hk
    rw [if_neg c2]
    by_cases c3 : op = (3 : Int32)
    · rw [if_pos c3]; exact lc_end h i1 i2 i3 i4 i5 hk
    rw [if_neg c3]
    by_cases c4 : op = (4 : Int32)
    · rw [if_pos c4]; exact lc_text ht h hk
    rw [if_neg c4]
    by_cases c5 : op = (5 : Int32)
    · rw [if_pos c5]; exact lc_fault h i1 i2 i3 i4 i5 hk
    rw [if_neg c5]
    by_cases c6 : op = (6 : Int32)
    · rw [if_pos c6]; exact lc_by h i1 i2 i3 i4 i5 hk
    rw [if_neg c6]
    by_cases c7 : op = (7 : Int32)
    · rw [if_pos c7]; exact lc_light h i1 i2 i3 i4 i5 hk
    rw [if_neg c7]
    by_cases c8 : op = (8 : Int32)
    · rw [if_pos c8]; exact lc_snuff h i1 i2 i3 i4 i5 hk
    rw [if_neg c8]
    by_cases c9 : op = (9 : Int32)
    · rw [if_pos c9]; exact lc_renew h i1 i2 i3 i4 i5 hk
    rw [if_neg c9]
    by_cases c10 : op = (10 : Int32)
    · rw [if_pos c10]; exact lc_burn h i1 i2 i3 i4 i5 hk
    rw [if_neg c10]
    by_cases c11 : op = (11 : Int32)
    · rw [if_pos c11]; exact lc_minute h i1 i2 i3 i4 i5 hk
    rw [if_neg c11]
    by_cases c12 : op = (12 : Int32)
    · rw [if_pos c12]; exact lc_played h i1 i2 i3 i4 i5 hk
    rw [if_neg c12]
    by_cases c13 : op = (13 : Int32)
    · rw [if_pos c13]; exact lc_shifts h i1 i2 i3 i4 i5 hk
    rw [if_neg c13]
    by_cases c14 : op = (14 : Int32)
    · rw [if_pos c14]; exact lc_undo h i1 i2 i3 i4 i5 hk
    rw [if_neg c14]
    by_cases c15 : op = (15 : Int32)
    · rw [if_pos c15]; exact lc_of h i1 i2 i3 i4 i5 hk
    rw [if_neg c15]
    by_cases c16 : op = (16 : Int32)
    · rw [if_pos c16]; exact lc_law h i1 i2 i3 i4 i5 hk
    rw [if_neg c16]
    by_cases c17 : op = (17 : Int32)
    · rw [if_pos c17]; exact lc_is h i1 i2 i3 i4 i5 hk
    rw [if_neg c17]
    by_cases c18 : op = (18 : Int32)
    · rw [if_pos c18]; exact lc_book h i1 i2 i3 i4 i5 hk
    rw [if_neg c18]
    by_cases c19 : op = (19 : Int32)
    · rw [if_pos c19]; exact lc_foretold h i1 i2 i3 i4 i5 hk
    rw [if_neg c19]
    by_cases c20 : op = (20 : Int32)
    · rw [if_pos c20]; exact lc_out h i1 i2 i3 i4 i5 hk
    rw [if_neg c20]
    by_cases c21 : op = (21 : Int32)
    · rw [if_pos c21]; exact lc_spans h i1 i2 i3 i4 i5 hk
    rw [if_neg c21]
    by_cases c22 : op = (22 : Int32)
    · rw [if_pos c22]; exact lc_can h i1 i2 i3 i4 i5 hk
    rw [if_neg c22]
    by_cases c23 : op = (23 : Int32)
    · rw [if_pos c23]; exact lc_fewest h i1 i2 i3 i4 i5 hk
    rw [if_neg c23]
    by_cases c24 : op = (24 : Int32)
    · rw [if_pos c24]; exact lc_cheapest h i1 i2 i3 i4 i5 hk
    rw [if_neg c24]
    by_cases c25 : op = (25 : Int32)
    · rw [if_pos c25]; exact lc_row h i1 i2 i3 i4 i5 hk
    rw [if_neg c25]
    by_cases c26 : op = (26 : Int32)
    · rw [if_pos c26]; exact lc_between h i1 i2 i3 i4 i5 hk
    rw [if_neg c26]
    by_cases c27 : op = (27 : Int32)
    · rw [if_pos c27]; exact lc_nearest h i1 i2 i3 i4 i5 hk
    rw [if_neg c27]
    by_cases c28 : op = (28 : Int32)
    · rw [if_pos c28]; exact lc_want h i1 i2 i3 i4 i5 hk
    rw [if_neg c28]
    by_cases c29 : op = (29 : Int32)
    · rw [if_pos c29]; exact lc_bundle h i1 i2 i3 i4 i5 hk
    rw [if_neg c29]
    by_cases c30 : op = (30 : Int32)
    · rw [if_pos c30]; exact lc_part h i1 i2 i3 i4 i5 hk
    rw [if_neg c30]
    by_cases c31 : op = (31 : Int32)
    · rw [if_pos c31]; exact lc_crews h i1 i2 i3 i4 i5 hk
    rw [if_neg c31]
    by_cases c32 : op = (32 : Int32)
    · rw [if_pos c32]; exact lc_take h i1 i2 i3 i4 i5 hk
    rw [if_neg c32]
    by_cases c33 : op = (33 : Int32)
    · rw [if_pos c33]; exact lc_wet h i1 i2 i3 i4 i5 hk
    rw [if_neg c33]
    by_cases c34 : op = (34 : Int32)
    · rw [if_pos c34]; exact lc_tried h i1 i2 i3 i4 i5 hk
    rw [if_neg c34]
    by_cases c35 : op = (35 : Int32)
    · rw [if_pos c35]; exact lc_suspects h i1 i2 i3 i4 i5 hk
    rw [if_neg c35]
    by_cases c36 : op = (36 : Int32)
    · rw [if_pos c36]; exact lc_test h i1 i2 i3 i4 i5 hk
    rw [if_neg c36]
    by_cases c37 : op = (37 : Int32)
    · rw [if_pos c37]; exact lc_right h i1 i2 i3 hk
    rw [if_neg c37]
    by_cases c38 : op = (38 : Int32)
    · rw [if_pos c38]; exact lc_tries h i1 i2 i3 i4 hk
    rw [if_neg c38]
    by_cases c39 : op = (39 : Int32)
    · rw [if_pos c39]; exact lc_said h i1 i2 i3 i4 i5 hk
    rw [if_neg c39]
    by_cases c40 : op = (40 : Int32)
    · rw [if_pos c40]; exact lc_whose h i1 i2 i3 i4 i5 hk
    rw [if_neg c40]
    by_cases c41 : op = (41 : Int32)
    · rw [if_pos c41]; exact lc_longest h i1 i2 i3 i4 i5 hk
    rw [if_neg c41]
    by_cases c42 : op = (42 : Int32)
    · rw [if_pos c42]; exact lc_burning h i1 i2 i3 i4 i5 hk
    rw [if_neg c42]
    by_cases c43 : op = (43 : Int32)
    · rw [if_pos c43]; exact lc_dead h i1 i2 i3 i4 i5 hk
    rw [if_neg c43]
    by_cases c44 : op = (44 : Int32)
    · rw [if_pos c44]; exact lc_ledger h i1 i2 i3 i4 i5 hk
    rw [if_neg c44]
    by_cases c45 : op = (45 : Int32)
    · rw [if_pos c45]; exact lc_image h i1 i2 i3 i4 i5 hk
    rw [if_neg c45]
    by_cases c46 : op = (46 : Int32)
    · rw [if_pos c46]; exact lc_back h i1 i2 i3 i4 i5 hk
    rw [if_neg c46]
    by_cases c47 : op = (47 : Int32)
    · rw [if_pos c47]; exact lc_about h i1 i2 i3 i4 i5 hk
    rw [if_neg c47]
    exact hk ν a b h
