/-! The odds, and the law's loop. -/
theorem st_right (x y : Int32) {b : Nat} (hb : b < 2) : ∃ v, Fm_right x y (nI b) = some v ∧ Md_right x y (nI b) = some v := by
  rcases isIn_cases x 0 12 (by omega) (by omega) with ⟨l, l1, l2, rfl, l3⟩ | ⟨l1, l3⟩
  · rcases isIn_cases y 0 10 (by omega) (by omega) with ⟨o, o1, o2, rfl, o3⟩ | ⟨o1, o3⟩
    · obtain ⟨e1, e2⟩ := right_in l (by omega) o (by omega) b hb
      cases hv : Fm_right (nI l) (nI o) (nI b) with
      | none => rw [hv] at e2; cases e2
      | some v => exact ⟨v, rfl, by rw [← e1, hv]⟩
    · have l3' : Md_isIn (nI l) 0 12 = some true := l3
      have o3' : Md_isIn y 0 10 = some false := o3
      refine ⟨-1, ?_, ?_⟩
      · unfold Fm_right; rw [within_isIn, l3', Option.bind_some, if_neg (by rw [b2iT]; exact id), within_isIn, o3']; rfl
      · unfold Md_right; rw [l3', Option.bind_some, if_neg (by rw [b2iT]; exact id), o3']; rfl
  · have l3' : Md_isIn x 0 12 = some false := l3
    refine ⟨-1, ?_, ?_⟩
    · unfold Fm_right; rw [within_isIn, l3']; rfl
    · unfold Md_right; rw [l3']; rfl
theorem st_tries (x y z : Int32) {b : Nat} (hb : b < 2) : ∃ v, Fm_tries x y z (nI b) = some v ∧ Md_tries x y z (nI b) = some v := by
  rcases isIn_cases x 0 3 (by omega) (by omega) with ⟨l, l1, l2, rfl, l3⟩ | ⟨l1, l3⟩
  · have l3' : Md_isIn (nI l) 0 3 = some true := l3
    rcases isIn_cases y 0 10 (by omega) (by omega) with ⟨o, o1, o2, rfl, o3⟩ | ⟨o1, o3⟩
    · have o3' : Md_isIn (nI o) 0 10 = some true := o3
      rcases isIn_cases z 1 4 (by omega) (by omega) with ⟨t, t1, t2, rfl, t3⟩ | ⟨t1, t3⟩
      · obtain ⟨e1, e2⟩ := tries_in l (by omega) o (by omega) t (by omega) b hb
        cases hv : Fm_tries (nI l) (nI o) (nI t) (nI b) with
        | none => rw [hv] at e2; cases e2
        | some v => exact ⟨v, rfl, by rw [← e1, hv]⟩
      · have t3' : Md_isIn z 1 4 = some false := t3
        refine ⟨-1, ?_, ?_⟩
        · unfold Fm_tries; rw [within_isIn, l3', Option.bind_some, if_neg (by rw [b2iT]; exact id), within_isIn, t3']; rfl
        · unfold Md_tries; rw [l3', Option.bind_some, if_neg (by rw [b2iT]; exact id), o3', Option.bind_some, if_neg (by rw [b2iT]; exact id), t3']; rfl
    · have o3' : Md_isIn y 0 10 = some false := o3
      refine ⟨-1, ?_, ?_⟩
      · unfold Fm_tries
        rw [within_isIn, l3', Option.bind_some, if_neg (by rw [b2iT]; exact id), within_isIn]
        rcases isIn_cases z 1 4 (by omega) (by omega) with ⟨t, t1, t2, rfl, t3⟩ | ⟨t1, t3⟩
        · have t3' : Md_isIn (nI t) 1 4 = some true := t3
          rw [t3', Option.bind_some, if_neg (by rw [b2iT]; exact id)]
          unfold Fm_tries_23
          rw [if_neg (by decide), within_isIn, o3']; rfl
        · have t3' : Md_isIn z 1 4 = some false := t3
          rw [t3']; rfl
      · unfold Md_tries; rw [l3', Option.bind_some, if_neg (by rw [b2iT]; exact id), o3']; rfl
  · have l3' : Md_isIn x 0 3 = some false := l3
    refine ⟨-1, ?_, ?_⟩
    · unfold Fm_tries; rw [within_isIn, l3']; rfl
    · unfold Md_tries; rw [l3']; rfl
theorem lc_right {a b : Nat → Nat} {ν : Nm} {N : Nat} {xs : Nat → Int32} {k18 : Int32 → Nm → Option Bool} {x3 : Int32} (h : Inv a b tau ν) (i1 : inb (x3 + (1 : Int32)) N = true) (i2 : inb (x3 + (2 : Int32)) N = true) (i3 : inb (x3 + (3 : Int32)) N = true) (hk : ∀ ν2 a2 b2, Inv a2 b2 tau ν2 → k18 (x3 + (6 : Int32)) ν2 = some true) : Lw_1419 N xs k18 x3 ν = some true := by
  by_cases z : xs (x3 + (3 : Int32)).toNatClampNeg = 0
  · obtain ⟨v, e1, e2⟩ := st_right (xs (x3 + (1 : Int32)).toNatClampNeg) (xs (x3 + (2 : Int32)).toNatClampNeg) (b := 0) (by omega)
    rw [show nI 0 = (0 : Int32) from rfl] at e1 e2
    unfold Lw_1419 Lw_1443 Lw_1470 Lw_1706
    simp only [i1, i2, i3, z, ↓reduceIte, e1, e2, Option.bind_some, lg_eq]
    exact hk ν a b h
  · obtain ⟨v, e1, e2⟩ := st_right (xs (x3 + (1 : Int32)).toNatClampNeg) (xs (x3 + (2 : Int32)).toNatClampNeg) (b := 1) (by omega)
    rw [show nI 1 = (1 : Int32) from rfl] at e1 e2
    unfold Lw_1419 Lw_1443 Lw_1470 Lw_1706
    simp only [i1, i2, i3, z, ↓reduceIte, e1, e2, Option.bind_some, lg_eq]
    exact hk ν a b h
theorem lc_tries {a b : Nat → Nat} {ν : Nm} {N : Nat} {xs : Nat → Int32} {k18 : Int32 → Nm → Option Bool} {x3 : Int32} (h : Inv a b tau ν) (i1 : inb (x3 + (1 : Int32)) N = true) (i2 : inb (x3 + (2 : Int32)) N = true) (i3 : inb (x3 + (3 : Int32)) N = true) (i4 : inb (x3 + (4 : Int32)) N = true) (hk : ∀ ν2 a2 b2, Inv a2 b2 tau ν2 → k18 (x3 + (6 : Int32)) ν2 = some true) : Lw_1479 N xs k18 x3 ν = some true := by
  by_cases z : xs (x3 + (4 : Int32)).toNatClampNeg = 0
  · obtain ⟨v, e1, e2⟩ := st_tries (xs (x3 + (1 : Int32)).toNatClampNeg) (xs (x3 + (2 : Int32)).toNatClampNeg) (xs (x3 + (3 : Int32)).toNatClampNeg) (b := 0) (by omega)
    rw [show nI 0 = (0 : Int32) from rfl] at e1 e2
    unfold Lw_1479 Lw_1508 Lw_1540 Lw_1706
    simp only [i1, i2, i3, i4, z, ↓reduceIte, e1, e2, Option.bind_some, lg_eq]
    exact hk ν a b h
  · obtain ⟨v, e1, e2⟩ := st_tries (xs (x3 + (1 : Int32)).toNatClampNeg) (xs (x3 + (2 : Int32)).toNatClampNeg) (xs (x3 + (3 : Int32)).toNatClampNeg) (b := 1) (by omega)
    rw [show nI 1 = (1 : Int32) from rfl] at e1 e2
    unfold Lw_1479 Lw_1508 Lw_1540 Lw_1706
    simp only [i1, i2, i3, i4, z, ↓reduceIte, e1, e2, Option.bind_some, lg_eq]
    exact hk ν a b h
