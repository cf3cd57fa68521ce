/-! One round of the law, call by call. -/
theorem lc_cord {a b : Nat → Nat} {ν : Nm} {N : Nat} {xs : Nat → Int32} {k18 : Int32 → Nm → Option Bool} {x3 : Int32} (h : Inv a b tau ν) (i1 : inb (x3 + (1 : Int32)) N = true) (i2 : inb (x3 + (2 : Int32)) N = true) (i3 : inb (x3 + (3 : Int32)) N = true) (i4 : inb (x3 + (4 : Int32)) N = true) (i5 : inb (x3 + (5 : Int32)) N = true) (hk : ∀ ν2 a2 b2, Inv a2 b2 tau ν2 → k18 (x3 + (6 : Int32)) ν2 = some true) : Lw_240 N xs k18 x3 ν = some true := by
  obtain ⟨v, ν1, ν2, a2, b2, e1, e2, hI⟩ := st_cord h (xs (x3 + (1 : Int32)).toNatClampNeg) (xs (x3 + (2 : Int32)).toNatClampNeg)
  unfold Lw_240 Lw_1706
  simp only [i1, i2, i3, i4, i5, ↓reduceIte, e1, e2, Option.bind_some]
  exact hk ν2 a2 b2 hI
theorem lc_hands {a b : Nat → Nat} {ν : Nm} {N : Nat} {xs : Nat → Int32} {k18 : Int32 → Nm → Option Bool} {x3 : Int32} (h : Inv a b tau ν) (i1 : inb (x3 + (1 : Int32)) N = true) (i2 : inb (x3 + (2 : Int32)) N = true) (i3 : inb (x3 + (3 : Int32)) N = true) (i4 : inb (x3 + (4 : Int32)) N = true) (i5 : inb (x3 + (5 : Int32)) N = true) (hk : ∀ ν2 a2 b2, Inv a2 b2 tau ν2 → k18 (x3 + (6 : Int32)) ν2 = some true) : Lw_273 N xs k18 x3 ν = some true := by
  obtain ⟨v, ν1, ν2, a2, b2, e1, e2, hI⟩ := st_hands h (xs (x3 + (1 : Int32)).toNatClampNeg)
  unfold Lw_273 Lw_1706
  simp only [i1, i2, i3, i4, i5, ↓reduceIte, e1, e2, Option.bind_some]
  exact hk ν2 a2 b2 hI
theorem lc_feed {a b : Nat → Nat} {ν : Nm} {N : Nat} {xs : Nat → Int32} {k18 : Int32 → Nm → Option Bool} {x3 : Int32} (h : Inv a b tau ν) (i1 : inb (x3 + (1 : Int32)) N = true) (i2 : inb (x3 + (2 : Int32)) N = true) (i3 : inb (x3 + (3 : Int32)) N = true) (i4 : inb (x3 + (4 : Int32)) N = true) (i5 : inb (x3 + (5 : Int32)) N = true) (hk : ∀ ν2 a2 b2, Inv a2 b2 tau ν2 → k18 (x3 + (6 : Int32)) ν2 = some true) : Lw_296 N xs k18 x3 ν = some true := by
  obtain ⟨v, ν1, ν2, a2, b2, e1, e2, hI⟩ := st_feed h (xs (x3 + (1 : Int32)).toNatClampNeg) (xs (x3 + (2 : Int32)).toNatClampNeg) (xs (x3 + (3 : Int32)).toNatClampNeg) (xs (x3 + (4 : Int32)).toNatClampNeg) (xs (x3 + (5 : Int32)).toNatClampNeg)
  unfold Lw_296 Lw_1706
  simp only [i1, i2, i3, i4, i5, ↓reduceIte, e1, e2, Option.bind_some]
  exact hk ν2 a2 b2 hI
theorem lc_end {a b : Nat → Nat} {ν : Nm} {N : Nat} {xs : Nat → Int32} {k18 : Int32 → Nm → Option Bool} {x3 : Int32} (h : Inv a b tau ν) (i1 : inb (x3 + (1 : Int32)) N = true) (i2 : inb (x3 + (2 : Int32)) N = true) (i3 : inb (x3 + (3 : Int32)) N = true) (i4 : inb (x3 + (4 : Int32)) N = true) (i5 : inb (x3 + (5 : Int32)) N = true) (hk : ∀ ν2 a2 b2, Inv a2 b2 tau ν2 → k18 (x3 + (6 : Int32)) ν2 = some true) : Lw_359 N xs k18 x3 ν = some true := by
  obtain ⟨v, ν1, ν2, a2, b2, e1, e2, hI⟩ := st_end h (xs (x3 + (1 : Int32)).toNatClampNeg)
  unfold Lw_359 Lw_1706
  simp only [i1, i2, i3, i4, i5, ↓reduceIte, e1, e2, Option.bind_some]
  exact hk ν2 a2 b2 hI
theorem lc_fault {a b : Nat → Nat} {ν : Nm} {N : Nat} {xs : Nat → Int32} {k18 : Int32 → Nm → Option Bool} {x3 : Int32} (h : Inv a b tau ν) (i1 : inb (x3 + (1 : Int32)) N = true) (i2 : inb (x3 + (2 : Int32)) N = true) (i3 : inb (x3 + (3 : Int32)) N = true) (i4 : inb (x3 + (4 : Int32)) N = true) (i5 : inb (x3 + (5 : Int32)) N = true) (hk : ∀ ν2 a2 b2, Inv a2 b2 tau ν2 → k18 (x3 + (6 : Int32)) ν2 = some true) : Lw_395 N xs k18 x3 ν = some true := by
  obtain ⟨v, e1, e2⟩ := st_fault h (xs (x3 + (1 : Int32)).toNatClampNeg)
  unfold Lw_395 Lw_1706
  simp only [i1, i2, i3, i4, i5, ↓reduceIte, e1, e2, Option.bind_some]
  exact hk ν a b h
theorem lc_by {a b : Nat → Nat} {ν : Nm} {N : Nat} {xs : Nat → Int32} {k18 : Int32 → Nm → Option Bool} {x3 : Int32} (h : Inv a b tau ν) (i1 : inb (x3 + (1 : Int32)) N = true) (i2 : inb (x3 + (2 : Int32)) N = true) (i3 : inb (x3 + (3 : Int32)) N = true) (i4 : inb (x3 + (4 : Int32)) N = true) (i5 : inb (x3 + (5 : Int32)) N = true) (hk : ∀ ν2 a2 b2, Inv a2 b2 tau ν2 → k18 (x3 + (6 : Int32)) ν2 = some true) : Lw_418 N xs k18 x3 ν = some true := by
  obtain ⟨v, ν1, ν2, a2, b2, e1, e2, hI⟩ := st_by h (xs (x3 + (1 : Int32)).toNatClampNeg)
  unfold Lw_418 Lw_1706
  simp only [i1, i2, i3, i4, i5, ↓reduceIte, e1, e2, Option.bind_some]
  exact hk ν2 a2 b2 hI
theorem lc_light {a b : Nat → Nat} {ν : Nm} {N : Nat} {xs : Nat → Int32} {k18 : Int32 → Nm → Option Bool} {x3 : Int32} (h : Inv a b tau ν) (i1 : inb (x3 + (1 : Int32)) N = true) (i2 : inb (x3 + (2 : Int32)) N = true) (i3 : inb (x3 + (3 : Int32)) N = true) (i4 : inb (x3 + (4 : Int32)) N = true) (i5 : inb (x3 + (5 : Int32)) N = true) (hk : ∀ ν2 a2 b2, Inv a2 b2 tau ν2 → k18 (x3 + (6 : Int32)) ν2 = some true) : Lw_441 N xs k18 x3 ν = some true := by
  by_cases z0 : xs (x3 + (2 : Int32)).toNatClampNeg = 0
  · obtain ⟨v, ν1, ν2, a2, b2, e1, e2, hI⟩ := st_light tau_T h (xs (x3 + (1 : Int32)).toNatClampNeg) 0
    unfold Lw_441 Lw_460 Lw_482 Lw_1706
    simp only [i1, i2, i3, i4, i5, z0, ↓reduceIte, e1, e2, Option.bind_some]
    exact hk ν2 a2 b2 hI
  · obtain ⟨v, ν1, ν2, a2, b2, e1, e2, hI⟩ := st_light tau_T h (xs (x3 + (1 : Int32)).toNatClampNeg) 1
    unfold Lw_441 Lw_460 Lw_482 Lw_1706
    simp only [i1, i2, i3, i4, i5, z0, ↓reduceIte, e1, e2, Option.bind_some]
    exact hk ν2 a2 b2 hI
theorem lc_snuff {a b : Nat → Nat} {ν : Nm} {N : Nat} {xs : Nat → Int32} {k18 : Int32 → Nm → Option Bool} {x3 : Int32} (h : Inv a b tau ν) (i1 : inb (x3 + (1 : Int32)) N = true) (i2 : inb (x3 + (2 : Int32)) N = true) (i3 : inb (x3 + (3 : Int32)) N = true) (i4 : inb (x3 + (4 : Int32)) N = true) (i5 : inb (x3 + (5 : Int32)) N = true) (hk : ∀ ν2 a2 b2, Inv a2 b2 tau ν2 → k18 (x3 + (6 : Int32)) ν2 = some true) : Lw_490 N xs k18 x3 ν = some true := by
  by_cases z0 : xs (x3 + (2 : Int32)).toNatClampNeg = 0
  · obtain ⟨v, ν1, ν2, a2, b2, e1, e2, hI⟩ := st_snuff h (xs (x3 + (1 : Int32)).toNatClampNeg) 0
    unfold Lw_490 Lw_509 Lw_531 Lw_1706
    simp only [i1, i2, i3, i4, i5, z0, ↓reduceIte, e1, e2, Option.bind_some]
    exact hk ν2 a2 b2 hI
  · obtain ⟨v, ν1, ν2, a2, b2, e1, e2, hI⟩ := st_snuff h (xs (x3 + (1 : Int32)).toNatClampNeg) 1
    unfold Lw_490 Lw_509 Lw_531 Lw_1706
    simp only [i1, i2, i3, i4, i5, z0, ↓reduceIte, e1, e2, Option.bind_some]
    exact hk ν2 a2 b2 hI
theorem lc_renew {a b : Nat → Nat} {ν : Nm} {N : Nat} {xs : Nat → Int32} {k18 : Int32 → Nm → Option Bool} {x3 : Int32} (h : Inv a b tau ν) (i1 : inb (x3 + (1 : Int32)) N = true) (i2 : inb (x3 + (2 : Int32)) N = true) (i3 : inb (x3 + (3 : Int32)) N = true) (i4 : inb (x3 + (4 : Int32)) N = true) (i5 : inb (x3 + (5 : Int32)) N = true) (hk : ∀ ν2 a2 b2, Inv a2 b2 tau ν2 → k18 (x3 + (6 : Int32)) ν2 = some true) : Lw_539 N xs k18 x3 ν = some true := by
  obtain ⟨v, ν1, ν2, a2, b2, e1, e2, hI⟩ := st_renew h (xs (x3 + (1 : Int32)).toNatClampNeg)
  unfold Lw_539 Lw_1706
  simp only [i1, i2, i3, i4, i5, ↓reduceIte, e1, e2, Option.bind_some]
  exact hk ν2 a2 b2 hI
theorem lc_burn {a b : Nat → Nat} {ν : Nm} {N : Nat} {xs : Nat → Int32} {k18 : Int32 → Nm → Option Bool} {x3 : Int32} (h : Inv a b tau ν) (i1 : inb (x3 + (1 : Int32)) N = true) (i2 : inb (x3 + (2 : Int32)) N = true) (i3 : inb (x3 + (3 : Int32)) N = true) (i4 : inb (x3 + (4 : Int32)) N = true) (i5 : inb (x3 + (5 : Int32)) N = true) (hk : ∀ ν2 a2 b2, Inv a2 b2 tau ν2 → k18 (x3 + (6 : Int32)) ν2 = some true) : Lw_562 N xs k18 x3 ν = some true := by
  obtain ⟨v, ν1, ν2, a2, b2, e1, e2, hI⟩ := st_burn h 
  unfold Lw_562 Lw_1706
  simp only [i1, i2, i3, i4, i5, ↓reduceIte, e1, e2, Option.bind_some]
  exact hk ν2 a2 b2 hI
theorem lc_minute {a b : Nat → Nat} {ν : Nm} {N : Nat} {xs : Nat → Int32} {k18 : Int32 → Nm → Option Bool} {x3 : Int32} (h : Inv a b tau ν) (i1 : inb (x3 + (1 : Int32)) N = true) (i2 : inb (x3 + (2 : Int32)) N = true) (i3 : inb (x3 + (3 : Int32)) N = true) (i4 : inb (x3 + (4 : Int32)) N = true) (i5 : inb (x3 + (5 : Int32)) N = true) (hk : ∀ ν2 a2 b2, Inv a2 b2 tau ν2 → k18 (x3 + (6 : Int32)) ν2 = some true) : Lw_575 N xs k18 x3 ν = some true := by
  obtain ⟨v, ν1, ν2, a2, b2, e1, e2, hI⟩ := st_minute h (xs (x3 + (1 : Int32)).toNatClampNeg)
  unfold Lw_575 Lw_1706
  simp only [i1, i2, i3, i4, i5, ↓reduceIte, e1, e2, Option.bind_some]
  exact hk ν2 a2 b2 hI
theorem lc_played {a b : Nat → Nat} {ν : Nm} {N : Nat} {xs : Nat → Int32} {k18 : Int32 → Nm → Option Bool} {x3 : Int32} (h : Inv a b tau ν) (i1 : inb (x3 + (1 : Int32)) N = true) (i2 : inb (x3 + (2 : Int32)) N = true) (i3 : inb (x3 + (3 : Int32)) N = true) (i4 : inb (x3 + (4 : Int32)) N = true) (i5 : inb (x3 + (5 : Int32)) N = true) (hk : ∀ ν2 a2 b2, Inv a2 b2 tau ν2 → k18 (x3 + (6 : Int32)) ν2 = some true) : Lw_598 N xs k18 x3 ν = some true := by
  obtain ⟨v, ν1, ν2, a2, b2, e1, e2, hI⟩ := st_played h (xs (x3 + (1 : Int32)).toNatClampNeg)
  unfold Lw_598 Lw_1706
  simp only [i1, i2, i3, i4, i5, ↓reduceIte, e1, e2, Option.bind_some]
  exact hk ν2 a2 b2 hI
theorem lc_shifts {a b : Nat → Nat} {ν : Nm} {N : Nat} {xs : Nat → Int32} {k18 : Int32 → Nm → Option Bool} {x3 : Int32} (h : Inv a b tau ν) (i1 : inb (x3 + (1 : Int32)) N = true) (i2 : inb (x3 + (2 : Int32)) N = true) (i3 : inb (x3 + (3 : Int32)) N = true) (i4 : inb (x3 + (4 : Int32)) N = true) (i5 : inb (x3 + (5 : Int32)) N = true) (hk : ∀ ν2 a2 b2, Inv a2 b2 tau ν2 → k18 (x3 + (6 : Int32)) ν2 = some true) : Lw_621 N xs k18 x3 ν = some true := by
  obtain ⟨v, ν1, ν2, a2, b2, e1, e2, hI⟩ := st_shifts tau_T h (xs (x3 + (1 : Int32)).toNatClampNeg) (xs (x3 + (2 : Int32)).toNatClampNeg)
  unfold Lw_621 Lw_1706
  simp only [i1, i2, i3, i4, i5, ↓reduceIte, e1, e2, Option.bind_some]
  exact hk ν2 a2 b2 hI
theorem lc_undo {a b : Nat → Nat} {ν : Nm} {N : Nat} {xs : Nat → Int32} {k18 : Int32 → Nm → Option Bool} {x3 : Int32} (h : Inv a b tau ν) (i1 : inb (x3 + (1 : Int32)) N = true) (i2 : inb (x3 + (2 : Int32)) N = true) (i3 : inb (x3 + (3 : Int32)) N = true) (i4 : inb (x3 + (4 : Int32)) N = true) (i5 : inb (x3 + (5 : Int32)) N = true) (hk : ∀ ν2 a2 b2, Inv a2 b2 tau ν2 → k18 (x3 + (6 : Int32)) ν2 = some true) : Lw_654 N xs k18 x3 ν = some true := by
  obtain ⟨v, ν1, ν2, a2, b2, e1, e2, hI⟩ := st_undo h 
  unfold Lw_654 Lw_1706
  simp only [i1, i2, i3, i4, i5, ↓reduceIte, e1, e2, Option.bind_some]
  exact hk ν2 a2 b2 hI
theorem lc_of {a b : Nat → Nat} {ν : Nm} {N : Nat} {xs : Nat → Int32} {k18 : Int32 → Nm → Option Bool} {x3 : Int32} (h : Inv a b tau ν) (i1 : inb (x3 + (1 : Int32)) N = true) (i2 : inb (x3 + (2 : Int32)) N = true) (i3 : inb (x3 + (3 : Int32)) N = true) (i4 : inb (x3 + (4 : Int32)) N = true) (i5 : inb (x3 + (5 : Int32)) N = true) (hk : ∀ ν2 a2 b2, Inv a2 b2 tau ν2 → k18 (x3 + (6 : Int32)) ν2 = some true) : Lw_667 N xs k18 x3 ν = some true := by
  obtain ⟨v, e1, e2⟩ := st_of h (xs (x3 + (1 : Int32)).toNatClampNeg) (xs (x3 + (2 : Int32)).toNatClampNeg)
  unfold Lw_667 Lw_1706
  simp only [i1, i2, i3, i4, i5, ↓reduceIte, e1, e2, Option.bind_some]
  exact hk ν a b h
theorem lc_law {a b : Nat → Nat} {ν : Nm} {N : Nat} {xs : Nat → Int32} {k18 : Int32 → Nm → Option Bool} {x3 : Int32} (h : Inv a b tau ν) (i1 : inb (x3 + (1 : Int32)) N = true) (i2 : inb (x3 + (2 : Int32)) N = true) (i3 : inb (x3 + (3 : Int32)) N = true) (i4 : inb (x3 + (4 : Int32)) N = true) (i5 : inb (x3 + (5 : Int32)) N = true) (hk : ∀ ν2 a2 b2, Inv a2 b2 tau ν2 → k18 (x3 + (6 : Int32)) ν2 = some true) : Lw_700 N xs k18 x3 ν = some true := by
  by_cases z0 : xs (x3 + (2 : Int32)).toNatClampNeg = 0
  · by_cases z1 : xs (x3 + (3 : Int32)).toNatClampNeg = 0
    · obtain ⟨v, ν1, ν2, a2, b2, e1, e2, hI⟩ := st_law tau_T h (xs (x3 + (1 : Int32)).toNatClampNeg) 0 0
      unfold Lw_700 Lw_719 Lw_732 Lw_754 Lw_767 Lw_1706
      simp only [i1, i2, i3, i4, i5, z0, z1, ↓reduceIte, e1, e2, Option.bind_some]
      exact hk ν2 a2 b2 hI
    · obtain ⟨v, ν1, ν2, a2, b2, e1, e2, hI⟩ := st_law tau_T h (xs (x3 + (1 : Int32)).toNatClampNeg) 0 1
      unfold Lw_700 Lw_719 Lw_732 Lw_754 Lw_767 Lw_1706
      simp only [i1, i2, i3, i4, i5, z0, z1, ↓reduceIte, e1, e2, Option.bind_some]
      exact hk ν2 a2 b2 hI
  · by_cases z1 : xs (x3 + (3 : Int32)).toNatClampNeg = 0
    · obtain ⟨v, ν1, ν2, a2, b2, e1, e2, hI⟩ := st_law tau_T h (xs (x3 + (1 : Int32)).toNatClampNeg) 1 0
      unfold Lw_700 Lw_719 Lw_732 Lw_754 Lw_767 Lw_1706
      simp only [i1, i2, i3, i4, i5, z0, z1, ↓reduceIte, e1, e2, Option.bind_some]
      exact hk ν2 a2 b2 hI
    · obtain ⟨v, ν1, ν2, a2, b2, e1, e2, hI⟩ := st_law tau_T h (xs (x3 + (1 : Int32)).toNatClampNeg) 1 1
      unfold Lw_700 Lw_719 Lw_732 Lw_754 Lw_767 Lw_1706
      simp only [i1, i2, i3, i4, i5, z0, z1, ↓reduceIte, e1, e2, Option.bind_some]
      exact hk ν2 a2 b2 hI
theorem lc_is {a b : Nat → Nat} {ν : Nm} {N : Nat} {xs : Nat → Int32} {k18 : Int32 → Nm → Option Bool} {x3 : Int32} (h : Inv a b tau ν) (i1 : inb (x3 + (1 : Int32)) N = true) (i2 : inb (x3 + (2 : Int32)) N = true) (i3 : inb (x3 + (3 : Int32)) N = true) (i4 : inb (x3 + (4 : Int32)) N = true) (i5 : inb (x3 + (5 : Int32)) N = true) (hk : ∀ ν2 a2 b2, Inv a2 b2 tau ν2 → k18 (x3 + (6 : Int32)) ν2 = some true) : Lw_775 N xs k18 x3 ν = some true := by
  obtain ⟨v, e1, e2⟩ := st_is h (xs (x3 + (1 : Int32)).toNatClampNeg)
  unfold Lw_775 Lw_1706
  simp only [i1, i2, i3, i4, i5, ↓reduceIte, e1, e2, Option.bind_some]
  exact hk ν a b h
theorem lc_book {a b : Nat → Nat} {ν : Nm} {N : Nat} {xs : Nat → Int32} {k18 : Int32 → Nm → Option Bool} {x3 : Int32} (h : Inv a b tau ν) (i1 : inb (x3 + (1 : Int32)) N = true) (i2 : inb (x3 + (2 : Int32)) N = true) (i3 : inb (x3 + (3 : Int32)) N = true) (i4 : inb (x3 + (4 : Int32)) N = true) (i5 : inb (x3 + (5 : Int32)) N = true) (hk : ∀ ν2 a2 b2, Inv a2 b2 tau ν2 → k18 (x3 + (6 : Int32)) ν2 = some true) : Lw_798 N xs k18 x3 ν = some true := by
  obtain ⟨v, e1, e2⟩ := st_book h (xs (x3 + (1 : Int32)).toNatClampNeg) (xs (x3 + (2 : Int32)).toNatClampNeg)
  unfold Lw_798 Lw_1706
  simp only [i1, i2, i3, i4, i5, ↓reduceIte, e1, e2, Option.bind_some]
  exact hk ν a b h
theorem lc_foretold {a b : Nat → Nat} {ν : Nm} {N : Nat} {xs : Nat → Int32} {k18 : Int32 → Nm → Option Bool} {x3 : Int32} (h : Inv a b tau ν) (i1 : inb (x3 + (1 : Int32)) N = true) (i2 : inb (x3 + (2 : Int32)) N = true) (i3 : inb (x3 + (3 : Int32)) N = true) (i4 : inb (x3 + (4 : Int32)) N = true) (i5 : inb (x3 + (5 : Int32)) N = true) (hk : ∀ ν2 a2 b2, Inv a2 b2 tau ν2 → k18 (x3 + (6 : Int32)) ν2 = some true) : Lw_831 N xs k18 x3 ν = some true := by
  obtain ⟨v, ν2, e1, e2, hI⟩ := st_foretold h (xs (x3 + (1 : Int32)).toNatClampNeg) (xs (x3 + (2 : Int32)).toNatClampNeg)
  unfold Lw_831 Lw_1706
  simp only [i1, i2, i3, i4, i5, ↓reduceIte, e1, e2, Option.bind_some]
  exact hk ν2 a b hI
theorem lc_out {a b : Nat → Nat} {ν : Nm} {N : Nat} {xs : Nat → Int32} {k18 : Int32 → Nm → Option Bool} {x3 : Int32} (h : Inv a b tau ν) (i1 : inb (x3 + (1 : Int32)) N = true) (i2 : inb (x3 + (2 : Int32)) N = true) (i3 : inb (x3 + (3 : Int32)) N = true) (i4 : inb (x3 + (4 : Int32)) N = true) (i5 : inb (x3 + (5 : Int32)) N = true) (hk : ∀ ν2 a2 b2, Inv a2 b2 tau ν2 → k18 (x3 + (6 : Int32)) ν2 = some true) : Lw_864 N xs k18 x3 ν = some true := by
  obtain ⟨v, e1, e2⟩ := st_out h (xs (x3 + (1 : Int32)).toNatClampNeg)
  unfold Lw_864 Lw_1706
  simp only [i1, i2, i3, i4, i5, ↓reduceIte, e1, e2, Option.bind_some]
  exact hk ν a b h
theorem lc_spans {a b : Nat → Nat} {ν : Nm} {N : Nat} {xs : Nat → Int32} {k18 : Int32 → Nm → Option Bool} {x3 : Int32} (h : Inv a b tau ν) (i1 : inb (x3 + (1 : Int32)) N = true) (i2 : inb (x3 + (2 : Int32)) N = true) (i3 : inb (x3 + (3 : Int32)) N = true) (i4 : inb (x3 + (4 : Int32)) N = true) (i5 : inb (x3 + (5 : Int32)) N = true) (hk : ∀ ν2 a2 b2, Inv a2 b2 tau ν2 → k18 (x3 + (6 : Int32)) ν2 = some true) : Lw_887 N xs k18 x3 ν = some true := by
  obtain ⟨v, ν1, ν2, a2, b2, e1, e2, hI⟩ := st_spans h (xs (x3 + (1 : Int32)).toNatClampNeg) (xs (x3 + (2 : Int32)).toNatClampNeg)
  unfold Lw_887 Lw_1706
  simp only [i1, i2, i3, i4, i5, ↓reduceIte, e1, e2, Option.bind_some]
  exact hk ν2 a2 b2 hI
theorem lc_can {a b : Nat → Nat} {ν : Nm} {N : Nat} {xs : Nat → Int32} {k18 : Int32 → Nm → Option Bool} {x3 : Int32} (h : Inv a b tau ν) (i1 : inb (x3 + (1 : Int32)) N = true) (i2 : inb (x3 + (2 : Int32)) N = true) (i3 : inb (x3 + (3 : Int32)) N = true) (i4 : inb (x3 + (4 : Int32)) N = true) (i5 : inb (x3 + (5 : Int32)) N = true) (hk : ∀ ν2 a2 b2, Inv a2 b2 tau ν2 → k18 (x3 + (6 : Int32)) ν2 = some true) : Lw_920 N xs k18 x3 ν = some true := by
  obtain ⟨v, ν1, ν2, a2, b2, e1, e2, hI⟩ := st_can h (xs (x3 + (1 : Int32)).toNatClampNeg) (xs (x3 + (2 : Int32)).toNatClampNeg)
  unfold Lw_920 Lw_1706
  simp only [i1, i2, i3, i4, i5, ↓reduceIte, e1, e2, Option.bind_some]
  exact hk ν2 a2 b2 hI
theorem lc_fewest {a b : Nat → Nat} {ν : Nm} {N : Nat} {xs : Nat → Int32} {k18 : Int32 → Nm → Option Bool} {x3 : Int32} (h : Inv a b tau ν) (i1 : inb (x3 + (1 : Int32)) N = true) (i2 : inb (x3 + (2 : Int32)) N = true) (i3 : inb (x3 + (3 : Int32)) N = true) (i4 : inb (x3 + (4 : Int32)) N = true) (i5 : inb (x3 + (5 : Int32)) N = true) (hk : ∀ ν2 a2 b2, Inv a2 b2 tau ν2 → k18 (x3 + (6 : Int32)) ν2 = some true) : Lw_953 N xs k18 x3 ν = some true := by
  obtain ⟨v, ν1, ν2, a2, b2, e1, e2, hI⟩ := st_fewest h (xs (x3 + (1 : Int32)).toNatClampNeg)
  unfold Lw_953 Lw_1706
  simp only [i1, i2, i3, i4, i5, ↓reduceIte, e1, e2, Option.bind_some]
  exact hk ν2 a2 b2 hI
theorem lc_cheapest {a b : Nat → Nat} {ν : Nm} {N : Nat} {xs : Nat → Int32} {k18 : Int32 → Nm → Option Bool} {x3 : Int32} (h : Inv a b tau ν) (i1 : inb (x3 + (1 : Int32)) N = true) (i2 : inb (x3 + (2 : Int32)) N = true) (i3 : inb (x3 + (3 : Int32)) N = true) (i4 : inb (x3 + (4 : Int32)) N = true) (i5 : inb (x3 + (5 : Int32)) N = true) (hk : ∀ ν2 a2 b2, Inv a2 b2 tau ν2 → k18 (x3 + (6 : Int32)) ν2 = some true) : Lw_976 N xs k18 x3 ν = some true := by
  obtain ⟨v, ν1, ν2, a2, b2, e1, e2, hI⟩ := st_cheapest h (xs (x3 + (1 : Int32)).toNatClampNeg)
  unfold Lw_976 Lw_1706
  simp only [i1, i2, i3, i4, i5, ↓reduceIte, e1, e2, Option.bind_some]
  exact hk ν2 a2 b2 hI
theorem lc_row {a b : Nat → Nat} {ν : Nm} {N : Nat} {xs : Nat → Int32} {k18 : Int32 → Nm → Option Bool} {x3 : Int32} (h : Inv a b tau ν) (i1 : inb (x3 + (1 : Int32)) N = true) (i2 : inb (x3 + (2 : Int32)) N = true) (i3 : inb (x3 + (3 : Int32)) N = true) (i4 : inb (x3 + (4 : Int32)) N = true) (i5 : inb (x3 + (5 : Int32)) N = true) (hk : ∀ ν2 a2 b2, Inv a2 b2 tau ν2 → k18 (x3 + (6 : Int32)) ν2 = some true) : Lw_999 N xs k18 x3 ν = some true := by
  obtain ⟨v, ν1, ν2, a2, b2, e1, e2, hI⟩ := st_row h (xs (x3 + (1 : Int32)).toNatClampNeg) (xs (x3 + (2 : Int32)).toNatClampNeg) (xs (x3 + (3 : Int32)).toNatClampNeg)
  unfold Lw_999 Lw_1706
  simp only [i1, i2, i3, i4, i5, ↓reduceIte, e1, e2, Option.bind_some]
  exact hk ν2 a2 b2 hI
theorem lc_between {a b : Nat → Nat} {ν : Nm} {N : Nat} {xs : Nat → Int32} {k18 : Int32 → Nm → Option Bool} {x3 : Int32} (h : Inv a b tau ν) (i1 : inb (x3 + (1 : Int32)) N = true) (i2 : inb (x3 + (2 : Int32)) N = true) (i3 : inb (x3 + (3 : Int32)) N = true) (i4 : inb (x3 + (4 : Int32)) N = true) (i5 : inb (x3 + (5 : Int32)) N = true) (hk : ∀ ν2 a2 b2, Inv a2 b2 tau ν2 → k18 (x3 + (6 : Int32)) ν2 = some true) : Lw_1042 N xs k18 x3 ν = some true := by
  by_cases z0 : xs (x3 + (3 : Int32)).toNatClampNeg = 0
  · obtain ⟨v, ν1, ν2, a2, b2, e1, e2, hI⟩ := st_between h (xs (x3 + (1 : Int32)).toNatClampNeg) (xs (x3 + (2 : Int32)).toNatClampNeg) 0
    unfold Lw_1042 Lw_1066 Lw_1093 Lw_1706
    simp only [i1, i2, i3, i4, i5, z0, ↓reduceIte, e1, e2, Option.bind_some]
    exact hk ν2 a2 b2 hI
  · obtain ⟨v, ν1, ν2, a2, b2, e1, e2, hI⟩ := st_between h (xs (x3 + (1 : Int32)).toNatClampNeg) (xs (x3 + (2 : Int32)).toNatClampNeg) 1
    unfold Lw_1042 Lw_1066 Lw_1093 Lw_1706
    simp only [i1, i2, i3, i4, i5, z0, ↓reduceIte, e1, e2, Option.bind_some]
    exact hk ν2 a2 b2 hI
theorem lc_nearest {a b : Nat → Nat} {ν : Nm} {N : Nat} {xs : Nat → Int32} {k18 : Int32 → Nm → Option Bool} {x3 : Int32} (h : Inv a b tau ν) (i1 : inb (x3 + (1 : Int32)) N = true) (i2 : inb (x3 + (2 : Int32)) N = true) (i3 : inb (x3 + (3 : Int32)) N = true) (i4 : inb (x3 + (4 : Int32)) N = true) (i5 : inb (x3 + (5 : Int32)) N = true) (hk : ∀ ν2 a2 b2, Inv a2 b2 tau ν2 → k18 (x3 + (6 : Int32)) ν2 = some true) : Lw_1101 N xs k18 x3 ν = some true := by
  obtain ⟨v, ν1, ν2, a2, b2, e1, e2, hI⟩ := st_nearest h (xs (x3 + (1 : Int32)).toNatClampNeg) (xs (x3 + (2 : Int32)).toNatClampNeg)
  unfold Lw_1101 Lw_1706
  simp only [i1, i2, i3, i4, i5, ↓reduceIte, e1, e2, Option.bind_some]
  exact hk ν2 a2 b2 hI
theorem lc_want {a b : Nat → Nat} {ν : Nm} {N : Nat} {xs : Nat → Int32} {k18 : Int32 → Nm → Option Bool} {x3 : Int32} (h : Inv a b tau ν) (i1 : inb (x3 + (1 : Int32)) N = true) (i2 : inb (x3 + (2 : Int32)) N = true) (i3 : inb (x3 + (3 : Int32)) N = true) (i4 : inb (x3 + (4 : Int32)) N = true) (i5 : inb (x3 + (5 : Int32)) N = true) (hk : ∀ ν2 a2 b2, Inv a2 b2 tau ν2 → k18 (x3 + (6 : Int32)) ν2 = some true) : Lw_1134 N xs k18 x3 ν = some true := by
  obtain ⟨v, ν1, ν2, a2, b2, e1, e2, hI⟩ := st_want h (xs (x3 + (1 : Int32)).toNatClampNeg)
  unfold Lw_1134 Lw_1706
  simp only [i1, i2, i3, i4, i5, ↓reduceIte, e1, e2, Option.bind_some]
  exact hk ν2 a2 b2 hI
theorem lc_bundle {a b : Nat → Nat} {ν : Nm} {N : Nat} {xs : Nat → Int32} {k18 : Int32 → Nm → Option Bool} {x3 : Int32} (h : Inv a b tau ν) (i1 : inb (x3 + (1 : Int32)) N = true) (i2 : inb (x3 + (2 : Int32)) N = true) (i3 : inb (x3 + (3 : Int32)) N = true) (i4 : inb (x3 + (4 : Int32)) N = true) (i5 : inb (x3 + (5 : Int32)) N = true) (hk : ∀ ν2 a2 b2, Inv a2 b2 tau ν2 → k18 (x3 + (6 : Int32)) ν2 = some true) : Lw_1157 N xs k18 x3 ν = some true := by
  by_cases z0 : xs (x3 + (1 : Int32)).toNatClampNeg = 0
  · obtain ⟨v, ν1, ν2, a2, b2, e1, e2, hI⟩ := st_bundle h 0
    unfold Lw_1157 Lw_1171 Lw_1188 Lw_1706
    simp only [i1, i2, i3, i4, i5, z0, ↓reduceIte, e1, e2, Option.bind_some]
    exact hk ν2 a2 b2 hI
  · obtain ⟨v, ν1, ν2, a2, b2, e1, e2, hI⟩ := st_bundle h 1
    unfold Lw_1157 Lw_1171 Lw_1188 Lw_1706
    simp only [i1, i2, i3, i4, i5, z0, ↓reduceIte, e1, e2, Option.bind_some]
    exact hk ν2 a2 b2 hI
theorem lc_part {a b : Nat → Nat} {ν : Nm} {N : Nat} {xs : Nat → Int32} {k18 : Int32 → Nm → Option Bool} {x3 : Int32} (h : Inv a b tau ν) (i1 : inb (x3 + (1 : Int32)) N = true) (i2 : inb (x3 + (2 : Int32)) N = true) (i3 : inb (x3 + (3 : Int32)) N = true) (i4 : inb (x3 + (4 : Int32)) N = true) (i5 : inb (x3 + (5 : Int32)) N = true) (hk : ∀ ν2 a2 b2, Inv a2 b2 tau ν2 → k18 (x3 + (6 : Int32)) ν2 = some true) : Lw_1196 N xs k18 x3 ν = some true := by
  obtain ⟨v, ν1, ν2, a2, b2, e1, e2, hI⟩ := st_part h (xs (x3 + (1 : Int32)).toNatClampNeg)
  unfold Lw_1196 Lw_1706
  simp only [i1, i2, i3, i4, i5, ↓reduceIte, e1, e2, Option.bind_some]
  exact hk ν2 a2 b2 hI
theorem lc_crews {a b : Nat → Nat} {ν : Nm} {N : Nat} {xs : Nat → Int32} {k18 : Int32 → Nm → Option Bool} {x3 : Int32} (h : Inv a b tau ν) (i1 : inb (x3 + (1 : Int32)) N = true) (i2 : inb (x3 + (2 : Int32)) N = true) (i3 : inb (x3 + (3 : Int32)) N = true) (i4 : inb (x3 + (4 : Int32)) N = true) (i5 : inb (x3 + (5 : Int32)) N = true) (hk : ∀ ν2 a2 b2, Inv a2 b2 tau ν2 → k18 (x3 + (6 : Int32)) ν2 = some true) : Lw_1219 N xs k18 x3 ν = some true := by
  obtain ⟨v, ν1, ν2, a2, b2, e1, e2, hI⟩ := st_crews h (xs (x3 + (1 : Int32)).toNatClampNeg) (xs (x3 + (2 : Int32)).toNatClampNeg)
  unfold Lw_1219 Lw_1706
  simp only [i1, i2, i3, i4, i5, ↓reduceIte, e1, e2, Option.bind_some]
  exact hk ν2 a2 b2 hI
theorem lc_take {a b : Nat → Nat} {ν : Nm} {N : Nat} {xs : Nat → Int32} {k18 : Int32 → Nm → Option Bool} {x3 : Int32} (h : Inv a b tau ν) (i1 : inb (x3 + (1 : Int32)) N = true) (i2 : inb (x3 + (2 : Int32)) N = true) (i3 : inb (x3 + (3 : Int32)) N = true) (i4 : inb (x3 + (4 : Int32)) N = true) (i5 : inb (x3 + (5 : Int32)) N = true) (hk : ∀ ν2 a2 b2, Inv a2 b2 tau ν2 → k18 (x3 + (6 : Int32)) ν2 = some true) : Lw_1252 N xs k18 x3 ν = some true := by
  obtain ⟨v, ν1, ν2, a2, b2, e1, e2, hI⟩ := st_take h (xs (x3 + (1 : Int32)).toNatClampNeg) (xs (x3 + (2 : Int32)).toNatClampNeg)
  unfold Lw_1252 Lw_1706
  simp only [i1, i2, i3, i4, i5, ↓reduceIte, e1, e2, Option.bind_some]
  exact hk ν2 a2 b2 hI
theorem lc_wet {a b : Nat → Nat} {ν : Nm} {N : Nat} {xs : Nat → Int32} {k18 : Int32 → Nm → Option Bool} {x3 : Int32} (h : Inv a b tau ν) (i1 : inb (x3 + (1 : Int32)) N = true) (i2 : inb (x3 + (2 : Int32)) N = true) (i3 : inb (x3 + (3 : Int32)) N = true) (i4 : inb (x3 + (4 : Int32)) N = true) (i5 : inb (x3 + (5 : Int32)) N = true) (hk : ∀ ν2 a2 b2, Inv a2 b2 tau ν2 → k18 (x3 + (6 : Int32)) ν2 = some true) : Lw_1285 N xs k18 x3 ν = some true := by
  by_cases z0 : xs (x3 + (2 : Int32)).toNatClampNeg = 0
  · obtain ⟨v, ν1, ν2, a2, b2, e1, e2, hI⟩ := st_wet h (xs (x3 + (1 : Int32)).toNatClampNeg) 0
    unfold Lw_1285 Lw_1304 Lw_1326 Lw_1706
    simp only [i1, i2, i3, i4, i5, z0, ↓reduceIte, e1, e2, Option.bind_some]
    exact hk ν2 a2 b2 hI
  · obtain ⟨v, ν1, ν2, a2, b2, e1, e2, hI⟩ := st_wet h (xs (x3 + (1 : Int32)).toNatClampNeg) 1
    unfold Lw_1285 Lw_1304 Lw_1326 Lw_1706
    simp only [i1, i2, i3, i4, i5, z0, ↓reduceIte, e1, e2, Option.bind_some]
    exact hk ν2 a2 b2 hI
theorem lc_tried {a b : Nat → Nat} {ν : Nm} {N : Nat} {xs : Nat → Int32} {k18 : Int32 → Nm → Option Bool} {x3 : Int32} (h : Inv a b tau ν) (i1 : inb (x3 + (1 : Int32)) N = true) (i2 : inb (x3 + (2 : Int32)) N = true) (i3 : inb (x3 + (3 : Int32)) N = true) (i4 : inb (x3 + (4 : Int32)) N = true) (i5 : inb (x3 + (5 : Int32)) N = true) (hk : ∀ ν2 a2 b2, Inv a2 b2 tau ν2 → k18 (x3 + (6 : Int32)) ν2 = some true) : Lw_1334 N xs k18 x3 ν = some true := by
  by_cases z0 : xs (x3 + (2 : Int32)).toNatClampNeg = 0
  · obtain ⟨v, ν1, ν2, a2, b2, e1, e2, hI⟩ := st_tried h (xs (x3 + (1 : Int32)).toNatClampNeg) 0
    unfold Lw_1334 Lw_1353 Lw_1375 Lw_1706
    simp only [i1, i2, i3, i4, i5, z0, ↓reduceIte, e1, e2, Option.bind_some]
    exact hk ν2 a2 b2 hI
  · obtain ⟨v, ν1, ν2, a2, b2, e1, e2, hI⟩ := st_tried h (xs (x3 + (1 : Int32)).toNatClampNeg) 1
    unfold Lw_1334 Lw_1353 Lw_1375 Lw_1706
    simp only [i1, i2, i3, i4, i5, z0, ↓reduceIte, e1, e2, Option.bind_some]
    exact hk ν2 a2 b2 hI
theorem lc_suspects {a b : Nat → Nat} {ν : Nm} {N : Nat} {xs : Nat → Int32} {k18 : Int32 → Nm → Option Bool} {x3 : Int32} (h : Inv a b tau ν) (i1 : inb (x3 + (1 : Int32)) N = true) (i2 : inb (x3 + (2 : Int32)) N = true) (i3 : inb (x3 + (3 : Int32)) N = true) (i4 : inb (x3 + (4 : Int32)) N = true) (i5 : inb (x3 + (5 : Int32)) N = true) (hk : ∀ ν2 a2 b2, Inv a2 b2 tau ν2 → k18 (x3 + (6 : Int32)) ν2 = some true) : Lw_1383 N xs k18 x3 ν = some true := by
  obtain ⟨v, e1, e2⟩ := st_suspects h (xs (x3 + (1 : Int32)).toNatClampNeg)
  unfold Lw_1383 Lw_1706
  simp only [i1, i2, i3, i4, i5, ↓reduceIte, e1, e2, Option.bind_some]
  exact hk ν a b h
theorem lc_test {a b : Nat → Nat} {ν : Nm} {N : Nat} {xs : Nat → Int32} {k18 : Int32 → Nm → Option Bool} {x3 : Int32} (h : Inv a b tau ν) (i1 : inb (x3 + (1 : Int32)) N = true) (i2 : inb (x3 + (2 : Int32)) N = true) (i3 : inb (x3 + (3 : Int32)) N = true) (i4 : inb (x3 + (4 : Int32)) N = true) (i5 : inb (x3 + (5 : Int32)) N = true) (hk : ∀ ν2 a2 b2, Inv a2 b2 tau ν2 → k18 (x3 + (6 : Int32)) ν2 = some true) : Lw_1406 N xs k18 x3 ν = some true := by
  obtain ⟨v, e1, e2⟩ := st_test h 
  unfold Lw_1406 Lw_1706
  simp only [i1, i2, i3, i4, i5, ↓reduceIte, e1, e2, Option.bind_some]
  exact hk ν a b h
theorem lc_said {a b : Nat → Nat} {ν : Nm} {N : Nat} {xs : Nat → Int32} {k18 : Int32 → Nm → Option Bool} {x3 : Int32} (h : Inv a b tau ν) (i1 : inb (x3 + (1 : Int32)) N = true) (i2 : inb (x3 + (2 : Int32)) N = true) (i3 : inb (x3 + (3 : Int32)) N = true) (i4 : inb (x3 + (4 : Int32)) N = true) (i5 : inb (x3 + (5 : Int32)) N = true) (hk : ∀ ν2 a2 b2, Inv a2 b2 tau ν2 → k18 (x3 + (6 : Int32)) ν2 = some true) : Lw_1549 N xs k18 x3 ν = some true := by
  obtain ⟨v, ν1, ν2, a2, b2, e1, e2, hI⟩ := st_said h (xs (x3 + (1 : Int32)).toNatClampNeg) (xs (x3 + (2 : Int32)).toNatClampNeg)
  unfold Lw_1549 Lw_1706
  simp only [i1, i2, i3, i4, i5, ↓reduceIte, e1, e2, Option.bind_some]
  exact hk ν2 a2 b2 hI
theorem lc_whose {a b : Nat → Nat} {ν : Nm} {N : Nat} {xs : Nat → Int32} {k18 : Int32 → Nm → Option Bool} {x3 : Int32} (h : Inv a b tau ν) (i1 : inb (x3 + (1 : Int32)) N = true) (i2 : inb (x3 + (2 : Int32)) N = true) (i3 : inb (x3 + (3 : Int32)) N = true) (i4 : inb (x3 + (4 : Int32)) N = true) (i5 : inb (x3 + (5 : Int32)) N = true) (hk : ∀ ν2 a2 b2, Inv a2 b2 tau ν2 → k18 (x3 + (6 : Int32)) ν2 = some true) : Lw_1582 N xs k18 x3 ν = some true := by
  obtain ⟨v, ν1, ν2, a2, b2, e1, e2, hI⟩ := st_whose tau_T h 
  unfold Lw_1582 Lw_1706
  simp only [i1, i2, i3, i4, i5, ↓reduceIte, e1, e2, Option.bind_some]
  exact hk ν2 a2 b2 hI
theorem lc_longest {a b : Nat → Nat} {ν : Nm} {N : Nat} {xs : Nat → Int32} {k18 : Int32 → Nm → Option Bool} {x3 : Int32} (h : Inv a b tau ν) (i1 : inb (x3 + (1 : Int32)) N = true) (i2 : inb (x3 + (2 : Int32)) N = true) (i3 : inb (x3 + (3 : Int32)) N = true) (i4 : inb (x3 + (4 : Int32)) N = true) (i5 : inb (x3 + (5 : Int32)) N = true) (hk : ∀ ν2 a2 b2, Inv a2 b2 tau ν2 → k18 (x3 + (6 : Int32)) ν2 = some true) : Lw_1595 N xs k18 x3 ν = some true := by
  obtain ⟨v, e1, e2⟩ := st_longest h 
  unfold Lw_1595 Lw_1706
  simp only [i1, i2, i3, i4, i5, ↓reduceIte, e1, e2, Option.bind_some]
  exact hk ν a b h
theorem lc_burning {a b : Nat → Nat} {ν : Nm} {N : Nat} {xs : Nat → Int32} {k18 : Int32 → Nm → Option Bool} {x3 : Int32} (h : Inv a b tau ν) (i1 : inb (x3 + (1 : Int32)) N = true) (i2 : inb (x3 + (2 : Int32)) N = true) (i3 : inb (x3 + (3 : Int32)) N = true) (i4 : inb (x3 + (4 : Int32)) N = true) (i5 : inb (x3 + (5 : Int32)) N = true) (hk : ∀ ν2 a2 b2, Inv a2 b2 tau ν2 → k18 (x3 + (6 : Int32)) ν2 = some true) : Lw_1608 N xs k18 x3 ν = some true := by
  obtain ⟨v, e1, e2⟩ := st_burning h 
  unfold Lw_1608 Lw_1706
  simp only [i1, i2, i3, i4, i5, ↓reduceIte, e1, e2, Option.bind_some]
  exact hk ν a b h
theorem lc_dead {a b : Nat → Nat} {ν : Nm} {N : Nat} {xs : Nat → Int32} {k18 : Int32 → Nm → Option Bool} {x3 : Int32} (h : Inv a b tau ν) (i1 : inb (x3 + (1 : Int32)) N = true) (i2 : inb (x3 + (2 : Int32)) N = true) (i3 : inb (x3 + (3 : Int32)) N = true) (i4 : inb (x3 + (4 : Int32)) N = true) (i5 : inb (x3 + (5 : Int32)) N = true) (hk : ∀ ν2 a2 b2, Inv a2 b2 tau ν2 → k18 (x3 + (6 : Int32)) ν2 = some true) : Lw_1621 N xs k18 x3 ν = some true := by
  obtain ⟨v, e1, e2⟩ := st_dead h 
  unfold Lw_1621 Lw_1706
  simp only [i1, i2, i3, i4, i5, ↓reduceIte, e1, e2, Option.bind_some]
  exact hk ν a b h
theorem lc_ledger {a b : Nat → Nat} {ν : Nm} {N : Nat} {xs : Nat → Int32} {k18 : Int32 → Nm → Option Bool} {x3 : Int32} (h : Inv a b tau ν) (i1 : inb (x3 + (1 : Int32)) N = true) (i2 : inb (x3 + (2 : Int32)) N = true) (i3 : inb (x3 + (3 : Int32)) N = true) (i4 : inb (x3 + (4 : Int32)) N = true) (i5 : inb (x3 + (5 : Int32)) N = true) (hk : ∀ ν2 a2 b2, Inv a2 b2 tau ν2 → k18 (x3 + (6 : Int32)) ν2 = some true) : Lw_1634 N xs k18 x3 ν = some true := by
  obtain ⟨v, e1, e2⟩ := st_ledger h (xs (x3 + (1 : Int32)).toNatClampNeg)
  unfold Lw_1634 Lw_1706
  simp only [i1, i2, i3, i4, i5, ↓reduceIte, e1, e2, Option.bind_some]
  exact hk ν a b h
theorem lc_image {a b : Nat → Nat} {ν : Nm} {N : Nat} {xs : Nat → Int32} {k18 : Int32 → Nm → Option Bool} {x3 : Int32} (h : Inv a b tau ν) (i1 : inb (x3 + (1 : Int32)) N = true) (i2 : inb (x3 + (2 : Int32)) N = true) (i3 : inb (x3 + (3 : Int32)) N = true) (i4 : inb (x3 + (4 : Int32)) N = true) (i5 : inb (x3 + (5 : Int32)) N = true) (hk : ∀ ν2 a2 b2, Inv a2 b2 tau ν2 → k18 (x3 + (6 : Int32)) ν2 = some true) : Lw_1657 N xs k18 x3 ν = some true := by
  obtain ⟨v, ν1, ν2, a2, b2, e1, e2, hI⟩ := st_image h 
  unfold Lw_1657 Lw_1706
  simp only [i1, i2, i3, i4, i5, ↓reduceIte, e1, e2, Option.bind_some]
  exact hk ν2 a2 b2 hI
theorem lc_back {a b : Nat → Nat} {ν : Nm} {N : Nat} {xs : Nat → Int32} {k18 : Int32 → Nm → Option Bool} {x3 : Int32} (h : Inv a b tau ν) (i1 : inb (x3 + (1 : Int32)) N = true) (i2 : inb (x3 + (2 : Int32)) N = true) (i3 : inb (x3 + (3 : Int32)) N = true) (i4 : inb (x3 + (4 : Int32)) N = true) (i5 : inb (x3 + (5 : Int32)) N = true) (hk : ∀ ν2 a2 b2, Inv a2 b2 tau ν2 → k18 (x3 + (6 : Int32)) ν2 = some true) : Lw_1670 N xs k18 x3 ν = some true := by
  obtain ⟨v, ν1, ν2, a2, b2, e1, e2, hI⟩ := st_back tau_B h 
  unfold Lw_1670 Lw_1706
  simp only [i1, i2, i3, i4, i5, ↓reduceIte, e1, e2, Option.bind_some]
  exact hk ν2 a2 b2 hI
theorem lc_about {a b : Nat → Nat} {ν : Nm} {N : Nat} {xs : Nat → Int32} {k18 : Int32 → Nm → Option Bool} {x3 : Int32} (h : Inv a b tau ν) (i1 : inb (x3 + (1 : Int32)) N = true) (i2 : inb (x3 + (2 : Int32)) N = true) (i3 : inb (x3 + (3 : Int32)) N = true) (i4 : inb (x3 + (4 : Int32)) N = true) (i5 : inb (x3 + (5 : Int32)) N = true) (hk : ∀ ν2 a2 b2, Inv a2 b2 tau ν2 → k18 (x3 + (6 : Int32)) ν2 = some true) : Lw_1683 N xs k18 x3 ν = some true := by
  obtain ⟨v, e1, e2⟩ := st_about h (xs (x3 + (1 : Int32)).toNatClampNeg)
  unfold Lw_1683 Lw_1706
  simp only [i1, i2, i3, i4, i5, ↓reduceIte, e1, e2, Option.bind_some]
  exact hk ν a b h
