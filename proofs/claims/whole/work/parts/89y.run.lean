/-! The model does what the machine does. -/
theorem nm_tok : ∀ T, T < 132 → nmT T < 7 → T ≠ 0 ∧ T ≠ 131 ∧ T ≠ 1 := by decide +kernel
theorem nm_6 : ∀ T, T < 132 → (nmT T = 6 ↔ T = 26) := by decide +kernel
theorem MTk_le {β : Nat → Nat} {n p : Nat} {ν : Nm} (h : MTk β n p ν) : tT β n p ≤ 131 := tr_le h.2.2.2.2
theorem tN_le (β : Nat → Nat) (n p : Nat) : tN β n p ≤ 999999 := nmM_le β n 300 _ 0 (by omega)
theorem m_beg1 {β : Nat → Nat} {n t L p : Nat} {X : List Nat} {c : List (Nat × Nat)} {ν : Nm} (hL : L < 10) (h : Rep β n t L (false, p, X, c) ν) {r : Nat × Ms} (hr : mbeg β n L p X c = some r) : ∃ ν2, Md_beginOne ν = some (nI r.1, ν2) ∧ Rep β n t L r.2 ν2 ∧ Fr (frR t) ν ν2 := by
  obtain ⟨r1, r2, r3, r4, r5, r6, r7, r8⟩ := Rep_ex h
  have hR := r1.2.2.2.2
  have hle := MTk_le r1
  have hN := tN_le β n p
  have e1 : (gi ν 313 9 = (1 : Int32)) = (tT β n p = 1) := tr_eq hR (show (1, 1) ∈ tkL by decide)
  have e40 : (gi ν 313 9 = (40 : Int32)) = (tT β n p = 40) := tr_eq hR (show (40, 40) ∈ tkL by decide)
  have e45 : (gi ν 313 9 = (45 : Int32)) = (tT β n p = 45) := tr_eq hR (show (45, 45) ∈ tkL by decide)
  have n7 : nmT (tT β n p) ≤ 7 := by
    unfold nmT
    repeat' split
    all_goals omega
  unfold mbeg at hr
  unfold Md_beginOne
  simp only [e1]
  by_cases c1 : tT β n p = 1
  · rw [if_pos c1] at hr
    rw [if_neg (fun z => z c1), r1.2.2.2.1 c1]
    simp only [show (nI (tN β n p) ≤ (9999 : Int32)) = (tN β n p ≤ 9999) from nI_le' (b := 9999) (by omega) (by omega)]
    by_cases c2 : 9999 < tN β n p
    · rw [if_pos c2] at hr
      rw [if_neg (by omega)]
      have e := Option.some.inj hr
      subst e
      exact ⟨ν, rfl, h, Fr_rfl _ _⟩
    · rw [if_neg c2] at hr
      rw [if_pos (by omega)]
      have e := Option.some.inj hr
      subst e
      unfold Md_beginOne_20 Md_beginOne_40 Md_beginOne_52 Md_beginOne_66
      have en : nmT (tT β n p) = 7 := by rw [c1]; decide
      rw [m_nameOf hR, Option.bind_some, en]
      simp only [e1]
      rw [if_pos (by decide), if_pos c1, if_neg (fun z => z c1), if_neg (fun z => z c1), r1.2.2.2.1 c1]
      exact m_leaf h (by omega) (by omega) 0 (tN β n p)
  · rw [if_neg c1] at hr
    rw [if_pos c1]
    unfold Md_beginOne_20
    rw [m_nameOf hR, Option.bind_some]
    have h6 : (orN 7 (nmT (tT β n p)) = (6 : Int32)) = (tT β n p = 26) := by
      unfold orN
      apply propext
      rw [← nm_6 (tT β n p) (by omega)]
      by_cases z : nmT (tT β n p) < 7
      · rw [if_pos z, show (6 : Int32) = nI 6 from rfl, nI_eq' (by omega) (by omega)]
      · rw [if_neg z]
        have : nmT (tT β n p) = 7 := by omega
        rw [this]; decide
    have h14 : (gi ν 313 14 = (0 : Int32)) = (L = 0) := by rw [r4]; exact nI_eq' (b := 0) (by omega) (by omega)
    simp only [h6, h14]
    by_cases c2 : nmT (tT β n p) < 7
    · rw [if_pos c2] at hr
      obtain ⟨k1, k2, k3⟩ := nm_tok (tT β n p) (by omega) c2
      have go : Md_beginOne_40 (orN 7 (nmT (tT β n p))) ν = Md_beginOne_82 (nI (nmT (tT β n p))) (nI 1) ν := by
        unfold Md_beginOne_40 Md_beginOne_52 Md_beginOne_66 orN
        simp only [e1]
        rw [if_neg c1, if_pos c2, if_neg (nI_pos (by omega)), if_pos c1, if_pos c1]
        rfl
      rw [go]
      by_cases c3 : tT β n p = 26
      · rw [if_neg (fun z => z c3)]
        by_cases c4 : L = 0
        · rw [if_neg (fun z => z.2 c4)] at hr
          rw [if_pos c4]
          have e := Option.some.inj hr
          subst e
          exact m_leaf h k1 k2 1 _
        · rw [if_pos ⟨c3, c4⟩] at hr
          rw [if_neg c4]
          have e := Option.some.inj hr
          subst e
          exact ⟨ν, rfl, h, Fr_rfl _ _⟩
      · rw [if_neg (fun z => c3 z.1)] at hr
        rw [if_pos c3]
        have e := Option.some.inj hr
        subst e
        exact m_leaf h k1 k2 1 _
    · rw [if_neg c2] at hr
      have en : orN 7 (nmT (tT β n p)) = -1 := by unfold orN; rw [if_neg c2]
      have n26 : tT β n p ≠ 26 := fun z => by have := (nm_6 (tT β n p) (by omega)).mpr z; omega
      rw [if_pos n26, en]
      unfold Md_beginOne_40
      simp only [e1, e40, e45]
      rw [if_neg c1, if_pos (by decide), w_twos, w_out, w_if, w_not]
      simp only [Option.bind_some, m_isWord hR (show 2 ≤ 13 by omega) (by omega), m_isWord hR (show 2 ≤ 14 by omega) (by omega), m_isWord hR (show 2 ≤ 15 by omega) (by omega), m_isWord hR (show 2 ≤ 21 by omega) (by omega), b2d0, m_isAsk r2]
      have bd : ∀ {x : Option (Int32 × Nm)} {f : Nat} {s : Ms}, (∃ ν2, x = some (nI f, ν2) ∧ Rep β n t L s ν2 ∧ Fr (frR t) ν ν2) → ∃ ν2, (x.bind fun v => some (v.1, v.2)) = some (nI f, ν2) ∧ Rep β n t L s ν2 ∧ Fr (frR t) ν ν2 := by
        rintro x f s ⟨ν2, q1, q2⟩
        exact ⟨ν2, by rw [q1]; rfl, q2⟩
      by_cases d1 : tT β n p = 40
      · rw [if_pos d1] at hr
        rw [if_neg (fun z => z d1)]
        exact bd (m_open h (by omega) (by omega) (by decide) (by decide) hr)
      rw [if_neg d1] at hr
      rw [if_pos d1]
      by_cases d2 : tT β n p = 45
      · rw [if_pos d2] at hr
        rw [if_neg (fun z => z d2)]
        exact bd (m_open h (by omega) (by omega) (by decide) (by decide) hr)
      rw [if_neg d2] at hr
      rw [if_pos d2]
      by_cases d3 : tT β n p = 13
      · rw [if_pos d3] at hr
        rw [if_neg (fun z => z d3)]
        exact bd (m_open h (by omega) (by omega) (by decide) (by decide) hr)
      rw [if_neg d3] at hr
      rw [if_pos d3]
      by_cases d4 : tT β n p = 14
      · rw [if_pos d4] at hr
        rw [if_neg (fun z => z d4)]
        exact bd (m_open h (by omega) (by omega) (by decide) (by decide) hr)
      rw [if_neg d4] at hr
      rw [if_pos d4]
      by_cases d5 : tT β n p = 15
      · rw [if_pos d5] at hr
        rw [if_neg (fun z => z d5)]
        exact bd (m_open h (by omega) (by omega) (by decide) (by decide) hr)
      rw [if_neg d5] at hr
      rw [if_pos d5]
      by_cases d6 : tT β n p = 21
      · rw [if_neg (fun z => z d6)]
        cases d7 : askA X with
        | true =>
          rw [if_pos ⟨d6, d7⟩] at hr
          rw [if_neg (by rw [b2iT]; exact id)]
          exact bd (m_open h (by omega) (by omega) (by decide) (by decide) hr)
        | false =>
          rw [if_neg (fun z => by rw [d7] at z; exact absurd z.2 (by decide))] at hr
          rw [if_pos (by rw [b2iF]; exact True.intro)]
          have e := Option.some.inj hr
          subst e
          exact ⟨ν, rfl, h, Fr_rfl _ _⟩
      · rw [if_neg (fun z => d6 z.1)] at hr
        rw [if_pos d6]
        have e := Option.some.inj hr
        subst e
        exact ⟨ν, rfl, h, Fr_rfl _ _⟩
