/-! The start keeps the invariant. -/
def aS (j : Nat) : Nat := if j = 1 then 2 else if j = 9 then 311 else 0
theorem aS_0 {j : Nat} (h1 : j ≠ 1) (h9 : j ≠ 9) : aS j = 0 := by unfold aS; rw [if_neg h1, if_neg h9]
theorem s_pl1 : ∀ p ∈ plL, gi ν1 (1 + p.2.1) p.2.2 = nI (aS p.1) := by decide +kernel
theorem s_pl2 : ∀ p ∈ plL, gi ν1 (136 + p.2.1) p.2.2 = nI (aS p.1) := by decide +kernel
theorem s_r : gi ν1 1 7 = -1 ∧ gi ν1 136 7 = -1 ∧ gi ν1 6 1 = 0 ∧ gi ν1 141 1 = 0 := by decide +kernel
theorem s_t : ∀ i, i < 8 → gi ν1 133 i = 0 ∧ gi ν1 135 i = 0 ∧ gi ν1 268 i = 0 ∧ gi ν1 270 i = 0 := by decide +kernel
theorem s_m : ∀ h, h < 56 → ∀ l, l < 25 → gi ν1 314 (25 * h + l) = 0 := by decide +kernel
theorem s_x : gi ν1 313 23 = 1 ∧ gi ν1 271 1 = 0 ∧ gi ν1 313 4 = 0 ∧ gi ν1 271 2 = gi ν1 313 5 ∧ gi ν1 271 3 = gi ν1 313 6 ∧ gi ν1 276 4 = 0 ∧ gi ν1 276 5 = 0 := by decide +kernel
theorem s_b : ∀ h, h < 12 → ∀ l, l < 25 → gi ν1 272 (25 * h + l) = 0 ∧ gi ν1 317 (25 * h + l) = 0 := by decide +kernel
theorem WF_S : WF aS := by
  refine ⟨fun i hi => ?_, ?_, ?_, ⟨fun c hc => ⟨?_, ?_, ?_⟩, fun c _ hc => ?_⟩, fun i _ hi => ?_, fun i _ hi => ?_, fun i _ hi => ?_⟩
  · by_cases h1 : i = 1
    · subst h1; decide
    · by_cases h9 : i = 9
      · subst h9; decide
      · rw [aS_0 h1 h9]; exact Nat.zero_le _
  · show 1 ≤ aS 1; decide
  · show aS 3 ≤ aS 2; decide
  · intro z; rw [aS_0 (by omega) (by omega)] at z; exact absurd rfl z
  · intro _; rw [aS_0 (by omega) (by omega)]
  · intro _; rw [aS_0 (by omega) (by omega)]; exact Nat.zero_le _
  · have : c < aS 0 := hc
    rw [aS_0 (by omega) (by omega)] at this; omega
  · have : i < aS 5 := hi
    rw [aS_0 (by omega) (by omega)] at this; omega
  · have : i < aS 7 := hi
    rw [aS_0 (by omega) (by omega)] at this; omega
  · have : i < aS 4 := hi
    rw [aS_0 (by omega) (by omega)] at this; omega
theorem CX_S {s : Nat} {ν : Nm} (hp : ∀ p ∈ plL, gi ν (s + p.2.1) p.2.2 = nI (aS p.1)) (hr : gi ν s 7 = -1) (h5 : gi ν (s + 5) 1 = 0) (ht : ∀ i, i < 8 → gi ν (s + 132) i = 0 ∧ gi ν (s + 134) i = 0) : CX s aS ν := by
  refine ⟨hp, ?_, ⟨fun i hi => ?_, fun i hi => ?_⟩, ⟨0, by omega, h5, fun i hi => ?_⟩⟩
  · show gi ν s 7 = nI (aS 3) - 1
    rw [hr]; rfl
  · rw [(ht i hi).1, aS_0 (by omega) (by omega), aS_0 (by omega) (by omega)]; rfl
  · rw [(ht i hi).2, aS_0 (by omega) (by omega), aS_0 (by omega) (by omega)]; rfl
  · rw [aS_0 (by omega) (by omega)] at hi; omega
theorem start_ok : ∃ ν3 ν4 : Nm, Md_copy 314 315 ν2 = some ν3 ∧ Md_forget ν3 = some ν4 ∧ Inv aS aS tau ν4 := by
  obtain ⟨ν3, c1, c2, c3, c4⟩ := md_copy_fr (show (314 : Nat) ≠ 315 by omega) ν2
  obtain ⟨ν4, f1, f2, f3, f4⟩ := m_forget ν3
  have g : ∀ q j, q ≠ 314 → q ≠ 315 → q ≠ 328 → gi ν4 q j = gi ν1 q j := fun q j h1 h2 h3 => by
    rw [f2 q j h3, c2 q j h2]
    show gi (si (si (si ν1 314 9 311) 314 1 2) 314 3 (-1)) q j = _
    rw [gi_si_q _ _ _ _ h1, gi_si_q _ _ _ _ h1, gi_si_q _ _ _ _ h1]
  have m2 : MX 314 aS ν2 := by
    show MX 314 aS (si (si (si ν1 314 9 311) 314 1 2) 314 3 (-1))
    refine ⟨fun j hj h3 => ?_, by rw [gi_si_s]; rfl⟩
    rw [gi_si_j _ _ _ h3]
    by_cases e1 : j = 1
    · subst e1; rw [gi_si_s]; rfl
    · rw [gi_si_j _ _ _ e1]
      by_cases e9 : j = 9
      · subst e9; rw [gi_si_s]; rfl
      · rw [gi_si_j _ _ _ e9, aS_0 e1 e9]
        have := s_m (j / 25) (by omega) (j % 25) (by omega)
        rw [show 25 * (j / 25) + j % 25 = j by omega] at this
        rw [this]; rfl
  obtain ⟨r1, r2, r3, r4⟩ := s_r
  obtain ⟨x1, x2, x3, x4, x5, x6, x7⟩ := s_x
  refine ⟨ν3, ν4, c1, f1, WF_S, WF_S, CX_S (fun p hp => ?_) ?_ ?_ (fun i hi => ?_), CX_S (fun p hp => ?_) ?_ ?_ (fun i hi => ?_), ?_, ?_, ⟨?_, ⟨fun _ => default, fun t _ ht => ?_⟩, ⟨⟨0, by omega, ?_, fun s _ h2 h3 => ?_⟩, 0, by omega, ?_, fun q => by omega⟩, RM_none f4⟩, ⟨Nat.le_refl _, Nat.le_refl _, fun _ _ _ => rfl⟩, ?_, ⟨0, by omega, ?_, ?_⟩, fun i hi => ⟨0, by omega, ?_, ?_⟩, ?_, ?_⟩
  · have := plNo p hp
    rw [g _ _ (by omega) (by omega) (by omega)]; exact s_pl1 p hp
  · rw [g _ _ (by omega) (by omega) (by omega)]; exact r1
  · rw [g _ _ (by omega) (by omega) (by omega)]; exact r3
  · rw [g _ _ (by omega) (by omega) (by omega), g _ _ (by omega) (by omega) (by omega)]; exact ⟨(s_t i hi).1, (s_t i hi).2.1⟩
  · have := plNo p hp
    rw [g _ _ (by omega) (by omega) (by omega)]; exact s_pl2 p hp
  · rw [g _ _ (by omega) (by omega) (by omega)]; exact r2
  · rw [g _ _ (by omega) (by omega) (by omega)]; exact r4
  · rw [g _ _ (by omega) (by omega) (by omega), g _ _ (by omega) (by omega) (by omega)]; exact (s_t i hi).2.2
  · exact MX_keep m2 (fun j => by rw [f2 _ _ (by omega), c2 _ _ (by omega)])
  · refine ⟨fun j h1 h2 => ?_, ?_⟩
    · rw [f2 _ _ (by omega), c3 j h1]; exact m2.1 j h1 h2
    · rw [f2 _ _ (by omega), c3 3 (by omega)]; exact m2.2
  · rw [aS_0 (by omega) (by omega)]; omega
  · rw [aS_0 (by omega) (by omega)] at ht; omega
  · rw [g _ _ (by omega) (by omega) (by omega)]; exact x6
  · rw [Nat.zero_div] at h3; omega
  · rw [g _ _ (by omega) (by omega) (by omega)]; exact x7
  · rw [g _ _ (by omega) (by omega) (by omega)]; exact x1
  · rw [g _ _ (by omega) (by omega) (by omega)]; exact x2
  · rw [g _ _ (by omega) (by omega) (by omega)]; exact x3
  · have := (s_b (i / 25) (by omega) (i % 25) (by omega)).1
    rw [show 25 * (i / 25) + i % 25 = i by omega] at this
    rw [g _ _ (by omega) (by omega) (by omega)]; exact this
  · have := (s_b (i / 25) (by omega) (i % 25) (by omega)).2
    rw [show 25 * (i / 25) + i % 25 = i by omega] at this
    rw [g _ _ (by omega) (by omega) (by omega)]; exact this
  · rw [g _ _ (by omega) (by omega) (by omega), g _ _ (by omega) (by omega) (by omega)]; exact x4
  · rw [g _ _ (by omega) (by omega) (by omega), g _ _ (by omega) (by omega) (by omega)]; exact x5
/-- all that is left is text -/
theorem pure_of (ht : TXT) (L : Nat) (hL : L ≤ 384) (xs : Nat → Int32) : ∃ ν3 ν4 : Nm, Md_copy 314 315 ν2 = some ν3 ∧ Md_forget ν3 = some ν4 ∧ Lw_18 L xs FU 0 ν4 = some true := by
  obtain ⟨ν3, ν4, h1, h2, h3⟩ := start_ok
  exact ⟨ν3, ν4, h1, h2, lw_all ht hL xs 400 FU 0 ν4 aS aS (by omega) (by unfold FU; omega) h3⟩
