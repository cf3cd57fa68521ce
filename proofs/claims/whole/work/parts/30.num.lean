/-! Numbers and memories: rows for the pure part. -/
theorem gi_si (ν : Nm) (q j q2 j2 : Nat) (v : Int32) : gi (si ν q j v) q2 j2 = if q2 = q ∧ j2 = j then v else gi ν q2 j2 := by
  unfold gi si va_up upd
  by_cases h : q2 = q
  · subst h
    by_cases h2 : j2 = j
    · simp [h2]
    · simp [h2]
  · simp [h]
theorem gi_si_q (ν : Nm) {q q2 : Nat} (j j2 : Nat) (v : Int32) (h : q2 ≠ q) : gi (si ν q j v) q2 j2 = gi ν q2 j2 := by
  rw [gi_si, if_neg (fun e => h e.1)]
theorem gi_si_j (ν : Nm) (q : Nat) {j j2 : Nat} (v : Int32) (h : j2 ≠ j) : gi (si ν q j v) q j2 = gi ν q j2 := by
  rw [gi_si, if_neg (fun e => h e.2)]
theorem gi_si_s (ν : Nm) (q j : Nat) (v : Int32) : gi (si ν q j v) q j = v := by
  rw [gi_si, if_pos ⟨rfl, rfl⟩]
theorem gi_sl (ν : Nm) (q j q2 j2 : Nat) (v : Int64) : gi (sl ν q j v) q2 j2 = gi ν q2 j2 := rfl
theorem gl_si (ν : Nm) (q j q2 j2 : Nat) (v : Int32) : gl (si ν q j v) q2 j2 = gl ν q2 j2 := rfl
theorem gx_si (ν : Nm) (q j : Nat) (v : Int32) : gx (si ν q j v) = gx ν := rfl
theorem gx_sl (ν : Nm) (q j : Nat) (v : Int64) : gx (sl ν q j v) = gx ν := rfl
theorem gi_sx (ν : Nm) (t q j : Nat) : gi (sx ν t) q j = gi ν q j := rfl
theorem gl_sx (ν : Nm) (t q j : Nat) : gl (sx ν t) q j = gl ν q j := rfl
theorem gl_sl (ν : Nm) (q j q2 j2 : Nat) (v : Int64) : gl (sl ν q j v) q2 j2 = if q2 = q ∧ j2 = j then v else gl ν q2 j2 := by
  unfold gl sl va_up vp_updL
  by_cases h : q2 = q
  · subst h
    by_cases h2 : j2 = j
    · simp [h2]
    · simp [h2]
  · simp [h]
theorem gi_scp (ν : Nm) (a sp b dp k q j : Nat) : gi (scp ν a sp b dp k) q j = if q = b ∧ dp ≤ j ∧ j < dp + k then gi ν a (sp + (j - dp)) else gi ν q j := by
  unfold gi scp va_up va_cpy
  by_cases h : q = b
  · subst h
    by_cases h2 : dp ≤ j ∧ j < dp + k
    · simp [h2]
    · simp [h2]
  · simp [h]
-- literals are numbers of the kind nI
theorem lit_nI (n : Nat) : (OfNat.ofNat n : Int32) = nI (OfNat.ofNat n) := Eq.trans rfl rfl
theorem inb_nI {i L : Nat} (h : i < 2 ^ 31) : inb (nI i) L = decide (i < L) := by
  unfold inb
  rw [nI_clamp h]
  simp [nI_pos' h]
theorem inb_neg {x : Int32} {L : Nat} (h : x < 0) : inb x L = false := by
  unfold inb
  have : ¬ (0 ≤ x) := fun q => Int32.not_le.mpr h q
  simp [this]
theorem nI_le' {a b : Nat} (ha : a < 2 ^ 31) (hb : b < 2 ^ 31) : (nI a ≤ nI b) = (a ≤ b) := propext (nI_leI ha hb)
theorem nI_lt' {a b : Nat} (ha : a < 2 ^ 31) (hb : b < 2 ^ 31) : (nI a < nI b) = (a < b) := propext (nI_ltI ha hb)
theorem nI_eq' {a b : Nat} (ha : a < 2 ^ 31) (hb : b < 2 ^ 31) : (nI a = nI b) = (a = b) := propext (nI_eq ha hb)
theorem b2i0 (b : Bool) : (b2i b = 0) = (b = false) := by cases b <;> simp [b2i]
theorem b2i_inj (a b : Bool) : (b2i a = b2i b) = (a = b) := by cases a <;> cases b <;> simp [b2i]
/-- a script's number: negative, or a number of the kind nI -/
theorem arg_cases (x : Int32) : x < 0 ∨ ∃ j : Nat, j < 2 ^ 31 ∧ x = nI j := by
  by_cases h : x < 0
  · exact Or.inl h
  · exact Or.inr (nI_of h)
/-- a loop that counts up: from i to n, a state that f changes -/
theorem FU_ge {n : Nat} (h : n ≤ 1000000) : n ≤ FU := by unfold FU; omega
-- the model's copy of a row
theorem Md_copy_2_eq (x0 x1 : Nat) (hne : x0 ≠ x1) : ∀ (k f i : Nat) (ν : Nm), i + k = 1385 → k < f → ∃ ν3, Md_copy_2 f x0 x1 (nI i) ν = some ν3 ∧ (∀ q j, ¬ (q = x1 ∧ i ≤ j ∧ j < 1385) → gi ν3 q j = gi ν q j) ∧ (∀ j, i ≤ j → j < 1385 → gi ν3 x1 j = gi ν x0 j) ∧ ν3.2 = ν.2 := by
  intro k
  induction k with
  | zero =>
    intro f i ν hi hf
    obtain ⟨f, rfl⟩ : ∃ f', f = f' + 1 := ⟨f - 1, by omega⟩
    refine ⟨ν, ?_, fun _ _ _ => rfl, fun j h1 h2 => by omega, rfl⟩
    rw [Md_copy_2, lit_nI, if_pos (by rw [nI_le' (by omega) (by omega)]; omega)]
  | succ k ih =>
    intro f i ν hi hf
    obtain ⟨f, rfl⟩ : ∃ f', f = f' + 1 := ⟨f - 1, by omega⟩
    obtain ⟨ν3, h1, h2, h3, h4⟩ := ih f (i + 1) (si ν x1 i (gi ν x0 i)) (by omega) (by omega)
    refine ⟨ν3, ?_, fun q j hq => ?_, fun j hj1 hj2 => ?_, h4⟩
    · rw [Md_copy_2, lit_nI, if_neg (by rw [nI_le' (by omega) (by omega)]; omega)]
      simp only [inb_nI (show i < 2 ^ 31 by omega), nI_clamp (show i < 2 ^ 31 by omega), lit_nI, nI_add]
      rw [if_pos (by simp; omega), if_pos (by simp; omega)]
      exact h1
    · rw [h2 q j (by omega), gi_si, if_neg (by omega)]
    · by_cases e : j = i
      · subst e
        rw [h2 x1 j (by omega), gi_si_s]
      · rw [h3 j (by omega) hj2, gi_si_q _ _ _ _ hne]
theorem Md_copy_eq (x0 x1 : Nat) (hne : x0 ≠ x1) (ν : Nm) : ∃ ν3, Md_copy x0 x1 ν = some ν3 ∧ (∀ q j, ¬ (q = x1 ∧ j < 1385) → gi ν3 q j = gi ν q j) ∧ (∀ j, j < 1385 → gi ν3 x1 j = gi ν x0 j) ∧ ν3.2 = ν.2 := by
  obtain ⟨ν3, h1, h2, h3, h4⟩ := Md_copy_2_eq x0 x1 hne 1385 FU 0 ν rfl (by unfold FU; omega)
  exact ⟨ν3, h1, fun q j h => h2 q j (by omega), fun j h => h3 j (by omega) h, h4⟩
