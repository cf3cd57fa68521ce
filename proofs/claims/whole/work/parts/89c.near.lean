/-! nearest -/
def nup (P : Nat → Bool) : Nat → Nat → Option Nat
  | 0, _ => none
  | d + 1, i => if P i = true then some i else nup P d (i + 1)
def ndn (P : Nat → Bool) : Nat → Option Nat
  | 0 => none
  | i + 1 => if P (i + 1) = true then some (i + 1) else ndn P i
theorem nup_some {P : Nat → Bool} {p : Nat} : ∀ (d i : Nat), nup P d i = some p → i ≤ p ∧ p < i + d ∧ P p = true ∧ ∀ z, i ≤ z → z < p → ¬ P z = true := by
  intro d
  induction d with
  | zero => intro i h; cases h
  | succ d ih =>
    intro i h
    unfold nup at h
    by_cases q : P i = true
    · rw [if_pos q] at h
      have := Option.some.inj h
      subst this
      exact ⟨by omega, by omega, q, fun z _ _ => by omega⟩
    · rw [if_neg q] at h
      obtain ⟨h1, h2, h3, h4⟩ := ih (i + 1) h
      refine ⟨by omega, by omega, h3, fun z z1 z2 => ?_⟩
      by_cases e : z = i
      · subst e; exact q
      · exact h4 z (by omega) z2
theorem nup_none {P : Nat → Bool} : ∀ (d i : Nat), nup P d i = none → ∀ z, i ≤ z → z < i + d → ¬ P z = true := by
  intro d
  induction d with
  | zero => intro i _ z z1 z2; omega
  | succ d ih =>
    intro i h z z1 z2
    unfold nup at h
    by_cases q : P i = true
    · rw [if_pos q] at h; cases h
    · rw [if_neg q] at h
      by_cases e : z = i
      · subst e; exact q
      · exact ih (i + 1) h z (by omega) (by omega)
theorem ndn_some {P : Nat → Bool} {p : Nat} : ∀ (i : Nat), ndn P i = some p → 1 ≤ p ∧ p ≤ i ∧ P p = true ∧ ∀ z, p < z → z ≤ i → ¬ P z = true := by
  intro i
  induction i with
  | zero => intro h; cases h
  | succ i ih =>
    intro h
    unfold ndn at h
    by_cases q : P (i + 1) = true
    · rw [if_pos q] at h
      have := Option.some.inj h
      subst this
      exact ⟨by omega, by omega, q, fun z _ _ => by omega⟩
    · rw [if_neg q] at h
      obtain ⟨h1, h2, h3, h4⟩ := ih h
      refine ⟨h1, by omega, h3, fun z z1 z2 => ?_⟩
      by_cases e : z = i + 1
      · subst e; exact q
      · exact h4 z z1 (by omega)
theorem ndn_none {P : Nat → Bool} : ∀ (i : Nat), ndn P i = none → ∀ z, 1 ≤ z → z ≤ i → ¬ P z = true := by
  intro i
  induction i with
  | zero => intro _ z z1 z2; omega
  | succ i ih =>
    intro h z z1 z2
    unfold ndn at h
    by_cases q : P (i + 1) = true
    · rw [if_pos q] at h; cases h
    · rw [if_neg q] at h
      by_cases e : z = i + 1
      · subst e; exact q
      · exact ih h z z1 (by omega)
theorem nup_skip {P : Nat → Bool} : ∀ (k i : Nat), (∀ z, i ≤ z → z < i + k → ¬ P z = true) → nup P (15361 - i) i = nup P (15361 - (i + k)) (i + k) := by
  intro k
  induction k with
  | zero => intro i _; rfl
  | succ k ih =>
    intro i h
    rw [show i + (k + 1) = i + 1 + k by omega, ← ih (i + 1) (fun z z1 z2 => h z (by omega) (by omega))]
    by_cases q : i < 15361
    · rw [show 15361 - i = (15361 - (i + 1)) + 1 by omega, nup, if_neg (h i (by omega) (by omega))]
    · rw [show 15361 - i = 0 by omega, show 15361 - (i + 1) = 0 by omega]; rfl
theorem ndn_skip {P : Nat → Bool} : ∀ (k i : Nat), k ≤ i → (∀ z, i - k < z → z ≤ i → ¬ P z = true) → ndn P i = ndn P (i - k) := by
  intro k
  induction k with
  | zero => intro i _ _; rfl
  | succ k ih =>
    intro i hk h
    obtain ⟨i, rfl⟩ : ∃ j, i = j + 1 := ⟨i - 1, by omega⟩
    rw [ndn, if_neg (h (i + 1) (by omega) (by omega)), ih i (by omega) (fun z z1 z2 => h z (by omega) (by omega)), show i + 1 - (k + 1) = i - k by omega]
theorem LN_zero {a : Nat → Nat} {s : Nat} {ν : Nm} (h : LN a s ν) {k : Nat} (hk : k < 241) (hz : gl ν 277 (s * 241 + k) = 0) : ∀ z, 64 * k ≤ z → z < 64 * k + 64 → ¬ gvB a s z = true := by
  intro z z1 z2 q
  have := (h z (by omega)).mpr (gvB_t.mp q)
  unfold MB at this
  rw [show z / 64 = k by omega, hz] at this
  have e : ∀ j, (0 : Int64).toBitVec.getLsbD j = false := fun j => by simp
  rw [e] at this
  cases this
theorem c_nm_out {ν : Nm} {f : Nat} {x y step : Int32} {r : Nat} (hr : r ≤ 15360) (hy : ∀ n, 1 ≤ n → n ≤ 15360 → y ≠ nI n) : Rw_nextMarked_6 ν (f + 1) x step y (nI r) = some (-1) := by
  rw [Rw_nextMarked_6, if_neg (by rw [show (15360 : Int32) = nI 15360 from rfl, nI_lt' (by omega) (by omega)]; omega)]
  unfold Fm_isSpan
  rw [within_isIn, show (1 : Int32) = nI 1 from rfl, show (15360 : Int32) = nI 15360 from rfl, isIn_f hy (by decide) (by decide), Option.bind_some, Option.bind_some, if_pos (by rw [b2iF]; exact True.intro)]
theorem c_nm_in {a : Nat → Nat} {s : Nat} {ν : Nm} (h : LN a s ν) (hs : s < 16) {f i r : Nat} {step : Int32} (hr : r ≤ 15360) (i1 : 1 ≤ i) (i2 : i ≤ 15360) : Rw_nextMarked_6 ν (f + 1) (nI s) step (nI i) (nI r) = if gvB a s i = true then some (nI i) else if ¬ gl ν 277 (s * 241 + i / 64) = 0 then Rw_nextMarked_61 ν (Rw_nextMarked_6 ν f) (nI s) step (nI i) (nI r) 0 else Rw_nextMarked_61 ν (Rw_nextMarked_6 ν f) (nI s) step (nI i) (nI r) 1 := by
  have hd := Nat.div_le_self i 64
  rw [Rw_nextMarked_6, if_neg (by rw [show (15360 : Int32) = nI 15360 from rfl, nI_lt' (by omega) (by omega)]; omega)]
  unfold Fm_isSpan
  rw [within_isIn, show (1 : Int32) = nI 1 from rfl, show (15360 : Int32) = nI 15360 from rfl, isIn_t i1 i2 (by decide), Option.bind_some, Option.bind_some, if_neg (by rw [b2iT]; exact id), LN_mk h hs (by omega), Option.bind_some, show nI i / 64 = nI (i / 64) from nI_div (b := 64) (by omega) (by decide), show nI s * 241 = nI (s * 241) from nI_mul s 241, nI_add, inb_nI (by omega), nI_clamp (by omega)]
  simp only [dT (show s * 241 + i / 64 < 3856 by omega), if_true, lg_eq]
  cases gvB a s i with
  | true => rw [if_neg (by rw [b2iT]; exact id), if_pos rfl]
  | false => rw [if_pos (by rw [b2iF]; exact True.intro), if_neg (show ¬ false = true by decide)]
theorem c_up {a : Nat → Nat} {s : Nat} {ν : Nm} (h : LN a s ν) (hs : s < 16) : ∀ (d f i r : Nat), d = 15361 - i → d < f → 1 ≤ i → i ≤ 15424 → r + d ≤ 15360 → Rw_nextMarked_6 ν f (nI s) 1 (nI i) (nI r) = some (match nup (gvB a s) d i with | some p => nI p | none => -1) := by
  intro d
  induction d using Nat.strongRecOn with
  | _ d ih =>
  intro f i r hd hf i1 i3 hr
  obtain ⟨f, rfl⟩ : ∃ f2, f = f2 + 1 := ⟨f - 1, by omega⟩
  by_cases hi : i ≤ 15360
  · rw [c_nm_in h hs (by omega) i1 hi]
    by_cases q : gvB a s i = true
    · rw [if_pos q, hd, show 15361 - i = (15360 - i) + 1 by omega, nup, if_pos q]
    · rw [if_neg q]
      have go : ∀ k, 1 ≤ k → i + k ≤ 15424 → (∀ z, i ≤ z → z < i + k → ¬ gvB a s z = true) → Rw_nextMarked_6 ν f (nI s) 1 (nI (i + k)) (nI (r + 1)) = some (match nup (gvB a s) d i with | some p => nI p | none => -1) := by
        intro k k1 k2 hk
        rw [hd, nup_skip k i hk]
        exact ih (15361 - (i + k)) (by omega) f (i + k) (r + 1) rfl (by omega) (by omega) (by omega) (by omega)
      unfold Rw_nextMarked_61 Rw_nextMarked_89 Rw_nextMarked_103
      rw [show nI r + 1 = nI (r + 1) from nI_add r 1]
      by_cases z : gl ν 277 (s * 241 + i / 64) = 0
      · rw [if_neg (by simp [z]), if_neg (by decide), if_neg (by decide), show nI i / 64 = nI (i / 64) from nI_div (b := 64) (by omega) (by decide), show nI (i / 64) * 64 = nI (i / 64 * 64) from nI_mul _ 64, show nI (i / 64 * 64) + 63 = nI (i / 64 * 64 + 63) from nI_add _ 63, show nI (i / 64 * 64 + 63) + 1 = nI (i / 64 * 64 + 63 + 1) from nI_add _ 1]
        have := go (i / 64 * 64 + 63 + 1 - i) (by omega) (by omega) (fun w w1 w2 => LN_zero h (show i / 64 < 241 by omega) z w (by omega) (by omega))
        rw [show i + (i / 64 * 64 + 63 + 1 - i) = i / 64 * 64 + 63 + 1 by omega] at this
        exact this
      · rw [if_pos z, if_neg (by decide), if_pos rfl, show nI i + 1 = nI (i + 1) from nI_add i 1]
        exact go 1 (by omega) (by omega) (fun w w1 w2 => by rw [show w = i by omega]; exact q)
  · have e0 : d = 0 := by omega
    rw [c_nm_out (by omega) (fun n n1 n2 e => by rw [nI_eq' (by omega) (by omega)] at e; omega), e0]
    rfl
theorem c_dn {a : Nat → Nat} {s : Nat} {ν : Nm} (h : LN a s ν) (hs : s < 16) : ∀ (i f r : Nat), i < f → i ≤ 15360 → r + i ≤ 15360 → Rw_nextMarked_6 ν f (nI s) (-1) (nI i) (nI r) = some (match ndn (gvB a s) i with | some p => nI p | none => -1) := by
  intro i
  induction i using Nat.strongRecOn with
  | _ i ih =>
  intro f r hf hi hr
  obtain ⟨f, rfl⟩ : ∃ f2, f = f2 + 1 := ⟨f - 1, by omega⟩
  by_cases i1 : 1 ≤ i
  · rw [c_nm_in h hs (by omega) i1 hi]
    by_cases q : gvB a s i = true
    · obtain ⟨j, rfl⟩ : ∃ j, i = j + 1 := ⟨i - 1, by omega⟩
      rw [if_pos q, ndn, if_pos q]
    · rw [if_neg q]
      have go : ∀ k, 1 ≤ k → k ≤ i → (∀ z, i - k < z → z ≤ i → ¬ gvB a s z = true) → Rw_nextMarked_6 ν f (nI s) (-1) (nI (i - k)) (nI (r + 1)) = some (match ndn (gvB a s) i with | some p => nI p | none => -1) := by
        intro k k1 k2 hk
        rw [ndn_skip k i k2 hk]
        exact ih (i - k) (by omega) f (r + 1) (by omega) (by omega) (by omega)
      unfold Rw_nextMarked_61 Rw_nextMarked_89 Rw_nextMarked_103
      rw [show nI r + 1 = nI (r + 1) from nI_add r 1]
      by_cases z : gl ν 277 (s * 241 + i / 64) = 0
      · rw [if_neg (by simp [z]), if_pos (by decide), if_neg (by decide), show nI i / 64 = nI (i / 64) from nI_div (b := 64) (by omega) (by decide), show nI (i / 64) * 64 = nI (i / 64 * 64) from nI_mul _ 64, ← Int32.sub_eq_add_neg]
        have nz := LN_zero h (show i / 64 < 241 by omega) z
        by_cases w : i / 64 = 0
        · rw [w, show nI (0 * 64) - 1 = (-1 : Int32) from rfl]
          obtain ⟨f, rfl⟩ : ∃ f2, f = f2 + 1 := ⟨f - 1, by omega⟩
          rw [c_nm_out (by omega) (fun n n1 n2 e => neg1 (show n < 2 ^ 31 by omega) e.symm), ndn_skip i i (Nat.le_refl _) (fun z z1 z2 => nz z (by omega) (by omega)), Nat.sub_self]
          rfl
        · rw [show nI (i / 64 * 64) - 1 = nI (i / 64 * 64 - 1) from nI_sub (b := 1) (by omega)]
          have := go (i - (i / 64 * 64 - 1)) (by omega) (by omega) (fun z z1 z2 => nz z (by omega) (by omega))
          rw [show i - (i - (i / 64 * 64 - 1)) = i / 64 * 64 - 1 by omega] at this
          exact this
      · rw [if_pos z, if_pos (by decide), if_pos rfl, ← Int32.sub_eq_add_neg, show nI i - 1 = nI (i - 1) from nI_sub (b := 1) (by omega)]
        exact go 1 (by omega) (by omega) (fun w w1 w2 => by rw [show w = i by omega]; exact q)
  · obtain rfl : i = 0 := by omega
    rw [c_nm_out (by omega) (fun n n1 n2 e => by rw [nI_eq' (by omega) (by omega)] at e; omega)]
    rfl
/-- the nearest -/
def nea (P : Nat → Bool) (x : Nat) : Int32 := match ndn P x, nup P (15361 - x) x with
  | none, none => -1
  | none, some q => nI q
  | some p, none => nI p
  | some p, some q => if q - x < x - p then nI q else nI p
theorem ng : ∀ h, h < 121 → ∀ l, l < 128 → -(nI (128 * h + l)) ≤ 0 := by decide +kernel
theorem sub_le0 {x D : Nat} (hx : x ≤ 15360) (hD : D ≤ 15360) : (nI x - nI D ≤ 0) = (x ≤ D) := by
  apply propext
  constructor
  · intro h
    apply Nat.le_of_not_lt
    intro q
    rw [nI_sub (by omega), show (0 : Int32) = nI 0 from rfl, nI_le' (by omega) (by omega)] at h
    omega
  · intro h
    have e : nI D = nI x + nI (D - x) := by rw [nI_add]; congr 1; omega
    have e2 : nI x - nI D = -(nI (D - x)) := by
      rw [e, Int32.sub_eq_add_neg, Int32.neg_add, Int32.sub_eq_add_neg, ← Int32.add_assoc, Int32.add_right_neg, Int32.zero_add]
    rw [e2]
    have := ng ((D - x) / 128) (by omega) ((D - x) % 128) (by omega)
    rw [show 128 * ((D - x) / 128) + (D - x) % 128 = D - x by omega] at this
    exact this
theorem m_near {a : Nat → Nat} {ν0 : Nm} (hw : WF a) {s x : Nat} (h1 : 1 ≤ s) (h2 : s < 2 ^ a 0) (x1 : 1 ≤ x) (x2 : x ≤ 15360) : ∀ (k f D : Nat) (ν : Nm), D + k = 15361 → k < f → MR a ν0 ν → (∀ d, d < D → (d < x → ¬ gvB a s (x - d) = true) ∧ (x + d ≤ 15360 → ¬ gvB a s (x + d) = true)) → ∃ ν2, Md_nearest_19 f (nI s) (nI x) (nI D) ν = some (nea (gvB a s) x, ν2) ∧ MR a ν0 ν2 := by
  intro k
  induction k with
  | zero =>
    intro f D ν hk hf h hD
    obtain ⟨f, rfl⟩ := fsucc hf
    refine ⟨ν, ?_, h⟩
    rw [Md_nearest_19, if_pos (by rw [show (15360 : Int32) = nI 15360 from rfl, nI_lt' (by omega) (by omega)]; omega)]
    unfold nea
    cases e1 : ndn (gvB a s) x with
    | some p =>
      obtain ⟨q1, q2, q3, -⟩ := ndn_some x e1
      have := (hD (x - p) (by omega)).1 (by omega)
      rw [show x - (x - p) = p by omega] at this
      exact absurd q3 this
    | none =>
      cases e2 : nup (gvB a s) (15361 - x) x with
      | some q =>
        obtain ⟨q1, q2, q3, -⟩ := nup_some _ _ e2
        have := (hD (q - x) (by omega)).2 (by omega)
        rw [show x + (q - x) = q by omega] at this
        exact absurd q3 this
      | none => rfl
  | succ k ih =>
    intro f D ν hk hf h hD
    obtain ⟨f, rfl⟩ := fsucc hf
    -- above, when below there is none
    have up : ∀ ν1, MR a ν0 ν1 → (D < x → ¬ gvB a s (x - D) = true) → ∃ ν2, Md_nearest_47 (Md_nearest_19 f) (nI s) (nI x) (nI D) ν1 = some (nea (gvB a s) x, ν2) ∧ MR a ν0 ν2 := by
      intro ν1 m1 hlow
      have next : ∀ ν2, MR a ν0 ν2 → (x + D ≤ 15360 → ¬ gvB a s (x + D) = true) → ∃ ν3, Md_nearest_19 f (nI s) (nI x) (nI (D + 1)) ν2 = some (nea (gvB a s) x, ν3) ∧ MR a ν0 ν3 := by
        intro ν2 m2 hup
        refine ih f (D + 1) ν2 (by omega) (by omega) m2 (fun d hd => ?_)
        by_cases e : d = D
        · subst e; exact ⟨hlow, hup⟩
        · exact hD d (by omega)
      unfold Md_nearest_47 Md_nearest_71
      rw [nI_add, show nI D + 1 = nI (D + 1) from nI_add D 1]
      by_cases e : 15360 < x + D
      · rw [if_pos (by rw [show (15360 : Int32) = nI 15360 from rfl, nI_lt' (by omega) (by omega)]; exact e)]
        exact next ν1 m1 (fun z => by omega)
      · rw [if_neg (by rw [show (15360 : Int32) = nI 15360 from rfl, nI_lt' (by omega) (by omega)]; exact e)]
        obtain ⟨ν2, p1, p2, -⟩ := m_given m1 hw h1 h2 (v := x + D) (by omega)
        rw [p1, Option.bind_some]
        simp only []
        by_cases q : gvB a s (x + D) = true
        · rw [q, if_neg (by rw [b2iT]; exact id)]
          refine ⟨ν2, ?_, p2⟩
          congr 2
          unfold nea
          cases e2 : nup (gvB a s) (15361 - x) x with
          | none => exact absurd q (nup_none _ _ e2 (x + D) (by omega) (by omega))
          | some y =>
            obtain ⟨y1, y2, y3, y4⟩ := nup_some _ _ e2
            have ey : y = x + D := by
              apply Nat.le_antisymm
              · apply Nat.le_of_not_lt
                intro z
                exact y4 (x + D) (by omega) z q
              · apply Nat.le_of_not_lt
                intro z
                have := (hD (y - x) (by omega)).2 (by omega)
                rw [show x + (y - x) = y by omega] at this
                exact this y3
            subst ey
            cases e1 : ndn (gvB a s) x with
            | none => rfl
            | some p =>
              obtain ⟨p1', p2', p3', -⟩ := ndn_some x e1
              have lt : D < x - p := by
                apply Nat.lt_of_not_le
                intro z
                by_cases e3 : x - p = D
                · have := hlow (by omega)
                  rw [show x - D = p by omega] at this
                  exact this p3'
                · have := (hD (x - p) (by omega)).1 (by omega)
                  rw [show x - (x - p) = p by omega] at this
                  exact this p3'
              show nI (x + D) = if x + D - x < x - p then nI (x + D) else nI p
              rw [if_pos (by omega)]
        · rw [Bool.eq_false_iff.mpr q, if_pos (by rw [b2iF]; exact True.intro)]
          exact next ν2 p2 (fun _ => q)
    rw [Md_nearest_19, if_neg (by rw [show (15360 : Int32) = nI 15360 from rfl, nI_lt' (by omega) (by omega)]; omega)]
    simp only [sub_le0 x2 (show D ≤ 15360 by omega)]
    by_cases e : x ≤ D
    · rw [if_pos e]
      exact up ν h (fun z => by omega)
    · rw [if_neg e, nI_sub (show D ≤ x by omega)]
      obtain ⟨ν1, p1, p2, -⟩ := m_given h hw h1 h2 (v := x - D) (by omega)
      rw [p1, Option.bind_some]
      simp only []
      by_cases q : gvB a s (x - D) = true
      · rw [q, if_neg (by rw [b2iT]; exact id)]
        refine ⟨ν1, ?_, p2⟩
        congr 2
        unfold nea
        cases e1 : ndn (gvB a s) x with
        | none => exact absurd q (ndn_none x e1 (x - D) (by omega) (by omega))
        | some p =>
          obtain ⟨y1, y2, y3, y4⟩ := ndn_some x e1
          have ep : p = x - D := by
            apply Nat.le_antisymm
            · apply Nat.le_of_not_lt
              intro z
              have := (hD (x - p) (by omega)).1 (by omega)
              rw [show x - (x - p) = p by omega] at this
              exact this y3
            · apply Nat.le_of_not_lt
              intro z
              exact y4 (x - D) z (by omega) q
          subst ep
          cases e2 : nup (gvB a s) (15361 - x) x with
          | none => rfl
          | some y =>
            obtain ⟨u1, u2, u3, -⟩ := nup_some _ _ e2
            have ge : D ≤ y - x := by
              apply Nat.le_of_not_lt
              intro z
              have := (hD (y - x) z).2 (by omega)
              rw [show x + (y - x) = y by omega] at this
              exact this u3
            show nI (x - D) = if y - x < x - (x - D) then nI y else nI (x - D)
            rw [if_neg (by omega)]
      · rw [Bool.eq_false_iff.mpr q, if_pos (by rw [b2iF]; exact True.intro)]
        exact up ν1 p2 (fun _ => q)
theorem st_nearest {a b : Nat → Nat} {ν : Nm} (h : Inv a b tau ν) (x y : Int32) : Step tau (Fm_nearest x y) (Md_nearest x y) ν := by
  have hw := h.1
  have hc0 := C1_0 h
  have hm0 := M1_0 h hc0
  have hb := wb hw
  have p4 : 2 ^ a 0 ≤ 2 ^ 4 := Nat.pow_le_pow_right (by omega) hb.1
  have eqs : ∀ z, Fm_isSpan z = Md_isSpan z := fun z => by
    unfold Fm_isSpan
    rw [within_isIn]
    unfold Md_isSpan
    cases Md_isIn z 1 15360 <;> rfl
  rcases set_cases x (a 0) with ⟨s, h1, h2, rfl⟩ | hx
  · have hs : s < 16 := by omega
    rcases span_cases y with ⟨v, v1, v2, rfl, v3⟩ | ⟨v1, v3⟩
    · obtain ⟨ν1, l1, l2, l3⟩ := c_learn (CQ_0 h) hw h1 h2
      obtain ⟨ν2, q1, q2⟩ := m_near hw h1 h2 v1 v2 15361 FU 0 ν1 (by omega) (by unfold FU; omega) (MR_0 h l2) (fun d hd => by omega)
      refine ⟨nea (gvB a s) v, ν1, ν2, a, b, ?_, ?_, Inv_Q h l2 q2⟩
      · unfold Fm_nearest
        rw [c_set_t hc0 hw h1 h2, Option.bind_some, if_neg (by rw [b2iT]; exact id), eqs, v3, Option.bind_some, if_pos (by rw [b2iT]; exact id)]
        have d1 := c_dn (a := a) (s := s) (ν := ν1) l3 hs v FU 0 (by unfold FU; omega) v2 (by omega)
        have u1 := c_up (a := a) (s := s) (ν := ν1) l3 hs (15361 - v) FU v 0 rfl (by unfold FU; omega) v1 (by omega) (by omega)
        have d1' : Rw_nextMarked ν1 (nI s) (nI v) (-1) = _ := d1
        have u1' : Rw_nextMarked ν1 (nI s) (nI v) 1 = _ := u1
        unfold Rw_nearestTo
        rw [l1, Option.bind_some, d1', Option.bind_some, u1', Option.bind_some]
        unfold Rw_nearestTo_33 nea
        cases e1 : ndn (gvB a s) v with
        | none =>
          cases e2 : nup (gvB a s) (15361 - v) v with
          | none => rfl
          | some q => rfl
        | some p =>
          obtain ⟨y1, y2, -, -⟩ := ndn_some v e1
          simp only []
          rw [if_neg (neg1 (show p < 2 ^ 31 by omega))]
          cases e2 : nup (gvB a s) (15361 - v) v with
          | none =>
            simp only []
            rw [if_neg (by simp), if_pos (neg1 (show p < 2 ^ 31 by omega))]; rfl
          | some q =>
            obtain ⟨z1, z2, -, -⟩ := nup_some _ _ e2
            simp only []
            rw [if_pos (neg1 (show q < 2 ^ 31 by omega)), nI_sub z1, nI_sub y2]
            by_cases w : q - v < v - p
            · rw [if_pos (by rw [nI_lt' (by omega) (by omega)]; exact w), if_pos w]; rfl
            · rw [if_neg (by rw [nI_lt' (by omega) (by omega)]; exact w), if_neg w]; rfl
      · unfold Md_nearest
        rw [m_set_t (MR_M (MR_0 h l2)) hw h1 h2, Option.bind_some, if_neg (by rw [b2iT]; exact id), v3, Option.bind_some, if_pos (by rw [b2iT]; exact id)]
        exact q1
    · refine Step_no h (-1) ?_ ?_
      · unfold Fm_nearest
        rw [c_set_t hc0 hw h1 h2, Option.bind_some, if_neg (by rw [b2iT]; exact id), eqs, v3]; rfl
      · unfold Md_nearest
        rw [m_set_t hm0 hw h1 h2, Option.bind_some, if_neg (by rw [b2iT]; exact id), v3]; rfl
  · refine Step_no h (-1) ?_ ?_
    · unfold Fm_nearest; rw [c_set_f hc0 hw hx]; rfl
    · unfold Md_nearest; rw [m_set_f hm0 hw hx]; rfl
