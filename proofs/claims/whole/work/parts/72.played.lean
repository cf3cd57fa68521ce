/-! A text is played. -/
def pl1 (D : Nat → TD) (p : Nat × Nat × Nat) (a : Nat → Nat) : Bool × (Nat → Nat) :=
  if p.1 = 2 then (if a 0 < 4 then (true, cordA a p.2.1 p.2.2) else (false, a))
  else if p.1 = 3 then (true, upn a 1 p.2.1)
  else if p.1 = 4 then (if p.2.1 < a 0 then (canL D a p.2.1 0, lightB D a p.2.1 0) else (false, a))
  else if p.1 = 5 then (if p.2.1 < a 0 then (canL D a p.2.1 1, lightB D a p.2.1 1) else (false, a))
  else if p.1 = 6 then (if p.2.1 < a 0 then (if (snuffB a p.2.1 0).1 = true then snuffB a p.2.1 0 else snuffB a p.2.1 1) else (false, a))
  else if p.1 = 7 then (if p.2.1 < a 0 then renewB a p.2.1 else (false, a))
  else if p.1 = 8 then (canB a, burnB a)
  else if p.1 = 9 then ((minS p.2.1 (a, 0)).1, (minS p.2.1 (a, 0)).2.1)
  else (true, a)
theorem lightV_n (D : Nat → TD) (a : Nat → Nat) (c s : Nat) : ((lightV D a c s = -1) = (canL D a c s = false)) ∧ ((lightV D a c s < 0) = (canL D a c s = false)) := by
  unfold lightV
  cases h : canL D a c s with
  | false => simp
  | true =>
    simp only [if_true]
    unfold litV
    split <;> exact ⟨by simp, by simp⟩
theorem burnV_n {a : Nat → Nat} (hw : WF a) : ((burnV a = -1) = (canB a = false)) ∧ ((burnV a < 0) = (canB a = false)) := by
  unfold burnV
  by_cases h : canB a = true
  · have hl := canB_le hw h
    rw [if_pos h, h]
    have h1 : ¬ nI (nextA a) = -1 := neg1 (by omega)
    have h2 : ¬ nI (nextA a) < 0 := nI_pos (by omega)
    exact ⟨by simp [h1], by simp [h2]⟩
  · rw [if_neg h, Bool.eq_false_iff.mpr h]
    exact ⟨by simp, by simp⟩
theorem pl1_ok {D : Nat → TD} {p : Nat × Nat × Nat} {a : Nat → Nat} (hw : WF a) (hp : clOK p) : WF (pl1 D p a).2 ∧ (pl1 D p a).2 2 = a 2 ∧ a 0 ≤ (pl1 D p a).2 0 ∧ ∀ c, c < a 0 → (pl1 D p a).2 (20 + 2 * c) = a (20 + 2 * c) := by
  have hb := wb hw
  have h30 := hb.2.2.2.2.2.1
  obtain ⟨-, o2, o3, o4, o9⟩ := hp
  have same : WF a ∧ a 2 = a 2 ∧ a 0 ≤ a 0 ∧ ∀ c, c < a 0 → a (20 + 2 * c) = a (20 + 2 * c) := ⟨hw, rfl, Nat.le_refl _, fun _ _ => rfl⟩
  have low : ∀ a2 : Nat → Nat, WF a2 → (∀ j, j < 4 ∨ (20 ≤ j ∧ j < 65) → a2 j = a j) → WF a2 ∧ a2 2 = a 2 ∧ a 0 ≤ a2 0 ∧ ∀ c, c < a 0 → a2 (20 + 2 * c) = a (20 + 2 * c) := fun a2 w l => ⟨w, l 2 (by omega), by rw [l 0 (by omega)]; exact Nat.le_refl _, fun c hc => l _ (by omega)⟩
  unfold pl1
  split
  · rename_i e
    obtain ⟨q1, q2, q3⟩ := o2 e
    split
    · rename_i h4
      have z : WF (cordA a p.2.1 p.2.2) ∧ cordA a p.2.1 p.2.2 2 = a 2 ∧ a 0 ≤ cordA a p.2.1 p.2.2 0 ∧ ∀ c, c < a 0 → cordA a p.2.1 p.2.2 (20 + 2 * c) = a (20 + 2 * c) := ⟨WF_cord hw h4 ⟨q1, q2⟩ q3, cordA_n (by omega) (by omega) (by omega) (by omega) (by omega), by rw [(cordA_v h4).1]; omega, fun c hc => cordA_n (by omega) (by omega) (by omega) (by omega) (by omega)⟩
      exact z
    · exact same
  split
  · rename_i e
    have z : WF (upn a 1 p.2.1) ∧ upn a 1 p.2.1 2 = a 2 ∧ a 0 ≤ upn a 1 p.2.1 0 ∧ ∀ c, c < a 0 → upn a 1 p.2.1 (20 + 2 * c) = a (20 + 2 * c) := ⟨WF_1 hw (o3 e), upn_n _ _ (by omega), by rw [upn_n _ _ (by omega)]; exact Nat.le_refl _, fun c hc => upn_n _ _ (by omega)⟩
    exact z
  split
  · split
    · rename_i hc; exact low _ (WF_lightB hw hc (by omega)) (fun j hj => lightB_low h30 (by omega) hj)
    · exact same
  split
  · split
    · rename_i hc; exact low _ (WF_lightB hw hc (by omega)) (fun j hj => lightB_low h30 (by omega) hj)
    · exact same
  split
  · split
    · rename_i hc
      split
      · exact low _ (WF_snuffB hw hc (by omega)) (fun j hj => snuffB_low h30 (by omega) hj)
      · exact low _ (WF_snuffB hw hc (by omega)) (fun j hj => snuffB_low h30 (by omega) hj)
    · exact same
  split
  · split
    · rename_i hc; exact low _ (WF_renewB hw (by omega)) (fun j hj => renewB_low h30 (by omega) hj)
    · exact same
  split
  · exact low _ (WF_burnB hw) (fun j hj => burnB_low h30 hj)
  split
  · obtain ⟨k1, k2, -⟩ := minS_ok p.2.1 (a, 0) hw
    exact low _ k1 (fun j hj => k2 j hj)
  · exact same
/-- minutes one by one, as the class has them -/
theorem c_minsP {n : Nat} (hn : n ≤ 60) {ν0 : Nm} : ∀ (k f i : Nat) (s : (Nat → Nat) × Nat) (ν : Nm), i + k = n → k < f → WF s.1 → C1 s.1 ν0 ν → ∃ ν2, Fm_minutesPassed_2 f (nI n) (nI i) ν = some ((minS k s).1, ν2) ∧ C1 (minS k s).2.1 ν0 ν2 := by
  intro k
  induction k with
  | zero =>
    intro f i s ν hi hf hw h
    obtain ⟨f, rfl⟩ := fsucc hf
    exact ⟨ν, by rw [Fm_minutesPassed_2, if_pos (by rw [nI_le' (by omega) (by omega)]; omega)]; rfl, h⟩
  | succ k ih =>
    intro f i s ν hi hf hw h
    obtain ⟨f, rfl⟩ := fsucc hf
    have e1 : nI i + 1 = nI (i + 1) := nI_add i 1
    rw [Fm_minutesPassed_2, if_neg (by rw [nI_le' (by omega) (by omega)]; omega)]
    unfold minS
    by_cases e : s.1 8 + 64 * 1 ≤ 639936
    · obtain ⟨ν1, p1, p2⟩ := c_minute (n := 1) (by omega) (by omega) h hw e
      have p1' : Fm_minute 1 ν = some (nI (minS 1 (s.1, 0)).2.2, ν1) := p1
      have em : (minS 1 (s.1, 0)).2.1 = (min1 s).1 := by
        unfold minS
        rw [if_neg (by show ¬ 639936 < s.1 8 + 64; omega)]; rfl
      rw [em] at p2
      rw [p1', Option.bind_some, if_neg (show ¬ 639936 < s.1 8 + 64 by omega)]
      simp only []
      have hle : ∀ (z : (Nat → Nat) × Nat), WF z.1 → (PA true 64 (keepA z.1)).2 < 2 ^ 31 := by
        intro z wz
        have : ∀ (w : Bool) (m k i : Nat) (q : (Nat → Nat) × Nat), (pwk w m k i q).2 ≤ q.2 + k := by
          intro w m k
          induction k with
          | zero => intro i q; exact Nat.le_refl _
          | succ k ihk =>
            intro i q
            have h1 := ihk (i + 1) (pw1 w m i q)
            have h2 : (pw1 w m i q).2 ≤ q.2 + 1 := by
              unfold pw1
              split
              · omega
              · split
                · exact Nat.le_refl _
                · show q.2 ≤ q.2 + 1; omega
            show (pwk w m k (i + 1) (pw1 w m i q)).2 ≤ _
            omega
        have t2 : ∀ (k l : Nat) (q : (Nat → Nat) × Nat), (passA true k l q).2 ≤ q.2 + 4 * k := by
          intro k
          induction k with
          | zero => intro l q; exact Nat.le_refl _
          | succ k ihk =>
            intro l q
            unfold passA
            split
            · omega
            · have h1 := ihk (l - min (nextA q.1) l) ((stepA true (min (nextA q.1) l) q.1).1, q.2 + (stepA true (min (nextA q.1) l) q.1).2)
              have h2 := this true (min (nextA q.1) l) 4 0 (upn (upn q.1 8 (q.1 8 + min (nextA q.1) l)) 10 0, 0)
              have h3 : (stepA true (min (nextA q.1) l) q.1).2 ≤ 0 + 4 := h2
              omega
        have h3 := t2 5 64 (keepA z.1, 0)
        have h4 : (PA true 64 (keepA z.1)).2 ≤ 0 + 4 * 5 := h3
        omega
      have hv : (minS 1 (s.1, 0)).2.2 < 2 ^ 31 := by
        have e2 : (minS 1 (s.1, 0)).2.2 = 0 + (PA true 64 (keepA s.1)).2 := by
          unfold minS
          rw [if_neg (by show ¬ 639936 < s.1 8 + 64; omega)]; rfl
        rw [e2, Nat.zero_add]
        exact hle s hw
      rw [if_pos (neg1 hv), e1]
      exact ih f (i + 1) (min1 s) ν1 (by omega) (by omega) (WF_min1 hw (by omega)) p2
    · have q : Fm_minute 1 ν = some (-1, ν) := c_minute_f (n := 1) (by omega) (by omega) h hw e
      rw [q, Option.bind_some, if_pos (show 639936 < s.1 8 + 64 by omega)]
      simp only []
      rw [if_neg (by simp)]
      exact ⟨ν, rfl, h⟩
theorem sb01 : sb (0 : Int32) = 0 ∧ sb (1 : Int32) = 1 := ⟨rfl, rfl⟩
theorem notc {n u : Nat} (hu : u ≤ 3) (h : ¬ u < n) : ∀ c, c < n → nI u ≠ nI c := fun c hc e => by
  rw [nI_eq' (by omega) (by omega)] at e
  omega
