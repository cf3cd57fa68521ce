/-! What holds of a state's numbers; the invariant. -/
/-- how large a number of a can be -/
def ubS (k : Nat) : Nat := if k = 0 then 4 else if k = 1 then 639936 else if k = 2 then 30780 else if k = 3 then 8 else if k = 4 then 30 else if k < 13 then (if k % 2 = 1 then 3840 else 3) else 33554431
def ub (i : Nat) : Nat :=
  if i < 8 then ([4, 8, 4, 4, 30, 4, 8, 8] : List Nat).getD i 0
  else if i < 20 then ubS (i - 7)
  else if i < 28 then (if i % 2 = 0 then 60 else 99)
  else if i = 28 then 15 else if i < 33 then 15360
  else if i < 49 then (if i % 2 = 1 then 15 else 1)
  else if i < 65 then (if i % 2 = 1 then 3 else 10)
  else if i < 1355 then ubS ((i - 65) % 43) else 33554431
def UB (a : Nat → Nat) : Prop := ∀ i, i < 1385 → a i ≤ ub i
theorem UB_up {a : Nat → Nat} {i v : Nat} (h : UB a) (hv : v ≤ ub i) : UB (upn a i v) := by
  intro j hj
  by_cases e : j = i
  · subst e; rw [upn_s]; exact hv
  · rw [upn_n _ _ e]; exact h j hj
theorem ub_le (i : Nat) : ub i ≤ 33554431 := by
  by_cases h : i < 8
  · rcases (show i = 0 ∨ i = 1 ∨ i = 2 ∨ i = 3 ∨ i = 4 ∨ i = 5 ∨ i = 6 ∨ i = 7 by omega) with rfl | rfl | rfl | rfl | rfl | rfl | rfl | rfl <;> decide
  · unfold ub ubS
    rw [if_neg h]
    repeat' split
    all_goals omega
/-- the cords of a Pit whose rest and ends begin at x, n cords told -/
def PW (a : Nat → Nat) (n x : Nat) : Prop := ∀ c, c < 4 → (a (x + 1 + 2 * c) ≠ 0 → a (x + 2 * c) ≠ 0) ∧ (n ≤ c → a (x + 1 + 2 * c) = 0) ∧ (c < n → a (x + 2 * c) ≤ 64 * a (20 + 2 * c))
def W1 (a : Nat → Nat) : Prop := 1 ≤ a 1
def W2 (a : Nat → Nat) : Prop := a 3 ≤ a 2
def W3 (a : Nat → Nat) : Prop := PW a (a 0) 12 ∧ ∀ c, c < 4 → c < a 0 → 1 ≤ a (20 + 2 * c)
def W4 (a : Nat → Nat) : Prop := ∀ i, i < 4 → i < a 5 → 1 ≤ a (29 + i)
def W5 (a : Nat → Nat) : Prop := ∀ i, i < 8 → i < a 7 → a (49 + 2 * i) < a 0
def W6 (a : Nat → Nat) : Prop := ∀ i, i < 30 → i < a 4 → a (65 + 43 * i) ≤ a 0 ∧ PW a (a (65 + 43 * i)) (70 + 43 * i)
def WF (a : Nat → Nat) : Prop := UB a ∧ W1 a ∧ W2 a ∧ W3 a ∧ W4 a ∧ W5 a ∧ W6 a
theorem PW_keep {a a2 : Nat → Nat} {n x : Nat} (h : PW a n x) (ha : ∀ j, (x ≤ j ∧ j < x + 8) ∨ (20 ≤ j ∧ j < 28) → a2 j = a j) : PW a2 n x := by
  intro c hc
  rw [ha (x + 1 + 2 * c) (by omega), ha (x + 2 * c) (by omega), ha (20 + 2 * c) (by omega)]
  exact h c hc
theorem W3_keep {a a2 : Nat → Nat} (h : W3 a) (ha : ∀ j, j = 0 ∨ (12 ≤ j ∧ j < 28) → a2 j = a j) : W3 a2 := by
  refine ⟨?_, fun c h1 h2 => ?_⟩
  · rw [ha 0 (by omega)]; exact PW_keep h.1 (fun j hj => ha j (by omega))
  · rw [ha 0 (by omega)] at h2; rw [ha _ (by omega)]; exact h.2 c h1 h2
theorem W4_keep {a a2 : Nat → Nat} (h : W4 a) (ha : ∀ j, j = 5 ∨ (29 ≤ j ∧ j < 33) → a2 j = a j) : W4 a2 := fun i h1 h2 => by
  rw [ha 5 (by omega)] at h2; rw [ha _ (by omega)]; exact h i h1 h2
theorem W5_keep {a a2 : Nat → Nat} (h : W5 a) (ha : ∀ j, j = 7 ∨ j = 0 ∨ (49 ≤ j ∧ j < 65) → a2 j = a j) : W5 a2 := fun i h1 h2 => by
  rw [ha 7 (by omega)] at h2; rw [ha _ (by omega), ha 0 (by omega)]; exact h i h1 h2
theorem W6_keep {a a2 : Nat → Nat} (h : W6 a) (ha : ∀ j, j = 4 ∨ j = 0 ∨ (20 ≤ j ∧ j < 28) ∨ (65 ≤ j ∧ j < 1355) → a2 j = a j) : W6 a2 := fun i h1 h2 => by
  rw [ha 4 (by omega)] at h2
  obtain ⟨q1, q2⟩ := h i h1 h2
  rw [ha _ (by omega), ha 0 (by omega)]
  exact ⟨q1, PW_keep q2 (fun j hj => ha j (by omega))⟩
/-- the rest of a run: what isn't in the stores -/
def OX (a b : Nat → Nat) (ν : Nm) : Prop := (b 0 ≤ a 0 ∧ b 2 ≤ a 2 ∧ ∀ c, c < 4 → c < b 0 → b (20 + 2 * c) = a (20 + 2 * c)) ∧ gi ν 313 23 = 1 ∧
  (∃ n, n ≤ 300 ∧ gi ν 271 1 = nI n ∧ gi ν 313 4 = nI n) ∧ (∀ i, i < 300 → ∃ k, k < 256 ∧ gi ν 272 i = nI k ∧ gi ν 317 i = nI k) ∧ gi ν 271 2 = gi ν 313 5 ∧ gi ν 271 3 = gi ν 313 6
def Inv (a b : Nat → Nat) (ν : Nm) : Prop := WF a ∧ WF b ∧ CX 1 a ν ∧ CX 136 b ν ∧ MX 314 a ν ∧ MX 315 b ν ∧ OX a b ν
/-- numbers of a that the rest of a run looks at -/
def oxi (i : Nat) : Bool := decide (i = 0) || decide (i = 2) || (decide (20 ≤ i) && decide (i < 28))
theorem OX_keep {a b a2 : Nat → Nat} {ν ν2 : Nm} (h : OX a b ν) (ha : ∀ i, oxi i = true → a2 i = a i) (hk : ∀ q j, 271 ≤ q → q ≠ 314 → q ≠ 315 → gi ν2 q j = gi ν q j) (h2 : ν2.2 = ν.2) : OX a2 b ν2 := by
  obtain ⟨⟨h0, h1, h3⟩, h4, ⟨n, n1, n2, n3⟩, h5, h6, h7⟩ := h
  refine ⟨⟨by rw [ha 0 rfl]; exact h0, by rw [ha 2 rfl]; exact h1, fun c hc4 hc => ?_⟩, ?_, ⟨n, n1, ?_, ?_⟩, fun i hi => ?_, ?_, ?_⟩
  · rw [ha _ (by simp [oxi]; omega)]; exact h3 c hc4 hc
  · rw [hk _ _ (by decide) (by decide) (by decide)]; exact h4
  · rw [hk _ _ (by decide) (by decide) (by decide)]; exact n2
  · rw [hk _ _ (by decide) (by decide) (by decide)]; exact n3
  · obtain ⟨k, k1, k2, k3⟩ := h5 i hi
    exact ⟨k, k1, by rw [hk _ _ (by decide) (by decide) (by decide)]; exact k2, by rw [hk _ _ (by decide) (by decide) (by decide)]; exact k3⟩
  · rw [hk _ _ (by decide) (by decide) (by decide), hk _ _ (by decide) (by decide) (by decide)]; exact h6
  · rw [hk _ _ (by decide) (by decide) (by decide), hk _ _ (by decide) (by decide) (by decide)]; exact h7
/-- one plain number is told anew, in the class and in the model -/
theorem Inv_up {a b : Nat → Nat} {ν : Nm} (h : Inv a b ν) (p : Nat × Nat × Nat) (hp : p ∈ plL) (h4 : p.1 ≠ 4) (ho : oxi p.1 = false) (v : Nat) (hw : WF (upn a p.1 v)) : Inv (upn a p.1 v) b (si (si ν (1 + p.2.1) p.2.2 (nI v)) 314 p.1 (nI v)) := by
  obtain ⟨w1, w2, c1, c2, m1, m2, o⟩ := h
  obtain ⟨n1, n2, n3, n4, n5, n6, n7, n8, n9⟩ := plNo p hp
  refine ⟨hw, w2, CX_keep (CX_up c1 p hp h4 (w1.1 4 (by decide)) v) (fun q j h1 h2 => gi_si_q _ _ _ _ (by omega)), CX_keep c2 (fun q j h1 h2 => by rw [gi_si_q _ _ _ _ (by omega), gi_si_q _ _ _ _ (by omega)]), MX_up (MX_keep m1 (fun j => gi_si_q _ _ _ _ (by omega))) n1, MX_keep m2 (fun j => by rw [gi_si_q _ _ _ _ (by omega), gi_si_q _ _ _ _ (by omega)]), OX_keep o (fun i hi => upn_n _ _ (fun e => by rw [e, ho] at hi; cases hi)) (fun q j h1 h2 h3 => by rw [gi_si_q _ _ _ _ h2, gi_si_q _ _ _ _ (by omega)]) rfl⟩
/-- what a call shows: class and model answer alike, and the invariant holds again -/
def Step {α : Type} (x m : Nm → Option (α × Nm)) (a b : Nat → Nat) (ν : Nm) : Prop := ∃ (v : α) (ν1 ν2 : Nm) (a2 b2 : Nat → Nat), x ν = some (v, ν1) ∧ m ν1 = some (v, ν2) ∧ Inv a2 b2 ν2
theorem WF_1 {a : Nat → Nat} (h : WF a) {v : Nat} (hv : 1 ≤ v ∧ v ≤ 8) : WF (upn a 1 v) := by
  obtain ⟨u, w1, w2, w3, w4, w5, w6⟩ := h
  have n : ∀ j, j ≠ 1 → upn a 1 v j = a j := fun j hj => upn_n _ _ hj
  exact ⟨UB_up u hv.2, by unfold W1; rw [upn_s]; exact hv.1, by unfold W2; rw [n 3 (by decide), n 2 (by decide)]; exact w2, W3_keep w3 (fun j hj => n j (by omega)), W4_keep w4 (fun j hj => n j (by omega)), W5_keep w5 (fun j hj => n j (by omega)), W6_keep w6 (fun j hj => n j (by omega))⟩
theorem st_hands {a b : Nat → Nat} {ν : Nm} (h : Inv a b ν) (x : Int32) : Step (Fm_hands x) (Md_hands x) a b ν := by
  unfold Step Fm_hands Md_hands
  simp only [within_isIn, lit_nI]
  rcases isIn_cases x 1 8 (by decide) (by decide) with ⟨n, h1, h2, rfl, h3⟩ | ⟨h1, h3⟩
  · have hI := Inv_up h (1, 0, 5) (by decide) (by decide) rfl n (WF_1 h.1 ⟨h1, h2⟩)
    refine ⟨true, si ν 1 5 (nI n), _, _, b, ?_, ?_, hI⟩
    · simp only [h3, Option.bind_some]; rfl
    · simp only [h3, Option.bind_some]; rfl
  · exact ⟨false, ν, ν, a, b, by simp only [h3, Option.bind_some]; rfl, by simp only [h3, Option.bind_some]; rfl, h⟩
