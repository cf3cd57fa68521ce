/-! The state of a run: the model's row a as numbers (a 3: the ruling text and one), and how class and model hold it. -/
def upn (a : Nat → Nat) (i v : Nat) : Nat → Nat := fun j => if j = i then v else a j
theorem upn_s (a : Nat → Nat) (i v : Nat) : upn a i v i = v := by simp [upn]
theorem upn_n (a : Nat → Nat) {i j : Nat} (v : Nat) (h : j ≠ i) : upn a i v j = a j := by simp [upn, h]
/-- the model's row in cell m -/
def MX (m : Nat) (a : Nat → Nat) (ν : Nm) : Prop := (∀ j, j < 1385 → j ≠ 3 → gi ν m j = nI (a j)) ∧ gi ν m 3 = nI (a 3) - 1
/-- plain places of a Store: number in a, cell (from the Store on), place -/
def plL : List (Nat × Nat × Nat) := [(0, 1, 0), (1, 0, 5), (2, 0, 6), (4, 5, 2), (5, 129, 1), (6, 131, 1), (7, 133, 1), (8, 1, 1), (9, 1, 2), (10, 1, 3), (11, 1, 7), (12, 2, 0), (13, 3, 0), (14, 2, 1), (15, 3, 1), (16, 2, 2), (17, 3, 2), (18, 2, 3), (19, 3, 3), (20, 127, 0), (21, 128, 0), (22, 127, 1), (23, 128, 1), (24, 127, 2), (25, 128, 2), (26, 127, 3), (27, 128, 3), (28, 0, 4), (29, 130, 0), (30, 130, 1), (31, 130, 2), (32, 130, 3)] ++ (List.range 30).map (fun i => (1355 + i, 4, i))
/-- the Store s holds a, what its Steps hold aside -/
def PX (s : Nat) (a : Nat → Nat) (ν : Nm) : Prop := ∀ p ∈ plL, gi ν (s + p.2.1) p.2.2 = nI (a p.1)
def RX (s : Nat) (a : Nat → Nat) (ν : Nm) : Prop := gi ν s 7 = nI (a 3) - 1
def TX (s : Nat) (a : Nat → Nat) (ν : Nm) : Prop := (∀ i, i < 8 → gi ν (s + 132) i = nI (2 * a (33 + 2 * i) + a (34 + 2 * i))) ∧ ∀ i, i < 8 → gi ν (s + 134) i = nI (11 * a (49 + 2 * i) + a (50 + 2 * i))
/-- a step's Pit in cell p, against the model's place x -/
def SX1 (p x : Nat) (a : Nat → Nat) (ν : Nm) : Prop := gi ν p 0 = nI (a x) ∧ gi ν p 1 = nI (a (x + 1)) ∧ gi ν p 2 = nI (a (x + 2)) ∧ gi ν p 3 = nI (a (x + 3)) ∧ gi ν p 7 = nI (a (x + 4)) ∧ (∀ c, c < 4 → gi ν (p + 1) c = nI (a (x + 5 + 2 * c)) ∧ gi ν (p + 2) c = nI (a (x + 6 + 2 * c))) ∧ ∀ k, k < 30 → gi ν (p + 3) k = nI (a (x + 13 + k))
def SX (s : Nat) (a : Nat → Nat) (ν : Nm) : Prop := ∃ f, f < 30 ∧ gi ν (s + 5) 1 = nI f ∧ ∀ i, i < a 4 → SX1 (s + 7 + 4 * ((f + i) % 30)) (65 + 43 * i) a ν
/-- a Store holds a -/
def CX (s : Nat) (a : Nat → Nat) (ν : Nm) : Prop := PX s a ν ∧ RX s a ν ∧ TX s a ν ∧ SX s a ν
theorem plInj : ∀ p ∈ plL, ∀ q ∈ plL, p.2 = q.2 → p = q := by decide +kernel
theorem plInj1 : ∀ p ∈ plL, ∀ q ∈ plL, p.1 = q.1 → p = q := by decide +kernel
/-- places of a Store that the plain ones leave free -/
theorem plNo : ∀ p ∈ plL, p.1 ≠ 3 ∧ (p.1 < 33 ∨ 1355 ≤ p.1) ∧ p.1 < 1385 ∧ p.2 ≠ (0, 7) ∧ p.2.1 ≠ 132 ∧ p.2.1 ≠ 134 ∧ p.2 ≠ (5, 1) ∧ (p.2.1 < 7 ∨ 127 ≤ p.2.1) ∧ p.2.1 < 135 := by decide +kernel
theorem MX_up {m : Nat} {a : Nat → Nat} {ν : Nm} {i v : Nat} (h : MX m a ν) (hi : i ≠ 3) : MX m (upn a i v) (si ν m i (nI v)) := by
  refine ⟨fun j hj hj3 => ?_, ?_⟩
  · by_cases e : j = i
    · subst e; rw [gi_si_s, upn_s]
    · rw [gi_si_j _ _ _ e, upn_n _ _ e]; exact h.1 j hj hj3
  · rw [gi_si_j _ _ _ (Ne.symm hi), upn_n _ _ (Ne.symm hi)]; exact h.2
theorem MX_keep {m : Nat} {a : Nat → Nat} {ν ν2 : Nm} (h : MX m a ν) (hk : ∀ j, gi ν2 m j = gi ν m j) : MX m a ν2 := ⟨fun j h1 h2 => by rw [hk]; exact h.1 j h1 h2, by rw [hk]; exact h.2⟩
theorem SX1_keep {p x : Nat} {a a2 : Nat → Nat} {ν ν2 : Nm} (h : SX1 p x a ν) (hk : ∀ q j, p ≤ q → q < p + 4 → gi ν2 q j = gi ν q j) (ha : ∀ k, x ≤ k → k < x + 43 → a2 k = a k) : SX1 p x a2 ν2 := by
  obtain ⟨h1, h2, h3, h4, h5, h6, h7⟩ := h
  refine ⟨?_, ?_, ?_, ?_, ?_, fun c hc => ⟨?_, ?_⟩, fun k hk2 => ?_⟩
  · rw [hk _ _ (by omega) (by omega), ha _ (by omega) (by omega)]; exact h1
  · rw [hk _ _ (by omega) (by omega), ha _ (by omega) (by omega)]; exact h2
  · rw [hk _ _ (by omega) (by omega), ha _ (by omega) (by omega)]; exact h3
  · rw [hk _ _ (by omega) (by omega), ha _ (by omega) (by omega)]; exact h4
  · rw [hk _ _ (by omega) (by omega), ha _ (by omega) (by omega)]; exact h5
  · rw [hk _ _ (by omega) (by omega), ha _ (by omega) (by omega)]; exact (h6 c hc).1
  · rw [hk _ _ (by omega) (by omega), ha _ (by omega) (by omega)]; exact (h6 c hc).2
  · rw [hk _ _ (by omega) (by omega), ha _ (by omega) (by omega)]; exact h7 k hk2
theorem CX_keep {s : Nat} {a : Nat → Nat} {ν ν2 : Nm} (h : CX s a ν) (hk : ∀ q j, s ≤ q → q < s + 135 → gi ν2 q j = gi ν q j) : CX s a ν2 := by
  obtain ⟨h1, h2, ⟨h3, h4⟩, f, h5, h6, h7⟩ := h
  refine ⟨fun p hp => ?_, ?_, ⟨fun i hi => ?_, fun i hi => ?_⟩, f, h5, ?_, fun i hi => ?_⟩
  · rw [hk _ _ (by omega) (by have := (plNo p hp).2.2.2.2.2.2.2.2; omega)]; exact h1 p hp
  · unfold RX; rw [hk _ _ (by omega) (by omega)]; exact h2
  · rw [hk _ _ (by omega) (by omega)]; exact h3 i hi
  · rw [hk _ _ (by omega) (by omega)]; exact h4 i hi
  · rw [hk _ _ (by omega) (by omega)]; exact h6
  · exact SX1_keep (h7 i hi) (fun q j h1 h2 => hk q j (by omega) (by omega)) (fun _ _ _ => rfl)
/-- one plain number changes (not the number of steps) -/
theorem CX_up {s : Nat} {a : Nat → Nat} {ν : Nm} (h : CX s a ν) (p : Nat × Nat × Nat) (hp : p ∈ plL) (h4 : p.1 ≠ 4) (h30 : a 4 ≤ 30) (v : Nat) : CX s (upn a p.1 v) (si ν (s + p.2.1) p.2.2 (nI v)) := by
  obtain ⟨h1, h2, ⟨h3, h34⟩, f, h5, h6, h7⟩ := h
  obtain ⟨n1, n2, n3, n4, n5, n6, n7, n8, n9⟩ := plNo p hp
  have hne : ∀ q : Nat × Nat × Nat, q ∈ plL → q ≠ p → ¬ (s + q.2.1 = s + p.2.1 ∧ q.2.2 = p.2.2) := fun q hq e h => e (plInj q hq p hp (Prod.ext (by omega) h.2))
  refine ⟨fun q hq => ?_, ?_, ⟨fun i hi => ?_, fun i hi => ?_⟩, f, h5, ?_, fun i hi => ?_⟩
  · by_cases e : q = p
    · subst e; rw [gi_si_s, upn_s]
    · rw [gi_si, if_neg (hne q hq e), upn_n _ _ (fun e2 => e (plInj1 q hq p hp e2))]
      exact h1 q hq
  · unfold RX
    rw [gi_si, if_neg (fun e => n4 (Prod.ext (by show p.2.1 = 0; omega) e.2.symm)), upn_n _ _ (Ne.symm n1)]
    exact h2
  · rw [gi_si, if_neg (by omega), upn_n _ _ (by omega), upn_n _ _ (by omega)]
    exact h3 i hi
  · rw [gi_si, if_neg (by omega), upn_n _ _ (by omega), upn_n _ _ (by omega)]
    exact h34 i hi
  · rw [gi_si, if_neg (fun e => n7 (Prod.ext (by show p.2.1 = 5; omega) e.2.symm))]
    exact h6
  · rw [upn_n _ _ (Ne.symm h4)] at hi
    exact SX1_keep (h7 i hi) (fun q j a1 a2 => by rw [gi_si, if_neg (by omega)]) (fun k k1 k2 => upn_n _ _ (by omega))
