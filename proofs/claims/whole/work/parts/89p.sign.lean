/-! The tape: signs of the class. -/
def sgC (x : Nat) : Bool := decide (x = 35 ∨ x = 40 ∨ x = 41 ∨ x = 42 ∨ x = 43 ∨ x = 45 ∨ x = 47 ∨ x = 59 ∨ x = 60 ∨ x = 61 ∨ x = 62)
def ixC (x : Nat) : Option Bool := (Js_indexOf 1 ((nI x).toUInt32 % 65536).toInt32).map (fun v => decide (0 ≤ v))
theorem ix_all : ∀ x, x < 256 → ixC x = some (sgC x) := by decide +kernel
theorem sg_all : ∀ x, x < 256 → Md_isSign (nI x) = some (sgC x || decide (x = 58)) := by decide +kernel
theorem c_ix {x : Nat} (h : x < 256) : ∃ v, Js_indexOf 1 ((nI x).toUInt32 % 65536).toInt32 = some v ∧ (0 ≤ v ↔ sgC x = true) := by
  have q := ix_all x h
  unfold ixC at q
  cases e : Js_indexOf 1 ((nI x).toUInt32 % 65536).toInt32 with
  | none => rw [e] at q; cases q
  | some v =>
    rw [e] at q
    have := Option.some.inj q
    exact ⟨v, rfl, by rw [← this, decide_eq_true_iff]⟩
