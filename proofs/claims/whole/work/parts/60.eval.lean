/-! What a law's code comes to, as a function of numbers. An item: operation and number, as the model has them. -/
def nmK (v : Nat) : Nat := if v = 0 then 22 else if v = 1 then 4 else if v = 2 then 23 else if v = 3 then 24 else if v = 4 then 5 else if v = 5 then 25 else 26
def opK (o : Nat) : Nat := if o = 2 then 14 else if o = 3 then 15 else if o = 4 then 13 else if o = 5 then 130 else if o = 6 then 43 else if o = 7 then 45 else if o = 8 then 42 else if o = 9 then 47 else if o = 10 then 60 else if o = 11 then 128 else if o = 12 then 62 else if o = 13 then 129 else if o = 14 then 61 else if o = 15 then 35 else if o = 20 then 21 else if o = 21 then 20 else 19
/-- the class's item -/
def itm (p : Nat × Nat) : Int32 := if p.1 = 0 then nI p.2 else if p.1 = 1 then -(nI (nmK p.2)) else -(nI (opK p.1))
/-- values and truths that stand on each other (true: a value) -/
def tyE (p : Nat × Nat) (t : List Bool) : Option (List Bool) :=
  if p.1 = 0 then (if p.2 ≤ 9999 then some (true :: t) else none)
  else if p.1 = 1 then (if p.2 < 7 then some (true :: t) else none)
  else if p.1 = 3 then (match t with | true :: true :: false :: r => some (true :: r) | _ => none)
  else if p.1 ≤ 5 then (match t with | true :: r => some (true :: r) | _ => none)
  else if p.1 ≤ 9 then (match t with | true :: true :: r => some (true :: r) | _ => none)
  else if p.1 ≤ 15 then (match t with | true :: true :: r => some (false :: r) | _ => none)
  else if p.1 = 20 then (match t with | false :: r => some (false :: r) | _ => none)
  else if p.1 = 21 ∨ p.1 = 22 then (match t with | false :: false :: r => some (false :: r) | _ => none)
  else none
def tyR (K : Nat → Nat × Nat) : Nat → Nat → List Bool → Option (List Bool)
  | 0, _, t => some t
  | k + 1, i, t => (tyE (K i) t).bind (tyR K k (i + 1))
def b2l (b : Bool) : Int64 := if b then 1 else 0
def unV (out : Int64 → Bool) (o : Nat) (x : Int64) : Int64 := if o = 5 then -x else if o = 4 then twL x else if o = 2 then b2l (out x) else b2l (decide (x = 0))
def biV (o : Nat) (x y : Int64) : Int64 :=
  if o = 6 then clipL (x + y) else if o = 7 then clipL (x - y) else if o = 8 then clipL (x * y) else if o = 9 then (if y = 0 then 0 else clipL (x / y))
  else if o = 10 then b2l (decide (x.toInt < y.toInt)) else if o = 11 then b2l (decide (x.toInt ≤ y.toInt)) else if o = 12 then b2l (decide (y.toInt < x.toInt)) else if o = 13 then b2l (decide (y.toInt ≤ x.toInt))
  else if o = 14 then b2l (decide (x = y)) else if o = 15 then b2l (decide (x ≠ y)) else if o = 21 then b2l (decide (x ≠ 0 ∧ y ≠ 0)) else b2l (decide (x ≠ 0 ∨ y ≠ 0))
def opE (E : Nat → Int64) (out : Int64 → Bool) (p : Nat × Nat) (g : List (Bool × Int64)) : List (Bool × Int64) :=
  if p.1 = 0 then (true, lq p.2) :: g
  else if p.1 = 1 then (true, E p.2) :: g
  else if p.1 = 3 then (match g with | z :: y :: x :: r => (true, if x.2 = 0 then z.2 else y.2) :: r | _ => [])
  else if p.1 ≤ 5 ∨ p.1 = 20 then (match g with | x :: r => (x.1, unV out p.1 x.2) :: r | _ => [])
  else (match g with | y :: x :: r => (decide (p.1 ≤ 9), biV p.1 x.2 y.2) :: r | _ => [])
def evR (E : Nat → Int64) (out : Int64 → Bool) (K : Nat → Nat × Nat) : Nat → Nat → List (Bool × Int64) → List (Bool × Int64)
  | 0, _, g => g
  | k + 1, i, g => evR E out K k (i + 1) (opE E out (K i) g)
/-- values are small, truths are 0 or 1 -/
def GO (g : List (Bool × Int64)) : Prop := ∀ x ∈ g, rng x.2 ∧ (x.1 = false → x.2 = 0 ∨ x.2 = 1)
theorem b2l_rng (b : Bool) : rng (b2l b) ∧ (b2l b = 0 ∨ b2l b = 1) := by
  cases b
  · exact ⟨⟨by decide, by decide⟩, Or.inl rfl⟩
  · exact ⟨⟨by decide, by decide⟩, Or.inr rfl⟩
theorem lq_rng {n : Nat} (h : n ≤ 1000000) : rng (lq n) := by unfold rng; rw [lq_int (by omega)]; omega
theorem unV_rng {out : Int64 → Bool} {o : Nat} {x : Int64} (h : rng x) : rng (unV out o x) := by
  unfold unV
  split
  · exact rng_neg h
  · split
    · exact (twos_eq h).2
    · split <;> exact (b2l_rng _).1
theorem biV_tru {o : Nat} (ho : 10 ≤ o) {x y : Int64} : biV o x y = 0 ∨ biV o x y = 1 := by
  unfold biV
  rw [if_neg (by omega), if_neg (by omega), if_neg (by omega), if_neg (by omega)]
  repeat' split
  all_goals exact (b2l_rng _).2
theorem rng01 {v : Int64} (h : v = 0 ∨ v = 1) : rng v := by
  rcases h with rfl | rfl
  · exact (b2l_rng false).1
  · exact (b2l_rng true).1
theorem biV_rng {o : Nat} {x y : Int64} : rng (biV o x y) := by
  by_cases h : 10 ≤ o
  · exact rng01 (biV_tru h)
  · unfold biV
    by_cases h6 : o = 6
    · rw [if_pos h6]; exact clipL_rng _
    rw [if_neg h6]
    by_cases h7 : o = 7
    · rw [if_pos h7]; exact clipL_rng _
    rw [if_neg h7]
    by_cases h8 : o = 8
    · rw [if_pos h8]; exact clipL_rng _
    rw [if_neg h8]
    by_cases h9 : o = 9
    · rw [if_pos h9]
      split
      · exact rng01 (Or.inl rfl)
      · exact clipL_rng _
    rw [if_neg h9, if_neg (by omega), if_neg (by omega), if_neg (by omega), if_neg (by omega), if_neg (by omega), if_neg (by omega), if_neg (by omega)]
    exact (b2l_rng _).1
/-- kinds of operations -/
theorem ty_cases {p : Nat × Nat} {t u : List Bool} (h : tyE p t = some u) :
    (p.1 = 0 ∧ p.2 ≤ 9999 ∧ u = true :: t) ∨ (p.1 = 1 ∧ p.2 < 7 ∧ u = true :: t) ∨ (p.1 = 3 ∧ ∃ r, t = true :: true :: false :: r ∧ u = true :: r) ∨ ((p.1 = 2 ∨ p.1 = 4 ∨ p.1 = 5) ∧ ∃ r, t = true :: r ∧ u = true :: r) ∨ ((6 ≤ p.1 ∧ p.1 ≤ 9) ∧ ∃ r, t = true :: true :: r ∧ u = true :: r) ∨ ((10 ≤ p.1 ∧ p.1 ≤ 15) ∧ ∃ r, t = true :: true :: r ∧ u = false :: r) ∨ (p.1 = 20 ∧ ∃ r, t = false :: r ∧ u = false :: r) ∨ ((p.1 = 21 ∨ p.1 = 22) ∧ ∃ r, t = false :: false :: r ∧ u = false :: r) := by
  unfold tyE at h
  split at h
  · split at h
    · cases h; exact Or.inl ⟨by assumption, by assumption, rfl⟩
    · cases h
  split at h
  · split at h
    · cases h; exact Or.inr (Or.inl ⟨by assumption, by assumption, rfl⟩)
    · cases h
  split at h
  · split at h
    · cases h; exact Or.inr (Or.inr (Or.inl ⟨by assumption, _, rfl, rfl⟩))
    · cases h
  split at h
  · split at h
    · cases h; exact Or.inr (Or.inr (Or.inr (Or.inl ⟨by omega, _, rfl, rfl⟩)))
    · cases h
  split at h
  · split at h
    · cases h; exact Or.inr (Or.inr (Or.inr (Or.inr (Or.inl ⟨by omega, _, rfl, rfl⟩))))
    · cases h
  split at h
  · split at h
    · cases h; exact Or.inr (Or.inr (Or.inr (Or.inr (Or.inr (Or.inl ⟨by omega, _, rfl, rfl⟩)))))
    · cases h
  split at h
  · split at h
    · cases h; exact Or.inr (Or.inr (Or.inr (Or.inr (Or.inr (Or.inr (Or.inl ⟨by assumption, _, rfl, rfl⟩))))))
    · cases h
  split at h
  · split at h
    · cases h; exact Or.inr (Or.inr (Or.inr (Or.inr (Or.inr (Or.inr (Or.inr ⟨by assumption, _, rfl, rfl⟩))))))
    · cases h
  · cases h
/-- the class's stack (275) holds g -/
def CS : List (Bool × Int64) → Nm → Prop
  | [], _ => True
  | x :: g, ν => gi ν 275 g.length = x.2.toInt32 ∧ CS g ν
theorem CS_up {ν : Nm} : ∀ {g : List (Bool × Int64)} {k : Nat} (v : Int32), CS g ν → g.length ≤ k → CS g (si ν 275 k v) := by
  intro g
  induction g with
  | nil => intro _ _ _ _; exact True.intro
  | cons x g ih =>
    intro k v h hk
    have hk' : g.length + 1 ≤ k := hk
    exact ⟨by rw [gi_si_j _ _ _ (by omega)]; exact h.1, ih v h.2 (by omega)⟩
theorem gmap1 {g : List (Bool × Int64)} {b : Bool} {r : List Bool} (h : g.map Prod.fst = b :: r) : ∃ v g2, g = (b, v) :: g2 ∧ g2.map Prod.fst = r := by
  cases g with
  | nil => cases h
  | cons x g2 =>
    obtain ⟨b2, v⟩ := x
    rw [List.map_cons] at h
    obtain ⟨h1, h2⟩ := List.cons.inj h
    have : b2 = b := h1
    subst this
    exact ⟨v, g2, rfl, h2⟩
/-- one step keeps the kinds -/
theorem op_ty {E : Nat → Int64} {out : Int64 → Bool} {p : Nat × Nat} {g : List (Bool × Int64)} {u : List Bool} (h : tyE p (g.map Prod.fst) = some u) (hE : ∀ v, v < 7 → rng (E v)) (hg : GO g) : (opE E out p g).map Prod.fst = u ∧ GO (opE E out p g) ∧ (opE E out p g).length ≤ g.length + 1 := by
  unfold opE
  rcases ty_cases h with ⟨h1, h2, rfl⟩ | ⟨h1, h2, rfl⟩ | ⟨h1, r, h2, rfl⟩ | ⟨h1, r, h2, rfl⟩ | ⟨h1, r, h2, rfl⟩ | ⟨h1, r, h2, rfl⟩ | ⟨h1, r, h2, rfl⟩ | ⟨h1, r, h2, rfl⟩
  · rw [if_pos h1]
    refine ⟨rfl, fun x hx => ?_, Nat.le_refl _⟩
    rcases List.mem_cons.mp hx with rfl | hx
    · exact ⟨lq_rng (by omega), fun e => by cases e⟩
    · exact hg x hx
  · rw [if_neg (by omega), if_pos h1]
    refine ⟨rfl, fun x hx => ?_, Nat.le_refl _⟩
    rcases List.mem_cons.mp hx with rfl | hx
    · exact ⟨hE _ h2, fun e => by cases e⟩
    · exact hg x hx
  · obtain ⟨z, g1, rfl, e1⟩ := gmap1 h2
    obtain ⟨y, g2, rfl, e2⟩ := gmap1 e1
    obtain ⟨x, g3, rfl, e3⟩ := gmap1 e2
    rw [if_neg (by omega), if_neg (by omega), if_pos h1]
    refine ⟨by show true :: _ = _; rw [e3], fun w hw => ?_, by simp only [List.length_cons]; omega⟩
    rcases List.mem_cons.mp hw with rfl | hw
    · refine ⟨?_, fun e => by cases e⟩
      show rng (if x = 0 then z else y)
      split
      · exact (hg (true, z) (by simp)).1
      · exact (hg (true, y) (by simp)).1
    · exact hg w (by simp [hw])
  · obtain ⟨x, g1, rfl, e1⟩ := gmap1 h2
    rw [if_neg (by omega), if_neg (by omega), if_neg (by omega), if_pos (by omega)]
    refine ⟨by show true :: _ = _; rw [e1], fun w hw => ?_, by simp only [List.length_cons]; omega⟩
    rcases List.mem_cons.mp hw with rfl | hw
    · exact ⟨unV_rng (hg (true, x) (by simp)).1, fun e => by cases e⟩
    · exact hg w (by simp [hw])
  · obtain ⟨y, g1, rfl, e1⟩ := gmap1 h2
    obtain ⟨x, g2, rfl, e2⟩ := gmap1 e1
    rw [if_neg (by omega), if_neg (by omega), if_neg (by omega), if_neg (by omega)]
    refine ⟨by show decide (p.1 ≤ 9) :: _ = _; rw [e2, decide_eq_true h1.2], fun w hw => ?_, by simp only [List.length_cons]; omega⟩
    rcases List.mem_cons.mp hw with rfl | hw
    · refine ⟨biV_rng, fun e => ?_⟩
      have e' : decide (p.1 ≤ 9) = false := e
      rw [decide_eq_true h1.2] at e'; cases e'
    · exact hg w (by simp [hw])
  · obtain ⟨y, g1, rfl, e1⟩ := gmap1 h2
    obtain ⟨x, g2, rfl, e2⟩ := gmap1 e1
    rw [if_neg (by omega), if_neg (by omega), if_neg (by omega), if_neg (by omega)]
    refine ⟨by show decide (p.1 ≤ 9) :: _ = _; rw [e2, decide_eq_false (by omega)], fun w hw => ?_, by simp only [List.length_cons]; omega⟩
    rcases List.mem_cons.mp hw with rfl | hw
    · exact ⟨biV_rng, fun _ => biV_tru h1.1⟩
    · exact hg w (by simp [hw])
  · obtain ⟨x, g1, rfl, e1⟩ := gmap1 h2
    rw [if_neg (by omega), if_neg (by omega), if_neg (by omega), if_pos (by omega)]
    refine ⟨by show false :: _ = _; rw [e1], fun w hw => ?_, by simp only [List.length_cons]; omega⟩
    rcases List.mem_cons.mp hw with rfl | hw
    · refine ⟨unV_rng (hg (false, x) (by simp)).1, fun _ => ?_⟩
      show unV out p.1 x = 0 ∨ unV out p.1 x = 1
      unfold unV
      rw [if_neg (by omega), if_neg (by omega), if_neg (by omega)]
      exact (b2l_rng _).2
    · exact hg w (by simp [hw])
  · obtain ⟨y, g1, rfl, e1⟩ := gmap1 h2
    obtain ⟨x, g2, rfl, e2⟩ := gmap1 e1
    rw [if_neg (by omega), if_neg (by omega), if_neg (by omega), if_neg (by omega)]
    refine ⟨by show decide (p.1 ≤ 9) :: _ = _; rw [e2, decide_eq_false (by omega)], fun w hw => ?_, by simp only [List.length_cons]; omega⟩
    rcases List.mem_cons.mp hw with rfl | hw
    · exact ⟨biV_rng, fun _ => biV_tru (by omega)⟩
    · exact hg w (by simp [hw])
