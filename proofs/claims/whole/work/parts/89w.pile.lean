/-! The model's pile as a list, its code as a list. -/
def rk (o : Nat) : Nat := if 40 ≤ o then 0 else if o = 22 then 1 else if o = 21 then 2 else if o = 20 then 3 else if 10 ≤ o then 4 else if 8 ≤ o then 6 else if 6 ≤ o then 5 else 7
theorem m_rank : ∀ o, o < 44 → Md_rank (nI o) = some (nI (rk o)) := by decide +kernel
theorem rk_le (o : Nat) : rk o ≤ 7 := by
  unfold rk
  repeat' split
  all_goals omega
theorem rk_0 (o : Nat) : rk o < 1 ↔ 40 ≤ o := by
  unfold rk
  by_cases h : 40 ≤ o
  · rw [if_pos h]; omega
  · rw [if_neg h]
    repeat' split
    all_goals omega
def opO (o : Nat) : Bool := decide (40 ≤ o ∨ rk o = 7 ∨ o = 20)
def cnO : List Nat → Nat
  | [] => 0
  | o :: X => cnO X + (if opO o = true then 1 else 0)
def opn : List Nat → Nat
  | [] => 0
  | o :: X => if 40 ≤ o then o else opn X
def cmpd : List Nat → Bool
  | [] => false
  | o :: X => if rk o ≤ 4 then decide (rk o = 4) else cmpd X
def askA : List Nat → Bool
  | [] => false
  | o :: X => decide (opn (o :: X) = 41) && decide (40 ≤ o ∨ (1 ≤ rk o ∧ rk o ≤ 3))
def stl (l : Nat) : List Nat → List (Nat × Nat) → List Nat × List (Nat × Nat)
  | [], c => ([], c)
  | o :: X, c => if rk o < l then (o :: X, c) else stl l X (c ++ [(o, 0)])
def pls : List Nat → Nm → Prop
  | [], _ => True
  | o :: X, ν => gi ν 318 X.length = nI o ∧ o < 44 ∧ pls X ν
def PLr (X : List Nat) (ν : Nm) : Prop := gi ν 313 16 = nI X.length ∧ X.length ≤ 160 ∧ gi ν 313 17 = nI (cnO X) ∧ pls X ν
def CDr (t : Nat) (c : List (Nat × Nat)) (ν : Nm) : Prop := t < 4 ∧ gi ν 313 12 = nI (681 * t) ∧ gi ν 313 13 = nI c.length ∧ ∀ i, i < c.length → gi ν 316 (681 * t + 73 + 2 * i) = nI (c.getD i (0, 0)).1 ∧ gi ν 316 (681 * t + 73 + 2 * i + 1) = nI (c.getD i (0, 0)).2
def frE (t : Nat) (q j : Nat) : Prop := (q = 313 ∧ j = 13) ∨ (q = 316 ∧ 681 * t + 73 ≤ j ∧ j < 681 * t + 681)
def frS (t : Nat) (q j : Nat) : Prop := frE t q j ∨ (q = 313 ∧ (j = 16 ∨ j = 17))
theorem cnO_1 {o : Nat} {X : List Nat} (h : opO o = true) : cnO (o :: X) = cnO X + 1 := by show cnO X + (if opO o = true then 1 else 0) = _; rw [if_pos h]
theorem cnO_0 {o : Nat} {X : List Nat} (h : opO o = false) : cnO (o :: X) = cnO X := by show cnO X + (if opO o = true then 1 else 0) = _; rw [if_neg (by rw [h]; decide)]; rfl
theorem cnO_le (X : List Nat) : cnO X ≤ X.length := by
  induction X with
  | nil => exact Nat.le_refl _
  | cons o X ih => unfold cnO; rw [List.length_cons]; split <;> omega
theorem pls_keep {ν ν2 : Nm} : ∀ {X : List Nat}, (∀ j, j < X.length → gi ν2 318 j = gi ν 318 j) → pls X ν → pls X ν2 := by
  intro X
  induction X with
  | nil => intro _ _; exact True.intro
  | cons o X ih => intro hk h; exact ⟨by rw [hk _ (by rw [List.length_cons]; omega)]; exact h.1, h.2.1, ih (fun j hj => hk j (by rw [List.length_cons]; omega)) h.2.2⟩
theorem PLr_keep {ν ν2 : Nm} {X : List Nat} (h : PLr X ν) (h6 : gi ν2 313 16 = gi ν 313 16) (h7 : gi ν2 313 17 = gi ν 313 17) (h8 : ∀ j, gi ν2 318 j = gi ν 318 j) : PLr X ν2 := ⟨by rw [h6]; exact h.1, h.2.1, by rw [h7]; exact h.2.2.1, pls_keep (fun j _ => h8 j) h.2.2.2⟩
theorem CDr_keep {ν ν2 : Nm} {t : Nat} {c : List (Nat × Nat)} (h : CDr t c ν) (hl : c.length ≤ 304) (h2 : gi ν2 313 12 = gi ν 313 12) (h3 : gi ν2 313 13 = gi ν 313 13) (h6 : ∀ j, 681 * t + 73 ≤ j → j < 681 * t + 681 → gi ν2 316 j = gi ν 316 j) : CDr t c ν2 := by
  obtain ⟨a1, a2, a3, a4⟩ := h
  exact ⟨a1, by rw [h2]; exact a2, by rw [h3]; exact a3, fun i hi => ⟨by rw [h6 _ (by omega) (by omega)]; exact (a4 i hi).1, by rw [h6 _ (by omega) (by omega)]; exact (a4 i hi).2⟩⟩
theorem getD_app_l {α : Type} (l m : List α) (x : α) {i : Nat} (h : i < l.length) : (l ++ m).getD i x = l.getD i x := by
  rw [List.getD_eq_getElem?_getD, List.getD_eq_getElem?_getD, List.getElem?_append_left h]
theorem getD_app_s {α : Type} (l : List α) (y x : α) : (l ++ [y]).getD l.length x = y := by
  rw [List.getD_eq_getElem?_getD, List.getElem?_append_right (Nat.le_refl _), Nat.sub_self]
  rfl
theorem m_emit {t : Nat} {c : List (Nat × Nat)} {ν : Nm} (h : CDr t c ν) (hl : c.length < 300) (o v : Nat) : ∃ ν2, Md_emit (nI o) (nI v) ν = some ν2 ∧ CDr t (c ++ [(o, v)]) ν2 ∧ Fr (frE t) ν ν2 := by
  obtain ⟨a1, a2, a3, a4⟩ := h
  have e1 : nI (681 * t) + (73 : Int32) + (2 : Int32) * nI c.length = nI (681 * t + 73 + 2 * c.length) := by
    rw [show (73 : Int32) = nI 73 from rfl, show (2 : Int32) = nI 2 from rfl, nI_mul, nI_add, nI_add]
  have g1 : ∀ (j : Nat) (x : Int32), gi (si ν 316 j x) 313 12 = nI (681 * t) := fun j x => by rw [gi_si_q _ _ _ _ (by omega)]; exact a2
  have g2 : ∀ (j : Nat) (x : Int32), gi (si ν 316 j x) 313 13 = nI c.length := fun j x => by rw [gi_si_q _ _ _ _ (by omega)]; exact a3
  unfold Md_emit Md_emit_42
  rw [a2, a3, e1, inb_nI (by omega), nI_clamp (by omega), if_pos (by simp; omega), g1, g2, e1, show (1 : Int32) = nI 1 from rfl, nI_add, inb_nI (by omega), nI_clamp (by omega), if_pos (by simp; omega)]
  have g3 : ∀ (ν3 : Nm) (j : Nat) (x : Int32), gi (si ν3 316 j x) 313 13 = gi ν3 313 13 := fun ν3 j x => gi_si_q _ _ _ _ (by omega)
  rw [g3, g3, a3, nI_add]
  have f : Fr (frE t) ν (si (si (si ν 316 (681 * t + 73 + 2 * c.length) (nI o)) 316 (681 * t + 73 + 2 * c.length + 1) (nI v)) 313 13 (nI (c.length + 1))) := Fr_si (Fr_si (Fr_si (Fr_rfl _ _) _ (Or.inr ⟨rfl, by omega, by omega⟩)) _ (Or.inr ⟨rfl, by omega, by omega⟩)) _ (Or.inl ⟨rfl, rfl⟩)
  refine ⟨_, rfl, ⟨a1, by rw [f.1 _ _ (by unfold frE; omega)]; exact a2, by rw [gi_si_s, List.length_append]; rfl, fun i hi => ?_⟩, f⟩
  rw [List.length_append, List.length_singleton] at hi
  by_cases z : i = c.length
  · subst z
    rw [getD_app_s]
    refine ⟨?_, ?_⟩
    · rw [gi_si_q _ _ _ _ (by omega), gi_si_j _ _ _ (by omega), gi_si_s]
    · rw [gi_si_q _ _ _ _ (by omega), gi_si_s]
  · rw [getD_app_l _ _ _ (by omega)]
    refine ⟨?_, ?_⟩
    · rw [gi_si_q _ _ _ _ (by omega), gi_si_j _ _ _ (by omega), gi_si_j _ _ _ (by omega)]; exact (a4 i (by omega)).1
    · rw [gi_si_q _ _ _ _ (by omega), gi_si_j _ _ _ (by omega), gi_si_j _ _ _ (by omega)]; exact (a4 i (by omega)).2
theorem le40 {o : Nat} (h : o < 44) : ((40 : Int32) ≤ nI o) = (40 ≤ o) := nI_le' (a := 40) (by omega) (by omega)
theorem le4 {o : Nat} (h : o ≤ 7) : (nI o ≤ (4 : Int32)) = (o ≤ 4) := nI_le' (b := 4) (by omega) (by omega)
theorem eqL {a b : Nat} (ha : a < 2 ^ 31) (hb : b < 2 ^ 31) : (nI a = nI b) = (a = b) := nI_eq' ha hb
theorem n0m1 : nI 0 - (1 : Int32) = -1 := by decide
theorem nS1 (k : Nat) : nI (k + 1) - (1 : Int32) = nI k := nI_sub (b := 1) (by omega)
theorem nA1 (k : Nat) : nI (k + 1) + (-1 : Int32) = nI k := by
  rw [show (-1 : Int32) = -(nI 1) from rfl]
  exact nI_an (by omega)
/-- the open one that is nearest -/
theorem m_openAt7 {ν : Nm} : ∀ (X : List Nat) (f : Nat), X.length < f → X.length ≤ 160 → pls X ν → (opn X = 0 ∧ Md_openAt_7 ν f (nI X.length - 1) = some (-1)) ∨ (40 ≤ opn X ∧ opn X < 44 ∧ ∃ k, k < X.length ∧ Md_openAt_7 ν f (nI X.length - 1) = some (nI k) ∧ gi ν 318 k = nI (opn X) ∧ (∀ o Y, X = o :: Y → 40 ≤ o → k = Y.length)) := by
  intro X
  induction X with
  | nil =>
    intro f hf _ _
    obtain ⟨f, rfl⟩ := fsucc hf
    left
    refine ⟨rfl, ?_⟩
    show Md_openAt_7 ν (f + 1) (nI 0 - 1) = some (-1)
    rw [n0m1, Md_openAt_7, if_pos (by decide)]
  | cons o X ih =>
    intro f hf hl h
    rw [List.length_cons] at hf hl
    obtain ⟨f, rfl⟩ := fsucc hf
    rw [List.length_cons, nS1, Md_openAt_7, if_neg (nI_pos (by omega)), inb_nI (by omega), nI_clamp (by omega), if_pos (by simp; omega), h.1]
    simp only [le40 h.2.1]
    unfold opn
    by_cases q : 40 ≤ o
    · rw [if_pos q, if_pos q]
      exact Or.inr ⟨q, h.2.1, X.length, by omega, rfl, h.1, fun o2 Y e _ => by injection e with _ e2; rw [e2]⟩
    · rw [if_neg q, if_neg q]
      have e : nI X.length + -1 = nI X.length - 1 := by rw [Int32.sub_eq_add_neg]
      rw [e]
      rcases ih f (by omega) (by omega) h.2.2 with ⟨i1, i2⟩ | ⟨i1, i2, k, k1, k2, k3, k4⟩
      · exact Or.inl ⟨i1, i2⟩
      · exact Or.inr ⟨i1, i2, k, by omega, k2, k3, fun o2 Y e2 h40 => by injection e2 with e3 _; omega⟩
theorem m_openAt {ν : Nm} {X : List Nat} (h : PLr X ν) : (opn X = 0 ∧ Md_openAt ν = some (-1)) ∨ (40 ≤ opn X ∧ opn X < 44 ∧ ∃ k, k < X.length ∧ Md_openAt ν = some (nI k) ∧ gi ν 318 k = nI (opn X) ∧ (∀ o Y, X = o :: Y → 40 ≤ o → k = Y.length)) := by
  have := m_openAt7 X FU (by have := h.2.1; unfold FU; omega) h.2.1 h.2.2.2
  unfold Md_openAt
  rw [h.1]
  exact this
def opI (k : Nat) : Int32 := if k = 0 then -1 else nI k
theorem m_openNow {ν : Nm} {X : List Nat} (h : PLr X ν) : Md_openNow ν = some (opI (opn X)) ∧ (opn X = 0 ∨ (40 ≤ opn X ∧ opn X < 44)) := by
  unfold Md_openNow opI
  have hl := h.2.1
  rcases m_openAt h with ⟨i1, i2⟩ | ⟨i1, i2, k, k1, k2, k3, -⟩
  · rw [i2, Option.bind_some, if_neg (by decide), if_pos i1]
    exact ⟨rfl, Or.inl i1⟩
  · rw [k2, Option.bind_some, if_pos (nI_pos' (by omega)), Option.bind_some, inb_nI (by omega), nI_clamp (by omega), if_pos (by simp; omega), k3, if_neg (by omega)]
    exact ⟨rfl, Or.inr ⟨i1, i2⟩⟩
theorem m_isCompared7 {ν : Nm} : ∀ (X : List Nat) (f : Nat), X.length < f → X.length ≤ 160 → pls X ν → Md_isCompared_7 ν f (nI X.length - 1) = some (cmpd X) := by
  intro X
  induction X with
  | nil =>
    intro f hf _ _
    obtain ⟨f, rfl⟩ := fsucc hf
    show Md_isCompared_7 ν (f + 1) (nI 0 - 1) = some false
    rw [n0m1, Md_isCompared_7, if_pos (by decide)]
    rfl
  | cons o X ih =>
    intro f hf hl h
    rw [List.length_cons] at hf hl
    obtain ⟨f, rfl⟩ := fsucc hf
    have r7 := rk_le o
    rw [List.length_cons, nS1, Md_isCompared_7, if_neg (nI_pos (by omega)), inb_nI (by omega), nI_clamp (by omega), if_pos (by simp; omega), h.1, m_rank o h.2.1, Option.bind_some]
    simp only [le4 r7]
    unfold cmpd
    by_cases q : rk o ≤ 4
    · rw [if_pos q, if_pos q]
      unfold Md_isCompared_30
      rw [if_neg (nI_pos (by omega)), inb_nI (by omega), nI_clamp (by omega), if_pos (by simp; omega), h.1, m_rank o h.2.1, Option.bind_some]
      simp only [show (nI (rk o) = (4 : Int32)) = (rk o = 4) from nI_eq' (b := 4) (by omega) (by omega)]
      by_cases q2 : rk o = 4
      · rw [if_neg (fun z => z q2), decide_eq_true q2]
      · rw [if_pos q2, decide_eq_false q2]
    · rw [if_neg q, if_neg q]
      have e : nI X.length + -1 = nI X.length - 1 := by rw [Int32.sub_eq_add_neg]
      rw [e]
      exact ih f (by omega) (by omega) h.2.2
theorem m_isCompared {ν : Nm} {X : List Nat} (h : PLr X ν) : Md_isCompared ν = some (cmpd X) := by
  have := m_isCompared7 X FU (by have := h.2.1; unfold FU; omega) h.2.1 h.2.2.2
  unfold Md_isCompared
  rw [h.1]
  exact this
theorem m_isAsk {ν : Nm} {X : List Nat} (h : PLr X ν) : Md_isAskAhead ν = some (askA X) := by
  obtain ⟨e1, e2⟩ := m_openNow h
  unfold Md_isAskAhead
  rw [e1, Option.bind_some]
  cases X with
  | nil => rfl
  | cons o X =>
    have hl := h.2.1
    have hp := h.2.2.2
    have r7 := rk_le o
    rw [List.length_cons] at hl
    unfold askA
    have e3 : (opI (opn (o :: X)) = (41 : Int32)) = (opn (o :: X) = 41) := by
      unfold opI
      by_cases z : opn (o :: X) = 0
      · rw [if_pos z, z]; decide
      · rw [if_neg z, show (41 : Int32) = nI 41 from rfl, nI_eq' (by omega) (by omega)]
    simp only [e3]
    by_cases q : opn (o :: X) = 41
    · rw [if_neg (fun z => z q), decide_eq_true q, Bool.true_and, h.1, List.length_cons, nS1, inb_nI (by omega), nI_clamp (by omega), if_pos (by simp; omega), hp.1]
      simp only [le40 hp.2.1]
      by_cases q2 : 40 ≤ o
      · rw [if_pos q2, decide_eq_true (Or.inl q2)]
      · rw [if_neg q2, if_pos (by simp; omega), m_rank o hp.2.1, Option.bind_some]
        by_cases q3 : 1 ≤ rk o ∧ rk o ≤ 3
        · rw [show (1 : Int32) = nI 1 from rfl, show (3 : Int32) = nI 3 from rfl, isIn_t q3.1 q3.2 (by omega), Option.bind_some, if_neg (by rw [b2iT]; exact id), decide_eq_true (Or.inr q3)]
        · rw [show (1 : Int32) = nI 1 from rfl, show (3 : Int32) = nI 3 from rfl, isIn_f (fun k h1 h2 e => q3 (by rw [nI_eq' (by omega) (by omega)] at e; omega)) (by omega) (by omega), Option.bind_some, if_pos (by rw [b2iF]; exact True.intro), decide_eq_false (fun z => z.elim q2 q3)]
    · rw [if_pos q, decide_eq_false q, Bool.false_and]
/-- settling -/
theorem m_settle0 {t l : Nat} (hl1 : 1 ≤ l) (hl7 : l < 2 ^ 31) : ∀ (X : List Nat) (c : List (Nat × Nat)) (f : Nat) (ν : Nm), X.length < f → PLr X ν → CDr t c ν → c.length + X.length ≤ 300 → ∃ ν2, Md_settle_0 f (nI l) ν = some ν2 ∧ PLr (stl l X c).1 ν2 ∧ CDr t (stl l X c).2 ν2 ∧ Fr (frS t) ν ν2 := by
  intro X
  induction X with
  | nil =>
    intro c f ν hf hP hC _
    obtain ⟨f, rfl⟩ := fsucc hf
    refine ⟨ν, ?_, hP, hC, Fr_rfl _ _⟩
    rw [Md_settle_0, hP.1, if_pos (by decide)]
  | cons o X ih =>
    intro c f ν hf hP hC hs
    obtain ⟨p1, p2, p3, p4⟩ := hP
    rw [List.length_cons] at hf hs p2 p1
    obtain ⟨f, rfl⟩ := fsucc hf
    have r7 := rk_le o
    have hcn := cnO_le X
    unfold stl
    rw [Md_settle_0, p1, if_neg (by rw [show (0 : Int32) = nI 0 from rfl, nI_le' (by omega) (by omega)]; omega), nS1, inb_nI (by omega), nI_clamp (by omega), if_pos (by simp; omega), p4.1, m_rank o p4.2.1, Option.bind_some]
    simp only [nI_lt' (show rk o < 2 ^ 31 by omega) hl7]
    by_cases q : rk o < l
    · rw [if_pos q, if_pos q]
      exact ⟨ν, rfl, ⟨by rw [List.length_cons]; exact p1, by rw [List.length_cons]; exact p2, p3, p4⟩, hC, Fr_rfl _ _⟩
    · rw [if_neg q, if_neg q]
      have f1 : Fr (frS t) ν (si ν 313 16 (nI X.length)) := Fr_si (Fr_rfl _ _) _ (Or.inr ⟨rfl, Or.inl rfl⟩)
      have C1 : CDr t c (si ν 313 16 (nI X.length)) := CDr_keep hC (by omega) (f1.1 _ _ (by unfold frS frE; omega)) (gi_si_j _ _ _ (by omega)) (fun j _ _ => gi_si_q _ _ _ _ (by omega))
      obtain ⟨ν2, e1, e2, e3⟩ := m_emit C1 (by omega) o 0
      have k2 : ∀ q j, ¬ frE t q j → gi ν2 q j = gi (si ν 313 16 (nI X.length)) q j := e3.1
      have g16 : gi ν2 313 16 = nI X.length := by rw [k2 _ _ (by unfold frE; omega), gi_si_s]
      have g318 : ∀ j, gi ν2 318 j = gi ν 318 j := fun j => by rw [k2 _ _ (by unfold frE; omega), gi_si_q _ _ _ _ (by omega)]
      have g17 : gi ν2 313 17 = nI (cnO (o :: X)) := by rw [k2 _ _ (by unfold frE; omega), gi_si_j _ _ _ (by omega)]; exact p3
      rw [gi_si_s, inb_nI (by omega), nI_clamp (by omega), if_pos (by simp; omega), gi_si_q _ _ _ _ (by omega), p4.1, show (0 : Int32) = nI 0 from rfl, e1, Option.bind_some, g16, inb_nI (by omega), nI_clamp (by omega), if_pos (by simp; omega), if_pos (by simp; omega), g318, p4.1, m_rank o p4.2.1, Option.bind_some]
      have f2 : Fr (frS t) ν ν2 := Fr_tr f1 (Fr_mono e3 (fun q j m => Or.inl m))
      have hlen : (c ++ [(o, 0)]).length + X.length ≤ 300 := by rw [List.length_append, List.length_singleton]; omega
      have dn : opO o = true → ∃ ν3, Md_settle_80 (Md_settle_0 f) (nI l) ν2 = some ν3 ∧ PLr (stl l X (c ++ [(o, 0)])).1 ν3 ∧ CDr t (stl l X (c ++ [(o, 0)])).2 ν3 ∧ Fr (frS t) ν ν3 := by
        intro ho
        unfold Md_settle_80
        have ec : cnO (o :: X) = cnO X + 1 := cnO_1 ho
        rw [g17, ec, nS1]
        obtain ⟨ν3, i1, i2, i3, i4⟩ := ih (c ++ [(o, 0)]) f (si ν2 313 17 (nI (cnO X))) (by omega) ⟨by rw [gi_si_j _ _ _ (by omega)]; exact g16, by omega, gi_si_s _ _ _ _, pls_keep (fun j _ => by rw [gi_si_q _ _ _ _ (by omega)]; exact g318 j) p4.2.2⟩ (CDr_keep e2 (by omega) (gi_si_j _ _ _ (by omega)) (gi_si_j _ _ _ (by omega)) (fun j _ _ => gi_si_q _ _ _ _ (by omega))) hlen
        exact ⟨ν3, i1, i2, i3, Fr_tr (Fr_si f2 _ (Or.inr ⟨rfl, Or.inr rfl⟩)) i4⟩
      have up : opO o = false → ∃ ν3, Md_settle_0 f (nI l) ν2 = some ν3 ∧ PLr (stl l X (c ++ [(o, 0)])).1 ν3 ∧ CDr t (stl l X (c ++ [(o, 0)])).2 ν3 ∧ Fr (frS t) ν ν3 := by
        intro ho
        have ec : cnO (o :: X) = cnO X := cnO_0 ho
        obtain ⟨ν3, i1, i2, i3, i4⟩ := ih (c ++ [(o, 0)]) f ν2 (by omega) ⟨g16, by omega, by rw [g17, ec], pls_keep (fun j _ => g318 j) p4.2.2⟩ e2 hlen
        exact ⟨ν3, i1, i2, i3, Fr_tr f2 i4⟩
      have h44 := p4.2.1
      simp only [show (nI (rk o) = (7 : Int32)) = (rk o = 7) from nI_eq' (b := 7) (by omega) (by omega), show (nI o = (20 : Int32)) = (o = 20) from nI_eq' (b := 20) (by omega) (by omega)]
      by_cases z : rk o = 7
      · rw [if_pos z]
        exact dn (decide_eq_true (Or.inr (Or.inl z)))
      · rw [if_neg z]
        by_cases z2 : o = 20
        · rw [if_neg (fun y => y z2)]
          exact dn (decide_eq_true (Or.inr (Or.inr z2)))
        · rw [if_pos z2]
          by_cases z3 : 40 ≤ o
          · -- an open one is not settled by the model; but its rank is 0
            exact absurd (Nat.lt_of_lt_of_le ((rk_0 o).mpr z3) hl1) q
          · exact up (decide_eq_false (by omega))
