/-! Rows, as functions of numbers: r what is left of each cord, e how many ends burn, t the moments, x what is lit (three to the cord). -/
def dg (x c : Nat) : Nat := x / 3 ^ c % 3
def mo (r e : Nat → Nat) (c : Nat) : Nat := if r c = 0 then 0 else 2 - e c
def vl (r e : Nat → Nat) (x : Nat) : Bool := decide (dg x 0 ≤ mo r e 0) && (decide (dg x 1 ≤ mo r e 1) && (decide (dg x 2 ≤ mo r e 2) && decide (dg x 3 ≤ mo r e 3)))
def bn (e : Nat → Nat) (x c : Nat) : Nat := e c + dg x c
def nd (r e : Nat → Nat) (x c : Nat) : Nat := (r c + bn e x c - 1) / bn e x c
/-- sparks to the next moment (0: nothing burns) -/
def byK (r e : Nat → Nat) (x : Nat) : Nat → Nat → Nat → Nat
  | 0, _, s => s
  | k + 1, i, s => byK r e x k (i + 1) (if bn e x i = 0 then s else if s = 0 then nd r e x i else min s (nd r e x i))
def byA (r e : Nat → Nat) (x : Nat) : Nat := byK r e x 4 0 0
def nr (r e : Nat → Nat) (x c : Nat) : Nat := r c - byA r e x * bn e x c
def ne (r e : Nat → Nat) (x c : Nat) : Nat := if nr r e x c = 0 then 0 else bn e x c
/-- the first moment from which it is v to moment m -/
def hit (v m : Nat) (t : Nat → Nat) : Nat → Nat → Option Nat
  | 0, _ => none
  | k + 1, i => if t m - t i = v then some i else hit v m t k (i + 1)
/-- the first that g finds, from x on -/
def fsc {α : Type} (g : Nat → Option α) : Nat → Nat → Option α
  | 0, _ => none
  | j + 1, x => match g x with
    | some p => some p
    | none => fsc g j (x + 1)
/-- what is lit at x, and then what F finds -/
def fbr (F : (Nat → Nat) → (Nat → Nat) → (Nat → Nat) → Option (Nat × List Nat)) (m : Nat) (t r e : Nat → Nat) (x : Nat) : Option (Nat × List Nat) :=
  if vl r e x = true ∧ byA r e x ≠ 0 then (F (upn t (m + 1) (t m + byA r e x)) (nr r e x) (ne r e x)).map (fun p => (p.1, x :: p.2)) else none
/-- the first row of k moments more whose last span, from a moment on, is v -/
def fnd (v : Nat) : Nat → Nat → (Nat → Nat) → (Nat → Nat) → (Nat → Nat) → Option (Nat × List Nat)
  | 0, m, t, _, _ => (hit v m t m 0).map (fun i => (i, []))
  | k + 1, m, t, r, e => fsc (fbr (fnd v k (m + 1)) m t r e) 81 0
def zer : Nat → Nat := fun _ => 0
/-- a set of cords at its start -/
def r0 (a : Nat → Nat) (s c : Nat) : Nat := if s / 2 ^ c % 2 = 1 then 64 * a (20 + 2 * c) else 0
def fn0 (a : Nat → Nat) (s v n : Nat) : Option (Nat × List Nat) := fnd v n 0 zer (r0 a s) zer
/-- the set gives the span -/
def mkS (a : Nat → Nat) (s v : Nat) : Prop := ∃ n, 1 ≤ n ∧ n ≤ 4 ∧ (fn0 a s v n).isSome = true
theorem r0_ext {a a2 : Nat → Nat} {s : Nat} (h : ∀ c, s / 2 ^ c % 2 = 1 → a2 (20 + 2 * c) = a (20 + 2 * c)) : r0 a2 s = r0 a s := by
  funext c
  unfold r0
  by_cases e : s / 2 ^ c % 2 = 1
  · rw [if_pos e, if_pos e, h c e]
  · rw [if_neg e, if_neg e]
theorem fn0_ext {a a2 : Nat → Nat} {s : Nat} (h : ∀ c, s / 2 ^ c % 2 = 1 → a2 (20 + 2 * c) = a (20 + 2 * c)) (v n : Nat) : fn0 a2 s v n = fn0 a s v n := by
  unfold fn0; rw [r0_ext h]
theorem mkS_ext {a a2 : Nat → Nat} {s : Nat} (h : ∀ c, s / 2 ^ c % 2 = 1 → a2 (20 + 2 * c) = a (20 + 2 * c)) (v : Nat) : mkS a2 s v ↔ mkS a s v := by
  unfold mkS
  simp only [fn0_ext h]
/-- bits of a set are cords -/
theorem bit_lt {s n c : Nat} (hs : s < 2 ^ n) (h : s / 2 ^ c % 2 = 1) : c < n := by
  apply Nat.lt_of_not_le
  intro q
  have : 2 ^ n ≤ 2 ^ c := Nat.pow_le_pow_right (by omega) q
  rw [Nat.div_eq_of_lt (by omega)] at h
  omega
/-- the class's mark -/
def MB (s v : Nat) (ν : Nm) : Prop := (gl ν 277 (s * 241 + v / 64)).toBitVec.getLsbD (v % 64) = true
/-- what the class keeps of rows -/
def RCk (a : Nat → Nat) (ν : Nm) : Prop := ∃ K, K < 65536 ∧ gi ν 276 4 = nI K ∧ ∀ s, 1 ≤ s → s < 2 ^ a 0 → K / 2 ^ s % 2 = 1 → ∀ v, v < 15424 → (MB s v ν ↔ mkS a s v)
def RCr (a : Nat → Nat) (ν : Nm) : Prop := ∃ S, S < 16 ∧ gi ν 276 5 = nI S ∧ (1 ≤ S → S < 2 ^ a 0 → ∃ v n i l, 1 ≤ v ∧ v ≤ 15360 ∧ gi ν 276 6 = nI v ∧ 1 ≤ n ∧ n ≤ 4 ∧ fn0 a S v n = some (i, l) ∧ (∀ n2, 1 ≤ n2 → n2 < n → fn0 a S v n2 = none) ∧ gi ν 276 2 = nI n ∧ gi ν 276 1 = nI i ∧ ∀ j, j < n → ∀ c, c < 4 → gi ν 280 (4 * j + c) = nI (dg (l.getD j 0) c))
def RC (a : Nat → Nat) (ν : Nm) : Prop := RCk a ν ∧ RCr a ν
/-- what the model keeps of rows -/
def RM1 (a : Nat → Nat) (s : Nat) (ν : Nm) : Prop := ∃ P : Nat → Bool, (∀ k, k < 15361 → gi ν 327 (15361 * s + k) = b2i (P k) ∧ (P k = true ↔ mkS a (s % 2 ^ a 0) k)) ∧ gi ν 328 s = nI (cnt P 15361)
def RM (a : Nat → Nat) (ν : Nm) : Prop := ∀ s, 1 ≤ s → s < 16 → gi ν 328 s = -1 ∨ RM1 a s ν
def rcq (q : Nat) : Prop := 276 ≤ q ∧ q ≤ 281
theorem MB_keep {s v : Nat} {ν ν2 : Nm} (kl : ∀ j, gl ν2 277 j = gl ν 277 j) : MB s v ν2 ↔ MB s v ν := by unfold MB; rw [kl]
theorem RC_keep {a a2 : Nat → Nat} {ν ν2 : Nm} (h : RC a ν) (h4 : a 0 ≤ 4) (ha : a2 0 ≤ a 0 ∧ ∀ c, c < 4 → c < a2 0 → a2 (20 + 2 * c) = a (20 + 2 * c)) (k : ∀ q j, rcq q → gi ν2 q j = gi ν q j) (kl : ∀ j, gl ν2 277 j = gl ν 277 j) : RC a2 ν2 := by
  have hp : 2 ^ a2 0 ≤ 2 ^ a 0 := Nat.pow_le_pow_right (by omega) ha.1
  have he : ∀ s, s < 2 ^ a2 0 → ∀ c, s / 2 ^ c % 2 = 1 → a2 (20 + 2 * c) = a (20 + 2 * c) := fun s hs c hc => by
    have := bit_lt hs hc
    exact ha.2 c (by omega) this
  obtain ⟨⟨K, k1, k2, k3⟩, S, s1, s2, s3⟩ := h
  refine ⟨⟨K, k1, by rw [k _ _ (by unfold rcq; omega)]; exact k2, fun s h1 h2 h3 v hv => ?_⟩, S, s1, by rw [k _ _ (by unfold rcq; omega)]; exact s2, fun h1 h2 => ?_⟩
  · rw [MB_keep kl, mkS_ext (he s h2)]; exact k3 s h1 (by omega) h3 v hv
  · obtain ⟨v, n, i, l, q1, q2, q3, q4, q5, q6, q7, q8, q9, q10⟩ := s3 h1 (by omega)
    exact ⟨v, n, i, l, q1, q2, by rw [k _ _ (by unfold rcq; omega)]; exact q3, q4, q5, by rw [fn0_ext (he S h2)]; exact q6, fun n2 z1 z2 => by rw [fn0_ext (he S h2)]; exact q7 n2 z1 z2, by rw [k _ _ (by unfold rcq; omega)]; exact q8, by rw [k _ _ (by unfold rcq; omega)]; exact q9, fun j hj c hc => by rw [k _ _ (by unfold rcq; omega)]; exact q10 j hj c hc⟩
theorem RM1_keep {a a2 : Nat → Nat} {s : Nat} {ν ν2 : Nm} (h : RM1 a s ν) (h0 : a2 0 = a 0) (he : ∀ c, (s % 2 ^ a 0) / 2 ^ c % 2 = 1 → a2 (20 + 2 * c) = a (20 + 2 * c)) (k : ∀ j, gi ν2 327 j = gi ν 327 j) (k2 : gi ν2 328 s = gi ν 328 s) : RM1 a2 s ν2 := by
  obtain ⟨P, p1, p2⟩ := h
  exact ⟨P, fun j hj => ⟨by rw [k]; exact (p1 j hj).1, by rw [h0, mkS_ext he]; exact (p1 j hj).2⟩, by rw [k2]; exact p2⟩
theorem RM_keep {a a2 : Nat → Nat} {ν ν2 : Nm} (h : RM a ν) (h4 : a 0 ≤ 4) (ha : a2 0 = a 0 ∧ ∀ c, c < 4 → c < a2 0 → a2 (20 + 2 * c) = a (20 + 2 * c)) (k : ∀ j, gi ν2 327 j = gi ν 327 j) (k2 : ∀ j, gi ν2 328 j = gi ν 328 j) : RM a2 ν2 := by
  intro s h1 h3
  rcases h s h1 h3 with q | q
  · exact Or.inl (by rw [k2]; exact q)
  · refine Or.inr (RM1_keep q ha.1 (fun c hc => ?_) k (k2 s))
    have := bit_lt (Nat.mod_lt s (Nat.pow_pos (show 0 < 2 by omega))) hc
    exact ha.2 c (by omega) (by omega)
theorem RM_none {a : Nat → Nat} {ν : Nm} (h : ∀ j, j < 16 → gi ν 328 j = -1) : RM a ν := fun s _ h3 => Or.inl (h s h3)
/-- a cord's sets are forgotten -/
theorem clr_m : ∀ s, s < 16 → ((1 : Int32) <<< (nI s &&& 31)) ^^^ (-1 : Int32) = nI (4294967295 - 2 ^ s) := by decide +kernel
theorem clr_b : ∀ s, s < 16 → (4294967295 - 2 ^ s).testBit s = false := by decide +kernel
theorem clrI (K : Nat) {s : Nat} (hs : s < 16) : ∃ K2, K2 ≤ K ∧ nI K &&& (((1 : Int32) <<< (nI s &&& 31)) ^^^ (-1 : Int32)) = nI K2 ∧ ∀ i, K2 / 2 ^ i % 2 = 1 → K / 2 ^ i % 2 = 1 ∧ i ≠ s := by
  refine ⟨K &&& (4294967295 - 2 ^ s), Nat.and_le_left, by rw [clr_m s hs, nI_and], fun i hi => ?_⟩
  rw [← tbit, Nat.testBit_and, Bool.and_eq_true] at hi
  refine ⟨(tbit K i).mp hi.1, ?_⟩
  rintro rfl
  rw [clr_b i hs] at hi
  cases hi.2
theorem c_forget7 {c : Nat} (hc : c < 4) : ∀ (k f i K : Nat) (ν : Nm), i + k = 16 → k < f → gi ν 276 4 = nI K → K < 65536 → ∃ ν2 K2, Rw_forget_7 f (nI c) (nI i) ν = some ν2 ∧ gi ν2 276 4 = nI K2 ∧ K2 ≤ K ∧ (∀ s, K2 / 2 ^ s % 2 = 1 → K / 2 ^ s % 2 = 1 ∧ (i ≤ s → s < 16 → ¬ s / 2 ^ c % 2 = 1)) ∧ (∀ q j, ¬ (q = 276 ∧ j = 4) → gi ν2 q j = gi ν q j) ∧ ∀ q j, gl ν2 q j = gl ν q j := by
  intro k
  induction k with
  | zero =>
    intro f i K ν hi hf h hK
    obtain ⟨f, rfl⟩ := fsucc hf
    exact ⟨ν, K, by rw [Rw_forget_7, if_pos (by rw [show (16 : Int32) = nI 16 from rfl, nI_le' (by omega) (by omega)]; omega)], h, Nat.le_refl _, fun s q => ⟨q, fun _ _ => by omega⟩, fun _ _ _ => rfl, fun _ _ => rfl⟩
  | succ k ih =>
    intro f i K ν hi hf h hK
    obtain ⟨f, rfl⟩ := fsucc hf
    have e1 : nI i + 1 = nI (i + 1) := nI_add i 1
    have bt : ((nI i >>> (nI c &&& 31)) &&& 1 = 0) = ¬ (i / 2 ^ c % 2 = 1) := propext (bit_tst (by omega) (by omega))
    rw [Rw_forget_7, if_neg (by rw [show (16 : Int32) = nI 16 from rfl, nI_le' (by omega) (by omega)]; omega)]
    simp only [bt]
    unfold Rw_forget_35
    rw [e1]
    by_cases e : i / 2 ^ c % 2 = 1
    · obtain ⟨K1, a1, a2, a3⟩ := clrI K (show i < 16 by omega)
      rw [if_neg (by simp [e]), h, a2]
      obtain ⟨ν2, K2, p1, p2, p3, p4, p5, p6⟩ := ih f (i + 1) K1 (si ν 276 4 (nI K1)) (by omega) (by omega) (gi_si_s _ _ _ _) (by omega)
      refine ⟨ν2, K2, p1, p2, by omega, fun s q => ?_, fun q j hq => by rw [p5 q j hq, gi_si, if_neg hq], fun q j => by rw [p6, gl_si]⟩
      obtain ⟨z1, z2⟩ := p4 s q
      obtain ⟨z3, z4⟩ := a3 s z1
      exact ⟨z3, fun y1 y2 => z2 (by omega) y2⟩
    · rw [if_pos e]
      obtain ⟨ν2, K2, p1, p2, p3, p4, p5, p6⟩ := ih f (i + 1) K ν (by omega) (by omega) h hK
      refine ⟨ν2, K2, p1, p2, p3, fun s q => ?_, p5, p6⟩
      obtain ⟨z1, z2⟩ := p4 s q
      refine ⟨z1, fun y1 y2 => ?_⟩
      by_cases e2 : s = i
      · subst e2; exact e
      · exact z2 (by omega) y2
theorem c_forget {a a2 : Nat → Nat} {ν : Nm} (h : RC a ν) (hc : a 0 < 4) (h0 : a2 0 = a 0 + 1) (hm : ∀ c, c < a 0 → a2 (20 + 2 * c) = a (20 + 2 * c)) : ∃ ν2, Rw_forget (nI (a 0)) ν = some ν2 ∧ RC a2 ν2 ∧ (∀ q j, ¬ (q = 276 ∧ (j = 4 ∨ j = 5)) → gi ν2 q j = gi ν q j) ∧ ∀ q j, gl ν2 q j = gl ν q j := by
  obtain ⟨⟨K, k1, k2, k3⟩, -⟩ := h
  obtain ⟨ν2, K2, p1, p2, p3, p4, p5, p6⟩ := c_forget7 hc 16 FU 0 K (si ν 276 5 0) (by omega) (by unfold FU; omega) (by rw [gi_si_j _ _ _ (by omega)]; exact k2) k1
  refine ⟨ν2, p1, ⟨⟨K2, by omega, p2, fun s h1 h2 h3 v hv => ?_⟩, 0, by omega, by rw [p5 _ _ (by omega), gi_si_s]; rfl, fun q => by omega⟩, fun q j hq => by rw [p5 q j (by omega), gi_si, if_neg (by omega)], fun q j => by rw [p6, gl_si]⟩
  obtain ⟨z1, z2⟩ := p4 s h3
  have h16 : s < 16 := by
    have : 2 ^ a2 0 ≤ 2 ^ 4 := Nat.pow_le_pow_right (by omega) (by omega)
    omega
  have hs : s < 2 ^ a 0 := by
    apply Nat.lt_of_not_le
    intro q
    apply z2 (by omega) h16
    rw [h0, Nat.pow_succ] at h2
    have : s / 2 ^ a 0 = 1 := by
      apply Nat.div_eq_of_lt_le
      · omega
      · omega
    rw [this]
  rw [MB_keep (ν := ν) (fun j => by rw [p6, gl_si]), mkS_ext (a := a) (fun c hcb => hm c (bit_lt hs hcb))]
  exact k3 s h1 hs z1 v hv
