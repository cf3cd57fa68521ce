/-! Crews: positions as codes (0 free, 1 one's own, 2 the other's; four to the cord). -/
def dc (code c : Nat) : Nat := code / 4 ^ c % 4
def hb (code w : Nat) : Nat := (if dc code 0 = w then 1 else 0) + (if dc code 1 = w then 2 else 0) + (if dc code 2 = w then 4 else 0) + (if dc code 3 = w then 8 else 0)
def sw (d : Nat) : Nat := if d = 0 then 0 else 3 - d
def tnc (code : Nat) : Nat := sw (dc code 0) + 4 * sw (dc code 1) + 16 * sw (dc code 2) + 64 * sw (dc code 3)
def ic (code : Nat) : Bool := decide (dc code 0 ≠ 3) && (decide (dc code 1 ≠ 3) && (decide (dc code 2 ≠ 3) && decide (dc code 3 ≠ 3)))
def nh (code : Nat) : Nat := (if dc code 0 = 0 then 0 else 1) + (if dc code 1 = 0 then 0 else 1) + (if dc code 2 = 0 then 0 else 1) + (if dc code 3 = 0 then 0 else 1)
def frs (n code : Nat) : Nat := (if 0 < n ∧ dc code 0 = 0 then 1 else 0) + (if 1 < n ∧ dc code 1 = 0 then 2 else 0) + (if 2 < n ∧ dc code 2 = 0 then 4 else 0) + (if 3 < n ∧ dc code 3 = 0 then 8 else 0)
theorem cf1 : ∀ code, code < 256 → ∀ w, w < 3 → Md_heldBy (nI code) (nI w) = some (nI (hb code w)) := by decide +kernel
theorem cf2 : ∀ code, code < 256 → Md_turned (nI code) = some (nI (tnc code)) ∧ tnc code < 256 := by decide +kernel
theorem cf3 : ∀ code, code < 256 → ∀ c, c < 4 → dc code c = 0 → nI code ||| ((1 : Int32) <<< (((2 : Int32) * nI c) &&& 31)) = nI (code + 4 ^ c) ∧ code + 4 ^ c < 256 := by decide +kernel
theorem cf3b : ∀ code, code < 256 → ∀ c, c < 4 → dc code c = 0 → hb (code + 4 ^ c) 1 = hb code 1 ||| 2 ^ c ∧ hb (code + 4 ^ c) 1 ≠ 0 ∧ hb (code + 4 ^ c) 1 < 16 ∧ hb (tnc (code + 4 ^ c)) 1 = hb code 2 ∧ hb (tnc (code + 4 ^ c)) 2 = hb code 1 ||| 2 ^ c := by decide +kernel
theorem cf3c : ∀ code, code < 256 → ic code = true → ∀ c, c < 4 → dc code c = 0 → ic (tnc (code + 4 ^ c)) = true ∧ nh (tnc (code + 4 ^ c)) = nh code + 1 := by decide +kernel
theorem cf4 : ∀ code, code < 256 → ∀ c, c < 4 → (nI code >>> (((2 : Int32) * nI c) &&& 31)) &&& 3 = nI (dc code c) := by decide +kernel
theorem cf5 : ∀ code, code < 256 → Md_isCode (nI code) = some (ic code) := by decide +kernel
theorem cf6 : ∀ code, code < 256 → ic code = true → Md_bits (nI (hb code 0)) = some (nI (4 - nh code)) ∧ nh code ≤ 4 := by decide +kernel
theorem cf7' : ∀ n, n < 5 → ∀ code, code < 256 → (ic code = true ∧ hb code 1 < 2 ^ n ∧ hb code 2 < 2 ^ n) → nI (2 ^ n - 1) &&& ((nI (hb code 1) ||| nI (hb code 2)) ^^^ (-1 : Int32)) = nI (frs n code) ∧ nh code ≤ n := by decide +kernel
theorem cf7 (n : Nat) (hn : n < 5) (code : Nat) (hc : code < 256) (h : ic code = true) (h1 : hb code 1 < 2 ^ n) (h2 : hb code 2 < 2 ^ n) : nI (2 ^ n - 1) &&& ((nI (hb code 1) ||| nI (hb code 2)) ^^^ (-1 : Int32)) = nI (frs n code) ∧ nh code ≤ n := cf7' n hn code hc ⟨h, h1, h2⟩
theorem cf8 : ∀ n, n < 5 → ∀ code, code < 256 → frs n code < 16 ∧ (∀ c, c < 4 → ((frs n code / 2 ^ c % 2 = 1) ↔ (c < n ∧ dc code c = 0))) := by decide +kernel
theorem cf9 : ∀ n, n < 5 → ∀ code, code < 256 → hb code 1 < 2 ^ n → ∀ c, c < n → hb code 1 ||| 2 ^ c < 2 ^ n := by decide +kernel
theorem cf10' : ∀ n, n < 5 → ∀ code, code < 256 → (ic code = true ∧ hb code 1 < 2 ^ n ∧ hb code 2 < 2 ^ n) → (frs n code = 0 ↔ nh code = n) := by decide +kernel
theorem cf10 (n : Nat) (hn : n < 5) (code : Nat) (hc : code < 256) (h : ic code = true) (h1 : hb code 1 < 2 ^ n) (h2 : hb code 2 < 2 ^ n) : frs n code = 0 ↔ nh code = n := cf10' n hn code hc ⟨h, h1, h2⟩
/-- the greatest of what taking a free cord comes to -/
def vL (tk : Nat → Int32) (free : Nat → Bool) : Nat → Nat → Int32 → Int32
  | 0, _, b => b
  | k + 1, c, b => vL tk free k (c + 1) (if free c then imax b (tk c) else b)
/-- what a position comes to, k cords being free -/
def cV (n : Nat) : Nat → (Nat → Bool) → (Nat → Bool) → Nat → Int32
  | 0, _, _, _ => 0
  | k + 1, p, q, code => vL (fun c => if p (hb code 1 ||| 2 ^ c) = true then 1 else -(cV n k q p (tnc (code + 4 ^ c)))) (fun c => decide (c < n ∧ dc code c = 0)) 4 0 (-1)
def v3 (x : Int32) : Prop := x = -1 ∨ x = 0 ∨ x = 1
theorem v3_neg {x : Int32} (h : v3 x) : v3 (-x) := by
  rcases h with rfl | rfl | rfl
  · exact Or.inr (Or.inr rfl)
  · exact Or.inr (Or.inl rfl)
  · exact Or.inl rfl
theorem v3_max {x y : Int32} (h : v3 x) (h2 : v3 y) : v3 (imax x y) := by unfold imax; split <;> assumption
theorem vL_v3 {tk : Nat → Int32} {free : Nat → Bool} (h : ∀ c, v3 (tk c)) : ∀ (k c : Nat) (b : Int32), v3 b → v3 (vL tk free k c b) := by
  intro k
  induction k with
  | zero => intro c b hb; exact hb
  | succ k ih =>
    intro c b hb
    apply ih
    split
    · exact v3_max hb (h c)
    · exact hb
theorem cV_v3 {n : Nat} : ∀ (k : Nat) (p q : Nat → Bool) (code : Nat), v3 (cV n k p q code) := by
  intro k
  induction k with
  | zero => intro p q code; exact Or.inr (Or.inl rfl)
  | succ k ih =>
    intro p q code
    apply vL_v3 _ 4 0 (-1) (Or.inl rfl)
    intro c
    show v3 (if _ then _ else _)
    split
    · exact Or.inr (Or.inr rfl)
    · exact v3_neg (ih q p _)
/-- the class -/
theorem c_crew {n : Nat} (hn : n ≤ 4) : ∀ (k f code : Nat) (p q : Nat → Bool), 2 * k + 1 < f → code < 256 → ic code = true → hb code 1 < 2 ^ n → hb code 2 < 2 ^ n → nh code + k = n → G_cr f 0 (nI (hb code 1)) (nI (hb code 2)) (nI (mask p (2 ^ n))) (nI (mask q (2 ^ n))) (nI (2 ^ n - 1)) = some (cV n k p q code) := by
  have p4 : 2 ^ n ≤ 2 ^ 4 := Nat.pow_le_pow_right (by omega) hn
  intro k
  induction k with
  | zero =>
    intro f code p q hf hc hi h1 h2 hk
    obtain ⟨f, rfl⟩ := fsucc hf
    show Cr_outcome (G_cr f) _ _ _ _ _ = _
    unfold Cr_outcome
    have e0 := (cf10 n (by omega) code hc hi h1 h2).mpr (by omega)
    rw [(cf7 n (by omega) code hc hi h1 h2).1, e0, if_neg (by simp; rfl)]
    rfl
  | succ k ih =>
    intro f code p q hf hc hi h1 h2 hk
    obtain ⟨f, rfl⟩ := fsucc hf
    have e0 : ¬ frs n code = 0 := fun z => by have := (cf10 n (by omega) code hc hi h1 h2).mp z; omega
    obtain ⟨hf16, hfb⟩ := cf8 n (by omega) code hc
    have loop : ∀ (j g c : Nat) (b : Int32), c + j = 4 → j < g → Cr_outcome_23 (G_cr f) g (nI (hb code 1)) (nI (hb code 2)) (nI (mask p (2 ^ n))) (nI (mask q (2 ^ n))) (nI (2 ^ n - 1)) (nI (frs n code)) b (nI c) = some (vL (fun c => if p (hb code 1 ||| 2 ^ c) = true then 1 else -(cV n k q p (tnc (code + 4 ^ c)))) (fun c => decide (c < n ∧ dc code c = 0)) j c b) := by
      intro j
      induction j with
      | zero =>
        intro g c b hcj hg
        obtain ⟨g, rfl⟩ := fsucc hg
        rw [Cr_outcome_23, if_pos (by rw [show (4 : Int32) = nI 4 from rfl, nI_le' (by omega) (by omega)]; omega)]; rfl
      | succ j ihj =>
        intro g c b hcj hg
        obtain ⟨g, rfl⟩ := fsucc hg
        have e1 : nI c + 1 = nI (c + 1) := nI_add c 1
        rw [Cr_outcome_23, if_neg (by rw [show (4 : Int32) = nI 4 from rfl, nI_le' (by omega) (by omega)]; omega)]
        have bt : ((nI (frs n code) >>> (nI c &&& 31)) &&& 1 = 0) = ¬ (c < n ∧ dc code c = 0) := by
          apply propext
          rw [bit_tst (by omega) (by omega), hfb c (by omega)]
        simp only [bt]
        unfold Cr_outcome_60
        rw [e1]
        show _ = some (vL _ _ j (c + 1) (if decide (c < n ∧ dc code c = 0) = true then imax b (if p (hb code 1 ||| 2 ^ c) = true then 1 else -(cV n k q p (tnc (code + 4 ^ c)))) else b))
        by_cases z : c < n ∧ dc code c = 0
        · have hlt := cf9 n (by omega) code hc h1 c z.1
          obtain ⟨x1, x2, x3, x4, x5⟩ := cf3b code hc c (by omega) z.2
          obtain ⟨y1, y2⟩ := cf3c code hc hi c (by omega) z.2
          have h256 := (cf3 code hc c (by omega) z.2).2
          have ht := (cf2 (code + 4 ^ c) h256).2
          have hml := mask_lt p (2 ^ n)
          have h16 : 2 ^ 2 ^ n ≤ 2 ^ 16 := Nat.pow_le_pow_right (by omega) (by omega)
          obtain ⟨f2, rfl⟩ : ∃ f2, f = f2 + 1 := ⟨f - 1, by omega⟩
          have beh : G_cr (f2 + 1) 1 (nI (hb code 1) ||| ((1 : Int32) <<< (nI c &&& 31))) (nI (hb code 2)) (nI (mask p (2 ^ n))) (nI (mask q (2 ^ n))) (nI (2 ^ n - 1)) = some (if p (hb code 1 ||| 2 ^ c) = true then 1 else -(cV n k q p (tnc (code + 4 ^ c)))) := by
            show Cr_behindTaking (G_cr f2) _ _ _ _ _ = _
            unfold Cr_behindTaking
            rw [show (1 : Int32) = nI 1 from rfl, nI_shl (by omega), Nat.one_mul, nI_or]
            have bt2 : ((nI (mask p (2 ^ n)) >>> (nI (hb code 1 ||| 2 ^ c) &&& 31)) &&& nI 1 = 0) = ¬ (p (hb code 1 ||| 2 ^ c) = true) := by
              apply propext
              rw [show (nI 1 : Int32) = 1 from rfl, bit_tst (by omega) (by omega), mask_bit]
              constructor
              · intro w1 w2; exact w1 ⟨hlt, w2⟩
              · intro w1 w2; exact w1 w2.2
            simp only [bt2]
            by_cases w : p (hb code 1 ||| 2 ^ c) = true
            · rw [if_neg (by simp [w]), if_pos w]
            · have rec2 := ih f2 (tnc (code + 4 ^ c)) q p (by omega) ht y1 (by rw [x4]; exact h2) (by rw [x5]; exact hlt) (by omega)
              rw [x4, x5] at rec2
              rw [if_pos w, if_neg w, rec2, Option.bind_some]
          rw [if_neg (by simp [z]), beh, Option.bind_some, decide_eq_true z, if_pos rfl]
          exact ihj g (c + 1) _ (by omega) (by omega)
        · rw [if_pos z, decide_eq_false z, if_neg (by simp)]
          exact ihj g (c + 1) _ (by omega) (by omega)
    show Cr_outcome (G_cr f) _ _ _ _ _ = _
    unfold Cr_outcome
    rw [(cf7 n (by omega) code hc hi h1 h2).1, if_pos (by rw [show (0 : Int32) = nI 0 from rfl, nI_eq' (by omega) (by omega)]; exact e0)]
    exact loop 4 FU 0 (-1) (by omega) (by unfold FU; omega)
/-- the sets that give a span -/
def gvP (a : Nat → Nat) (v : Nat) : Nat → Bool := fun s => decide (s ≠ 0) && gvB a s v
theorem c_setsG {a : Nat → Nat} {ν0 : Nm} (hw : WF a) {v : Nat} (v1 : 1 ≤ v) (v2 : v ≤ 15360) : ∀ (k f s : Nat) (ν : Nm), s + k = 2 ^ a 0 → 1 ≤ s → k < f → CQ a ν0 ν → ∃ ν2, Fm_setsGiving_4 f (nI v) (nI (mask (gvP a v) s)) (nI s) ν = some (nI (mask (gvP a v) (2 ^ a 0)), ν2) ∧ CQ a ν0 ν2 := by
  have hb := wb hw
  have p4 : 2 ^ a 0 ≤ 2 ^ 4 := Nat.pow_le_pow_right (by omega) hb.1
  intro k
  induction k with
  | zero =>
    intro f s ν hs h1 hf h
    obtain ⟨f, rfl⟩ := fsucc hf
    refine ⟨ν, ?_, h⟩
    rw [Fm_setsGiving_4, c_all (CQ_C h) hw, Option.bind_some, if_pos (by rw [nI_lt' (by omega) (by omega)]; omega), show s = 2 ^ a 0 by omega]
  | succ k ih =>
    intro f s ν hs h1 hf h
    obtain ⟨f, rfl⟩ := fsucc hf
    obtain ⟨ν1, p1, p2⟩ := c_gives h hw h1 (by omega) v1 v2
    have hl := mask_lt (gvP a v) s
    have nx := ih f (s + 1) ν1 (by omega) (by omega) (by omega) p2
    rw [show mask (gvP a v) (s + 1) = mask (gvP a v) s + (if gvP a v s = true then 2 ^ s else 0) from rfl] at nx
    have eg : gvP a v s = gvB a s v := by unfold gvP; rw [decide_eq_true (show s ≠ 0 by omega), Bool.true_and]
    rw [Fm_setsGiving_4, c_all (CQ_C h) hw, Option.bind_some, if_neg (by rw [nI_lt' (by omega) (by omega)]; omega), p1, Option.bind_some]
    simp only []
    unfold Fm_setsGiving_30
    rw [show nI s + 1 = nI (s + 1) from nI_add s 1, show (1 : Int32) = nI 1 from rfl, nI_shl (by omega), Nat.one_mul, nI_or, show mask (gvP a v) s ||| 2 ^ s = mask (gvP a v) s + 2 ^ s by rw [Nat.or_comm, Nat.add_comm, show 2 ^ s = 1 * 2 ^ s by omega, or_add hl]]
    rw [eg] at nx
    by_cases q : gvB a s v = true
    · rw [q] at nx ⊢
      rw [if_neg (by rw [b2iT]; exact id)]
      exact nx
    · rw [Bool.eq_false_iff.mpr q] at nx ⊢
      rw [if_pos (by rw [b2iF]; exact True.intro)]
      exact nx
theorem c_setsGi {a : Nat → Nat} {ν0 ν : Nm} (h : CQ a ν0 ν) (hw : WF a) {v : Nat} (v1 : 1 ≤ v) (v2 : v ≤ 15360) : ∃ ν2, Fm_setsGiving (nI v) ν = some (nI (mask (gvP a v) (2 ^ a 0)), ν2) ∧ CQ a ν0 ν2 := by
  have hb := wb hw
  have p4 : 2 ^ a 0 ≤ 2 ^ 4 := Nat.pow_le_pow_right (by omega) hb.1
  have p0 : 1 ≤ 2 ^ a 0 := Nat.one_le_two_pow
  exact c_setsG hw v1 v2 (2 ^ a 0 - 1) FU 1 ν (by omega) (by omega) (by unfold FU; omega) h
