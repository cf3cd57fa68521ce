/-! The tape: bytes of numbers; the class's (272) and the model's (317). -/
def TpC (β : Nat → Nat) (n : Nat) (ν : Nm) : Prop := n ≤ 300 ∧ gi ν 271 1 = nI n ∧ ∀ i, i < 300 → β i < 256 ∧ gi ν 272 i = nI (β i)
def TpM (β : Nat → Nat) (n : Nat) (ν : Nm) : Prop := n ≤ 300 ∧ gi ν 313 4 = nI n ∧ ∀ i, i < 300 → β i < 256 ∧ gi ν 317 i = nI (β i)
/-- the byte at a place (256: none) -/
def byt (β : Nat → Nat) (n p : Nat) : Nat := if p < n then β p else 256
def enY (x : Nat) : Int32 := if x = 256 then -1 else nI x
theorem byt_le {β : Nat → Nat} {n p : Nat} (h : ∀ i, i < 300 → β i < 256) (hn : n ≤ 300) : byt β n p ≤ 256 := by
  unfold byt
  by_cases q : p < n
  · rw [if_pos q]; have := h p (by omega); omega
  · rw [if_neg q]; omega
theorem enY_n {x : Nat} (h : x < 256) : enY x = nI x := by unfold enY; rw [if_neg (by omega)]
theorem c_byteAt {β : Nat → Nat} {n : Nat} {ν : Nm} (h : TpC β n ν) {p : Nat} (hp : p < 2 ^ 31) : Rd_byteAt ν (nI p) = some (enY (byt β n p)) := by
  obtain ⟨h1, h2, h3⟩ := h
  unfold Rd_byteAt byt
  rw [if_neg (nI_pos hp), h2]
  by_cases q : p < n
  · rw [if_neg (by rw [nI_le' (by omega) hp]; omega), if_neg (by rw [show (300 : Int32) = nI 300 from rfl, nI_le' (by omega) hp]; omega), inb_nI hp, nI_clamp hp, if_pos (by simp; omega), (h3 p (by omega)).2, if_pos q, enY_n (h3 p (by omega)).1]
  · rw [if_pos (by rw [nI_le' (by omega) hp]; omega), if_neg q]; rfl
theorem m_byteAt {β : Nat → Nat} {n : Nat} {ν : Nm} (h : TpM β n ν) {p : Nat} (hp : p < 2 ^ 31) : Md_byteAt ν (nI p) = some (enY (byt β n p)) := by
  obtain ⟨h1, h2, h3⟩ := h
  unfold Md_byteAt byt
  rw [h2]
  by_cases q : p < n
  · rw [if_neg (by rw [nI_le' (by omega) hp]; omega), inb_nI hp, nI_clamp hp, if_pos (by simp; omega), (h3 p (by omega)).2, if_pos q, enY_n (h3 p (by omega)).1]
  · rw [if_pos (by rw [nI_le' (by omega) hp]; omega), if_neg q]; rfl
theorem TpC_keep {β : Nat → Nat} {n : Nat} {ν ν2 : Nm} (h : TpC β n ν) (k1 : gi ν2 271 1 = gi ν 271 1) (k2 : ∀ i, gi ν2 272 i = gi ν 272 i) : TpC β n ν2 := ⟨h.1, by rw [k1]; exact h.2.1, fun i hi => by rw [k2]; exact h.2.2 i hi⟩
theorem TpM_keep {β : Nat → Nat} {n : Nat} {ν ν2 : Nm} (h : TpM β n ν) (k1 : gi ν2 313 4 = gi ν 313 4) (k2 : ∀ i, gi ν2 317 i = gi ν 317 i) : TpM β n ν2 := ⟨h.1, by rw [k1]; exact h.2.1, fun i hi => by rw [k2]; exact h.2.2 i hi⟩
/-- blanks are passed -/
def blk (x : Nat) : Bool := decide (x = 32) || decide (x = 10)
def skp (β : Nat → Nat) (n : Nat) : Nat → Nat → Nat
  | 0, p => p
  | d + 1, p => if blk (byt β n p) = true then skp β n d (p + 1) else p
def dgt (x : Nat) : Bool := decide (48 ≤ x) && decide (x ≤ 57)
def ltr (x : Nat) : Bool := (decide (97 ≤ x) && decide (x ≤ 122)) || (decide (65 ≤ x) && decide (x ≤ 90))
theorem dg_all : ∀ x, x < 257 → Rd_isDigit (enY x) = some (dgt x && decide (x ≠ 256)) ∧ Md_isFigure (enY x) = some (dgt x && decide (x ≠ 256)) := by decide +kernel
theorem lt_all : ∀ x, x < 257 → Rd_isLetter (enY x) = some (ltr x) ∧ Md_isLetterByte (enY x) = some (ltr x) := by decide +kernel
theorem bl_all : ∀ x, x < 257 → (enY x = 32 ↔ x = 32) ∧ (enY x = 10 ↔ x = 10) ∧ (enY x = -1 ↔ x = 256) ∧ (0 ≤ enY x ↔ x ≠ 256) := by decide +kernel
theorem skp_le (β : Nat → Nat) (n : Nat) : ∀ (d p : Nat), p ≤ n → p ≤ skp β n d p ∧ skp β n d p ≤ n := by
  intro d
  induction d with
  | zero => intro p h; exact ⟨Nat.le_refl _, h⟩
  | succ d ih =>
    intro p h
    unfold skp
    by_cases q : blk (byt β n p) = true
    · rw [if_pos q]
      have hp : p < n := by
        apply Nat.lt_of_not_le
        intro z
        unfold byt at q
        rw [if_neg (by omega)] at q
        revert q
        decide
      have := ih (p + 1) (by omega)
      omega
    · rw [if_neg q]; omega
theorem c_skip {β : Nat → Nat} {n : Nat} : ∀ (d f i p : Nat) (ν : Nm), i + d = 300 → d < f → p + d ≤ n + 300 → p ≤ n → n ≤ p + d → TpC β n ν → gi ν 271 4 = nI p → Rd_next_2 f (nI i) ν = Rd_next_51 (si ν 271 4 (nI (skp β n d p))) := by
  intro d
  induction d with
  | zero =>
    intro f i p ν hi hf h0 h1 h2 hT hp
    obtain ⟨f, rfl⟩ := fsucc hf
    rw [Rd_next_2, if_pos (by rw [show (300 : Int32) = nI 300 from rfl, nI_le' (by omega) (by omega)]; omega)]
    show Rd_next_51 ν = Rd_next_51 (si ν 271 4 (nI p))
    rw [si_id hp]
  | succ d ih =>
    intro f i p ν hi hf h0 h1 h2 hT hp
    obtain ⟨f, rfl⟩ := fsucc hf
    have hn := hT.1
    have hb := byt_le (β := β) (n := n) (p := p) (fun i hi => (hT.2.2 i hi).1) hn
    obtain ⟨b1, b2, -, -⟩ := bl_all (byt β n p) (by omega)
    rw [Rd_next_2, if_neg (by rw [show (300 : Int32) = nI 300 from rfl, nI_le' (by omega) (by omega)]; omega), hp, c_byteAt hT (by omega), Option.bind_some, Option.bind_some]
    have st : Rd_next_35 (Rd_next_2 f) (nI i) ν = Rd_next_2 f (nI (i + 1)) (si ν 271 4 (nI (p + 1))) := by
      unfold Rd_next_35
      rw [hp, show nI i + 1 = nI (i + 1) from nI_add i 1, show nI p + 1 = nI (p + 1) from nI_add p 1]
    have go : blk (byt β n p) = true → Rd_next_2 f (nI (i + 1)) (si ν 271 4 (nI (p + 1))) = Rd_next_51 (si ν 271 4 (nI (skp β n (d + 1) p))) := by
      intro q
      have hpn : p < n := by
        apply Nat.lt_of_not_le
        intro z
        unfold byt at q
        rw [if_neg (by omega)] at q
        revert q
        decide
      rw [ih f (i + 1) (p + 1) (si ν 271 4 (nI (p + 1))) (by omega) (by omega) (by omega) (by omega) (by omega) (TpC_keep hT (gi_si_j _ _ _ (by omega)) (fun i => gi_si_q _ _ _ _ (by omega))) (gi_si_s _ _ _ _), si_si]
      have : skp β n (d + 1) p = skp β n d (p + 1) := by show (if blk (byt β n p) = true then skp β n d (p + 1) else p) = _; rw [if_pos q]
      rw [this]
    by_cases q1 : byt β n p = 32
    · rw [if_pos (b1.mpr q1), st]
      exact go (by unfold blk; rw [q1]; rfl)
    · rw [if_neg (fun z => q1 (b1.mp z))]
      by_cases q2 : byt β n p = 10
      · rw [if_neg (fun z => z (b2.mpr q2)), st]
        exact go (by unfold blk; rw [q2]; rfl)
      · rw [if_pos (fun z => q2 (b2.mp z))]
        have : skp β n (d + 1) p = p := by
          show (if blk (byt β n p) = true then skp β n d (p + 1) else p) = p
          rw [if_neg]
          unfold blk
          rw [decide_eq_false q1, decide_eq_false q2]
          decide
        rw [this, si_id hp]
