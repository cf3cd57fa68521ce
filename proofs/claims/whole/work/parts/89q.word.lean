/-! The tape: letters. -/
def wdE (β : Nat → Nat) (n : Nat) : Nat → Nat → Nat
  | 0, p => p
  | d + 1, p => if ltr (byt β n p) = true then wdE β n d (p + 1) else p
theorem ltr_lt {β : Nat → Nat} {n p : Nat} (h : ltr (byt β n p) = true) : p < n := by
  apply Nat.lt_of_not_le
  intro z
  unfold byt at h
  rw [if_neg (by omega)] at h
  revert h
  decide
theorem c_word2 {β : Nat → Nat} {n : Nat} : ∀ (d f i p : Nat) (ν : Nm), i + d = 300 → d < f → p ≤ n → n ≤ p + d → TpC β n ν → gi ν 271 4 = nI p → Rd_nextWord_2 f (nI i) ν = Rd_nextWord_39 (si ν 271 4 (nI (wdE β n d p))) := by
  intro d
  induction d with
  | zero =>
    intro f i p ν hi hf h1 h2 hT hp
    obtain ⟨f, rfl⟩ := fsucc hf
    show _ = Rd_nextWord_39 (si ν 271 4 (nI p))
    rw [si_id hp, Rd_nextWord_2, if_pos (by rw [show (300 : Int32) = nI 300 from rfl, nI_le' (by omega) (by omega)]; omega)]
  | succ d ih =>
    intro f i p ν hi hf h1 h2 hT hp
    obtain ⟨f, rfl⟩ := fsucc hf
    have hn := hT.1
    have hb := byt_le (β := β) (n := n) (p := p) (fun i hi => (hT.2.2 i hi).1) hn
    rw [Rd_nextWord_2, if_neg (by rw [show (300 : Int32) = nI 300 from rfl, nI_le' (by omega) (by omega)]; omega), hp, c_byteAt hT (by omega), Option.bind_some, (lt_all (byt β n p) (by omega)).1, Option.bind_some]
    unfold wdE
    by_cases q : ltr (byt β n p) = true
    · have hpn := ltr_lt q
      rw [q, if_neg (by rw [b2iT]; exact id), if_pos rfl, show nI p + 1 = nI (p + 1) from nI_add p 1, show nI i + 1 = nI (i + 1) from nI_add i 1, ih f (i + 1) (p + 1) (si ν 271 4 (nI (p + 1))) (by omega) (by omega) (by omega) (by omega) (TpC_keep hT (gi_si_j _ _ _ (by omega)) (fun i => gi_si_q _ _ _ _ (by omega))) (gi_si_s _ _ _ _), si_si]
    · rw [Bool.eq_false_iff.mpr q, if_pos (by rw [b2iF]; exact True.intro), if_neg (by simp), si_id hp]
