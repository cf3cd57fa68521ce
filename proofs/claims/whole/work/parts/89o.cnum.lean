/-! The tape: the class's numbers. -/
theorem si_sw (ν : Nm) {q i j : Nat} (h : i ≠ j) (v w : Int32) : si (si ν q i v) q j w = si (si ν q j w) q i v := by
  unfold si va_up upd
  refine Prod.ext ?_ rfl
  funext q3 j3
  by_cases e1 : q3 = q
  · subst e1
    by_cases e2 : j3 = i
    · subst e2; simp [h]
    · by_cases e3 : j3 = j
      · subst e3; simp [e2]
      · simp [e2, e3]
  · simp [e1]
theorem c_num7 {β : Nat → Nat} {n : Nat} : ∀ (d f i p v : Nat) (ν : Nm), i + d = 300 → d < f → p ≤ n → n ≤ p + d → v ≤ 10000 → TpC β n ν → gi ν 271 4 = nI p → gi ν 271 7 = nI v → Rd_nextNumber_7 f (nI i) ν = some (1, si (si ν 271 7 (nI (nmC β n d p v))) 271 4 (nI (nmE β n d p))) := by
  intro d
  induction d with
  | zero =>
    intro f i p v ν hi hf h1 h2 hv hT hp hv2
    obtain ⟨f, rfl⟩ := fsucc hf
    show _ = some (1, si (si ν 271 7 (nI v)) 271 4 (nI p))
    rw [si_id hv2, si_id hp, Rd_nextNumber_7, if_pos (by rw [show (300 : Int32) = nI 300 from rfl, nI_le' (by omega) (by omega)]; omega)]
  | succ d ih =>
    intro f i p v ν hi hf h1 h2 hv hT hp hv2
    obtain ⟨f, rfl⟩ := fsucc hf
    have hn := hT.1
    have hb := byt_le (β := β) (n := n) (p := p) (fun i hi => (hT.2.2 i hi).1) hn
    have dd := (dg_all (byt β n p) (by omega)).1
    rw [Rd_nextNumber_7, if_neg (by rw [show (300 : Int32) = nI 300 from rfl, nI_le' (by omega) (by omega)]; omega), show Rd_byteAt ν (gi ν 271 4) = some (enY (byt β n p)) by rw [hp]; exact c_byteAt hT (by omega), Option.bind_some, dd, Option.bind_some, Option.bind_some, hv2]
    unfold nmC nmE
    by_cases q : dgt (byt β n p) = true
    · have q2 := dgt_48 q
      have hpn : p < n := by
        apply Nat.lt_of_not_le
        intro z
        unfold byt at q2
        rw [if_neg (by omega)] at q2
        omega
      rw [q, Bool.true_and, decide_eq_true (show byt β n p ≠ 256 by omega), if_neg (by rw [b2iT]; exact id), if_pos rfl, if_pos rfl, enY_n (by omega), show nI v * 10 = nI (v * 10) from nI_mul v 10, nI_add, show nI (v * 10 + byt β n p) - 48 = nI (v * 10 + byt β n p - 48) from nI_sub (b := 48) (by omega), show (10000 : Int32) = nI 10000 from rfl, imin_n (by omega) (by omega)]
      unfold Rd_nextNumber_67
      rw [gi_si_j _ _ _ (by omega), hp, show nI p + 1 = nI (p + 1) from nI_add p 1, show nI i + 1 = nI (i + 1) from nI_add i 1, ih f (i + 1) (p + 1) (min 10000 (v * 10 + byt β n p - 48)) _ (by omega) (by omega) (by omega) (by omega) (by omega) (TpC_keep hT (by rw [gi_si_j _ _ _ (by omega), gi_si_j _ _ _ (by omega)]) (fun i => by rw [gi_si_q _ _ _ _ (by omega), gi_si_q _ _ _ _ (by omega)])) (gi_si_s _ _ _ _) (by rw [gi_si_j _ _ _ (by omega), gi_si_s])]
      rw [si_sw _ (show (4 : Nat) ≠ 7 by omega), si_si, si_si]
    · rw [Bool.eq_false_iff.mpr q, Bool.false_and, if_pos (by rw [b2iF]; exact True.intro), if_neg (by simp), if_neg (by simp), si_id hv2, si_id hp]
theorem c_figs {β : Nat → Nat} {n p : Nat} {ν : Nm} (hp1 : p ≤ n) (hT : TpC β n ν) (hp : gi ν 271 4 = nI p) : Rd_nextNumber ν = some (1, si (si ν 271 7 (nI (nmC β n 300 p 0))) 271 4 (nI (nmE β n 300 p))) := by
  have hn := hT.1
  have := c_num7 300 FU 0 p 0 (si ν 271 7 0) (by omega) (by unfold FU; omega) hp1 (by omega) (by omega) (TpC_keep hT (gi_si_j _ _ _ (by omega)) (fun i => gi_si_q _ _ _ _ (by omega))) (by rw [gi_si_j _ _ _ (by omega)]; exact hp) (gi_si_s _ _ _ _)
  rw [si_si] at this
  exact this
