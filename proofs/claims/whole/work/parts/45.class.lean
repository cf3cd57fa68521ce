/-! The class writes, keeps. -/
theorem PW_move {a a2 : Nat → Nat} {n x x2 : Nat} (h : PW a n x) (ha : ∀ m, m < 8 → a2 (x2 + m) = a (x + m)) (hb : ∀ c, c < 4 → a2 (20 + 2 * c) = a (20 + 2 * c)) : PW a2 n x2 := by
  intro c hc
  rw [show x2 + 1 + 2 * c = x2 + (1 + 2 * c) by omega, ha (1 + 2 * c) (by omega), ha (2 * c) (by omega), hb c hc, show x + (1 + 2 * c) = x + 1 + 2 * c by omega]
  exact h c hc
theorem ub65 : ∀ i, i < 30 → ∀ k, k < 43 → ub (65 + 43 * i + k) = ubS k := by decide +kernel
theorem ub8 : ∀ k, k < 12 → ub (8 + k) = ubS (1 + k) := by decide +kernel
theorem ubS13 : ∀ k, k < 30 → ubS (13 + k) = 33554431 := by decide +kernel
theorem WF_keep {a : Nat → Nat} (hw : WF a) : WF (keepA a) := by
  have hb := wb hw
  have h30 := hb.2.2.2.2.2.1
  have h29 := kp0_4 h30
  have n : ∀ j, j < 65 → j ≠ 4 → keepA a j = a j := fun j h1 h2 => keepA_low h30 (Or.inl h1) h2
  have hlt : ∀ i, i < kp0 a 4 → (if a 4 = 30 then i + 1 else i) < 30 ∧ (if a 4 = 30 then i + 1 else i) < a 4 := by
    intro i hi
    unfold kp0 at hi
    by_cases e : a 4 = 30
    · rw [if_pos e, upn_s] at hi; rw [if_pos e]; omega
    · rw [if_neg e] at hi; rw [if_neg e]; omega
  obtain ⟨u, w1, w2, w3, w4, w5, w6⟩ := id hw
  refine ⟨fun j hj => ?_, by unfold W1; rw [n 1 (by omega) (by omega)]; exact w1, by unfold W2; rw [n 3 (by omega) (by omega), n 2 (by omega) (by omega)]; exact w2, W3_keep w3 (fun j hj => n j (by omega) (by omega)), W4_keep w4 (fun j hj => n j (by omega) (by omega)), W5_keep w5 (fun j hj => n j (by omega) (by omega)), fun i h1 h2 => ?_⟩
  · by_cases q4 : j = 4
    · subst q4; rw [keepA_4]; show kp0 a 4 + 1 ≤ 30; omega
    · by_cases q : j < 65 ∨ 1355 ≤ j
      · rw [keepA_low h30 q q4]; exact u j hj
      · obtain ⟨i, k, hk, hi, e⟩ : ∃ i k, k < 43 ∧ i < 30 ∧ j = 65 + 43 * i + k := ⟨(j - 65) / 43, (j - 65) % 43, by omega, by omega, by omega⟩
        subst e
        rw [ub65 i hi k hk]
        by_cases c1 : i < kp0 a 4
        · rw [keepA_o h30 c1 hk]
          have := u (65 + 43 * (if a 4 = 30 then i + 1 else i) + k) (by have := hlt i c1; omega)
          rw [ub65 _ (hlt i c1).1 k hk] at this
          exact this
        · by_cases c2 : i = kp0 a 4
          · subst c2
            by_cases k0 : k = 0
            · subst k0; rw [Nat.add_zero, keepA_x h30]; exact hb.1
            · by_cases k1 : k < 13
              · obtain ⟨m, rfl⟩ : ∃ m, k = 1 + m := ⟨k - 1, by omega⟩
                rw [← Nat.add_assoc, keepA_k h30 (by omega), ← ub8 m (by omega)]
                exact u _ (by omega)
              · obtain ⟨m, rfl⟩ : ∃ m, k = 13 + m := ⟨k - 13, by omega⟩
                rw [← Nat.add_assoc, keepA_b h30 (by omega), ubS13 m (by omega)]
                exact wbb hw (by omega)
          · have ne : a 4 ≠ 30 := by
              intro e
              have : kp0 a 4 = 29 := by unfold kp0; rw [if_pos e, upn_s]
              omega
            have ek : kp0 a = a := by unfold kp0; rw [if_neg ne]
            have e : keepA a (65 + 43 * i + k) = a (65 + 43 * i + k) := by
              unfold keepA
              rw [upn_n _ _ (by omega), cpA_out _ (by omega), cpA_out _ (by omega), upn_n _ _ (by omega), ek]
            rw [e]
            have := u (65 + 43 * i + k) (by omega)
            rw [ub65 i hi k hk] at this
            exact this
  · rw [keepA_4] at h2
    rw [n 0 (by omega) (by omega)]
    have n20 : ∀ c, c < 4 → keepA a (20 + 2 * c) = a (20 + 2 * c) := fun c hc => n _ (by omega) (by omega)
    by_cases c1 : i < kp0 a 4
    · obtain ⟨l1, l2⟩ := hlt i c1
      obtain ⟨p1, p2⟩ := w6 _ l1 l2
      have e0 := keepA_o h30 c1 (show 0 < 43 by omega)
      rw [Nat.add_zero, Nat.add_zero] at e0
      rw [e0]
      refine ⟨p1, PW_move p2 (fun m hm => ?_) n20⟩
      have := keepA_o h30 c1 (show 5 + m < 43 by omega)
      rw [show 65 + 43 * i + (5 + m) = 70 + 43 * i + m by omega] at this
      rw [this]
      exact congrArg a (by omega)
    · have e : i = kp0 a 4 := by omega
      subst e
      rw [keepA_x h30]
      refine ⟨Nat.le_refl _, PW_move w3.1 (fun m hm => ?_) n20⟩
      have := keepA_k h30 (show 4 + m < 12 by omega)
      rw [show 65 + 43 * kp0 a 4 + 1 + (4 + m) = 70 + 43 * kp0 a 4 + m by omega] at this
      rw [this]
      exact congrArg a (by omega)
theorem WF_begin {a : Nat → Nat} (hw : WF a) {c : Nat} (hc : c < 4) : WF (beginA a c) := by
  have hb := wbc hw hc
  have k : ∀ c, c < 4 → ub (12 + 2 * c) = 3840 ∧ ub (13 + 2 * c) = 3 := by decide
  have n : ∀ j, j ≠ 12 + 2 * c → j ≠ 13 + 2 * c → beginA a c j = a j := fun j h1 h2 => by unfold beginA; rw [upn_n _ _ h2, upn_n _ _ h1]
  have e1 : beginA a c (12 + 2 * c) = 64 * a (20 + 2 * c) := by unfold beginA; rw [upn_n _ _ (by omega), upn_s]
  have e2 : beginA a c (13 + 2 * c) = 0 := by unfold beginA; rw [upn_s]
  obtain ⟨u, w1, w2, w3, w4, w5, w6⟩ := hw
  refine ⟨UB_up (UB_up u (by rw [(k c hc).1]; omega)) (by omega), by unfold W1; rw [n 1 (by omega) (by omega)]; exact w1, by unfold W2; rw [n 3 (by omega) (by omega), n 2 (by omega) (by omega)]; exact w2, ⟨fun d hd => ?_, fun d h1 h2 => ?_⟩, W4_keep w4 (fun j hj => n j (by omega) (by omega)), W5_keep w5 (fun j hj => n j (by omega) (by omega)), W6_keep w6 (fun j hj => n j (by omega) (by omega))⟩
  · rw [n 0 (by omega) (by omega)]
    by_cases e : d = c
    · subst e
      rw [show 12 + 1 + 2 * d = 13 + 2 * d by omega, e1, e2, n _ (by omega) (by omega)]
      exact ⟨fun q => absurd rfl q, fun _ => rfl, fun _ => Nat.le_refl _⟩
    · rw [n _ (by omega) (by omega), n _ (by omega) (by omega), n _ (by omega) (by omega)]
      exact w3.1 d hd
  · rw [n 0 (by omega) (by omega)] at h2; rw [n _ (by omega) (by omega)]; exact w3.2 d h1 h2
theorem or_add {x k y : Nat} (h : y < 2 ^ k) : x * 2 ^ k ||| y = x * 2 ^ k + y := by
  rw [← Nat.shiftLeft_eq, Nat.shiftLeft_add_eq_or_of_lt h]
theorem line_or {a : Nat → Nat} {c w s : Nat} (hc : c < 4) (h4 : w < 4) (hs : s < 2) : (((nI (a 8) <<< ((5 : Int32) &&& 31)) ||| (nI c <<< ((3 : Int32) &&& 31))) ||| (nI w <<< ((1 : Int32) &&& 31))) ||| nI s = nI (lineA a c w s) := by
  rw [show (5 : Int32) = nI 5 from rfl, show (3 : Int32) = nI 3 from rfl, show (1 : Int32) = nI 1 from rfl, nI_shl (by decide), nI_shl (by decide), nI_shl (by decide), nI_or, nI_or, nI_or]
  congr 1
  rw [or_add (show c * 2 ^ 3 < 2 ^ 5 by omega), show a 8 * 2 ^ 5 + c * 2 ^ 3 = (a 8 * 4 + c) * 2 ^ 3 by omega, or_add (show w * 2 ^ 1 < 2 ^ 3 by omega), show (a 8 * 4 + c) * 2 ^ 3 + w * 2 ^ 1 = ((a 8 * 4 + c) * 4 + w) * 2 ^ 1 by omega, or_add (show s < 2 ^ 1 by omega)]
  unfold lineA
  omega
/-- lines go up by one -/
theorem C1_shift {a : Nat → Nat} {ν0 ν : Nm} (h : C1 a ν0 ν) (h30 : a 4 ≤ 30) : C1 (cpA a 1356 1355 29) ν0 (scp ν 5 1 5 0 29) := by
  refine ⟨?_, Fr_scp h.2 (fun j => Or.inl (by omega))⟩
  obtain ⟨⟨h1, h2, ⟨h3, h34⟩, f, h5, h6, h7⟩, _⟩ := h
  have n : ∀ j, j < 1355 → cpA a 1356 1355 29 j = a j := fun j q1 => cpA_out _ (by omega)
  have k : ∀ q j, q ≠ 5 → gi (scp ν 5 1 5 0 29) q j = gi ν q j := fun q j hq => by rw [gi_scp, if_neg (by omega)]
  refine ⟨fun q hq => ?_, ?_, ⟨fun c hc => ?_, fun c hc => ?_⟩, f, h5, ?_, fun c hc => ?_⟩
  · obtain ⟨n1, n2, n3, n4, n5, n6, n7, n8, n9⟩ := plNo q hq
    have hb : ∀ q ∈ plL, q.2.1 = 4 → ∃ i, i < 30 ∧ q = (1355 + i, 4, i) := by decide +kernel
    have hb2 : ∀ q ∈ plL, q.2.1 ≠ 4 → q.1 < 1355 := by decide +kernel
    by_cases e : q.2.1 = 4
    · obtain ⟨i, hi, rfl⟩ := hb q hq e
      show gi (scp ν 5 1 5 0 29) (1 + 4) i = nI (cpA a 1356 1355 29 (1355 + i))
      rw [gi_scp]
      by_cases e2 : i < 29
      · rw [if_pos (by omega), cpA_in _ e2, show 1 + (i - 0) = i + 1 by omega, h1 (1355 + (i + 1), 4, i + 1) (plb _ (by omega)) |> fun z => (show gi ν 5 (i + 1) = nI (a (1355 + (i + 1))) from z)]
        exact congrArg (fun z => nI (a z)) (by omega)
      · rw [if_neg (by omega), cpA_out _ (by omega)]; exact h1 _ hq
    · rw [k _ _ (by omega), n _ (hb2 q hq e)]; exact h1 q hq
  · unfold RX; rw [k _ _ (by omega), n _ (by omega)]; exact h2
  · rw [k _ _ (by omega), n _ (by omega), n _ (by omega)]; exact h3 c hc
  · rw [k _ _ (by omega), n _ (by omega), n _ (by omega)]; exact h34 c hc
  · rw [k _ _ (by omega)]; exact h6
  · rw [n 4 (by omega)] at hc
    exact SX1_keep (h7 c hc) (fun q j a1 a2 => k _ _ (by omega)) (fun m k1 k2 => n _ (by omega))
theorem c_write30 {a : Nat → Nat} {ν0 ν : Nm} (h : C1 a ν0 ν) (h29 : a 11 ≤ 29) (h30 : a 4 ≤ 30) {c w s : Nat} (hc : c < 4) (h4 : w < 4) (hs : s < 2) : ∃ ν2, Pt_writeDown_30 2 (nI c) (nI w) (nI s) ν = some ν2 ∧ C1 (upn (upn a (1355 + a 11) (lineA a c w s)) 11 (a 11 + 1)) ν0 ν2 := by
  unfold Pt_writeDown_30 Pt_writeDown_65
  have r := cr h
  rw [r.2.2.2.2.2.2.2.2.2.2.2.1, r.2.2.2.2.2.2.2.2.1, line_or hc h4 hs, inb_nI (by omega), nI_clamp (by omega), if_pos (by simp; omega), gi_si_q _ _ _ _ (by omega), r.2.2.2.2.2.2.2.2.2.2.2.1, show (1 : Int32) = nI 1 from rfl, nI_add]
  exact ⟨_, rfl, C1_pl (C1_pl h (1355 + a 11) 5 (a 11) (plb _ (by omega)) (by omega) (by omega) h30 _) 11 2 7 (by decide) (by omega) (by omega) (by rw [upn_n _ _ (by omega)]; exact h30) _⟩
theorem c_write {a : Nat → Nat} {ν0 ν : Nm} (h : C1 a ν0 ν) (hw : WF a) {c w s : Nat} (hc : c < 4) (h4 : w < 4) (hs : s < 2) : ∃ ν2, Pt_writeDown 2 (nI c) (nI w) (nI s) ν = some ν2 ∧ C1 (writeA a c w s) ν0 ν2 := by
  have hb := wb hw
  have r := cr h
  unfold Pt_writeDown
  rw [r.2.2.2.2.2.2.2.2.2.2.2.1]
  have e' : (nI (a 11) < 30) = (a 11 < 30) := nI_lt' (b := 30) (by omega) (by decide)
  by_cases e : a 11 = 30
  · rw [if_neg (by rw [e']; omega)]
    have h1 := C1_pl (C1_shift h hb.2.2.2.2.2.1) 11 2 7 (by decide) (by omega) (by omega) (by rw [cpA_out _ (by omega)]; exact hb.2.2.2.2.2.1) 29
    have e4 : upn (cpA a 1356 1355 29) 11 29 4 = a 4 := by rw [upn_n _ _ (by omega), cpA_out _ (by omega)]
    obtain ⟨ν2, q1, q2⟩ := c_write30 h1 (by rw [upn_s]; omega) (by rw [e4]; exact hb.2.2.2.2.2.1) hc h4 hs
    refine ⟨ν2, q1, ?_⟩
    have ew : wr0 a = upn (cpA a 1356 1355 29) 11 29 := by unfold wr0; rw [if_pos e]
    have el : lineA (upn (cpA a 1356 1355 29) 11 29) c w s = lineA a c w s := by
      unfold lineA; rw [upn_n _ _ (by omega), cpA_out _ (by omega)]
    unfold writeA
    rw [ew, ← el]
    exact q2
  · rw [if_pos (by rw [e']; omega)]
    have ew : wr0 a = a := by unfold wr0; rw [if_neg e]
    unfold writeA
    rw [ew]
    exact c_write30 h (by omega) hb.2.2.2.2.2.1 hc h4 hs
theorem c_new {a : Nat → Nat} {ν0 ν : Nm} (h : C1 a ν0 ν) (h30 : a 4 ≤ 30) {c : Nat} (hc : c < 4) : ∃ ν2, Pt_makeNew 2 (nI c) (nI (a (20 + 2 * c))) ν = some ν2 ∧ C1 (beginA a c) ν0 ν2 := by
  unfold Pt_makeNew beginA
  rw [inb_nI (by omega), nI_clamp (by omega), if_pos (by simp; omega), if_pos (by simp; omega), show (64 : Int32) = nI 64 from rfl, nI_mul, Nat.mul_comm (a (20 + 2 * c)) 64]
  exact ⟨_, rfl, C1_pl (C1_pl h (12 + 2 * c) 3 c (plc1 c hc) (by omega) (by omega) h30 _) (13 + 2 * c) 4 c (plc2 c hc) (by omega) (by omega) (by rw [upn_n _ _ (by omega)]; exact h30) 0⟩
/-- a Pit is copied -/
theorem pt_copy (p s : Nat) (hd : p + 4 ≤ s ∨ s + 4 ≤ p) (ν : Nm) : ∃ ν2, Pt_copy p s ν = some ν2 ∧ (∀ q j, q < p ∨ p + 4 ≤ q → gi ν2 q j = gi ν q j) ∧ (∀ q j, gl ν2 q j = gl ν q j) ∧ gi ν2 p 0 = gi ν s 0 ∧ gi ν2 p 1 = gi ν s 1 ∧ gi ν2 p 2 = gi ν s 2 ∧ gi ν2 p 3 = gi ν s 3 ∧ gi ν2 p 7 = gi ν s 7 ∧ (∀ c, c < 4 → gi ν2 (p + 1) c = gi ν (s + 1) c ∧ gi ν2 (p + 2) c = gi ν (s + 2) c) ∧ ∀ k, k < 30 → gi ν2 (p + 3) k = gi ν (s + 3) k := by
  unfold Pt_copy Pt_copy_32
  refine ⟨_, rfl, fun q j hq => ?_, fun q j => rfl, ?_, ?_, ?_, ?_, ?_, fun c hc => ⟨?_, ?_⟩, fun k hk => ?_⟩
  · simp (disch := omega) only [gi_scp, gi_si_q]
    rw [if_neg (by omega), if_neg (by omega), if_neg (by omega)]
  · rw [gi_scp, if_neg (by omega), gi_scp, if_neg (by omega), gi_scp, if_neg (by omega)]
    simp (disch := omega) only [gi_si_q, gi_si_j, gi_si_s]
  · rw [gi_scp, if_neg (by omega), gi_scp, if_neg (by omega), gi_scp, if_neg (by omega)]
    simp (disch := omega) only [gi_si_q, gi_si_j, gi_si_s]
  · rw [gi_scp, if_neg (by omega), gi_scp, if_neg (by omega), gi_scp, if_neg (by omega)]
    simp (disch := omega) only [gi_si_q, gi_si_j, gi_si_s]
  · rw [gi_scp, if_neg (by omega), gi_scp, if_neg (by omega), gi_scp, if_neg (by omega)]
    simp (disch := omega) only [gi_si_q, gi_si_j, gi_si_s]
  · rw [gi_scp, if_neg (by omega), gi_scp, if_neg (by omega), gi_scp, if_neg (by omega)]
    simp (disch := omega) only [gi_si_q, gi_si_j, gi_si_s]
  · rw [gi_scp, if_neg (by omega), gi_scp, if_neg (by omega), gi_scp, if_pos (by omega), Nat.sub_zero, Nat.zero_add]
    simp (disch := omega) only [gi_si_q]
  · rw [gi_scp, if_neg (by omega), gi_scp, if_pos (by omega), Nat.sub_zero, Nat.zero_add, gi_scp, if_neg (by omega)]
    simp (disch := omega) only [gi_si_q]
  · rw [gi_scp, if_pos (by omega), Nat.sub_zero, Nat.zero_add, gi_scp, if_neg (by omega), gi_scp, if_neg (by omega)]
    simp (disch := omega) only [gi_si_q]
/-- what a Pit in cell p holds, against numbers from x on -/
theorem SX1_now {a : Nat → Nat} {s : Nat} {ν : Nm} (h : PX s a ν) {p x : Nat} {a2 : Nat → Nat} {ν2 : Nm} (h0 : gi ν2 p 0 = gi ν (s + 1) 0) (h1 : gi ν2 p 1 = gi ν (s + 1) 1) (h2 : gi ν2 p 2 = gi ν (s + 1) 2) (h3 : gi ν2 p 3 = gi ν (s + 1) 3) (h7 : gi ν2 p 7 = gi ν (s + 1) 7) (hc : ∀ c, c < 4 → gi ν2 (p + 1) c = gi ν (s + 1 + 1) c ∧ gi ν2 (p + 2) c = gi ν (s + 1 + 2) c) (hk : ∀ k, k < 30 → gi ν2 (p + 3) k = gi ν (s + 1 + 3) k) (e0 : a2 x = a 0) (e1 : ∀ k, k < 12 → a2 (x + 1 + k) = a (8 + k)) (e2 : ∀ k, k < 30 → a2 (x + 13 + k) = a (1355 + k)) : SX1 p x a2 ν2 := by
  refine ⟨?_, ?_, ?_, ?_, ?_, fun c c4 => ⟨?_, ?_⟩, fun k k3 => ?_⟩
  · rw [h0, e0]; exact h (0, 1, 0) (by decide)
  · rw [h1, show x + 1 = x + 1 + 0 from rfl, e1 0 (by omega)]; exact h (8, 1, 1) (by decide)
  · rw [h2, show x + 2 = x + 1 + 1 from rfl, e1 1 (by omega)]; exact h (9, 1, 2) (by decide)
  · rw [h3, show x + 3 = x + 1 + 2 from rfl, e1 2 (by omega)]; exact h (10, 1, 3) (by decide)
  · rw [h7, show x + 4 = x + 1 + 3 from rfl, e1 3 (by omega)]; exact h (11, 1, 7) (by decide)
  · rw [(hc c c4).1, show x + 5 + 2 * c = x + 1 + (4 + 2 * c) by omega, e1 _ (by omega), show 8 + (4 + 2 * c) = 12 + 2 * c by omega]; exact h _ (plc1 c c4)
  · rw [(hc c c4).2, show x + 6 + 2 * c = x + 1 + (5 + 2 * c) by omega, e1 _ (by omega), show 8 + (5 + 2 * c) = 13 + 2 * c by omega]; exact h _ (plc2 c c4)
  · rw [hk k k3, e2 k k3]; exact h _ (plb k k3)
theorem c_keep {a : Nat → Nat} {ν0 ν : Nm} (h : C1 a ν0 ν) (h30 : a 4 ≤ 30) : ∃ ν2, St_push 6 2 ν = some ν2 ∧ C1 (keepA a) ν0 ν2 := by
  have r := cr h
  have h29 := kp0_4 h30
  obtain ⟨⟨h1, h2, ⟨h3, h34⟩, f, h5, h6, h7⟩, hF⟩ := id h
  -- the ring place
  have key : ∀ (ν1 : Nm) (f2 : Nat), f2 < 30 → Fr fc ν0 ν1 → (∀ q j, q ≠ 6 → gi ν1 q j = gi ν q j) → gi ν1 6 1 = nI f2 → gi ν1 6 2 = nI (kp0 a 4 + 1) → (∀ i, i < kp0 a 4 → (f2 + i) % 30 = (f + (if a 4 = 30 then i + 1 else i)) % 30 ∧ (if a 4 = 30 then i + 1 else i) < a 4) → ∃ ν2, St_push_35 6 2 ν1 = some ν2 ∧ C1 (keepA a) ν0 ν2 := by
    intro ν1 f2 hf2 hF1 k1 k2 k3 k4
    have hat : (f2 + kp0 a 4) % 30 < 30 := Nat.mod_lt _ (by decide)
    obtain ⟨ν2, c0, c1, c2, c3, c4, c5, c6, c7, c8, c9⟩ := pt_copy (6 + 1 + 1 + 4 * ((f2 + kp0 a 4) % 30)) 2 (by omega) ν1
    refine ⟨ν2, ?_, ?_, Fr_tr hF1 ⟨fun q j hq => c1 q j (by unfold fc at hq; omega), fun q j _ => c2 q j⟩⟩
    · unfold St_push_35
      have e : nI f2 + nI (kp0 a 4 + 1) - 1 - (nI f2 + nI (kp0 a 4 + 1) - 1) / 30 * 30 = nI ((f2 + kp0 a 4) % 30) := by
        rw [nI_add, show (1 : Int32) = nI 1 from rfl, nI_sub (by omega), show (30 : Int32) = nI 30 from rfl, nI_mod (by omega) (by omega)]
        rfl
      rw [k2, k3, e, inb_nI (by omega), nI_clamp (by omega), if_pos (by simp; omega), c0]
      rfl
    · have kk : ∀ q j, q < 6 ∨ 128 ≤ q → gi ν2 q j = gi ν q j := fun q j hq => by rw [c1 q j (by omega), k1 q j (by omega)]
      refine ⟨fun q hq => ?_, ?_, ⟨fun i hi => ?_, fun i hi => ?_⟩, f2, hf2, ?_, fun i hi => ?_⟩
      · obtain ⟨n1, n2, n3, n4, n5, n6, n7, n8, n9⟩ := plNo q hq
        by_cases e : q.1 = 4
        · have e2 : ∀ q ∈ plL, q.1 = 4 → q = (4, 5, 2) := by decide +kernel
          rw [e2 q hq e]
          show gi ν2 6 2 = nI (keepA a 4)
          rw [c1 6 2 (by omega), keepA_4]
          exact k3
        · have e5 : ∀ q ∈ plL, q.1 ≠ 4 → q.2.1 ≠ 5 ∧ q.2.1 ≠ 6 := by decide +kernel
          have := e5 q hq e
          rw [kk _ _ (by omega), keepA_low h30 (by omega) e]
          exact h1 q hq
      · unfold RX; rw [kk _ _ (by omega), keepA_low h30 (by omega) (by omega)]; exact h2
      · rw [kk _ _ (by omega), keepA_low h30 (by omega) (by omega), keepA_low h30 (by omega) (by omega)]; exact h3 i hi
      · rw [kk _ _ (by omega), keepA_low h30 (by omega) (by omega), keepA_low h30 (by omega) (by omega)]; exact h34 i hi
      · rw [c1 _ _ (by omega)]; exact k2
      · rw [keepA_4] at hi
        by_cases e : i < kp0 a 4
        · obtain ⟨e1, e2⟩ := k4 i e
          have hne : (f2 + i) % 30 ≠ (f2 + kp0 a 4) % 30 := by omega
          have hb : (f2 + i) % 30 < 30 := Nat.mod_lt _ (by decide)
          have old := h7 _ e2
          rw [← e1] at old
          have st := SX1_keep old (a2 := a) (ν2 := ν2) (fun q j a1 a2 => by rw [c1 q j (by omega), k1 q j (by omega)]) (fun _ _ _ => rfl)
          -- the place in the model's row
          have mv : ∀ k, k < 43 → keepA a (65 + 43 * i + k) = a (65 + 43 * (if a 4 = 30 then i + 1 else i) + k) := fun k hk => keepA_o h30 e hk
          generalize (if a 4 = 30 then i + 1 else i) = i2 at mv st
          obtain ⟨s1, s2, s3, s4, s5, s6, s7⟩ := st
          refine ⟨?_, ?_, ?_, ?_, ?_, fun c hc => ⟨?_, ?_⟩, fun k hk => ?_⟩
          · rw [show 65 + 43 * i = 65 + 43 * i + 0 from rfl, mv 0 (by omega)]; exact s1
          · rw [mv 1 (by omega)]; exact s2
          · rw [mv 2 (by omega)]; exact s3
          · rw [mv 3 (by omega)]; exact s4
          · rw [mv 4 (by omega)]; exact s5
          · rw [show 65 + 43 * i + 5 + 2 * c = 65 + 43 * i + (5 + 2 * c) by omega, mv _ (by omega), ← Nat.add_assoc]; exact (s6 c hc).1
          · rw [show 65 + 43 * i + 6 + 2 * c = 65 + 43 * i + (6 + 2 * c) by omega, mv _ (by omega), ← Nat.add_assoc]; exact (s6 c hc).2
          · rw [show 65 + 43 * i + 13 + k = 65 + 43 * i + (13 + k) by omega, mv _ (by omega), ← Nat.add_assoc]; exact s7 k hk
        · have e2 : i = kp0 a 4 := by omega
          subst e2
          have g : ∀ q j, q < 6 → gi ν1 q j = gi ν q j := fun q j hq => k1 q j (by omega)
          refine SX1_now h1 (s := 1) ?_ ?_ ?_ ?_ ?_ (fun c hc => ⟨?_, ?_⟩) (fun k hk => ?_) (keepA_x h30) (fun k hk => keepA_k h30 hk) (fun k hk => keepA_b h30 hk)
          · rw [← g _ _ (by omega)]; exact c3
          · rw [← g _ _ (by omega)]; exact c4
          · rw [← g _ _ (by omega)]; exact c5
          · rw [← g _ _ (by omega)]; exact c6
          · rw [← g _ _ (by omega)]; exact c7
          · rw [← g _ _ (by omega)]; exact (c8 c hc).1
          · rw [← g _ _ (by omega)]; exact (c8 c hc).2
          · rw [← g _ _ (by omega)]; exact c9 k hk
  unfold St_push
  rw [r.2.2.2.2.1]
  have e' : (30 ≤ nI (a 4)) = (30 ≤ a 4) := nI_le' (a := 30) (by decide) (by omega)
  have h6' : gi ν 6 1 = nI f := h6
  by_cases e : a 4 = 30
  · rw [if_pos (by rw [e']; omega), h6', show (1 : Int32) = nI 1 from rfl, show (30 : Int32) = nI 30 from rfl, nI_add, nI_mod (by omega) (by omega)]
    have ek : kp0 a 4 = 29 := by unfold kp0; rw [if_pos e, upn_s]
    refine key _ ((f + 1) % 30) (Nat.mod_lt _ (by decide)) (Fr_si hF _ (Or.inl (by omega))) (fun q j hq => gi_si_q _ _ _ _ hq) (gi_si_s _ _ _ _) (by rw [gi_si_j _ _ _ (by omega), r.2.2.2.2.1, ek, e]) (fun i hi => ?_)
    rw [if_pos e]
    omega
  · rw [if_neg (by rw [e']; omega), show (1 : Int32) = nI 1 from rfl, nI_add]
    have ek : kp0 a 4 = a 4 := by unfold kp0; rw [if_neg e]
    refine key _ f h5 (Fr_si hF _ (Or.inl (by omega))) (fun q j hq => gi_si_q _ _ _ _ hq) (by rw [gi_si_j _ _ _ (by omega)]; exact h6') (by rw [gi_si_s, ek]) (fun i hi => ?_)
    rw [if_neg e]
    rw [ek] at hi
    exact ⟨rfl, hi⟩
