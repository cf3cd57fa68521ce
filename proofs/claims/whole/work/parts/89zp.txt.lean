/-! The call text. -/
theorem WF_2 {a : Nat → Nat} (h : WF a) {v : Nat} (hv : a 2 ≤ v) (h4 : v ≤ 4) : WF (upn a 2 v) := by
  obtain ⟨u, w1, w2, w3, w4, w5, w6⟩ := h
  have n : ∀ j, j ≠ 2 → upn a 2 v j = a j := fun j hj => upn_n _ _ hj
  refine ⟨UB_up u (show v ≤ 4 by omega), by unfold W1; rw [n 1 (by decide)]; exact w1, ?_, W3_keep w3 (fun j hj => n j (by omega)), W4_keep w4 (fun j hj => n j (by omega)), W5_keep w5 (fun j hj => n j (by omega)), W6_keep w6 (fun j hj => n j (by omega))⟩
  unfold W2
  rw [upn_s, n 3 (by decide)]
  have : a 3 ≤ a 2 := w2
  omega
theorem Inv_text {a a2 b : Nat → Nat} {ν ν5 : Nm} {t : Nat} (h : Inv a b tau ν) (ha : ∀ j, j ≠ 2 → a2 j = a j) (ha2 : a 2 ≤ a2 2) (hw : WF a2) (fr : ∀ q j, q ≠ 1 → q ≠ 314 → q ≠ 271 → q ≠ 313 → q ≠ 318 → q ≠ 316 → ¬ (285 + 7 * t ≤ q ∧ q < 285 + 7 * t + 7) → gi ν5 q j = gi ν q j) (ht : t < 4) (f23 : gi ν5 313 23 = gi ν 313 23) (frl : ∀ j, gl ν5 277 j = gl ν 277 j) (hC : CX 1 a2 ν5) (hM : MX 314 a2 ν5) (hT : ∃ D, TO D a2 ν5) (h1 : gi ν5 271 1 = nI 0) (h4 : gi ν5 313 4 = nI 0) (h5 : gi ν5 271 2 = gi ν5 313 5) (h6 : gi ν5 271 3 = gi ν5 313 6) : Inv a2 b tau ν5 := by
  obtain ⟨w1, w2, c1, c2, m1, m2, ⟨t1, hT0, t3, t4⟩, ⟨o0, o1, o3⟩, o4, ⟨n, n1, n2, n3⟩, o5, o6, o7⟩ := h
  refine ⟨hw, w2, hC, CX_keep c2 (fun q j q1 q2 => fr q j (by omega) (by omega) (by omega) (by omega) (by omega) (by omega) (by omega)), hM, MX_keep m2 (fun j => fr _ _ (by omega) (by omega) (by omega) (by omega) (by omega) (by omega) (by omega)), ⟨by rw [ha 0 (by omega)]; exact t1, hT, RC_keep t3 t1 ⟨by rw [ha 0 (by omega)]; exact Nat.le_refl _, fun c c4 _ => ha _ (by omega)⟩ (fun q j hq => by unfold rcq at hq; exact fr q j (by omega) (by omega) (by omega) (by omega) (by omega) (by omega) (by omega)) frl, RM_keep t4 t1 ⟨ha 0 (by omega), fun c c4 _ => ha _ (by omega)⟩ (fun j => fr _ _ (by omega) (by omega) (by omega) (by omega) (by omega) (by omega) (by omega)) (fun j => fr _ _ (by omega) (by omega) (by omega) (by omega) (by omega) (by omega) (by omega))⟩, ⟨by rw [ha 0 (by omega)]; exact o0, Nat.le_trans o1 ha2, fun c c4 hcb => by rw [ha _ (by omega)]; exact o3 c c4 hcb⟩, by rw [f23]; exact o4, ⟨0, by omega, h1, h4⟩, fun i hi => ?_, h5, h6⟩
  obtain ⟨k, k1, k2, k3⟩ := o5 i hi
  exact ⟨k, k1, by rw [fr _ _ (by omega) (by omega) (by omega) (by omega) (by omega) (by omega) (by omega)]; exact k2, by rw [fr _ _ (by omega) (by omega) (by omega) (by omega) (by omega) (by omega) (by omega)]; exact k3⟩
theorem okT_t {t : Nat} (h : t < 4) : okT (285 + 7 * t) := by
  unfold okT
  omega
theorem txt_ok : TXT := by
  intro a b ν h
  have h0 := h
  obtain ⟨w1, w2, c1, c2, m1, m2, ⟨t1, ⟨D, hTO⟩, t3, t4⟩, ⟨o0, o1, o3⟩, o4, ⟨n, n1, n2, n3⟩, o5, o6, o7⟩ := h
  have hb := wb w1
  have g6 : gi ν 1 6 = nI (a 2) := (cr (⟨c1, Fr_rfl _ _⟩ : C1 a ν ν)).2.2.1
  have g2 : gi ν 314 2 = nI (a 2) := m1.1 2 (by omega) (by omega)
  by_cases h4 : a 2 = 4
  · refine ⟨-1, ν, ν, a, b, ?_, ?_, h0⟩
    · unfold Fm_text
      rw [g6, h4, if_neg (by decide)]
    · unfold Md_text
      rw [g2, h4, if_neg (fun z => z rfl)]
  · generalize ht : a 2 = t at *
    have ht4 : t < 4 := by omega
    have hok := okT_t ht4
    have hβ : ∀ i, i < 300 → (gi ν 272 i).toNatClampNeg < 256 ∧ gi ν 272 i = nI (gi ν 272 i).toNatClampNeg ∧ gi ν 317 i = nI (gi ν 272 i).toNatClampNeg := fun i hi => by
      obtain ⟨k, k1, k2, k3⟩ := o5 i hi
      rw [k2, k3, nI_clamp (by omega)]
      exact ⟨k1, rfl, rfl⟩
    generalize hbe : (fun i => (gi ν 272 i).toNatClampNeg) = β
    have hβ2 : ∀ i, i < 300 → β i < 256 ∧ gi ν 272 i = nI (β i) ∧ gi ν 317 i = nI (β i) := fun i hi => by rw [← hbe]; exact hβ i hi
    have Tc : TpC β n ν := ⟨n1, n2, fun i hi => ⟨(hβ2 i hi).1, (hβ2 i hi).2.1⟩⟩
    obtain ⟨f, q, K2, cc2, b2, e2, C, M, P, Q⟩ := text_ok (fun i hi => (hβ2 i hi).1) n1 n 0 [] [] (fun _ => 0) (fun _ => 0) (by omega) (Nat.zero_le _) WTx_0 (Nat.le_refl _)
    -- the class
    obtain ⟨νb, L, x1, x2, x3⟩ := c_begins hok Tc
    obtain ⟨ν3, y1, y2, y3, y4⟩ := C (285 + 7 * t) L νb FU hok x2 (by unfold FU; omega)
    have F3 : Fr (frK (285 + 7 * t)) ν ν3 := Fr_tr x3 y4
    have k16 : gi ν3 1 6 = nI t := by rw [F3.1 _ _ (by unfold frK; omega)]; exact g6
    have eF : Fm_text ν = (if (gi (si ν3 271 1 (0 : Int32)) 271 2) = 0 then some (((gi (si (si ν3 271 1 (0 : Int32)) 1 6 ((gi (si ν3 271 1 (0 : Int32)) 1 6) + (1 : Int32))) 1 6) - (1 : Int32)), (si (si ν3 271 1 (0 : Int32)) 1 6 ((gi (si ν3 271 1 (0 : Int32)) 1 6) + (1 : Int32)))) else some ((-1 : Int32), (si ν3 271 1 (0 : Int32)))) := by
      unfold Fm_text
      rw [g6, if_pos (by rw [show (4 : Int32) = nI 4 from rfl, nI_lt' (by omega) (by omega)]; exact ht4), inb_nI (by omega), nI_clamp (by omega), if_pos (by simp; omega), x1]
      rw [show Rd_readInto_38 FU (nI 0) νb = some ν3 from y1, Option.bind_some]
    -- the model, from any memory that the class left
    have mdl : ∀ ν1 : Nm, (∀ q j, q = 313 ∨ q = 317 ∨ q = 314 → gi ν1 q j = gi ν q j) → ∃ ν4 : Nm, Md_readText ν1 = some (nI f, ν4) ∧ (f = 0 → ∃ p2, MC β n t p2 K2 cc2 b2 e2 ν4) ∧ (f ≠ 0 → gi ν4 313 8 = nI q) ∧ Fr (frY t) ν1 ν4 := fun ν1 hk => by
      obtain ⟨νm, z1, z2, z3⟩ := m_begins (β := β) (n := n) (t := t) (ν := ν1) ht4 ⟨n1, by rw [hk _ _ (by omega)]; exact n3, fun i hi => ⟨(hβ2 i hi).1, by rw [hk _ _ (by omega)]; exact (hβ2 i hi).2.2⟩⟩ (by rw [hk _ _ (by omega)]; exact g2)
      obtain ⟨ν4, u1, u2, u3, u4⟩ := M t νm FU z2 (by unfold FU; omega)
      exact ⟨ν4, by rw [z1]; exact u1, u2, u3, Fr_tr z3 (Fr_mono u4 (fun q j m => Or.inl m))⟩
    by_cases s1 : f = 0
    · obtain ⟨L2, p2, hCC⟩ := y2 s1
      have hW := P s1
      have e271 : gi (si ν3 271 1 (0 : Int32)) 271 2 = 0 := by rw [gi_si_j _ _ _ (by omega)]; exact hCC.1.2.1.1
      have e16 : gi (si ν3 271 1 (0 : Int32)) 1 6 + 1 = nI (t + 1) := by rw [gi_si_q _ _ _ _ (by omega), k16]; exact nI_add t 1
      rw [if_pos e271, e16, gi_si_s, nS1] at eF
      have kν1 : ∀ q j, (q ≠ 271 ∨ j ≠ 1) → (q ≠ 1 ∨ j ≠ 6) → gi (si (si ν3 271 1 (0 : Int32)) 1 6 (nI (t + 1))) q j = gi ν3 q j := fun q j q1 q2 => by rw [gi_si, if_neg (by omega), gi_si, if_neg (by omega)]
      have lν1 : ∀ j, gl (si (si ν3 271 1 (0 : Int32)) 1 6 (nI (t + 1))) 277 j = gl ν 277 j := fun j => F3.2 _ _ (by unfold frK; omega)
      have q271 : gi (si (si ν3 271 1 (0 : Int32)) 1 6 (nI (t + 1))) 271 1 = nI 0 := by rw [gi_si_q _ _ _ _ (by omega), gi_si_s]; rfl
      have cx1 : CX 1 (upn a 2 (t + 1)) (si (si ν3 271 1 (0 : Int32)) 1 6 (nI (t + 1))) := CX_up (CX_keep c1 (fun q j q1 q2 => by rw [gi_si_q _ _ _ _ (by omega)]; exact F3.1 _ _ (by unfold frK; omega))) (2, 0, 6) (by decide) (by decide) hb.2.2.2.2.2.1 (t + 1)
      generalize hν1 : si (si ν3 271 1 (0 : Int32)) 1 6 (nI (t + 1)) = ν1 at *
      obtain ⟨ν4, z1, z2, z3, z4⟩ := mdl ν1 (fun q j hq => by rw [kν1 _ _ (by omega) (by omega)]; exact F3.1 _ _ (by unfold frK; omega))
      obtain ⟨p3, hMC⟩ := z2 s1
      have z4' : ∀ q j, ¬ frY t q j → gi ν4 q j = gi ν1 q j := z4.1
      have k314 : ∀ j, gi ν4 314 j = gi ν 314 j := fun j => by rw [z4' _ _ (by unfold frY frX frR frM frS frE; omega), kν1 _ _ (by omega) (by omega)]; exact F3.1 _ _ (by unfold frK; omega)
      have k5 : ∀ q j, (q ≠ 313 ∨ j < 4 ∨ 6 < j) → (q ≠ 314 ∨ j ≠ 2) → gi (si (si (si (si ν4 313 5 (nI f)) 313 6 (-1)) 313 4 (0 : Int32)) 314 2 (nI (t + 1))) q j = gi ν4 q j := fun q j q1 q2 => by rw [gi_si, if_neg (by omega), gi_si, if_neg (by omega), gi_si, if_neg (by omega), gi_si, if_neg (by omega)]
      have eM : Md_text ν1 = some (nI t, si (si (si (si ν4 313 5 (nI f)) 313 6 (-1)) 313 4 (0 : Int32)) 314 2 (nI (t + 1))) := by
        have k0 : gi ν1 314 2 = nI t := by rw [kν1 _ _ (by omega) (by omega), F3.1 _ _ (by unfold frK; omega)]; exact g2
        have e5 : gi (si (si (si ν4 313 5 (nI f)) 313 6 (-1)) 313 4 (0 : Int32)) 313 5 = 0 := by rw [gi_si_j _ _ _ (by omega), gi_si_j _ _ _ (by omega), gi_si_s, s1]; rfl
        have e3 : gi (si (si (si ν4 313 5 (nI f)) 313 6 (-1)) 313 4 (0 : Int32)) 314 2 + 1 = nI (t + 1) := by rw [gi_si_q _ _ _ _ (by omega), gi_si_q _ _ _ _ (by omega), gi_si_q _ _ _ _ (by omega), k314, g2]; exact nI_add t 1
        unfold Md_text Md_text_36
        rw [k0, if_pos (by rw [show (4 : Int32) = nI 4 from rfl, nI_eq' (by omega) (by omega)]; omega), z1, Option.bind_some]
        show (if ¬ gi (si ν4 313 5 (nI f)) 313 5 = 0 then _ else _) = _
        rw [if_neg (by rw [gi_si_s, s1]; exact fun z => z rfl), if_pos e5, e3, gi_si_s, nS1]
      refine ⟨nI t, ν1, _, upn a 2 (t + 1), b, eF, eM, ?_⟩
      refine Inv_text (t := t) h0 (fun j hj => upn_n _ _ hj) (by rw [upn_s]; omega) (WF_2 w1 (by omega) (by omega)) (fun q j q1 q2 q3 q4 q5 q6 q7 => ?_) ht4 ?_ (fun j => ?_) ?_ ?_ ⟨fun i => if i = t then dTx K2 cc2 b2 e2 else D i, fun i i4 hi => ?_⟩ ?_ ?_ ?_ ?_
      · rw [k5 _ _ (by omega) (by omega), z4' _ _ (by unfold frY frX frR frM frS frE; omega), kν1 _ _ (by omega) (by omega)]
        exact F3.1 _ _ (by unfold frK; omega)
      · rw [k5 _ _ (by omega) (by omega), z4' _ _ (by unfold frY frX frR frM frS frE; omega), kν1 _ _ (by omega) (by omega)]
        exact F3.1 _ _ (by unfold frK; omega)
      · show gl ν4 277 j = gl ν 277 j
        rw [z4.2 _ _ (by unfold frY frX frR frM frS frE; omega)]; exact lν1 j
      · exact CX_keep cx1 (fun q j q1 q2 => by rw [k5 _ _ (by omega) (by omega)]; exact z4' _ _ (by unfold frY frX frR frM frS frE; omega))
      · exact MX_up (MX_keep m1 (fun j => by rw [gi_si_q _ _ _ _ (by omega), gi_si_q _ _ _ _ (by omega), gi_si_q _ _ _ _ (by omega)]; exact k314 j)) (by omega)
      · rw [upn_s] at hi
        by_cases z : i = t
        · subst z
          show TO1 (if i = i then dTx K2 cc2 b2 e2 else D i) (285 + 7 * i) (681 * i) _
          rw [if_pos rfl]
          exact to1_ok hCC hMC hW (fun q j q1 q2 => by rw [k5 _ _ (by omega) (by omega), z4' _ _ (by unfold frY frX frR frM frS frE; omega), kν1 _ _ (by omega) (by omega)]) (fun j => k5 _ _ (by omega) (by omega))
        · show TO1 (if i = t then dTx K2 cc2 b2 e2 else D i) (285 + 7 * i) (681 * i) _
          rw [if_neg z]
          have hit : i < t := by omega
          exact TO1_keep (hTO i i4 (by rw [ht]; exact hit)) (fun q j q1 q2 => by rw [k5 _ _ (by omega) (by omega), z4' _ _ (by unfold frY frX frR frM frS frE; omega), kν1 _ _ (by omega) (by omega)]; exact F3.1 _ _ (by unfold frK; omega)) (fun j q1 q2 => by rw [k5 _ _ (by omega) (by omega), z4' _ _ (by unfold frY frX frR frM frS frE; omega), kν1 _ _ (by omega) (by omega)]; exact F3.1 _ _ (by unfold frK; omega))
      · rw [k5 _ _ (by omega) (by omega), z4' _ _ (by unfold frY frX frR frM frS frE; omega)]; exact q271
      · rw [gi_si_q _ _ _ _ (by omega), gi_si_s]; rfl
      · rw [k5 _ _ (by omega) (by omega), z4' _ _ (by unfold frY frX frR frM frS frE; omega), kν1 _ _ (by omega) (by omega), hCC.1.2.1.1, gi_si_q _ _ _ _ (by omega), gi_si_j _ _ _ (by omega), gi_si_j _ _ _ (by omega), gi_si_s, s1]
      · rw [k5 _ _ (by omega) (by omega), z4' _ _ (by unfold frY frX frR frM frS frE; omega), kν1 _ _ (by omega) (by omega), hCC.1.2.1.2, gi_si_q _ _ _ _ (by omega), gi_si_j _ _ _ (by omega), gi_si_s]
    · have hCF := (y3 s1).1
      obtain ⟨f6, fq⟩ := Q s1
      have e271 : gi (si ν3 271 1 (0 : Int32)) 271 2 = nI f := by rw [gi_si_j _ _ _ (by omega)]; exact hCF.1
      rw [if_neg (by rw [e271, show (0 : Int32) = nI 0 from rfl, nI_eq' (by omega) (by omega)]; exact s1)] at eF
      have kν1 : ∀ q j, (q ≠ 271 ∨ j ≠ 1) → gi (si ν3 271 1 (0 : Int32)) q j = gi ν3 q j := fun q j q1 => by rw [gi_si, if_neg (by omega)]
      have lν1 : ∀ j, gl (si ν3 271 1 (0 : Int32)) 277 j = gl ν 277 j := fun j => F3.2 _ _ (by unfold frK; omega)
      have q271 : gi (si ν3 271 1 (0 : Int32)) 271 1 = nI 0 := by rw [gi_si_s]; rfl
      generalize hν1 : si ν3 271 1 (0 : Int32) = ν1 at *
      obtain ⟨ν4, z1, z2, z3, z4⟩ := mdl ν1 (fun q j hq => by rw [kν1 _ _ (by omega)]; exact F3.1 _ _ (by unfold frK; omega))
      have z3 := z3 s1
      have z4' : ∀ q j, ¬ frY t q j → gi ν4 q j = gi ν1 q j := z4.1
      have k314 : ∀ j, gi ν4 314 j = gi ν 314 j := fun j => by rw [z4' _ _ (by unfold frY frX frR frM frS frE; omega), kν1 _ _ (by omega)]; exact F3.1 _ _ (by unfold frK; omega)
      have k5 : ∀ u j, (u ≠ 313 ∨ j < 4 ∨ 6 < j) → gi (si (si (si ν4 313 5 (nI f)) 313 6 (nI q)) 313 4 (0 : Int32)) u j = gi ν4 u j := fun u j q1 => by rw [gi_si, if_neg (by omega), gi_si, if_neg (by omega), gi_si, if_neg (by omega)]
      have nf : ¬ nI f = (0 : Int32) := by rw [show (0 : Int32) = nI 0 from rfl, nI_eq' (by omega) (by omega)]; exact s1
      have eM : Md_text ν1 = some (-1, si (si (si ν4 313 5 (nI f)) 313 6 (nI q)) 313 4 (0 : Int32)) := by
        have k0 : gi ν1 314 2 = nI t := by rw [kν1 _ _ (by omega), F3.1 _ _ (by unfold frK; omega)]; exact g2
        have e8 : gi (si ν4 313 5 (nI f)) 313 8 = nI q := by rw [gi_si_j _ _ _ (by omega)]; exact z3
        have e5 : gi (si (si (si ν4 313 5 (nI f)) 313 6 (nI q)) 313 4 (0 : Int32)) 313 5 = nI f := by rw [gi_si_j _ _ _ (by omega), gi_si_j _ _ _ (by omega), gi_si_s]
        unfold Md_text Md_text_36
        rw [k0, if_pos (by rw [show (4 : Int32) = nI 4 from rfl, nI_eq' (by omega) (by omega)]; omega), z1, Option.bind_some]
        show (if ¬ gi (si ν4 313 5 (nI f)) 313 5 = 0 then _ else _) = _
        rw [if_pos (by rw [gi_si_s]; exact nf), e8, if_neg (by rw [e5]; exact nf)]
      refine ⟨-1, ν1, _, a, b, eF, eM, ?_⟩
      refine Inv_text (t := t) h0 (fun j hj => rfl) (Nat.le_refl _) w1 (fun q j q1 q2 q3 q4 q5 q6 q7 => ?_) ht4 ?_ (fun j => ?_) ?_ ?_ ⟨D, fun i i4 hi => ?_⟩ ?_ ?_ ?_ ?_
      · rw [k5 _ _ (by omega), z4' _ _ (by unfold frY frX frR frM frS frE; omega), kν1 _ _ (by omega)]
        exact F3.1 _ _ (by unfold frK; omega)
      · rw [k5 _ _ (by omega), z4' _ _ (by unfold frY frX frR frM frS frE; omega), kν1 _ _ (by omega)]
        exact F3.1 _ _ (by unfold frK; omega)
      · show gl ν4 277 j = gl ν 277 j
        rw [z4.2 _ _ (by unfold frY frX frR frM frS frE; omega)]; exact lν1 j
      · exact CX_keep c1 (fun q j q1 q2 => by rw [k5 _ _ (by omega), z4' _ _ (by unfold frY frX frR frM frS frE; omega), kν1 _ _ (by omega)]; exact F3.1 _ _ (by unfold frK; omega))
      · exact MX_keep m1 (fun j => by rw [k5 _ _ (by omega)]; exact k314 j)
      · have hit : i < t := by rw [ht] at hi; exact hi
        exact TO1_keep (hTO i i4 hi) (fun q j q1 q2 => by rw [k5 _ _ (by omega), z4' _ _ (by unfold frY frX frR frM frS frE; omega), kν1 _ _ (by omega)]; exact F3.1 _ _ (by unfold frK; omega)) (fun j q1 q2 => by rw [k5 _ _ (by omega), z4' _ _ (by unfold frY frX frR frM frS frE; omega), kν1 _ _ (by omega)]; exact F3.1 _ _ (by unfold frK; omega))
      · rw [k5 _ _ (by omega), z4' _ _ (by unfold frY frX frR frM frS frE; omega)]; exact q271
      · rw [gi_si_s]; rfl
      · rw [k5 _ _ (by omega), z4' _ _ (by unfold frY frX frR frM frS frE; omega), e271, gi_si_j _ _ _ (by omega), gi_si_j _ _ _ (by omega), gi_si_s]
      · rw [k5 _ _ (by omega), z4' _ _ (by unfold frY frX frR frM frS frE; omega), kν1 _ _ (by omega), hCF.2.1, gi_si_j _ _ _ (by omega), gi_si_s]
