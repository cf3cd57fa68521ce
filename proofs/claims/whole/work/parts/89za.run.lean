/-! The model does what the machine does: a round, a run. -/
theorem orN_neg {b x : Nat} (h : x < 2 ^ 31) : (orN b x < (0 : Int32)) = ¬ x < b := by
  unfold orN
  apply propext
  by_cases z : x < b
  · rw [if_pos z]; exact ⟨fun k => absurd k (nI_pos h), fun k => absurd z k⟩
  · rw [if_neg z]; exact ⟨fun _ => z, fun _ => by decide⟩
theorem prt_le (T : Nat) (X : List Nat) : prt T X ≤ 99 := by
  unfold prt
  repeat' split
  all_goals omega
theorem cmpT_le (T : Nat) : cmpT T ≤ 99 := by
  unfold cmpT
  repeat' split
  all_goals omega
theorem btw_le (T : Nat) (X : List Nat) : btw T X ≤ 99 := by
  have := cmpT_le T
  unfold btw
  repeat' split
  all_goals omega
theorem m_behind {β : Nat → Nat} {n t L p : Nat} {X : List Nat} {c : List (Nat × Nat)} {ν : Nm} (h : Rep β n t L (true, p, X, c) ν) {r : Bool × Ms} (hr : mbeh β n p X c = some r) : ∃ ν2, Md_behindOne ν = some (r.1, ν2) ∧ Rep β n t L r.2 ν2 ∧ Fr (frR t) ν ν2 ∧ (r.1 = false → ν2 = ν ∧ r.2 = (true, p, X, c)) := by
  obtain ⟨r1, r2, r3, r4, r5, r6, r7, r8⟩ := Rep_ex h
  obtain ⟨t1, t2, t3, t4⟩ := tok_pos (β := β) r7
  have hle := MTk_le r1
  obtain ⟨o1, o2⟩ := m_openNow r2
  have ho : opn X < 44 := by omega
  obtain ⟨b1, b2⟩ := btw_ok (tT β n p) (by omega) (opn X) ho (cmpd X) X rfl rfl
  have bl := btw_le (tT β n p) X
  have pl := prt_le (tT β n p) X
  unfold mbeh at hr
  unfold Md_behindOne
  rw [m_betw r1 r2, Option.bind_some]
  simp only [orN_neg (b := 99) (show btw (tT β n p) X < 2 ^ 31 by omega)]
  by_cases q : btw (tT β n p) X < 99
  · rw [if_pos q] at hr
    rw [if_neg (fun z => z q)]
    obtain ⟨b3, b4, b5⟩ := b1.resolve_left (by omega)
    obtain ⟨z0, z131⟩ := b2 q
    have e : orN 99 (btw (tT β n p) X) = nI (btw (tT β n p) X) := by unfold orN; rw [if_pos q]
    have r7' := rk_le (btw (tT β n p) X)
    rw [e, m_rank _ (by omega), Option.bind_some, Option.bind_some]
    simp only [show (nI (rk (btw (tT β n p) X)) = (4 : Int32)) = (rk (btw (tT β n p) X) = 4) from nI_eq' (b := 4) (by omega) (by omega)]
    by_cases q2 : rk (btw (tT β n p) X) = 4
    · rw [if_pos q2] at hr
      rw [if_neg (fun z => z q2)]
      obtain ⟨ν2, a1, a2, a3, a4⟩ := m_push h z0 z131 b4 (by omega) (by omega) (by omega) hr
      exact ⟨ν2, by rw [show (5 : Int32) = nI 5 from rfl, a1, a2], a3, a4, fun z => by rw [a2] at z; cases z⟩
    · rw [if_neg q2] at hr
      rw [if_pos q2]
      obtain ⟨ν2, a1, a2, a3, a4⟩ := m_push h z0 z131 b4 (by omega) b5 (by omega) hr
      exact ⟨ν2, by rw [a1, a2], a3, a4, fun z => by rw [a2] at z; cases z⟩
  · rw [if_neg q] at hr
    rw [if_pos q, o1, Option.bind_some, m_prt r1 r2, Option.bind_some]
    by_cases q2 : prt (tT β n p) X = 99
    · rw [if_pos q2] at hr
      rw [q2, if_neg (by decide)]
      have e := Option.some.inj hr
      subst e
      exact ⟨ν, rfl, h, Fr_rfl _ _, fun _ => ⟨rfl, rfl⟩⟩
    · rw [if_neg q2] at hr
      obtain ⟨z0, z131, zo, zp, zc⟩ := prt_ok (T := tT β n p) (by omega) q2
      have e : orN 99 (prt (tT β n p) X) = nI (prt (tT β n p) X) := by unfold orN; rw [if_pos (by omega)]
      have t4 := t4 z0 z131
      obtain ⟨ν1, d1, d2, d3, d4⟩ := m_settle (l := 1) (by omega) (by omega) r2 r3 (by omega)
      have hs := stl_len 1 X c
      obtain ⟨B, hB⟩ := stl_1 X c zo
      have o40 : 40 ≤ opn X := by omega
      have hop : opO (opn X) = true := decide_eq_true (Or.inl o40)
      rw [hB] at d2 hs
      rw [List.length_cons] at hs
      unfold clo at hr
      generalize hc2 : (stl 1 X c).2 = c2 at *
      obtain ⟨ν2, g1, g2, g3, g4, g5⟩ := m_adv (MTk_fr r1 d4) r7 z0 d2 d3 (by omega)
      have F2 : Fr (frR t) ν ν2 := Fr_tr (Fr_mono d4 (fun q j m => Or.inr (Or.inl m))) (Fr_mono g5 (fun q j m => Or.inl m))
      have k14 : gi ν2 313 14 = nI L := by rw [g5.1 _ _ (by unfold frM; omega), d4.1 _ _ (by unfold frS frE; omega)]; exact r4
      have k18 : gi ν2 313 18 = nI 1 := by rw [g5.1 _ _ (by unfold frM; omega), d4.1 _ _ (by unfold frS frE; omega)]; exact r5
      rw [e, if_pos (nI_pos' (by omega)), show (1 : Int32) = nI 1 from rfl, d1, Option.bind_some, g1, Option.bind_some]
      simp only [show (nI (prt (tT β n p) X) ≤ (0 : Int32)) = (prt (tT β n p) X ≤ 0) from nI_le' (b := 0) (by omega) (by omega), show (opI (opn X) = (43 : Int32)) = (opn X = 43) from opI_eq o2 (k := 43) (by omega)]
      rw [hB, List.tail_cons] at hr
      by_cases q3 : prt (tT β n p) X = 0
      · rw [if_pos q3] at hr
        rw [if_pos (by omega)]
        have ee := Option.some.inj hr
        subst ee
        obtain ⟨p1, p2, p3, p4⟩ := g3
        rw [List.length_cons] at p1 p2
        rw [cnO_1 hop] at p3
        rw [p3, show nI (cnO B + 1) - nI 1 = nI (cnO B) from nS1 _, gi_si_j _ _ _ (show (16 : Nat) ≠ 17 by omega), p1, show nI (B.length + 1) - nI 1 = nI B.length from nS1 _]
        have F3 : Fr (frR t) ν (si (si ν2 313 17 (nI (cnO B))) 313 16 (nI B.length)) := Fr_si (Fr_si F2 _ (Or.inr (Or.inl (Or.inr ⟨rfl, Or.inr rfl⟩)))) _ (Or.inr (Or.inl (Or.inr ⟨rfl, Or.inl rfl⟩)))
        have P3 : PLr B (si (si ν2 313 17 (nI (cnO B))) 313 16 (nI B.length)) := ⟨gi_si_s _ _ _ _, by omega, by rw [gi_si_j _ _ _ (by omega), gi_si_s], pls_keep (fun j _ => by rw [gi_si_q _ _ _ _ (by omega), gi_si_q _ _ _ _ (by omega)]) p4.2.2⟩
        have C3 : CDr t c2 (si (si ν2 313 17 (nI (cnO B))) 313 16 (nI B.length)) := CDr_keep g4 (by omega) (by rw [gi_si_j _ _ _ (by omega), gi_si_j _ _ _ (by omega)]) (by rw [gi_si_j _ _ _ (by omega), gi_si_j _ _ _ (by omega)]) (fun j _ _ => by rw [gi_si_q _ _ _ _ (by omega), gi_si_q _ _ _ _ (by omega)])
        have M3 : MTk β n (tE β n p) (si (si ν2 313 17 (nI (cnO B))) 313 16 (nI B.length)) := MTk_keep g2 (fun j hj => by rw [gi_si_j _ _ _ (by omega), gi_si_j _ _ _ (by omega)]) (fun i => by rw [gi_si_q _ _ _ _ (by omega), gi_si_q _ _ _ _ (by omega)]) rfl
        have k14b : gi (si (si ν2 313 17 (nI (cnO B))) 313 16 (nI B.length)) 313 14 = nI L := by rw [gi_si_j _ _ _ (by omega), gi_si_j _ _ _ (by omega)]; exact k14
        have k18b : gi (si (si ν2 313 17 (nI (cnO B))) 313 16 (nI B.length)) 313 18 = nI 1 := by rw [gi_si_j _ _ _ (by omega), gi_si_j _ _ _ (by omega)]; exact k18
        generalize hν3 : si (si ν2 313 17 (nI (cnO B))) 313 16 (nI B.length) = ν3 at *
        -- the last settling
        have last : ∀ (ν4 : Nm) (c3 : List (Nat × Nat)), Fr (frR t) ν ν4 → MTk β n (tE β n p) ν4 → PLr B ν4 → CDr t c3 ν4 → gi ν4 313 14 = nI L → gi ν4 313 18 = nI 1 → c3.length + B.length ≤ p → ∃ ν5, Md_behindOne_139 ν4 = some (true, ν5) ∧ Rep β n t L (true, tE β n p, (stl 7 B c3).1, (stl 7 B c3).2) ν5 ∧ Fr (frR t) ν ν5 ∧ (true = false → ν5 = ν ∧ (true, tE β n p, (stl 7 B c3).1, (stl 7 B c3).2) = (true, p, X, c)) := by
          intro ν4 c3 hF hM hP hC h14 h18 hlen
          obtain ⟨ν5, w1, w2, w3, w4⟩ := m_settle (l := 7) (by omega) (by omega) hP hC (by omega)
          have hs7 := stl_len 7 B c3
          refine ⟨ν5, ?_, ⟨MTk_fr hM w4, w2, w3, by rw [w4.1 _ _ (by unfold frS frE; omega)]; exact h14, by rw [w4.1 _ _ (by unfold frS frE; omega)]; exact h18, ?_, t3, r8⟩, Fr_tr hF (Fr_mono w4 (fun q j m => Or.inr (Or.inl m))), fun z => by cases z⟩
          · unfold Md_behindOne_139
            rw [show (7 : Int32) = nI 7 from rfl, w1, Option.bind_some]
          · show (stl 7 B c3).2.length + (stl 7 B c3).1.length ≤ tE β n p
            omega
        by_cases q4 : opn X = 43
        · rw [if_neg (fun z => z q4), if_pos q4]
          obtain ⟨ν4, v1, v2, v3⟩ := m_emit C3 (by omega) 3 0
          rw [show (3 : Int32) = nI 3 from rfl, show (0 : Int32) = nI 0 from rfl, v1, Option.bind_some]
          exact last ν4 _ (Fr_tr F3 (Fr_mono v3 (fun q j m => Or.inr (Or.inl (Or.inl m))))) (MTk_e M3 v3) (PLr_e P3 v3) v2 (by rw [v3.1 _ _ (by unfold frE; omega)]; exact k14b) (by rw [v3.1 _ _ (by unfold frE; omega)]; exact k18b) (by rw [List.length_append, List.length_singleton]; omega)
        · rw [if_pos q4, if_neg q4]
          exact last ν3 _ F3 M3 P3 C3 k14b k18b (by omega)
      · rw [if_neg q3] at hr
        rw [if_neg (by omega)]
        have ee := Option.some.inj hr
        subst ee
        have zp2 := zp.resolve_left q3
        have l2 := g3.2.1
        rw [List.length_cons] at l2
        rcases m_openAt g3 with ⟨y1, -⟩ | ⟨y1, y2, k, y3, y4, y5, y6⟩
        · unfold opn at y1
          rw [if_pos o40] at y1
          exact absurd y1 zo
        · have ek : k = B.length := y6 _ _ rfl o40
          subst ek
          rw [y4, Option.bind_some, inb_nI (by omega), nI_clamp (by omega), if_pos (by simp; omega)]
          obtain ⟨p1, p2, p3, p4⟩ := g3
          rw [List.length_cons] at p1
          have hop2 : opO (prt (tT β n p) X) = true := decide_eq_true (Or.inl (by omega))
          refine ⟨_, rfl, ⟨?_, ⟨?_, ?_, ?_, ?_, by omega, pls_keep (fun j hj => ?_) p4.2.2⟩, ?_, ?_, ?_, ?_, t3, r8⟩, Fr_si (Fr_si F2 _ (Or.inr (Or.inr (Or.inl rfl)))) _ (Or.inr (Or.inr (Or.inr ⟨rfl, rfl⟩))), fun z => by cases z⟩
          · exact MTk_keep g2 (fun j hj => by rw [gi_si_j _ _ _ (by omega), gi_si_q _ _ _ _ (by omega)]) (fun i => by rw [gi_si_q _ _ _ _ (by omega), gi_si_q _ _ _ _ (by omega)]) rfl
          · rw [gi_si_j _ _ _ (by omega), gi_si_q _ _ _ _ (by omega)]; exact p1
          · show (prt (tT β n p) X :: B).length ≤ 160
            rw [List.length_cons]; omega
          · rw [gi_si_j _ _ _ (by omega), gi_si_q _ _ _ _ (by omega)]
            show gi ν2 313 17 = nI (cnO (prt (tT β n p) X :: B))
            rw [cnO_1 hop2, p3, cnO_1 hop]
          · rw [gi_si_q _ _ _ _ (by omega), gi_si_s]
          · rw [gi_si_q _ _ _ _ (by omega), gi_si_j _ _ _ (by omega)]
          · exact CDr_keep g4 (show c2.length ≤ 304 by omega) (by rw [gi_si_j _ _ _ (by omega), gi_si_q _ _ _ _ (by omega)]) (by rw [gi_si_j _ _ _ (by omega), gi_si_q _ _ _ _ (by omega)]) (fun j _ _ => by rw [gi_si_q _ _ _ _ (by omega), gi_si_q _ _ _ _ (by omega)])
          · rw [gi_si_j _ _ _ (by omega), gi_si_q _ _ _ _ (by omega)]; exact k14
          · rw [gi_si_s]; rfl
          · show c2.length + (prt (tT β n p) X :: B).length ≤ tE β n p
            rw [List.length_cons]; omega
theorem m_run {β : Nat → Nat} {n t L : Nat} (hL : L < 10) : ∀ (f : Nat) (s : Ms) (r : Nat × Ms) (ν : Nm), mrun β n L f s = some r → r.1 < 2 ^ 31 → Rep β n t L s ν → ∃ ν2, Md_summed_15 f ν = some (nI r.1, ν2) ∧ Rep β n t L r.2 ν2 ∧ Fr (frR t) ν ν2 := by
  intro f
  induction f with
  | zero => intro s r ν h; cases h
  | succ f ih =>
    intro s r ν h hr31 hR
    obtain ⟨w, p, X, c⟩ := s
    rw [Md_summed_15]
    obtain ⟨r1, r2, r3, r4, r5, r6, r7, r8⟩ := Rep_ex hR
    cases w with
    | false =>
      rw [mrun] at h
      rw [if_pos (show gi ν 313 18 = 0 from r5)]
      cases e : mbeg β n L p X c with
      | none => rw [e] at h; cases h
      | some u =>
        rw [e, Option.bind_some] at h
        obtain ⟨ν2, a1, a2, a3⟩ := m_beg1 hL hR e
        rw [a1, Option.bind_some]
        by_cases q : u.1 = 0
        · rw [if_pos q] at h
          rw [if_pos (by rw [q]; rfl)]
          obtain ⟨ν3, b1, b2, b3⟩ := ih u.2 r ν2 h hr31 a2
          exact ⟨ν3, b1, b2, Fr_tr a3 b3⟩
        · rw [if_neg q] at h
          have ee := Option.some.inj h
          subst ee
          rw [if_neg (by rw [show (0 : Int32) = nI 0 from rfl, nI_eq' hr31 (by omega)]; exact q)]
          exact ⟨ν2, rfl, a2, a3⟩
    | true =>
      rw [mrun] at h
      rw [if_neg (by rw [r5]; decide)]
      cases e : mbeh β n p X c with
      | none => rw [e] at h; cases h
      | some u =>
        rw [e, Option.bind_some] at h
        obtain ⟨ν2, a1, a2, a3, a4⟩ := m_behind hR e
        rw [a1, Option.bind_some]
        cases q : u.1 with
        | false =>
          rw [if_pos q] at h
          obtain ⟨k1, k2⟩ := a4 q
          subst k1
          rw [if_pos (by rw [b2iF]; exact True.intro)]
          obtain ⟨o1, o2⟩ := m_openNow r2
          rw [o1, Option.bind_some]
          by_cases q2 : opn X = 0
          · rw [if_pos q2] at h
            have ee := Option.some.inj h
            subst ee
            rw [q2, if_pos (by decide)]
            obtain ⟨ν3, d1, d2, d3, d4⟩ := m_settle (l := 1) (by omega) (by omega) r2 r3 (by omega)
            have hs := stl_len 1 X c
            rw [show (1 : Int32) = nI 1 from rfl, d1, Option.bind_some]
            refine ⟨ν3, rfl, ⟨MTk_fr r1 d4, d2, d3, by rw [d4.1 _ _ (by unfold frS frE; omega)]; exact r4, by rw [d4.1 _ _ (by unfold frS frE; omega)]; exact r5, ?_, r7, r8⟩, Fr_mono d4 (fun q j m => Or.inr (Or.inl m))⟩
            show (stl 1 X c).2.length + (stl 1 X c).1.length ≤ p
            omega
          · rw [if_neg q2] at h
            have ee := Option.some.inj h
            subst ee
            rw [if_neg (by unfold opI; rw [if_neg q2]; exact nI_pos (by omega))]
            exact ⟨ν2, rfl, hR, Fr_rfl _ _⟩
        | true =>
          rw [if_neg (by rw [q]; decide)] at h
          rw [if_neg (by rw [b2iT]; exact id)]
          obtain ⟨ν3, b1, b2, b3⟩ := ih u.2 r ν2 h hr31 a2
          exact ⟨ν3, b1, b2, Fr_tr a3 b3⟩
