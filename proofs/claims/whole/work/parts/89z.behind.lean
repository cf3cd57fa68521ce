/-! The model does what the machine does: behind a whole one. -/
theorem opI_eq {x k : Nat} (h : x = 0 ∨ (40 ≤ x ∧ x < 44)) (hk : 40 ≤ k ∧ k < 44) : (opI x = nI k) = (x = k) := by
  unfold opI
  by_cases z : x = 0
  · rw [if_pos z]
    apply propext
    constructor
    · intro e
      exact absurd e.symm (neg1 (by omega))
    · intro e; omega
  · rw [if_neg z, nI_eq' (by omega) (by omega)]
theorem m_betw {β : Nat → Nat} {n p : Nat} {X : List Nat} {ν : Nm} (hM : MTk β n p ν) (hP : PLr X ν) : Md_betweenOf ν = some (orN 99 (btw (tT β n p) X)) := by
  have hR := hM.2.2.2.2
  obtain ⟨o1, o2⟩ := m_openNow hP
  have e43 : (gi ν 313 9 = (43 : Int32)) = (tT β n p = 43) := tr_eq hR (show (43, 43) ∈ tkL by decide)
  have e45 : (gi ν 313 9 = (45 : Int32)) = (tT β n p = 45) := tr_eq hR (show (45, 45) ∈ tkL by decide)
  have e42 : (gi ν 313 9 = (42 : Int32)) = (tT β n p = 42) := tr_eq hR (show (42, 42) ∈ tkL by decide)
  have e47 : (gi ν 313 9 = (47 : Int32)) = (tT β n p = 47) := tr_eq hR (show (47, 47) ∈ tkL by decide)
  have e41 : (opI (opn X) = (41 : Int32)) = (opn X = 41) := opI_eq o2 (k := 41) (by omega)
  unfold Md_betweenOf btw
  simp only [e43, e45, e42, e47]
  by_cases c1 : tT β n p = 43
  · rw [if_neg (fun z => z c1), if_pos c1]; rfl
  rw [if_pos c1, if_neg c1]
  by_cases c2 : tT β n p = 45
  · rw [if_neg (fun z => z c2), if_pos c2]; rfl
  rw [if_pos c2, if_neg c2]
  by_cases c3 : tT β n p = 42
  · rw [if_neg (fun z => z c3), if_pos c3]; rfl
  rw [if_pos c3, if_neg c3]
  by_cases c4 : tT β n p = 47
  · rw [if_neg (fun z => z c4), if_pos c4]; rfl
  rw [if_pos c4, if_neg c4, o1, Option.bind_some]
  simp only [e41]
  by_cases c5 : opn X = 41
  · rw [if_pos c5, if_pos c5, m_isCompared hP, Option.bind_some]
    cases c6 : cmpd X with
    | true =>
      rw [if_pos (by rw [b2iT]; exact id), if_pos rfl, w_and, Option.bind_some, m_isWord hR (by omega) (by omega), Option.bind_some]
      simp only [b2d0]
      by_cases c7 : tT β n p = 20
      · rw [if_neg (fun z => z c7), if_pos c7]; rfl
      · rw [if_pos c7, if_neg c7, w_or, Option.bind_some, m_isWord hR (by omega) (by omega), Option.bind_some]
        simp only [b2d0]
        by_cases c8 : tT β n p = 19
        · rw [if_neg (fun z => z c8), if_pos c8]; rfl
        · rw [if_pos c8, if_neg c8]; rfl
    | false =>
      rw [if_neg (by rw [b2iF]; exact fun z => z True.intro), if_neg (by decide), m_compareOf hR, Option.bind_some]
  · rw [if_neg c5, if_neg c5]; rfl
theorem m_prt {β : Nat → Nat} {n p : Nat} {X : List Nat} {ν : Nm} (hM : MTk β n p ν) (hP : PLr X ν) : Md_partOf ν (opI (opn X)) = some (orN 99 (prt (tT β n p) X)) := by
  have hR := hM.2.2.2.2
  obtain ⟨o1, o2⟩ := m_openNow hP
  have e41 : (gi ν 313 9 = (41 : Int32)) = (tT β n p = 41) := tr_eq hR (show (41, 41) ∈ tkL by decide)
  have f40 : (opI (opn X) = (40 : Int32)) = (opn X = 40) := opI_eq o2 (k := 40) (by omega)
  have f41 : (opI (opn X) = (41 : Int32)) = (opn X = 41) := opI_eq o2 (k := 41) (by omega)
  have f42 : (opI (opn X) = (42 : Int32)) = (opn X = 42) := opI_eq o2 (k := 42) (by omega)
  have f43 : (opI (opn X) = (43 : Int32)) = (opn X = 43) := opI_eq o2 (k := 43) (by omega)
  unfold Md_partOf prt
  rw [w_then, w_else, w_end]
  simp only [f40, f41, f42, f43, e41, Option.bind_some, m_isWord hR (show 2 ≤ 16 by omega) (by omega), m_isWord hR (show 2 ≤ 17 by omega) (by omega), m_isWord hR (show 2 ≤ 18 by omega) (by omega), b2d0, m_isCompared hP]
  by_cases c1 : opn X = 40
  · rw [if_pos c1, if_pos c1]
    by_cases c2 : tT β n p = 41
    · rw [if_neg (fun z => z c2), if_pos c2]; rfl
    · rw [if_pos c2, if_neg c2]; rfl
  rw [if_neg c1, if_neg c1]
  by_cases c2 : opn X = 41
  · rw [if_pos c2, if_pos c2]
    by_cases c3 : tT β n p = 16
    · rw [if_neg (fun z => z c3)]
      cases c4 : cmpd X with
      | true => rw [if_neg (by rw [b2iT]; exact id), if_pos ⟨c3, rfl⟩]; rfl
      | false => rw [if_pos (by rw [b2iF]; exact True.intro), if_neg (fun z => absurd z.2 (by decide))]; rfl
    · rw [if_pos c3, if_neg (fun z => c3 z.1)]; rfl
  rw [if_neg c2, if_neg c2]
  by_cases c3 : opn X = 42
  · rw [if_pos c3, if_pos c3]
    by_cases c4 : tT β n p = 17
    · rw [if_neg (fun z => z c4), if_pos c4]; rfl
    · rw [if_pos c4, if_neg c4]; rfl
  rw [if_neg c3, if_neg c3]
  by_cases c4 : opn X = 43
  · rw [if_pos c4, if_pos c4]
    by_cases c5 : tT β n p = 18
    · rw [if_neg (fun z => z c5), if_pos c5]; rfl
    · rw [if_pos c5, if_neg c5]; rfl
  rw [if_neg c4, if_neg c4]; rfl
/-- an operation is pushed -/
theorem m_push {β : Nat → Nat} {n t L p : Nat} {X : List Nat} {c : List (Nat × Nat)} {ν : Nm} (h : Rep β n t L (true, p, X, c) ν) (h0 : tT β n p ≠ 0) (h131 : tT β n p ≠ 131) {o l : Nat} (ho : opO o = false) (h44 : o < 44) (hl1 : 1 ≤ l) (hl7 : l < 2 ^ 31) {r : Bool × Ms} (hr : psh β n p X c o l = some r) : ∃ ν2, Md_behindOne_26 (nI o) (nI l) ν = some (true, ν2) ∧ r.1 = true ∧ Rep β n t L r.2 ν2 ∧ Fr (frR t) ν ν2 := by
  obtain ⟨r1, r2, r3, r4, r5, r6, r7, r8⟩ := Rep_ex h
  obtain ⟨t1, t2, t3, t4⟩ := tok_pos (β := β) r7
  have t4 := t4 h0 h131
  obtain ⟨ν1, d1, d2, d3, d4⟩ := m_settle hl1 hl7 r2 r3 (by omega)
  have hs := stl_len l X c
  unfold psh at hr
  generalize hY : (stl l X c).1 = Y at *
  generalize hc2 : (stl l X c).2 = c2 at *
  by_cases q : Y.length < 160
  · rw [if_pos q] at hr
    have e := Option.some.inj hr
    subst e
    unfold Md_behindOne_26
    obtain ⟨p1, p2, p3, p4⟩ := d2
    rw [d1, Option.bind_some, p1, inb_nI (by omega), nI_clamp (by omega), if_pos (by simp; omega), gi_si_q _ _ _ _ (show (313 : Nat) ≠ 318 by omega), p1, show nI Y.length + (1 : Int32) = nI (Y.length + 1) from nI_add _ 1]
    have F0 : Fr (frR t) ν ν1 := Fr_mono d4 (fun q j m => Or.inr (Or.inl m))
    have F : Fr (frR t) ν (si (si (si ν1 318 Y.length (nI o)) 313 16 (nI (Y.length + 1))) 313 18 0) := Fr_si (Fr_si (Fr_si F0 _ (Or.inr (Or.inr (Or.inl rfl)))) _ (Or.inr (Or.inl (Or.inr ⟨rfl, Or.inl rfl⟩)))) _ (Or.inr (Or.inr (Or.inr ⟨rfl, rfl⟩)))
    have P2 : PLr (o :: Y) (si (si (si ν1 318 Y.length (nI o)) 313 16 (nI (Y.length + 1))) 313 18 0) := by
      refine ⟨by rw [gi_si_j _ _ _ (by omega), gi_si_s]; rfl, by rw [List.length_cons]; omega, ?_, ?_, h44, pls_keep (fun j hj => ?_) p4⟩
      · rw [gi_si_j _ _ _ (by omega), gi_si_j _ _ _ (by omega), gi_si_q _ _ _ _ (by omega), cnO_0 ho]; exact p3
      · rw [gi_si_q _ _ _ _ (by omega), gi_si_q _ _ _ _ (by omega), gi_si_s]
      · rw [gi_si_q _ _ _ _ (by omega), gi_si_q _ _ _ _ (by omega), gi_si_j _ _ _ (by omega)]
    have C2 : CDr t c2 (si (si (si ν1 318 Y.length (nI o)) 313 16 (nI (Y.length + 1))) 313 18 0) := by
      refine CDr_keep d3 (by omega) ?_ ?_ (fun j _ _ => ?_)
      · rw [gi_si_j _ _ _ (by omega), gi_si_j _ _ _ (by omega), gi_si_q _ _ _ _ (by omega)]
      · rw [gi_si_j _ _ _ (by omega), gi_si_j _ _ _ (by omega), gi_si_q _ _ _ _ (by omega)]
      · rw [gi_si_q _ _ _ _ (by omega), gi_si_q _ _ _ _ (by omega), gi_si_q _ _ _ _ (by omega)]
    have M2 : MTk β n p (si (si (si ν1 318 Y.length (nI o)) 313 16 (nI (Y.length + 1))) 313 18 0) := by
      refine MTk_keep (MTk_fr r1 d4) (fun j hj => ?_) (fun i => ?_) rfl
      · rw [gi_si_j _ _ _ (by omega), gi_si_j _ _ _ (by omega), gi_si_q _ _ _ _ (by omega)]
      · rw [gi_si_q _ _ _ _ (by omega), gi_si_q _ _ _ _ (by omega), gi_si_q _ _ _ _ (by omega)]
    obtain ⟨ν2, b1, b2, b3, b4, b5⟩ := m_adv M2 r7 h0 P2 C2 (by omega)
    refine ⟨ν2, by rw [b1, Option.bind_some], rfl, ⟨b2, b3, b4, ?_, ?_, ?_, t3, r8⟩, Fr_tr F (Fr_mono b5 (fun q j m => Or.inl m))⟩
    · rw [b5.1 _ _ (by unfold frM; omega), gi_si_j _ _ _ (by omega), gi_si_j _ _ _ (by omega), gi_si_q _ _ _ _ (by omega), d4.1 _ _ (by unfold frS frE; omega)]; exact r4
    · rw [b5.1 _ _ (by unfold frM; omega), gi_si_s]; rfl
    · show c2.length + (o :: Y).length ≤ tE β n p
      rw [List.length_cons]; omega
  · rw [if_neg q] at hr; cases hr
theorem btw_ok : ∀ T, T < 132 → ∀ o, o < 44 → ∀ b : Bool, ∀ X : List Nat, opn X = o → cmpd X = b → (btw T X = 99 ∨ (btw T X < 23 ∧ opO (btw T X) = false ∧ 1 ≤ rk (btw T X))) ∧ (btw T X < 99 → T ≠ 0 ∧ T ≠ 131) := by
  intro T hT o ho b X h1 h2
  unfold btw
  rw [h1, h2]
  clear h1 h2 X
  revert b
  revert o
  revert T
  decide +kernel
theorem prt_ok {T : Nat} (hT : T < 132) {X : List Nat} (h : prt T X ≠ 99) : T ≠ 0 ∧ T ≠ 131 ∧ opn X ≠ 0 ∧ (prt T X = 0 ∨ (42 ≤ prt T X ∧ prt T X < 44)) ∧ (prt T X = 0 → opn X = 40 ∨ opn X = 43) := by
  unfold prt at h ⊢
  repeat' split at h
  all_goals first | (exact absurd rfl h) | skip
  all_goals simp_all
