/-! What is asked; then all parts of sums at once. -/
theorem gA_eq (F : Nat) (ν : Nm) : G_rd (F + 1) 7 0 ν = Rd_readAsk (G_rd F) ν := by rw [G_rd, if_neg (by omega), if_neg (by omega), if_neg (by omega), if_neg (by omega), if_neg (by omega), if_neg (by omega), if_neg (by omega), if_pos rfl]
theorem mbeg_not {β : Nat → Nat} {n L p : Nat} {X : List Nat} (c : List (Nat × Nat)) (h : tT β n p = 21) (hX : askA X = true) : mbeg β n L p X c = opd β n p X c 20 := by
  unfold mbeg
  rw [h, if_neg (by omega), if_neg (by decide), if_neg (by omega), if_neg (by omega), if_neg (by omega), if_neg (by omega), if_neg (by omega), if_pos ⟨rfl, hX⟩]
theorem ask_full {β : Nat → Nat} {n L p : Nat} (hp : p ≤ n) (hn : n ≤ 300) (h : tT β n p = 21) : ∃ o, GdA β n L p 8 o := by
  have hpos := tok_pos (β := β) hp
  refine ⟨(3, tS β n p, []), fun F hF T c ν hT hC hl => ?_, fun X c x1 x2 x3 x4 x5 => ⟨fun z => absurd z (by omega), fun _ => ?_⟩, po_fail (by omega) (by omega) (by omega)⟩
  · obtain ⟨F, rfl⟩ : ∃ k, F = k + 1 := ⟨F - 1, by omega⟩
    rw [gA_eq]
    obtain ⟨v1, e1, e2⟩ := cs_opens hT hp hC (by omega) (Nat.le_refl 8)
    rw [if_pos rfl] at e1
    unfold Rd_readAsk
    rw [hC.1.2.2.1, h, if_neg (fun z => z rfl), e1.1, Option.bind_some, if_pos (by rw [b2iF]; exact True.intro)]
    exact ⟨v1, rfl, cp_fail (by omega) e1.2, e2⟩
  · refine Ff_beg (w := false) ?_ (by show (3 : Nat) ≠ 0; omega) hp
    rw [mbeg_not c h (x4 rfl)]
    unfold opd
    rw [if_pos x1]
theorem ask_not {β : Nat → Nat} {n L p d : Nat} (hp : p ≤ n) (hn : n ≤ 300) (hd : d < 8) (h : tT β n p = 21) (sub : ∃ o, GdA β n L (tE β n p) (d + 1) o) : ∃ o, GdA β n L p d o := by
  have hpos := tok_pos (β := β) hp
  have hlt := hpos.2.2.2 (by omega) (by omega)
  obtain ⟨o1, G1, M1, P1⟩ := sub
  have opnR : ∀ (X : List Nat) (c : List (Nat × Nat)), cnO X = d → X.length ≤ 6 * d + 2 → askA X = true → Rc β n L (false, p, X, c) (false, tE β n p, 20 :: X, c) := fun X c x1 x2 x4 => by
    refine Rc_beg ?_ (by show p + 1 ≤ tE β n p; omega)
    rw [mbeg_not c h x4]
    unfold opd
    rw [if_neg (by omega), if_pos (by omega)]
  have mac : ∀ (X : List Nat) (c : List (Nat × Nat)), cnO X = d → X.length ≤ 6 * d + 2 → askA X = true → _ := fun X c x1 x2 x4 => M1 (20 :: X) c (by rw [cnO_1 (by decide)]; omega) (by rw [List.length_cons]; omega) (hdR_cons (by decide)) (fun _ => askA_op (by decide) (askA_41 x4).1) (fun z => by cases z)
  have cls : ∀ {F T : Nat} {c : List (Nat × Nat)} {ν : Nm}, okT T → CSt β n L T p d c ν → c.length ≤ p → ∃ v1, CSt β n L T (tE β n p) (d + 1) c v1 ∧ Fr (frC T) ν v1 ∧ G_rd (F + 1) 7 0 ν = (G_rd F 7 0 v1).bind fun v12 => if zkT (gx v12) then (Tx_addCode (gx v12) (-21 : Int32) v12).bind fun v14 => some (si v14 271 8 ((gi v14 271 8) - (1 : Int32))) else none := fun {F T c ν} hT hC hl => by
    obtain ⟨v1, e1, e2⟩ := cs_opens hT hp hC (by omega) (by omega)
    rw [if_neg (by omega)] at e1
    refine ⟨v1, e1.2, e2, ?_⟩
    rw [gA_eq]
    unfold Rd_readAsk
    rw [hC.1.2.2.1, h, if_neg (fun z => z rfl), e1.1, Option.bind_some, if_neg (by rw [b2iT]; exact id)]
  by_cases s1 : o1.1 = 0
  · obtain ⟨p1, p2, p3, p4, p5, p6⟩ := P1.1 s1
    refine ⟨(0, o1.2.1, o1.2.2 ++ [(20, 0)]), fun F hF T c ν hT hC hl => ?_, fun X c x1 x2 x3 x4 x5 => ⟨fun _ => ?_, fun z => absurd rfl z⟩, fun _ => ⟨by show p < o1.2.1; omega, p2, ?_, fun s => ?_, nmOK_app p5 (nmOK_op (by omega)), p6⟩, fun z => absurd rfl z⟩
    · obtain ⟨F, rfl⟩ : ∃ k, F = k + 1 := ⟨F - 1, by omega⟩
      obtain ⟨v1, a1, a2, a3⟩ := cls (F := F) hT hC hl
      obtain ⟨v2, b1, b2, b3⟩ := G1 F (by omega) T c v1 hT a1 (by omega)
      have b2 := b2.1 s1
      have hx : gx v2 = T := b2.2.2.2.2.1
      obtain ⟨v3, d1, d2, d3⟩ := cs_add hT b2 (by rw [List.length_append]; omega) (20, 0)
      obtain ⟨e1, e2⟩ := cs_dec hT d2
      refine ⟨_, ?_, ⟨fun _ => ?_, fun z => absurd rfl z⟩, Fr_tr a2 (Fr_tr b3 (Fr_tr d3 e2))⟩
      · rw [a3, b1, Option.bind_some, hx, if_pos (okT_z hT), show (-21 : Int32) = itm (20, 0) by decide, d1, Option.bind_some]
      · rw [List.append_assoc] at e1
        exact e1
    · obtain ⟨Y1, a1, y1, y2, y3, y4⟩ := (mac X c x1 x2 (x4 rfl)).1 s1
      refine ⟨Y1 ++ [20], a1, fun y hy => (List.mem_append.mp hy).elim (y1 y) (fun z => by rw [List.mem_singleton.mp z]; decide), fun _ => cmpd_appT _ _ (y2 rfl), ?_, ?_⟩
      · show o1.2.2 ++ [(20, 0)] = a1 ++ zz (Y1 ++ [20])
        rw [y3, zz_app, List.append_assoc]
        rfl
      · have := Rc_tr (opnR X c x1 x2 (x4 rfl)) y4
        rw [show Y1 ++ 20 :: X = (Y1 ++ [20]) ++ X by rw [List.append_assoc]; rfl] at this
        exact this
    · show p + (o1.2.2 ++ [(20, 0)]).length ≤ o1.2.1
      rw [List.length_append, List.length_singleton]; omega
    · show tyL (o1.2.2 ++ [(20, 0)]) s = some (false :: s)
      rw [tyL_app, p4, Option.bind_some]
      rfl
  · obtain ⟨f6, fn⟩ := P1.2 s1
    refine ⟨o1, fun F hF T c ν hT hC hl => ?_, fun X c x1 x2 x3 x4 x5 => ⟨fun z => absurd z s1, fun _ => Rc_Ff (opnR X c x1 x2 (x4 rfl)) ((mac X c x1 x2 (x4 rfl)).2 s1)⟩, fun z => absurd z s1, P1.2⟩
    obtain ⟨F, rfl⟩ : ∃ k, F = k + 1 := ⟨F - 1, by omega⟩
    obtain ⟨v1, a1, a2, a3⟩ := cls (F := F) hT hC hl
    obtain ⟨v2, b1, b2, b3⟩ := G1 F (by omega) T c v1 hT a1 (by omega)
    have b2 := b2.2 s1
    have hx : gx v2 = T := b2.2.2.2.1
    obtain ⟨v3, d1, d2, d3⟩ := cf_add hT b2 (-21)
    obtain ⟨e1, e2⟩ := cf_dec hT d2 (gi v3 271 8 - 1)
    refine ⟨_, ?_, ⟨fun z => absurd z s1, fun _ => e1⟩, Fr_tr a2 (Fr_tr b3 (Fr_tr d3 e2))⟩
    rw [a3, b1, Option.bind_some, hx, if_pos (okT_z hT), d1, Option.bind_some]
theorem cmp_all : ∀ T, T < 132 → Rd_compares (nI T) = some (decide (cmpT T < 99)) := by decide +kernel
theorem cmp_op : ∀ T, T < 132 → cmpT T < 99 → rk (cmpT T) = 4 ∧ opO (cmpT T) = false ∧ itm (cmpT T, 0) = -(nI T) ∧ cmpT T ≠ 1 ∧ T ≠ 0 ∧ T ≠ 131 ∧ ¬ 40 ≤ cmpT T ∧ 10 ≤ cmpT T ∧ cmpT T ≤ 15 := by decide +kernel
theorem ty_cmp {o : Nat} (h1 : 10 ≤ o) (h2 : o ≤ 15) (s : List Bool) : tyE (o, 0) (true :: true :: s) = some (false :: s) := by
  rcases (show o = 10 ∨ o = 11 ∨ o = 12 ∨ o = 13 ∨ o = 14 ∨ o = 15 by omega) with rfl | rfl | rfl | rfl | rfl | rfl <;> rfl
theorem ask_cmp {β : Nat → Nat} {n L p d : Nat} (hp : p ≤ n) (hn : n ≤ 300) (hle : ∀ q, tT β n q ≤ 131) (hd : d ≤ 8) (h : tT β n p ≠ 21) (all : ∀ q, p ≤ q → q ≤ n → ∃ o, GdS β n L q d o) : ∃ o, GdA β n L p d o := by
  obtain ⟨o1, G1, M1, P1⟩ := all p (Nat.le_refl _) hp
  have h131 := hle p
  have mac : ∀ (X : List Nat) (c : List (Nat × Nat)), cnO X = d → X.length ≤ 6 * d + 2 → askA X = true → _ := fun X c x1 x2 x4 => M1 X c x1 (by omega) (hdR_mono (askA_41 x4).2.2 (by omega)) (fun z => by cases z) (fun _ z => absurd z h)
  have cls : ∀ {F T : Nat} {c : List (Nat × Nat)} {ν : Nm}, CSt β n L T p d c ν → G_rd (F + 1) 7 0 ν = (G_rd F 0 0 ν).bind fun v2 => (Rd_compares (gi v2 271 5)).bind fun v3 => (if (b2i v3) = 0 then (Rd_fail (1 : Int32) v2).bind fun v5 => some v5 else (Rd_next v2).bind fun v6 => (G_rd F 0 0 v6).bind fun v7 => if zkT (gx v7) then (Tx_addCode (gx v7) (-(gi v2 271 5)) v7).bind fun v9 => some v9 else none) := fun {F T c ν} hC => by
    rw [gA_eq]
    unfold Rd_readAsk
    rw [hC.1.2.2.1, if_pos (by rw [show (21 : Int32) = nI 21 from rfl, nI_eq' (by omega) (by omega)]; exact h)]
  by_cases s1 : o1.1 = 0
  · obtain ⟨p1, p2, p3, p4, p5, p6⟩ := P1.1 s1
    have hpos1 := tok_pos (β := β) p2
    have hle1 := hle o1.2.1
    have ec := cmp_all (tT β n o1.2.1) (by omega)
    have hbt : ∀ (X Y1 : List Nat), askA X = true → (∀ y ∈ Y1, 5 ≤ rk y) → btw (tT β n o1.2.1) (Y1 ++ X) = cmpT (tT β n o1.2.1) ∧ opn (Y1 ++ X) = 41 ∧ cmpd (Y1 ++ X) = false := fun X Y1 x4 y1 => by
      have hopn : opn (Y1 ++ X) = 41 := by rw [opn_app Y1 X (fun y hy => by have := y1 y hy; omega)]; exact (askA_41 x4).1
      have hcm : cmpd (Y1 ++ X) = false := by rw [cmpd_app5 Y1 X y1]; exact (askA_41 x4).2.1
      exact ⟨btw_ask p6 hopn hcm, hopn, hcm⟩
    by_cases q : cmpT (tT β n o1.2.1) < 99
    · obtain ⟨k1, k2, k3, k4, k5, k6, k7, k8, k9⟩ := cmp_op _ (by omega) q
      rw [decide_eq_true q] at ec
      have hlt1 := hpos1.2.2.2 k5 k6
      obtain ⟨o2, G2, M2, P2⟩ := all (tE β n o1.2.1) (by omega) hpos1.2.2.1
      have mop : ∀ (X : List Nat) (c : List (Nat × Nat)) (Y1 : List Nat), X.length ≤ 6 * d + 2 → askA X = true → (∀ y ∈ Y1, 5 ≤ rk y) → Rc β n L (true, o1.2.1, Y1 ++ X, c) (false, tE β n o1.2.1, cmpT (tT β n o1.2.1) :: X, c ++ zz Y1) := fun X c Y1 x2 x4 y1 => Rc_op p2 k5 k6 (hbt X Y1 x4 y1).1 q (by rw [if_pos k1]) y1 (hdR_mono (askA_41 x4).2.2 (by omega)) (by omega)
      have mac2 : ∀ (X : List Nat) (c : List (Nat × Nat)), cnO X = d → X.length ≤ 6 * d + 2 → _ := fun X c x1 x2 => M2 (cmpT (tT β n o1.2.1) :: X) c (by rw [cnO_0 k2]; exact x1) (by rw [List.length_cons]; omega) (hdR_cons (by omega)) (fun z => by cases z) (fun _ _ => askA_no k7 (by omega))
      have cls2 : ∀ {F T : Nat} {c : List (Nat × Nat)} {ν : Nm}, okT T → 9 * (8 - d) + 4 ≤ F → CSt β n L T p d c ν → c.length ≤ p → ∃ v6, CSt β n L T (tE β n o1.2.1) d (c ++ o1.2.2) v6 ∧ Fr (frC T) ν v6 ∧ G_rd (F + 1) 7 0 ν = (G_rd F 0 0 v6).bind fun v7 => if zkT (gx v7) then (Tx_addCode (gx v7) (itm (cmpT (tT β n o1.2.1), 0)) v7).bind fun v9 => some v9 else none := fun {F T c ν} hT hF hC hl => by
        obtain ⟨v2, b1, b2, b3⟩ := G1 F hF T c ν hT hC hl
        have b2 := b2.1 s1
        obtain ⟨v6, d1, d2, d3⟩ := cs_next hT p2 b2
        refine ⟨v6, d2, Fr_tr b3 d3, ?_⟩
        rw [cls hC, b1, Option.bind_some, b2.1.2.2.1, ec, Option.bind_some, if_neg (by rw [b2iT]; exact id), d1, Option.bind_some, k3]
      by_cases s2 : o2.1 = 0
      · obtain ⟨q1, q2, q3, q4, q5, q6⟩ := P2.1 s2
        refine ⟨(0, o2.2.1, o1.2.2 ++ o2.2.2 ++ [(cmpT (tT β n o1.2.1), 0)]), fun F hF T c ν hT hC hl => ?_, fun X c x1 x2 x3 x4 x5 => ⟨fun _ => ?_, fun z => absurd rfl z⟩, fun _ => ⟨by show p < o2.2.1; omega, q2, ?_, fun s => ?_, nmOK_app (nmOK_app p5 q5) (nmOK_op k4), q6⟩, fun z => absurd rfl z⟩
        · obtain ⟨F, rfl⟩ : ∃ k, F = k + 1 := ⟨F - 1, by omega⟩
          obtain ⟨v6, a1, a2, a3⟩ := cls2 (F := F) hT (by omega) hC hl
          obtain ⟨v7, b1, b2, b3⟩ := G2 F (by omega) T _ v6 hT a1 (by rw [List.length_append]; omega)
          have b2 := b2.1 s2
          have hx : gx v7 = T := b2.2.2.2.2.1
          obtain ⟨v9, d1, d2, d3⟩ := cs_add hT b2 (by rw [List.length_append, List.length_append]; omega) (cmpT (tT β n o1.2.1), 0)
          refine ⟨v9, ?_, ⟨fun _ => ?_, fun z => absurd rfl z⟩, Fr_tr a2 (Fr_tr b3 d3)⟩
          · rw [a3, b1, Option.bind_some, hx, if_pos (okT_z hT), d1]; rfl
          · show CSt β n L T o2.2.1 d (c ++ (o1.2.2 ++ o2.2.2 ++ [(cmpT (tT β n o1.2.1), 0)])) v9
            simp only [List.append_assoc] at d2 ⊢
            exact d2
        · obtain ⟨Y1, a1, y1, y2, y3, y4⟩ := (mac X c x1 x2 (x4 rfl)).1 s1
          have r2 := mop X (c ++ a1) Y1 x2 (x4 rfl) y1
          rw [List.append_assoc, ← y3] at r2
          obtain ⟨Y2, a2, z1, z2, z3, z4⟩ := (mac2 X (c ++ o1.2.2) x1 x2).1 s2
          refine ⟨Y2 ++ [cmpT (tT β n o1.2.1)], o1.2.2 ++ a2, fun y hy => (List.mem_append.mp hy).elim (fun w => by have := z1 y w; omega) (fun w => by rw [List.mem_singleton.mp w]; omega), fun _ => ?_, ?_, ?_⟩
          · rw [cmpd_app5 Y2 _ z1]
            unfold cmpd
            rw [if_pos (by omega), decide_eq_true k1]
          · show o1.2.2 ++ o2.2.2 ++ [(cmpT (tT β n o1.2.1), 0)] = o1.2.2 ++ a2 ++ zz (Y2 ++ [cmpT (tT β n o1.2.1)])
            rw [z3, zz_app]
            simp only [List.append_assoc]
            rfl
          · have := Rc_tr (Rc_tr y4 r2) z4
            rw [show Y2 ++ cmpT (tT β n o1.2.1) :: X = (Y2 ++ [cmpT (tT β n o1.2.1)]) ++ X by rw [List.append_assoc]; rfl, List.append_assoc c] at this
            exact this
        · show p + (o1.2.2 ++ o2.2.2 ++ [(cmpT (tT β n o1.2.1), 0)]).length ≤ o2.2.1
          rw [List.length_append, List.length_append, List.length_singleton]; omega
        · show tyL (o1.2.2 ++ o2.2.2 ++ [(cmpT (tT β n o1.2.1), 0)]) s = some (false :: s)
          rw [tyL_app, tyL_app, p4, Option.bind_some, q4, Option.bind_some]
          show (tyE (cmpT (tT β n o1.2.1), 0) (true :: true :: s)).bind (tyL []) = _
          rw [ty_cmp k8 k9]; rfl
      · obtain ⟨f6, fn⟩ := P2.2 s2
        refine ⟨o2, fun F hF T c ν hT hC hl => ?_, fun X c x1 x2 x3 x4 x5 => ⟨fun z => absurd z s2, fun _ => ?_⟩, fun z => absurd z s2, P2.2⟩
        · obtain ⟨F, rfl⟩ : ∃ k, F = k + 1 := ⟨F - 1, by omega⟩
          obtain ⟨v6, a1, a2, a3⟩ := cls2 (F := F) hT (by omega) hC hl
          obtain ⟨v7, b1, b2, b3⟩ := G2 F (by omega) T _ v6 hT a1 (by rw [List.length_append]; omega)
          obtain ⟨v9, d1, d2, d3⟩ := cf_add' hT (itm (cmpT (tT β n o1.2.1), 0)) v7 (b2.2 s2)
          exact ⟨v9, by rw [a3, b1, Option.bind_some]; exact d1, ⟨fun z => absurd z s2, fun _ => d2⟩, Fr_tr a2 (Fr_tr b3 d3)⟩
        · obtain ⟨Y1, a1, y1, y2, y3, y4⟩ := (mac X c x1 x2 (x4 rfl)).1 s1
          exact Rc_Ff (Rc_tr y4 (mop X (c ++ a1) Y1 x2 (x4 rfl) y1)) ((mac2 X (c ++ a1 ++ zz Y1) x1 x2).2 s2)
    · rw [decide_eq_false q] at ec
      refine ⟨(1, tS β n o1.2.1, []), fun F hF T c ν hT hC hl => ?_, fun X c x1 x2 x3 x4 x5 => ⟨fun z => absurd z (by omega), fun _ => ?_⟩, po_fail (by omega) (by omega) (by omega)⟩
      · obtain ⟨F, rfl⟩ : ∃ k, F = k + 1 := ⟨F - 1, by omega⟩
        obtain ⟨v2, b1, b2, b3⟩ := G1 F (by omega) T c ν hT hC hl
        have b2 := b2.1 s1
        obtain ⟨v5, d1, d2, d3⟩ := cs_fail hT b2 (by rw [List.length_append]; omega) 1
        refine ⟨v5, ?_, cp_fail (by omega) d2, Fr_tr b3 d3⟩
        rw [cls hC, b1, Option.bind_some, b2.1.2.2.1, ec, Option.bind_some, if_pos (by rw [b2iF]; exact True.intro), show (1 : Int32) = nI 1 from rfl, d1]
        rfl
      · obtain ⟨Y1, a1, y1, y2, y3, y4⟩ := (mac X c x1 x2 (x4 rfl)).1 s1
        obtain ⟨b1, b2, b3⟩ := hbt X Y1 (x4 rfl) y1
        refine Rc_Ff y4 (Ff_beh (by rw [b1]; exact q) ?_ (by rw [b2]; omega) p2)
        unfold prt
        rw [b2, b3, if_neg (by omega), if_pos rfl, if_neg (fun z => by cases z.2)]
  · obtain ⟨f6, fn⟩ := P1.2 s1
    refine ⟨o1, fun F hF T c ν hT hC hl => ?_, fun X c x1 x2 x3 x4 x5 => ⟨fun z => absurd z s1, fun _ => (mac X c x1 x2 (x4 rfl)).2 s1⟩, fun z => absurd z s1, P1.2⟩
    obtain ⟨F, rfl⟩ : ∃ k, F = k + 1 := ⟨F - 1, by omega⟩
    obtain ⟨v2, b1, b2, b3⟩ := G1 F (by omega) T c ν hT hC hl
    have b2 := b2.2 s1
    obtain ⟨v5, d1, d2, d3⟩ := cf_fail hT s1 (by omega) b2 1
    refine ⟨v5, ?_, ⟨fun z => absurd z s1, fun _ => d2⟩, Fr_tr b3 d3⟩
    rw [cls hC, b1, Option.bind_some, cf_131' b2, show Rd_compares 131 = some false by decide, Option.bind_some, if_pos (by rw [b2iF]; exact True.intro), d1]
    rfl
def Six (β : Nat → Nat) (n L p : Nat) : Prop := ∀ d, d ≤ 8 → (∃ o, GdO β n L p d o) ∧ (∃ o, GdP β n L p d o) ∧ (∃ o, GdS β n L p d o) ∧ (∃ o, GdA β n L p d o) ∧ (∃ o, GdB β n L p d o) ∧ (∃ o, GdE β n L p d o)
theorem parts_ok {β : Nat → Nat} {n L : Nat} (hb : ∀ i, i < 300 → β i < 256) (hn : n ≤ 300) (hL : L < 2) : ∀ (k p : Nat), n ≤ p + k → p ≤ n → Six β n L p := by
  have hle : ∀ q, tT β n q ≤ 131 := fun q => tT_le (ν := default) hb hn
  intro k
  induction k using Nat.strongRecOn with
  | _ k ihk =>
  intro p hk hp
  have ih : ∀ q, p < q → q ≤ n → Six β n L q := fun q q1 q2 => ihk (n - q) (by omega) q (by omega) q2
  have hpos := tok_pos (β := β) hp
  have one : ∀ d, d ≤ 8 → ∃ o, GdO β n L p d o := by
    intro d hd
    by_cases c1 : tT β n p = 1
    · exact one_num hp hn c1
    by_cases c2 : nmT (tT β n p) < 7
    · exact one_name hp hn (hle p) hL c2
    by_cases c3 : opT (tT β n p) = 0
    · have ne : ∀ T, tT β n p = T → opT T ≠ 0 → False := fun T e z => z (by rw [← e]; exact c3)
      exact one_none hp hn (hle p) c1 c2 (fun e => ne 40 e (by decide)) (fun e => ne 45 e (by decide)) (fun e => ne 13 e (by decide)) (fun e => ne 14 e (by decide)) (fun e => ne 15 e (by decide))
    · by_cases c4 : d = 8
      · subst c4; exact one_full hp hn c3
      · obtain ⟨-, -, z0, z131, -⟩ := opT_op _ (by have := hle p; omega) c3
        have hlt := hpos.2.2.2 z0 z131
        have nx := ih (tE β n p) (by omega) hpos.2.2.1 (d + 1) (by omega)
        rcases opT_T c3 with e | e | e | e | e
        · exact one_paren hp hn hle (by omega) e nx.2.2.1
        · exact one_unary hp hn hle (by omega) (Or.inl e) nx.1
        · exact one_unary hp hn hle (by omega) (Or.inr (Or.inl e)) nx.1
        · exact one_unary hp hn hle (by omega) (Or.inr (Or.inr e)) nx.1
        · exact one_if hp hn hle (by omega) e (if1 hn hle hpos.2.2.1 (by omega) nx.2.2.2.2.2 (fun q q1 q2 => (ih q (by omega) q2 (d + 1) (by omega)).2.2.1))
  intro d hd
  have a1 := one d hd
  have a2 := prod_ok hb hn hd a1 (fun q q1 q2 => (ih q q1 q2 d hd).1)
  have a3 := sum_ok hb hn hd a2 (fun q q1 q2 => (ih q q1 q2 d hd).2.1)
  have a4 : ∃ o, GdA β n L p d o := by
    by_cases c1 : tT β n p = 21
    · by_cases c4 : d = 8
      · subst c4; exact ask_full hp hn c1
      · have hlt := hpos.2.2.2 (by omega) (by omega)
        exact ask_not hp hn (by omega) c1 (ih (tE β n p) (by omega) hpos.2.2.1 (d + 1) (by omega)).2.2.2.1
    · refine ask_cmp hp hn hle hd c1 (fun q q1 q2 => ?_)
      by_cases e : q = p
      · subst e; exact a3
      · exact (ih q (by omega) q2 d hd).2.2.1
  have a5 := both_ok hb hn hd a4 (fun q q1 q2 => (ih q q1 q2 d hd).2.2.2.1)
  have a6 := either_ok hb hn hd a5 (fun q q1 q2 => (ih q q1 q2 d hd).2.2.2.2.1)
  exact ⟨a1, a2, a3, a4, a5, a6⟩
