/-! What opens: a paren, a unary operation, an if. -/
def opT (T : Nat) : Nat := if T = 40 then 40 else if T = 45 then 5 else if T = 13 then 4 else if T = 14 then 2 else if T = 15 then 41 else 0
theorem opT_T {T : Nat} (h : opT T ≠ 0) : T = 40 ∨ T = 45 ∨ T = 13 ∨ T = 14 ∨ T = 15 := by
  unfold opT at h
  by_cases c1 : T = 40
  · exact Or.inl c1
  rw [if_neg c1] at h
  by_cases c2 : T = 45
  · exact Or.inr (Or.inl c2)
  rw [if_neg c2] at h
  by_cases c3 : T = 13
  · exact Or.inr (Or.inr (Or.inl c3))
  rw [if_neg c3] at h
  by_cases c4 : T = 14
  · exact Or.inr (Or.inr (Or.inr (Or.inl c4)))
  rw [if_neg c4] at h
  by_cases c5 : T = 15
  · exact Or.inr (Or.inr (Or.inr (Or.inr c5)))
  rw [if_neg c5] at h
  exact absurd rfl h
theorem c_opening (F : Nat) (ν : Nm) {T : Nat} (h : gi ν 271 5 = nI T) (hT : opT T ≠ 0) : G_rd (F + 2) 2 0 ν = Rd_readOpening (G_rd F) (nI T) ν := by
  rw [gO_eq]
  have g3 : ∀ a, G_rd (F + 1) 3 a ν = Rd_readOpening (G_rd F) a ν := fun a => by rw [G_rd, if_neg (by omega), if_neg (by omega), if_neg (by omega), if_pos rfl]
  have e : Rd_readOne_142 (G_rd (F + 1)) ν = Rd_readOpening (G_rd F) (nI T) ν := by
    unfold Rd_readOne_142
    rw [h, g3]
    cases Rd_readOpening (G_rd F) (nI T) ν <;> rfl
  unfold Rd_readOne
  rw [e, h]
  rcases opT_T hT with rfl | rfl | rfl | rfl | rfl
  · rw [if_pos (by decide), show Rd_isName (nI 40) = some false by decide, Option.bind_some, if_pos (by decide), if_pos (by decide)]
  · rw [if_pos (by decide), show Rd_isName (nI 45) = some false by decide, Option.bind_some, if_pos (by decide), if_neg (by decide), if_neg (by decide), if_pos (by decide)]
  · rw [if_pos (by decide), show Rd_isName (nI 13) = some false by decide, Option.bind_some, if_pos (by decide), if_neg (by decide), if_neg (by decide), if_neg (by decide), if_pos (by decide)]
  · rw [if_pos (by decide), show Rd_isName (nI 14) = some false by decide, Option.bind_some, if_pos (by decide), if_neg (by decide), if_neg (by decide), if_neg (by decide), if_neg (by decide), if_neg (by decide)]
  · rw [if_pos (by decide), show Rd_isName (nI 15) = some false by decide, Option.bind_some, if_pos (by decide), if_neg (by decide), if_pos (by decide)]
theorem mbeg_open {β : Nat → Nat} {n L p : Nat} (X : List Nat) (c : List (Nat × Nat)) (h : opT (tT β n p) ≠ 0) : mbeg β n L p X c = opd β n p X c (opT (tT β n p)) := by
  unfold mbeg
  rcases opT_T h with e | e | e | e | e <;> rw [e] <;> rfl
theorem opT_op : ∀ T, T < 132 → opT T ≠ 0 → opO (opT T) = true ∧ opT T < 44 ∧ T ≠ 0 ∧ T ≠ 131 ∧ T ≠ 21 := by decide +kernel
/-- too many are open -/
theorem one_full {β : Nat → Nat} {n L p : Nat} (hp : p ≤ n) (hn : n ≤ 300) (h : opT (tT β n p) ≠ 0) : ∃ o, GdO β n L p 8 o := by
  refine one_fail hp hn (f := 3) (by omega) (by omega) (fun F T c ν hT hC hl hF => ?_) (fun X c hX _ => ⟨false, ?_⟩)
  · obtain ⟨F, rfl⟩ : ∃ k, F = k + 2 := ⟨F - 2, by omega⟩
    rw [c_opening F ν hC.1.2.2.1 h]
    obtain ⟨v1, e1, e2⟩ := cs_opens hT hp hC (by omega) (Nat.le_refl 8)
    rw [if_pos rfl] at e1
    unfold Rd_readOpening
    rw [e1.1, Option.bind_some, if_neg (by rw [b2iF]; exact fun z => z True.intro)]
    exact ⟨v1, rfl, e1.2, e2⟩
  · rw [mbeg_open X c h]
    unfold opd
    rw [if_pos hX]
/-- the machine opens -/
theorem Rc_open {β : Nat → Nat} {n L p d : Nat} (hp : p ≤ n) (hle : tT β n p ≤ 131) (h : opT (tT β n p) ≠ 0) {X : List Nat} (hX : cnO X = d) (hd : d < 8) (hx : X.length ≤ 6 * d + 5) (c : List (Nat × Nat)) : Rc β n L (false, p, X, c) (false, tE β n p, opT (tT β n p) :: X, c) := by
  obtain ⟨-, -, k1, k2, -⟩ := opT_op _ (by omega) h
  have hpos := tok_pos (β := β) hp
  have := hpos.2.2.2 k1 k2
  refine Rc_beg ?_ (by show p + 1 ≤ tE β n p; omega)
  rw [mbeg_open X c h]
  unfold opd
  rw [if_neg (by omega), if_pos (by omega)]
/-- the class opens -/
theorem c_opens {β : Nat → Nat} {n L T p d F : Nat} {c : List (Nat × Nat)} {ν : Nm} (hT : okT T) (hp : p ≤ n) (hn : n ≤ 300) (hC : CSt β n L T p d c ν) (hl : c.length ≤ p) (hd : d < 8) (h : opT (tT β n p) ≠ 0) : ∃ v1, CSt β n L T (tE β n p) (d + 1) c v1 ∧ Fr (frC T) ν v1 ∧ G_rd (F + 2) 2 0 ν = (if ¬ nI (tT β n p) = (40 : Int32) then (if ¬ nI (tT β n p) = (15 : Int32) then (G_rd F 2 0 v1).bind fun v5 => if zkT (gx v5) then (if ¬ nI (tT β n p) = (45 : Int32) then Rd_readOpening_62 (G_rd F) (-(nI (tT β n p))) (gx v5) v5 else Rd_readOpening_62 (G_rd F) (-130 : Int32) (gx v5) v5) else none else (G_rd F 4 0 v1).bind fun v8 => Rd_readOpening_65 (G_rd F) v8) else (G_rd F 0 0 v1).bind fun v9 => (Rd_expect (41 : Int32) v9).bind fun v10 => Rd_readOpening_65 (G_rd F) v10) := by
  obtain ⟨v1, e1, e2⟩ := cs_opens hT hp hC (by omega) (by omega)
  rw [if_neg (by omega)] at e1
  refine ⟨v1, e1.2, e2, ?_⟩
  rw [c_opening F ν hC.1.2.2.1 h]
  unfold Rd_readOpening
  rw [e1.1, Option.bind_some, if_pos (by rw [b2iT]; exact id)]
/-- a part of an if, or of a paren, is closed -/
theorem btw_no {T : Nat} (h : stS T) {W : List Nat} (hW : opn W ≠ 41) : ¬ btw T W < 99 := by
  obtain ⟨h1, h2, -⟩ := h
  have n1 : T ≠ 43 := fun z => by rw [z] at h1; exact absurd h1 (by decide)
  have n2 : T ≠ 45 := fun z => by rw [z] at h1; exact absurd h1 (by decide)
  have n3 : T ≠ 42 := fun z => by rw [z] at h2; exact absurd h2 (by decide)
  have n4 : T ≠ 47 := fun z => by rw [z] at h2; exact absurd h2 (by decide)
  unfold btw
  rw [if_neg n1, if_neg n2, if_neg n3, if_neg n4, if_neg hW]
  omega
theorem btw_ask {T : Nat} (h : stS T) {W : List Nat} (hW : opn W = 41) (hc : cmpd W = false) : btw T W = cmpT T := by
  obtain ⟨h1, h2, -⟩ := h
  have n1 : T ≠ 43 := fun z => by rw [z] at h1; exact absurd h1 (by decide)
  have n2 : T ≠ 45 := fun z => by rw [z] at h1; exact absurd h1 (by decide)
  have n3 : T ≠ 42 := fun z => by rw [z] at h2; exact absurd h2 (by decide)
  have n4 : T ≠ 47 := fun z => by rw [z] at h2; exact absurd h2 (by decide)
  unfold btw
  rw [if_neg n1, if_neg n2, if_neg n3, if_neg n4, if_pos hW, hc, if_neg (by decide)]
theorem btw_noE {T : Nat} (h : stE T) {W : List Nat} (hc : cmpd W = true) : ¬ btw T W < 99 := by
  obtain ⟨h3, h4, h1, h2, -⟩ := h
  have n1 : T ≠ 43 := fun z => by rw [z] at h1; exact absurd h1 (by decide)
  have n2 : T ≠ 45 := fun z => by rw [z] at h1; exact absurd h1 (by decide)
  have n3 : T ≠ 42 := fun z => by rw [z] at h2; exact absurd h2 (by decide)
  have n4 : T ≠ 47 := fun z => by rw [z] at h2; exact absurd h2 (by decide)
  have n5 : T ≠ 20 := fun z => by rw [z] at h4; exact absurd h4 (by decide)
  have n6 : T ≠ 19 := fun z => by rw [z] at h3; exact absurd h3 (by decide)
  unfold btw
  rw [if_neg n1, if_neg n2, if_neg n3, if_neg n4, hc, if_pos rfl, if_neg n5, if_neg n6]
  split <;> omega
theorem Rc_part {β : Nat → Nat} {n L p o k : Nat} {Y W : List Nat} {c : List (Nat × Nat)} (hp : p ≤ n) (hle : tT β n p ≤ 131) (hY : ∀ y ∈ Y, 1 ≤ rk y) (ho : 40 ≤ o) (hb : ¬ btw (tT β n p) (Y ++ o :: W) < 99) (hk : prt (tT β n p) (Y ++ o :: W) = k) (h99 : k ≠ 99) (h0 : k ≠ 0) : Rc β n L (true, p, Y ++ o :: W, c) (false, tE β n p, k :: W, c ++ zz Y) := by
  obtain ⟨k1, k2, -⟩ := prt_ok (T := tT β n p) (by omega) (X := Y ++ o :: W) (by rw [hk]; exact h99)
  have := (tok_pos (β := β) hp).1
  have := (tok_pos (β := β) hp).2.2.2 k1 k2
  refine Rc_beh ?_ (by show p + 1 ≤ tE β n p; omega)
  unfold mbeh
  rw [if_neg hb, hk, if_neg h99, if_neg h0, stl_app Y (o :: W) c hY (hdR_cons ((rk_0 o).mpr ho)), List.tail_cons]
theorem askA_opn {X : List Nat} (h : opn X ≠ 41) : askA X = false := by
  cases X with
  | nil => rfl
  | cons o X =>
    show (decide (opn (o :: X) = 41) && decide (40 ≤ o ∨ (1 ≤ rk o ∧ rk o ≤ 3))) = false
    rw [decide_eq_false h, Bool.false_and]
theorem opn_cons {o : Nat} {W : List Nat} (h : 40 ≤ o) : opn (o :: W) = o := by unfold opn; rw [if_pos h]
theorem Rc_close {β : Nat → Nat} {n L p o : Nat} {Y U X : List Nat} {c : List (Nat × Nat)} (hp : p ≤ n) (hle : tT β n p ≤ 131) (hY : ∀ y ∈ Y, 1 ≤ rk y) (hU : ∀ u ∈ U, rk u = 7) (hX : hdR 7 X) (ho : 40 ≤ o) (hb : ¬ btw (tT β n p) (Y ++ o :: (U ++ X)) < 99) (hk : prt (tT β n p) (Y ++ o :: (U ++ X)) = 0) : Rc β n L (true, p, Y ++ o :: (U ++ X), c) (true, tE β n p, X, (if o = 43 then c ++ zz Y ++ [(3, 0)] else c ++ zz Y) ++ zz U) := by
  obtain ⟨k1, k2, -⟩ := prt_ok (T := tT β n p) (by omega) (X := Y ++ o :: (U ++ X)) (by rw [hk]; omega)
  have := (tok_pos (β := β) hp).1
  have := (tok_pos (β := β) hp).2.2.2 k1 k2
  refine Rc_beh ?_ (by show p + 1 ≤ tE β n p; omega)
  unfold mbeh clo
  rw [if_neg hb, hk, if_neg (by omega), if_pos rfl, stl_app Y (o :: (U ++ X)) c hY (hdR_cons ((rk_0 o).mpr ho)), List.tail_cons, opn_app Y _ hY, opn_cons ho, stl_app U X _ (fun u hu => by rw [hU u hu]; exact Nat.le_refl _) hX]
/-- a paren -/
theorem one_paren {β : Nat → Nat} {n L p d : Nat} (hp : p ≤ n) (hn : n ≤ 300) (hle : ∀ q, tT β n q ≤ 131) (hd : d < 8) (h : tT β n p = 40) (sub : ∃ o, GdS β n L (tE β n p) (d + 1) o) : ∃ o, GdO β n L p d o := by
  have hop : opT (tT β n p) = 40 := by rw [h]; rfl
  have hpos := tok_pos (β := β) hp
  have hlt := hpos.2.2.2 (by omega) (by omega)
  obtain ⟨o1, G1, M1, P1⟩ := sub
  -- the machine, up to the end of what is inside
  have mac : ∀ (U X : List Nat) (c : List (Nat × Nat)), cnO (U ++ X) = d → (U ++ X).length ≤ 6 * d + 5 → _ := fun U X c u3 u4 => M1 (40 :: (U ++ X)) c (by rw [cnO_1 (by decide)]; omega) (by rw [List.length_cons]; omega) (hdR_cons (by decide)) (fun z => by cases z) (fun _ _ => askA_opn (by rw [opn_cons (by omega)]; omega))
  have opnR : ∀ (U X : List Nat) (c : List (Nat × Nat)), cnO (U ++ X) = d → (U ++ X).length ≤ 6 * d + 5 → Rc β n L (false, p, U ++ X, c) (false, tE β n p, 40 :: (U ++ X), c) := fun U X c u3 u4 => by
    have := Rc_open (L := L) hp (hle p) (by rw [hop]; omega) u3 hd u4 c
    rw [hop] at this
    exact this
  have cls : ∀ {F T : Nat} {c : List (Nat × Nat)} {ν : Nm}, okT T → CSt β n L T p d c ν → c.length ≤ p → ∃ v1, CSt β n L T (tE β n p) (d + 1) c v1 ∧ Fr (frC T) ν v1 ∧ G_rd (F + 2) 2 0 ν = (G_rd F 0 0 v1).bind fun v9 => (Rd_expect (41 : Int32) v9).bind fun v10 => Rd_readOpening_65 (G_rd F) v10 := fun {F T c ν} hT hC hl => by
    obtain ⟨v1, a1, a2, a3⟩ := c_opens (F := F) hT hp hn hC hl hd (by rw [hop]; omega)
    refine ⟨v1, a1, a2, ?_⟩
    rw [a3, if_neg (by rw [h]; exact fun z => z rfl)]
  by_cases s1 : o1.1 = 0
  · obtain ⟨p1, p2, p3, p4, p5, p6⟩ := P1.1 s1
    have hpos1 := tok_pos (β := β) p2
    by_cases q : tT β n o1.2.1 = 41
    · have hlt1 := hpos1.2.2.2 (by omega) (by omega)
      refine one_mk (o := (0, tE β n o1.2.1, o1.2.2)) (fun F hF T c ν hT hC hl => ?_) (fun U X c u1 u2 u3 u4 u5 => ⟨fun _ => ?_, fun z => absurd rfl z⟩) ⟨fun _ => ⟨by show p < tE β n o1.2.1; omega, hpos1.2.2.1, by show p + o1.2.2.length ≤ tE β n o1.2.1; omega, p4, p5, True.intro⟩, fun z => absurd rfl z⟩
      · obtain ⟨F, rfl⟩ : ∃ k, F = k + 2 := ⟨F - 2, by omega⟩
        obtain ⟨v1, a1, a2, a3⟩ := cls (F := F) hT hC hl
        obtain ⟨v2, b1, b2, b3⟩ := G1 F (by omega) T c v1 hT a1 (by omega)
        obtain ⟨v3, d1, d2, d3⟩ := cs_expect hT p2 (b2.1 s1) (by rw [List.length_append]; omega) (k := 41) (by omega)
        rw [if_pos q] at d2
        obtain ⟨e1, e2⟩ := cs_dec hT d2
        refine ⟨_, ?_, ⟨fun _ => e1, fun z => absurd rfl z⟩, Fr_tr a2 (Fr_tr b3 (Fr_tr d3 e2))⟩
        rw [a3, b1, Option.bind_some, show (41 : Int32) = nI 41 from rfl, d1, Option.bind_some]
        rfl
      · obtain ⟨Y1, a1, y1, y2, y3, y4⟩ := (mac U X c u3 u4).1 s1
        have hY : ∀ y ∈ Y1, 1 ≤ rk y := fun y hy => by have := y1 y hy; omega
        have ho : opn (Y1 ++ 40 :: (U ++ X)) = 40 := by rw [opn_app Y1 _ hY, opn_cons (by omega)]
        have cl := Rc_close (L := L) (c := c ++ a1) p2 (hle _) hY u1 u2 (show 40 ≤ 40 by omega) (btw_no p6 (by rw [ho]; omega)) (by unfold prt; rw [ho, if_pos rfl, if_pos q])
        rw [if_neg (by omega)] at cl
        have := Rc_tr (Rc_tr (opnR U X c u3 u4) y4) cl
        rw [List.append_assoc c a1, ← y3] at this
        exact this
    · refine one_mk (o := (1, tS β n o1.2.1, [])) (fun F hF T c ν hT hC hl => ?_) (fun U X c u1 u2 u3 u4 u5 => ⟨fun z => absurd z (by omega), fun _ => ?_⟩) (po_fail (by omega) (by omega) (by omega))
      · obtain ⟨F, rfl⟩ : ∃ k, F = k + 2 := ⟨F - 2, by omega⟩
        obtain ⟨v1, a1, a2, a3⟩ := cls (F := F) hT hC hl
        obtain ⟨v2, b1, b2, b3⟩ := G1 F (by omega) T c v1 hT a1 (by omega)
        obtain ⟨v3, d1, d2, d3⟩ := cs_expect hT p2 (b2.1 s1) (by rw [List.length_append]; omega) (k := 41) (by omega)
        rw [if_neg q] at d2
        obtain ⟨e1, e2⟩ := cf_dec hT d2 (gi v3 271 8 - 1)
        refine ⟨_, ?_, cp_fail (by omega) e1, Fr_tr a2 (Fr_tr b3 (Fr_tr d3 e2))⟩
        rw [a3, b1, Option.bind_some, show (41 : Int32) = nI 41 from rfl, d1, Option.bind_some]
        rfl
      · obtain ⟨Y1, a1, y1, y2, y3, y4⟩ := (mac U X c u3 u4).1 s1
        have hY : ∀ y ∈ Y1, 1 ≤ rk y := fun y hy => by have := y1 y hy; omega
        have ho : opn (Y1 ++ 40 :: (U ++ X)) = 40 := by rw [opn_app Y1 _ hY, opn_cons (by omega)]
        exact Rc_Ff (Rc_tr (opnR U X c u3 u4) y4) (Ff_beh (btw_no p6 (by rw [ho]; omega)) (by unfold prt; rw [ho, if_pos rfl, if_neg q]) (by rw [ho]; omega) p2)
  · obtain ⟨f6, fn⟩ := P1.2 s1
    refine one_mk (o := o1) (fun F hF T c ν hT hC hl => ?_) (fun U X c u1 u2 u3 u4 u5 => ⟨fun z => absurd z s1, fun _ => ?_⟩) ⟨fun z => absurd z s1, P1.2⟩
    · obtain ⟨F, rfl⟩ : ∃ k, F = k + 2 := ⟨F - 2, by omega⟩
      obtain ⟨v1, a1, a2, a3⟩ := cls (F := F) hT hC hl
      obtain ⟨v2, b1, b2, b3⟩ := G1 F (by omega) T c v1 hT a1 (by omega)
      obtain ⟨v3, d1, d2, d3⟩ := cf_expect hT s1 (by omega) (b2.2 s1) (k := 41) (by omega)
      obtain ⟨e1, e2⟩ := cf_dec hT d2 (gi v3 271 8 - 1)
      refine ⟨_, ?_, ⟨fun z => absurd z s1, fun _ => e1⟩, Fr_tr a2 (Fr_tr b3 (Fr_tr d3 e2))⟩
      rw [a3, b1, Option.bind_some, show (41 : Int32) = nI 41 from rfl, d1, Option.bind_some]
      rfl
    · exact Rc_Ff (opnR U X c u3 u4) ((mac U X c u3 u4).2 s1)
/-- a unary operation -/
def unO (T : Nat) : Prop := T = 45 ∨ T = 13 ∨ T = 14
theorem one_unary {β : Nat → Nat} {n L p d : Nat} (hp : p ≤ n) (hn : n ≤ 300) (hle : ∀ q, tT β n q ≤ 131) (hd : d < 8) (h : unO (tT β n p)) (sub : ∃ o, GdO β n L (tE β n p) (d + 1) o) : ∃ o, GdO β n L p d o := by
  have hop : opT (tT β n p) ≠ 0 ∧ rk (opT (tT β n p)) = 7 ∧ opO (opT (tT β n p)) = true ∧ opT (tT β n p) ≠ 1 ∧ (∀ s, tyE (opT (tT β n p), 0) (true :: s) = some (true :: s)) ∧ (if ¬ nI (tT β n p) = (45 : Int32) then -(nI (tT β n p)) else (-130 : Int32)) = itm (opT (tT β n p), 0) ∧ tT β n p ≠ 40 ∧ tT β n p ≠ 15 ∧ tT β n p ≠ 0 ∧ tT β n p ≠ 131 := by
    rcases h with e | e | e <;> rw [e] <;> exact ⟨by decide, by decide, by decide, by decide, fun s => rfl, by decide, by decide, by decide, by decide, by decide⟩
  obtain ⟨h1, h2, h3, h4, h5, h6, h7, h8, h9, h10⟩ := hop
  have hpos := tok_pos (β := β) hp
  have hlt := hpos.2.2.2 h9 h10
  have h131 := hle p
  obtain ⟨o1, ⟨G1, -, P1⟩, M1⟩ := sub
  have mac : ∀ (U X : List Nat) (c : List (Nat × Nat)), (∀ u ∈ U, rk u = 7) → hdR 7 X → cnO (U ++ X) = d → (U ++ X).length ≤ 6 * d + 5 → _ := fun U X c u1 u2 u3 u4 => M1 (opT (tT β n p) :: U) X c (fun u hu => (List.mem_cons.mp hu).elim (fun e => by rw [e]; exact h2) (u1 u)) u2 (by rw [List.cons_append, cnO_1 h3]; omega) (by rw [List.cons_append, List.length_cons]; omega) (fun _ => by rw [List.cons_append]; exact askA_no (fun z => by have := (rk_0 _).mpr z; omega) (by omega))
  have opnR : ∀ (U X : List Nat) (c : List (Nat × Nat)), cnO (U ++ X) = d → (U ++ X).length ≤ 6 * d + 5 → Rc β n L (false, p, U ++ X, c) (false, tE β n p, opT (tT β n p) :: (U ++ X), c) := fun U X c u3 u4 => Rc_open (L := L) hp h131 h1 u3 hd u4 c
  have cls : ∀ {F T : Nat} {c : List (Nat × Nat)} {ν : Nm}, okT T → CSt β n L T p d c ν → c.length ≤ p → ∃ v1, CSt β n L T (tE β n p) (d + 1) c v1 ∧ Fr (frC T) ν v1 ∧ G_rd (F + 2) 2 0 ν = (G_rd F 2 0 v1).bind fun v5 => if zkT (gx v5) then Rd_readOpening_62 (G_rd F) (itm (opT (tT β n p), 0)) (gx v5) v5 else none := fun {F T c ν} hT hC hl => by
    obtain ⟨v1, a1, a2, a3⟩ := c_opens (F := F) hT hp hn hC hl hd h1
    refine ⟨v1, a1, a2, ?_⟩
    rw [a3, if_pos (by rw [show (40 : Int32) = nI 40 from rfl, nI_eq' (by omega) (by omega)]; exact h7), if_pos (by rw [show (15 : Int32) = nI 15 from rfl, nI_eq' (by omega) (by omega)]; exact h8), ← h6]
    congr 1
    funext v5
    split
    · split <;> rfl
    · rfl
  by_cases s1 : o1.1 = 0
  · obtain ⟨p1, p2, p3, p4, p5, p6⟩ := P1.1 s1
    refine one_mk (o := (0, o1.2.1, o1.2.2 ++ [(opT (tT β n p), 0)])) (fun F hF T c ν hT hC hl => ?_) (fun U X c u1 u2 u3 u4 u5 => ⟨fun _ => ?_, fun z => absurd rfl z⟩) ⟨fun _ => ⟨by show p < o1.2.1; omega, p2, ?_, fun s => ?_, nmOK_app p5 (nmOK_op h4), True.intro⟩, fun z => absurd rfl z⟩
    · obtain ⟨F, rfl⟩ : ∃ k, F = k + 2 := ⟨F - 2, by omega⟩
      obtain ⟨v1, a1, a2, a3⟩ := cls (F := F) hT hC hl
      obtain ⟨v2, b1, b2, b3⟩ := G1 F (by omega) T c v1 hT a1 (by omega)
      have b2 := b2.1 s1
      have hx : gx v2 = T := b2.2.2.2.2.1
      obtain ⟨v3, d1, d2, d3⟩ := cs_add hT b2 (by rw [List.length_append]; omega) (opT (tT β n p), 0)
      obtain ⟨e1, e2⟩ := cs_dec hT d2
      refine ⟨_, ?_, ⟨fun _ => ?_, fun z => absurd rfl z⟩, Fr_tr a2 (Fr_tr b3 (Fr_tr d3 e2))⟩
      · rw [a3, b1, Option.bind_some, hx, if_pos (okT_z hT)]
        unfold Rd_readOpening_62
        rw [d1, Option.bind_some]
        rfl
      · rw [List.append_assoc] at e1
        exact e1
    · have := Rc_tr (opnR U X c u3 u4) ((mac U X c u1 u2 u3 u4).1 s1)
      show Rc β n L (false, p, U ++ X, c) (true, o1.2.1, X, c ++ (o1.2.2 ++ [(opT (tT β n p), 0)]) ++ zz U)
      have e : c ++ o1.2.2 ++ zz (opT (tT β n p) :: U) = c ++ (o1.2.2 ++ [(opT (tT β n p), 0)]) ++ zz U := by
        rw [show zz (opT (tT β n p) :: U) = [(opT (tT β n p), 0)] ++ zz U from rfl]
        simp only [List.append_assoc]
      rw [← e]
      exact this
    · show p + (o1.2.2 ++ [(opT (tT β n p), 0)]).length ≤ o1.2.1
      rw [List.length_append, List.length_singleton]; omega
    · show tyL (o1.2.2 ++ [(opT (tT β n p), 0)]) s = some (true :: s)
      rw [tyL_app, p4, Option.bind_some]
      show (tyE (opT (tT β n p), 0) (true :: s)).bind (tyL []) = _
      rw [h5]; rfl
  · obtain ⟨f6, fn⟩ := P1.2 s1
    refine one_mk (o := o1) (fun F hF T c ν hT hC hl => ?_) (fun U X c u1 u2 u3 u4 u5 => ⟨fun z => absurd z s1, fun _ => Rc_Ff (opnR U X c u3 u4) ((mac U X c u1 u2 u3 u4).2 s1)⟩) ⟨fun z => absurd z s1, P1.2⟩
    obtain ⟨F, rfl⟩ : ∃ k, F = k + 2 := ⟨F - 2, by omega⟩
    obtain ⟨v1, a1, a2, a3⟩ := cls (F := F) hT hC hl
    obtain ⟨v2, b1, b2, b3⟩ := G1 F (by omega) T c v1 hT a1 (by omega)
    have b2 := b2.2 s1
    have hx : gx v2 = T := b2.2.2.2.1
    obtain ⟨v3, d1, d2, d3⟩ := cf_add hT b2 (itm (opT (tT β n p), 0))
    obtain ⟨e1, e2⟩ := cf_dec hT d2 (gi v3 271 8 - 1)
    refine ⟨_, ?_, ⟨fun z => absurd z s1, fun _ => e1⟩, Fr_tr a2 (Fr_tr b3 (Fr_tr d3 e2))⟩
    rw [a3, b1, Option.bind_some, hx, if_pos (okT_z hT)]
    unfold Rd_readOpening_62
    rw [d1, Option.bind_some]
    rfl
