/-! An if, stage by stage. -/
def IfG (β : Nat → Nat) (n L m : Nat) (tl : Nat → Nm → Option Nm) (o : Nat) (s0 : List Bool) (p d : Nat) (r : Oc) : Prop :=
  (∀ F, 9 * (8 - d) + 8 ≤ F → ∀ (T : Nat) (c : List (Nat × Nat)) (ν : Nm), okT T → CSt β n L T p d c ν → c.length ≤ p → ∃ ν2, (G_rd F m 0 ν).bind (tl F) = some ν2 ∧ CPo β n L T d c r ν2 ∧ Fr (frC T) ν ν2)
  ∧ (∀ (U X : List Nat) (c : List (Nat × Nat)), (∀ u ∈ U, rk u = 7) → hdR 7 X → cnO (U ++ X) + 1 = d → (U ++ X).length + 1 ≤ 6 * d → (r.1 = 0 → Rc β n L (false, p, o :: (U ++ X), c) (true, r.2.1, X, c ++ r.2.2 ++ zz U)) ∧ (r.1 ≠ 0 → Ff β n L (false, p, o :: (U ++ X), c) r.1 r.2.1))
  ∧ (r.1 = 0 → p < r.2.1 ∧ r.2.1 ≤ n ∧ p + r.2.2.length ≤ r.2.1 ∧ (∀ s, tyL r.2.2 (s0 ++ s) = some (true :: s)) ∧ nmOK L r.2.2) ∧ (r.1 ≠ 0 → r.1 ≤ 6 ∧ r.2.1 ≤ n)
theorem stage_ok {β : Nat → Nat} {n L m m2 F0 h l lim o o2 K p d : Nat} {qf b : Bool} {st : Nat → Prop} {tl tl2 : Nat → Nm → Option Nm} {s0 : List Bool} (hn : n ≤ 300) (hle : ∀ q, tT β n q ≤ 131) (hp : p ≤ n) (hd : d ≤ 8)
    (hF : F0 ≤ 9 * (8 - d) + 8) (hh : 1 ≤ h) (hl : 1 ≤ l) (ho : 40 ≤ o) (hoo : opO o = true) (ho2 : o2 ≠ 99 ∧ o2 ≠ 0) (hK : K ≤ 130) (hK0 : K ≠ 0)
    (ha1 : qf = true → ∀ W, askA (o :: W) = true) (ha2 : qf = false → ∀ W, askA (o :: W) = false)
    (hbt : ∀ T Y W, st T → (∀ y ∈ Y, 1 ≤ rk y) → (qf = true → cmpd Y = true) → ¬ btw T (Y ++ o :: W) < 99)
    (hpr : ∀ T Y W, (∀ y ∈ Y, 1 ≤ rk y) → (qf = true → cmpd Y = true) → prt T (Y ++ o :: W) = if T = K then o2 else 99)
    (htl : ∀ F ν, tl F ν = (Rd_expect (nI K) ν).bind fun v2 => (G_rd F m2 0 v2).bind (tl2 F))
    (hcf : ∀ F T f pl, okT T → f ≠ 0 → f < 2 ^ 31 → 6 ≤ F → CFk T f pl (fun v2 => (G_rd F m2 0 v2).bind (tl2 F)))
    (here : ∃ r, Gd β n L m F0 qf h l lim b st p d r)
    (next : ∀ q, p < q → q ≤ n → ∃ r, IfG β n L m2 tl2 o2 (b :: s0) q d r) : ∃ r, IfG β n L m tl o s0 p d r := by
  obtain ⟨o1, G1, M1, P1⟩ := here
  have mac : ∀ (U X : List Nat) (c : List (Nat × Nat)), cnO (U ++ X) + 1 = d → (U ++ X).length + 1 ≤ 6 * d → _ := fun U X c u3 u4 => M1 (o :: (U ++ X)) c (by rw [cnO_1 hoo]; omega) (by rw [List.length_cons]; omega) (hdR_cons (by have := (rk_0 o).mpr ho; omega)) (fun z => ha1 z _) (fun z _ => ha2 z _)
  by_cases s1 : o1.1 = 0
  · obtain ⟨p1, p2, p3, p4, p5, p6⟩ := P1.1 s1
    have hpos1 := tok_pos (β := β) p2
    by_cases q : tT β n o1.2.1 = K
    · have hlt1 := hpos1.2.2.2 (by omega) (by omega)
      obtain ⟨o3, G3, M3, P3, Q3⟩ := next (tE β n o1.2.1) (by omega) hpos1.2.2.1
      refine ⟨(o3.1, o3.2.1, o1.2.2 ++ o3.2.2), fun F hF2 T c ν hT hC hc => ?_, fun U X c u1 u2 u3 u4 => ?_, fun z => ?_, Q3⟩
      · obtain ⟨v1, b1, b2, b3⟩ := G1 F (by omega) T c ν hT hC hc
        obtain ⟨v2, d1, d2, d3⟩ := cs_expect hT p2 (b2.1 s1) (by rw [List.length_append]; omega) (k := K) (by omega)
        rw [if_pos q] at d2
        obtain ⟨v3, e1, e2, e3⟩ := G3 F hF2 T _ v2 hT d2 (by rw [List.length_append]; omega)
        refine ⟨v3, ?_, ⟨fun z => ?_, fun z => e2.2 z⟩, Fr_tr b3 (Fr_tr d3 e3)⟩
        · rw [b1, Option.bind_some, htl, d1, Option.bind_some]
          exact e1
        · have := e2.1 z
          rw [List.append_assoc] at this
          exact this
      · obtain ⟨Y1, a1, y1, y2, y3, y4⟩ := (mac U X c u3 u4).1 s1
        have hY : ∀ y ∈ Y1, 1 ≤ rk y := fun y hy => Nat.le_trans hl (y1 y hy)
        have pt := Rc_part (L := L) (c := c ++ a1) p2 (hle _) hY ho (hbt _ Y1 (U ++ X) p6 hY y2) (by rw [hpr _ Y1 (U ++ X) hY y2, if_pos q]) ho2.1 ho2.2
        rw [List.append_assoc, ← y3] at pt
        obtain ⟨m1, m2⟩ := M3 U X (c ++ o1.2.2) u1 u2 u3 u4
        refine ⟨fun z => ?_, fun z => Rc_Ff (Rc_tr y4 pt) (m2 z)⟩
        have := Rc_tr (Rc_tr y4 pt) (m1 z)
        rw [List.append_assoc c] at this
        exact this
      · obtain ⟨q1, q2, q3, q4, q5⟩ := P3 z
        refine ⟨by show p < o3.2.1; omega, q2, ?_, fun s => ?_, nmOK_app p5 q5⟩
        · show p + (o1.2.2 ++ o3.2.2).length ≤ o3.2.1
          rw [List.length_append]; omega
        · show tyL (o1.2.2 ++ o3.2.2) (s0 ++ s) = some (true :: s)
          rw [tyL_app, p4, Option.bind_some]
          exact q4 s
    · refine ⟨(1, tS β n o1.2.1, []), fun F hF2 T c ν hT hC hc => ?_, fun U X c u1 u2 u3 u4 => ⟨fun z => absurd z (by omega), fun _ => ?_⟩, fun z => absurd z (by omega), fun _ => ⟨by show 1 ≤ 6; omega, by show tS β n o1.2.1 ≤ n; omega⟩⟩
      · obtain ⟨v1, b1, b2, b3⟩ := G1 F (by omega) T c ν hT hC hc
        obtain ⟨v2, d1, d2, d3⟩ := cs_expect hT p2 (b2.1 s1) (by rw [List.length_append]; omega) (k := K) (by omega)
        rw [if_neg q] at d2
        obtain ⟨v3, e1, e2, e3⟩ := hcf F T 1 _ hT (by omega) (by omega) (by omega) v2 d2
        refine ⟨v3, ?_, cp_fail (by omega) e2, Fr_tr b3 (Fr_tr d3 e3)⟩
        rw [b1, Option.bind_some, htl, d1, Option.bind_some]
        exact e1
      · obtain ⟨Y1, a1, y1, y2, y3, y4⟩ := (mac U X c u3 u4).1 s1
        have hY : ∀ y ∈ Y1, 1 ≤ rk y := fun y hy => Nat.le_trans hl (y1 y hy)
        exact Rc_Ff y4 (Ff_beh (hbt _ Y1 (U ++ X) p6 hY y2) (by rw [hpr _ Y1 (U ++ X) hY y2, if_neg q]) (by rw [opn_app Y1 _ hY, opn_cons ho]; omega) p2)
  · obtain ⟨f6, fn⟩ := P1.2 s1
    refine ⟨o1, fun F hF2 T c ν hT hC hc => ?_, fun U X c u1 u2 u3 u4 => ⟨fun z => absurd z s1, fun _ => (mac U X c u3 u4).2 s1⟩, fun z => absurd z s1, P1.2⟩
    obtain ⟨v1, b1, b2, b3⟩ := G1 F (by omega) T c ν hT hC hc
    obtain ⟨v2, d1, d2, d3⟩ := cf_expect hT s1 (by omega) (b2.2 s1) (k := K) (by omega)
    obtain ⟨v3, e1, e2, e3⟩ := hcf F T o1.1 _ hT s1 (by omega) (by omega) v2 d2
    refine ⟨v3, ?_, ⟨fun z => absurd z s1, fun _ => e2⟩, Fr_tr b3 (Fr_tr d3 e3)⟩
    rw [b1, Option.bind_some, htl, d1, Option.bind_some]
    exact e1
def tl3 (_ : Nat) (v5 : Nm) : Option Nm := (Rd_expect (18 : Int32) v5).bind fun v6 => if zkT (gx v6) then (Tx_addCode (gx v6) (-15 : Int32) v6).bind fun v8 => some v8 else none
def tl2 (F : Nat) (v3 : Nm) : Option Nm := (Rd_expect (17 : Int32) v3).bind fun v4 => (G_rd F 0 0 v4).bind (tl3 F)
def tl1 (F : Nat) (v1 : Nm) : Option Nm := (Rd_expect (16 : Int32) v1).bind fun v2 => (G_rd F 0 0 v2).bind (tl2 F)
theorem cf_add' {T f pl : Nat} (hT : okT T) (v : Int32) : CFk T f pl (fun v6 => if zkT (gx v6) then (Tx_addCode (gx v6) v v6).bind fun v8 => some v8 else none) := by
  intro ν h
  have hx : gx ν = T := h.2.2.2.1
  obtain ⟨ν2, e1, e2, e3⟩ := cf_add hT h v
  refine ⟨ν2, ?_, e2, e3⟩
  show (if zkT (gx ν) then (Tx_addCode (gx ν) v ν).bind fun v8 => some v8 else none) = some ν2
  rw [hx, if_pos (okT_z hT), e1]
  rfl
theorem cf_exp' {T f pl k : Nat} (hT : okT T) (hf : f ≠ 0) (hf2 : f < 2 ^ 31) (hk : k < 131) : CFk T f pl (Rd_expect (nI k)) := fun ν h => cf_expect hT hf hf2 h hk
theorem cf_tl3 {T f pl : Nat} (F : Nat) (hT : okT T) (hf : f ≠ 0) (hf2 : f < 2 ^ 31) : CFk T f pl (tl3 F) := cf_bind (cf_exp' (k := 18) hT hf hf2 (by omega)) (cf_add' hT _)
theorem cf_st3 {T f pl F : Nat} (hF : 6 ≤ F) (hT : okT T) (hf : f ≠ 0) (hf2 : f < 2 ^ 31) : CFk T f pl (fun v => (G_rd F 0 0 v).bind (tl3 F)) := cf_bind (cf_sum hT hf hf2 (by omega)) (cf_tl3 F hT hf hf2)
theorem cf_tl2 {T f pl F : Nat} (hF : 6 ≤ F) (hT : okT T) (hf : f ≠ 0) (hf2 : f < 2 ^ 31) : CFk T f pl (tl2 F) := cf_bind (cf_exp' (k := 17) hT hf hf2 (by omega)) (cf_st3 hF hT hf hf2)
theorem cf_st2 {T f pl F : Nat} (hF : 6 ≤ F) (hT : okT T) (hf : f ≠ 0) (hf2 : f < 2 ^ 31) : CFk T f pl (fun v => (G_rd F 0 0 v).bind (tl2 F)) := cf_bind (cf_sum hT hf hf2 (by omega)) (cf_tl2 hF hT hf hf2)
/-- the last stage: behind else -/
theorem if3 {β : Nat → Nat} {n L p d : Nat} (hn : n ≤ 300) (hle : ∀ q, tT β n q ≤ 131) (hp : p ≤ n) (hd : d ≤ 8) (here : ∃ r, GdS β n L p d r) : ∃ r, IfG β n L 0 tl3 43 [true, false] p d r := by
  obtain ⟨o1, G1, M1, P1⟩ := here
  have mac : ∀ (U X : List Nat) (c : List (Nat × Nat)), cnO (U ++ X) + 1 = d → (U ++ X).length + 1 ≤ 6 * d → _ := fun U X c u3 u4 => M1 (43 :: (U ++ X)) c (by rw [cnO_1 (by decide)]; omega) (by rw [List.length_cons]; omega) (hdR_cons (by decide)) (fun z => by cases z) (fun _ _ => askA_opn (by rw [opn_cons (by omega)]; omega))
  by_cases s1 : o1.1 = 0
  · obtain ⟨p1, p2, p3, p4, p5, p6⟩ := P1.1 s1
    have hpos1 := tok_pos (β := β) p2
    by_cases q : tT β n o1.2.1 = 18
    · have hlt1 := hpos1.2.2.2 (by omega) (by omega)
      refine ⟨(0, tE β n o1.2.1, o1.2.2 ++ [(3, 0)]), fun F hF2 T c ν hT hC hc => ?_, fun U X c u1 u2 u3 u4 => ⟨fun _ => ?_, fun z => absurd rfl z⟩, fun _ => ⟨by show p < tE β n o1.2.1; omega, hpos1.2.2.1, ?_, fun s => ?_, nmOK_app p5 (nmOK_op (by omega))⟩, fun z => absurd rfl z⟩
      · obtain ⟨v1, b1, b2, b3⟩ := G1 F (by omega) T c ν hT hC hc
        obtain ⟨v2, d1, d2, d3⟩ := cs_expect hT p2 (b2.1 s1) (by rw [List.length_append]; omega) (k := 18) (by omega)
        rw [if_pos q] at d2
        have hx : gx v2 = T := d2.2.2.2.2.1
        obtain ⟨v3, e1, e2, e3⟩ := cs_add hT d2 (by rw [List.length_append]; omega) (3, 0)
        refine ⟨v3, ?_, ⟨fun _ => ?_, fun z => absurd rfl z⟩, Fr_tr b3 (Fr_tr d3 e3)⟩
        · rw [b1, Option.bind_some]
          unfold tl3
          rw [show (18 : Int32) = nI 18 from rfl, d1, Option.bind_some, hx, if_pos (okT_z hT), show (-15 : Int32) = itm (3, 0) by decide, e1]
          rfl
        · rw [List.append_assoc] at e2
          exact e2
      · obtain ⟨Y1, a1, y1, y2, y3, y4⟩ := (mac U X c u3 u4).1 s1
        have hY : ∀ y ∈ Y1, 1 ≤ rk y := fun y hy => by have := y1 y hy; omega
        have hopn : opn (Y1 ++ 43 :: (U ++ X)) = 43 := by rw [opn_app Y1 _ hY, opn_cons (by omega)]
        have cl := Rc_close (L := L) (c := c ++ a1) p2 (hle _) hY u1 u2 (show 40 ≤ 43 by omega) (btw_no p6 (by rw [hopn]; omega)) (by unfold prt; rw [hopn, if_neg (by omega), if_neg (by omega), if_neg (by omega), if_pos rfl, if_pos q])
        rw [if_pos rfl] at cl
        have := Rc_tr y4 cl
        rw [List.append_assoc c a1, ← y3, List.append_assoc c] at this
        exact this
      · show p + (o1.2.2 ++ [(3, 0)]).length ≤ tE β n o1.2.1
        rw [List.length_append, List.length_singleton]; omega
      · show tyL (o1.2.2 ++ [(3, 0)]) (true :: false :: s) = some (true :: s)
        rw [tyL_app, p4, Option.bind_some]
        rfl
    · refine ⟨(1, tS β n o1.2.1, []), fun F hF2 T c ν hT hC hc => ?_, fun U X c u1 u2 u3 u4 => ⟨fun z => absurd z (by omega), fun _ => ?_⟩, fun z => absurd z (by omega), fun _ => ⟨by show 1 ≤ 6; omega, by show tS β n o1.2.1 ≤ n; omega⟩⟩
      · obtain ⟨v1, b1, b2, b3⟩ := G1 F (by omega) T c ν hT hC hc
        obtain ⟨v2, d1, d2, d3⟩ := cs_expect hT p2 (b2.1 s1) (by rw [List.length_append]; omega) (k := 18) (by omega)
        rw [if_neg q] at d2
        obtain ⟨v3, e1, e2, e3⟩ := cf_add' hT (-15) v2 d2
        refine ⟨v3, ?_, cp_fail (by omega) e2, Fr_tr b3 (Fr_tr d3 e3)⟩
        rw [b1, Option.bind_some]
        unfold tl3
        rw [show (18 : Int32) = nI 18 from rfl, d1, Option.bind_some]
        exact e1
      · obtain ⟨Y1, a1, y1, y2, y3, y4⟩ := (mac U X c u3 u4).1 s1
        have hY : ∀ y ∈ Y1, 1 ≤ rk y := fun y hy => by have := y1 y hy; omega
        have hopn : opn (Y1 ++ 43 :: (U ++ X)) = 43 := by rw [opn_app Y1 _ hY, opn_cons (by omega)]
        exact Rc_Ff y4 (Ff_beh (btw_no p6 (by rw [hopn]; omega)) (by unfold prt; rw [hopn, if_neg (by omega), if_neg (by omega), if_neg (by omega), if_pos rfl, if_neg q]) (by rw [hopn]; omega) p2)
  · obtain ⟨f6, fn⟩ := P1.2 s1
    refine ⟨o1, fun F hF2 T c ν hT hC hc => ?_, fun U X c u1 u2 u3 u4 => ⟨fun z => absurd z s1, fun _ => (mac U X c u3 u4).2 s1⟩, fun z => absurd z s1, P1.2⟩
    obtain ⟨v1, b1, b2, b3⟩ := G1 F (by omega) T c ν hT hC hc
    obtain ⟨v3, e1, e2, e3⟩ := cf_tl3 F hT s1 (by omega) v1 (b2.2 s1)
    exact ⟨v3, by rw [b1, Option.bind_some]; exact e1, ⟨fun z => absurd z s1, fun _ => e2⟩, Fr_tr b3 e3⟩
theorem if2 {β : Nat → Nat} {n L p d : Nat} (hn : n ≤ 300) (hle : ∀ q, tT β n q ≤ 131) (hp : p ≤ n) (hd : d ≤ 8) (all : ∀ q, p ≤ q → q ≤ n → ∃ r, GdS β n L q d r) : ∃ r, IfG β n L 0 tl2 42 [false] p d r := by
  refine stage_ok (m2 := 0) (o2 := 43) (K := 17) (tl2 := tl3) hn hle hp hd (by omega) (by omega) (by omega) (by omega) (by decide) (by omega) (by omega) (by omega) (fun z => by cases z) (fun _ W => askA_opn (by rw [opn_cons (by omega)]; omega)) (fun T Y W hs hY _ => ?_) (fun T Y W hY _ => ?_) (fun F ν => rfl) (fun F T f pl hT hf hf2 hF => cf_st3 hF hT hf hf2) (all p (Nat.le_refl _) hp) (fun q q1 q2 => if3 hn hle q2 hd (all q (by omega) q2))
  · exact btw_no hs (by rw [opn_app Y _ hY, opn_cons (by omega)]; omega)
  · unfold prt
    rw [opn_app Y _ hY, opn_cons (by omega), if_neg (by omega), if_neg (by omega), if_pos rfl]
theorem if1 {β : Nat → Nat} {n L p d : Nat} (hn : n ≤ 300) (hle : ∀ q, tT β n q ≤ 131) (hp : p ≤ n) (hd : d ≤ 8) (here : ∃ r, GdE β n L p d r) (all : ∀ q, p ≤ q → q ≤ n → ∃ r, GdS β n L q d r) : ∃ r, IfG β n L 5 tl1 41 [] p d r := by
  refine stage_ok (m2 := 0) (o2 := 42) (K := 16) (tl2 := tl2) hn hle hp hd (by omega) (by omega) (by omega) (by omega) (by decide) (by omega) (by omega) (by omega) (fun _ W => ?_) (fun z => by cases z) (fun T Y W hs hY hc => ?_) (fun T Y W hY hc => ?_) (fun F ν => rfl) (fun F T f pl hT hf hf2 hF => cf_st2 hF hT hf hf2) here (fun q q1 q2 => if2 hn hle q2 hd (fun q3 q4 q5 => all q3 (by omega) q5))
  · show (decide (opn (41 :: W) = 41) && decide (40 ≤ 41 ∨ (1 ≤ rk 41 ∧ rk 41 ≤ 3))) = true
    rw [opn_cons (by omega)]
    rfl
  · exact btw_noE hs (cmpd_appT Y _ (hc rfl))
  · unfold prt
    rw [opn_app Y _ hY, opn_cons (by omega), if_neg (by omega), if_pos rfl, cmpd_appT Y _ (hc rfl)]
    by_cases z : T = 16
    · rw [if_pos ⟨z, rfl⟩, if_pos z]
    · rw [if_neg (fun y => z y.1), if_neg z]
theorem one_if {β : Nat → Nat} {n L p d : Nat} (hp : p ≤ n) (hn : n ≤ 300) (hle : ∀ q, tT β n q ≤ 131) (hd : d < 8) (h : tT β n p = 15) (sub : ∃ r, IfG β n L 5 tl1 41 [] (tE β n p) (d + 1) r) : ∃ o, GdO β n L p d o := by
  have hop : opT (tT β n p) = 41 := by rw [h]; rfl
  have hpos := tok_pos (β := β) hp
  have hlt := hpos.2.2.2 (by omega) (by omega)
  obtain ⟨o1, G1, M1, P1, Q1⟩ := sub
  have opnR : ∀ (U X : List Nat) (c : List (Nat × Nat)), cnO (U ++ X) = d → (U ++ X).length ≤ 6 * d + 5 → Rc β n L (false, p, U ++ X, c) (false, tE β n p, 41 :: (U ++ X), c) := fun U X c u3 u4 => by
    have := Rc_open (L := L) hp (hle p) (by rw [hop]; omega) u3 hd u4 c
    rw [hop] at this
    exact this
  refine one_mk (o := o1) (fun F hF T c ν hT hC hl => ?_) (fun U X c u1 u2 u3 u4 u5 => ?_) ⟨fun z => ?_, Q1⟩
  · obtain ⟨F, rfl⟩ : ∃ k, F = (k + 1) + 2 := ⟨F - 3, by omega⟩
    obtain ⟨v1, a1, a2, a3⟩ := c_opens (F := F + 1) hT hp hn hC hl hd (by rw [hop]; omega)
    rw [a3, if_pos (by rw [h]; decide), if_neg (by rw [h]; exact fun z => z rfl)]
    have e4 : G_rd (F + 1) 4 0 v1 = (G_rd F 5 0 v1).bind (tl1 F) := by rw [G_rd, if_neg (by omega), if_neg (by omega), if_neg (by omega), if_neg (by omega), if_pos rfl]; rfl
    obtain ⟨v2, b1, b2, b3⟩ := G1 F (by omega) T c v1 hT a1 (by omega)
    rw [e4, b1, Option.bind_some]
    by_cases s1 : o1.1 = 0
    · obtain ⟨e1, e2⟩ := cs_dec hT (b2.1 s1)
      exact ⟨_, rfl, ⟨fun _ => e1, fun z => absurd s1 z⟩, Fr_tr a2 (Fr_tr b3 e2)⟩
    · obtain ⟨e1, e2⟩ := cf_dec hT (b2.2 s1) (gi v2 271 8 - 1)
      exact ⟨_, rfl, ⟨fun z => absurd z s1, fun _ => e1⟩, Fr_tr a2 (Fr_tr b3 e2)⟩
  · obtain ⟨m1, m2⟩ := M1 U X c u1 u2 (by omega) (by omega)
    exact ⟨fun z => Rc_tr (opnR U X c u3 u4) (m1 z), fun z => Rc_Ff (opnR U X c u3 u4) (m2 z)⟩
  · obtain ⟨q1, q2, q3, q4, q5⟩ := P1 z
    exact ⟨by omega, q2, by omega, q4, q5, True.intro⟩
