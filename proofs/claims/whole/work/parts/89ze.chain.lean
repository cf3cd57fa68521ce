/-! A part and a loop behind it; the four loops. -/
theorem chain_ok {β : Nat → Nat} {n L m M F0 l l2 h2 lim d p : Nat} {qf b : Bool} {ops : Nat → Nat} {st : Nat → Prop} {Lp : Nat → Nat → Int32 → Nm → Option Nm}
    (hb : ∀ i, i < 300 → β i < 256) (hn : n ≤ 300) (hd : d ≤ 8) (hlim : lim ≤ 4) (hl4 : l ≠ 4) (hl1 : 1 ≤ l) (hll : l ≤ l2) (hlh : l ≤ h2)
    (ho : ∀ T, T ≤ 131 → ops T ≠ 0 → rk (ops T) = l ∧ ops T < 44 ∧ rk (ops T) < h2 ∧ opO (ops T) = false ∧ T ≠ 0 ∧ T ≠ 131 ∧ (∀ W, (qf = true → opn W = 41 ∧ cmpd W = true) → btw T W = ops T) ∧ itm (ops T, 0) = -(nI T) ∧ (∀ s, tyE (ops T, 0) (b :: b :: s) = some (b :: s)) ∧ ops T ≠ 1 ∧ (qf = true → ∀ X, opn X = 41 → askA (ops T :: X) = true) ∧ (qf = false → ∀ X, askA (ops T :: X) = false))
    (h131 : ops 131 = 0)
    (hs : ∀ F f i ν T, gi ν 271 5 = nI T → T ≤ 131 → ops T = 0 → Lp F (f + 1) (nI i) ν = some ν)
    (hg : ∀ F f i ν T, gi ν 271 5 = nI T → T ≤ 131 → ops T ≠ 0 → i < 300 → Lp F (f + 1) (nI i) ν = (Rd_next ν).bind fun v1 => (G_rd F m 0 v1).bind fun v2 => if zkT (gx v2) then (Tx_addCode (gx v2) (-(nI T)) v2).bind fun v4 => Lp F f (nI (i + 1)) v4 else none)
    (hM : ∀ F ν, G_rd (F + 1) M 0 ν = (G_rd F m 0 ν).bind fun v1 => Lp F FU (nI 0) v1)
    (here : ∃ o, Gd β n L m F0 qf h2 l2 (lim + 1) b st p d o)
    (sub : ∀ q, p < q → q ≤ n → ∃ o, Gd β n L m F0 qf h2 l2 (lim + 1) b st q d o) :
    ∃ o, Gd β n L M (F0 + 1) qf l l lim b (fun T => ops T = 0 ∧ st T) p d o := by
  obtain ⟨o1, G1, M1, P1⟩ := here
  by_cases s1 : o1.1 = 0
  · obtain ⟨p1, p2, p3, p4, p5, p6⟩ := P1.1 s1
    obtain ⟨o2, G2, M2, P2, Q2⟩ := loop_ok (p0 := p) hb hn hd hlim hl4 hl1 hll ho h131 hs hg sub 300 o1.2.1 (by omega) (by omega) p2 p6
    refine ⟨(o2.1, o2.2.1, o1.2.2 ++ o2.2.2), fun F hF T c ν hT hC hc => ?_, fun X c x1 x2 x3 x4 x5 => ?_, fun z => ?_, Q2⟩
    · obtain ⟨F, rfl⟩ : ∃ k, F = k + 1 := ⟨F - 1, by omega⟩
      rw [hM]
      obtain ⟨v1, b1, b2, b3⟩ := G1 F (by omega) T c ν hT hC hc
      obtain ⟨v2, d1, d2, d3⟩ := G2 F (by omega) T _ v1 FU 0 hT (b2.1 s1) (by rw [List.length_append]; omega) (by omega) (by unfold FU; omega)
      refine ⟨v2, by rw [b1, Option.bind_some]; exact d1, ⟨fun z => ?_, fun z => d2.2 z⟩, Fr_tr b3 d3⟩
      have := d2.1 z
      rw [List.append_assoc] at this
      exact this
    · obtain ⟨Y1, e1, y1, y2, y3, y4⟩ := (M1 X c x1 (by omega) (hdR_mono x3 hlh) x4 x5).1 s1
      obtain ⟨m1, m2⟩ := M2 X (c ++ e1) Y1 x1 x2 x3 x4 (fun y hy => Nat.le_trans hll (y1 y hy)) y2
      refine ⟨fun z => ?_, fun z => Rc_Ff y4 (m2 z)⟩
      obtain ⟨Y2, e2, k1, k2, k3, k4⟩ := m1 z
      refine ⟨Y2, e1 ++ e2, k1, k2, ?_, ?_⟩
      · show o1.2.2 ++ o2.2.2 = e1 ++ e2 ++ zz Y2
        rw [y3, List.append_assoc, k3, List.append_assoc]
      · have := Rc_tr y4 k4
        rw [List.append_assoc] at this
        exact this
    · obtain ⟨q1, q2, q3, q4, q5, q6⟩ := P2 z
      refine ⟨by show p < o2.2.1; omega, q2, ?_, fun s => ?_, nmOK_app p5 q5, q6⟩
      · show p + (o1.2.2 ++ o2.2.2).length ≤ o2.2.1
        rw [List.length_append]; omega
      · show tyL (o1.2.2 ++ o2.2.2) s = some (b :: s)
        rw [tyL_app, p4, Option.bind_some]
        exact q4 s
  · refine ⟨o1, fun F hF T c ν hT hC hc => ?_, fun X c x1 x2 x3 x4 x5 => ⟨fun z => absurd z s1, (M1 X c x1 (by omega) (hdR_mono x3 hlh) x4 x5).2⟩, fun z => absurd z s1, P1.2⟩
    obtain ⟨F, rfl⟩ : ∃ k, F = k + 1 := ⟨F - 1, by omega⟩
    rw [hM]
    obtain ⟨v1, b1, b2, b3⟩ := G1 F (by omega) T c ν hT hC hc
    refine ⟨v1, ?_, ⟨fun z => absurd z s1, b2.2⟩, b3⟩
    rw [b1, Option.bind_some]
    exact hs F 999999999 0 v1 131 (b2.2 s1).2.2.1 (by omega) h131
def opsP (T : Nat) : Nat := if T = 42 then 8 else if T = 47 then 9 else 0
def opsS (T : Nat) : Nat := if T = 43 then 6 else if T = 45 then 7 else 0
def opsA (T : Nat) : Nat := if T = 20 then 21 else 0
def opsO (T : Nat) : Nat := if T = 19 then 22 else 0
def stO (_ : Nat) : Prop := True
def stP (T : Nat) : Prop := opsP T = 0 ∧ stO T
def stS (T : Nat) : Prop := opsS T = 0 ∧ stP T
def stB (T : Nat) : Prop := opsA T = 0 ∧ stS T
def stE (T : Nat) : Prop := opsO T = 0 ∧ stB T
theorem eqT {ν : Nm} {T k : Nat} (h : gi ν 271 5 = nI T) (hT : T ≤ 131) (hk : k ≤ 131) : (gi ν 271 5 = nI k) = (T = k) := by rw [h, nI_eq' (by omega) (by omega)]
theorem askA_no {o : Nat} (h1 : ¬ 40 ≤ o) (h2 : ¬ (1 ≤ rk o ∧ rk o ≤ 3)) {X : List Nat} : askA (o :: X) = false := by
  show (decide (opn (o :: X) = 41) && decide (40 ≤ o ∨ (1 ≤ rk o ∧ rk o ≤ 3))) = false
  rw [decide_eq_false (fun z => Or.elim z h1 h2), Bool.and_false]
theorem hP_o : ∀ T, T ≤ 131 → opsP T ≠ 0 → rk (opsP T) = 6 ∧ opsP T < 44 ∧ rk (opsP T) < 7 ∧ opO (opsP T) = false ∧ T ≠ 0 ∧ T ≠ 131 ∧ (∀ W, (false = true → opn W = 41 ∧ cmpd W = true) → btw T W = opsP T) ∧ itm (opsP T, 0) = -(nI T) ∧ (∀ s, tyE (opsP T, 0) (true :: true :: s) = some (true :: s)) ∧ opsP T ≠ 1 ∧ (false = true → ∀ X, opn X = 41 → askA (opsP T :: X) = true) ∧ (false = false → ∀ X, askA (opsP T :: X) = false) := by
  intro T _ h
  have : T = 42 ∨ T = 47 := by
    unfold opsP at h
    by_cases c1 : T = 42
    · exact Or.inl c1
    · rw [if_neg c1] at h
      by_cases c2 : T = 47
      · exact Or.inr c2
      · rw [if_neg c2] at h; exact absurd rfl h
  rcases this with rfl | rfl
  · exact ⟨by decide, by decide, by decide, by decide, by decide, by decide, fun W _ => rfl, by decide, fun s => rfl, by decide, (fun z => by cases z), fun _ X => askA_no (by decide) (by decide)⟩
  · exact ⟨by decide, by decide, by decide, by decide, by decide, by decide, fun W _ => rfl, by decide, fun s => rfl, by decide, (fun z => by cases z), fun _ X => askA_no (by decide) (by decide)⟩
theorem hS_o : ∀ T, T ≤ 131 → opsS T ≠ 0 → rk (opsS T) = 5 ∧ opsS T < 44 ∧ rk (opsS T) < 6 ∧ opO (opsS T) = false ∧ T ≠ 0 ∧ T ≠ 131 ∧ (∀ W, (false = true → opn W = 41 ∧ cmpd W = true) → btw T W = opsS T) ∧ itm (opsS T, 0) = -(nI T) ∧ (∀ s, tyE (opsS T, 0) (true :: true :: s) = some (true :: s)) ∧ opsS T ≠ 1 ∧ (false = true → ∀ X, opn X = 41 → askA (opsS T :: X) = true) ∧ (false = false → ∀ X, askA (opsS T :: X) = false) := by
  intro T _ h
  have : T = 43 ∨ T = 45 := by
    unfold opsS at h
    by_cases c1 : T = 43
    · exact Or.inl c1
    · rw [if_neg c1] at h
      by_cases c2 : T = 45
      · exact Or.inr c2
      · rw [if_neg c2] at h; exact absurd rfl h
  rcases this with rfl | rfl
  · exact ⟨by decide, by decide, by decide, by decide, by decide, by decide, fun W _ => rfl, by decide, fun s => rfl, by decide, (fun z => by cases z), fun _ X => askA_no (by decide) (by decide)⟩
  · exact ⟨by decide, by decide, by decide, by decide, by decide, by decide, fun W _ => rfl, by decide, fun s => rfl, by decide, (fun z => by cases z), fun _ X => askA_no (by decide) (by decide)⟩
theorem askA_op {o : Nat} (h : 1 ≤ rk o ∧ rk o ≤ 3) {X : List Nat} (hX : opn X = 41) : askA (o :: X) = true := by
  unfold askA
  rw [Bool.and_eq_true, decide_eq_true_iff, decide_eq_true_iff]
  refine ⟨?_, Or.inr h⟩
  unfold opn
  rw [if_neg (fun z => by have := (rk_0 o).mpr z; omega)]
  exact hX
theorem hA_o : ∀ T, T ≤ 131 → opsA T ≠ 0 → rk (opsA T) = 2 ∧ opsA T < 44 ∧ rk (opsA T) < 4 ∧ opO (opsA T) = false ∧ T ≠ 0 ∧ T ≠ 131 ∧ (∀ W, (true = true → opn W = 41 ∧ cmpd W = true) → btw T W = opsA T) ∧ itm (opsA T, 0) = -(nI T) ∧ (∀ s, tyE (opsA T, 0) (false :: false :: s) = some (false :: s)) ∧ opsA T ≠ 1 ∧ (true = true → ∀ X, opn X = 41 → askA (opsA T :: X) = true) ∧ (true = false → ∀ X, askA (opsA T :: X) = false) := by
  intro T _ h
  have : T = 20 := by
    unfold opsA at h
    by_cases c1 : T = 20
    · exact c1
    · rw [if_neg c1] at h; exact absurd rfl h
  subst this
  refine ⟨by decide, by decide, by decide, by decide, by decide, by decide, fun W hW => ?_, by decide, fun s => rfl, by decide, (fun _ X hX => askA_op (by decide) hX), fun z => by cases z⟩
  obtain ⟨w1, w2⟩ := hW rfl
  unfold btw
  rw [w1, w2]
  rfl
theorem hO_o : ∀ T, T ≤ 131 → opsO T ≠ 0 → rk (opsO T) = 1 ∧ opsO T < 44 ∧ rk (opsO T) < 2 ∧ opO (opsO T) = false ∧ T ≠ 0 ∧ T ≠ 131 ∧ (∀ W, (true = true → opn W = 41 ∧ cmpd W = true) → btw T W = opsO T) ∧ itm (opsO T, 0) = -(nI T) ∧ (∀ s, tyE (opsO T, 0) (false :: false :: s) = some (false :: s)) ∧ opsO T ≠ 1 ∧ (true = true → ∀ X, opn X = 41 → askA (opsO T :: X) = true) ∧ (true = false → ∀ X, askA (opsO T :: X) = false) := by
  intro T _ h
  have : T = 19 := by
    unfold opsO at h
    by_cases c1 : T = 19
    · exact c1
    · rw [if_neg c1] at h; exact absurd rfl h
  subst this
  refine ⟨by decide, by decide, by decide, by decide, by decide, by decide, fun W hW => ?_, by decide, fun s => rfl, by decide, (fun _ X hX => askA_op (by decide) hX), fun z => by cases z⟩
  obtain ⟨w1, w2⟩ := hW rfl
  unfold btw
  rw [w1, w2]
  rfl
/-! The class's loops. -/
theorem lS_s (F f i : Nat) (ν : Nm) (T : Nat) (h : gi ν 271 5 = nI T) (hT : T ≤ 131) (h0 : opsS T = 0) : Rd_readSum_6 (G_rd F) (f + 1) (nI i) ν = some ν := by
  have n1 : T ≠ 43 := fun z => by rw [z] at h0; exact absurd h0 (by decide)
  have n2 : T ≠ 45 := fun z => by rw [z] at h0; exact absurd h0 (by decide)
  rw [Rd_readSum_6]
  simp only [show (gi ν 271 5 = (43 : Int32)) = (T = 43) from eqT (k := 43) h hT (by omega), show (gi ν 271 5 = (45 : Int32)) = (T = 45) from eqT (k := 45) h hT (by omega)]
  rw [if_neg n1, if_pos n2]
  split <;> rfl
theorem lS_g (F f i : Nat) (ν : Nm) (T : Nat) (h : gi ν 271 5 = nI T) (hT : T ≤ 131) (h0 : opsS T ≠ 0) (hi : i < 300) : Rd_readSum_6 (G_rd F) (f + 1) (nI i) ν = (Rd_next ν).bind fun v1 => (G_rd F 1 0 v1).bind fun v2 => if zkT (gx v2) then (Tx_addCode (gx v2) (-(nI T)) v2).bind fun v4 => Rd_readSum_6 (G_rd F) f (nI (i + 1)) v4 else none := by
  rw [Rd_readSum_6, if_neg (by rw [show (300 : Int32) = nI 300 from rfl, nI_le' (by omega) (by omega)]; omega)]
  unfold Rd_readSum_31
  rw [h, show nI i + (1 : Int32) = nI (i + 1) from nI_add i 1]
  by_cases c1 : T = 43
  · rw [if_pos (by rw [c1]; rfl)]
  · rw [if_neg (by rw [show (43 : Int32) = nI 43 from rfl, nI_eq' (by omega) (by omega)]; exact c1)]
    have c2 : T = 45 := by
      apply Classical.byContradiction
      intro z
      apply h0
      unfold opsS
      rw [if_neg c1, if_neg z]
    rw [if_neg (by rw [c2]; exact fun z => z rfl)]
theorem lP_s (F f i : Nat) (ν : Nm) (T : Nat) (h : gi ν 271 5 = nI T) (hT : T ≤ 131) (h0 : opsP T = 0) : Rd_readProduct_6 (G_rd F) (f + 1) (nI i) ν = some ν := by
  have n1 : T ≠ 42 := fun z => by rw [z] at h0; exact absurd h0 (by decide)
  have n2 : T ≠ 47 := fun z => by rw [z] at h0; exact absurd h0 (by decide)
  rw [Rd_readProduct_6]
  simp only [show (gi ν 271 5 = (42 : Int32)) = (T = 42) from eqT (k := 42) h hT (by omega), show (gi ν 271 5 = (47 : Int32)) = (T = 47) from eqT (k := 47) h hT (by omega)]
  rw [if_neg n1, if_pos n2]
  split <;> rfl
theorem lP_g (F f i : Nat) (ν : Nm) (T : Nat) (h : gi ν 271 5 = nI T) (hT : T ≤ 131) (h0 : opsP T ≠ 0) (hi : i < 300) : Rd_readProduct_6 (G_rd F) (f + 1) (nI i) ν = (Rd_next ν).bind fun v1 => (G_rd F 2 0 v1).bind fun v2 => if zkT (gx v2) then (Tx_addCode (gx v2) (-(nI T)) v2).bind fun v4 => Rd_readProduct_6 (G_rd F) f (nI (i + 1)) v4 else none := by
  rw [Rd_readProduct_6, if_neg (by rw [show (300 : Int32) = nI 300 from rfl, nI_le' (by omega) (by omega)]; omega)]
  unfold Rd_readProduct_31
  rw [h, show nI i + (1 : Int32) = nI (i + 1) from nI_add i 1]
  by_cases c1 : T = 42
  · rw [if_pos (by rw [c1]; rfl)]
  · rw [if_neg (by rw [show (42 : Int32) = nI 42 from rfl, nI_eq' (by omega) (by omega)]; exact c1)]
    have c2 : T = 47 := by
      apply Classical.byContradiction
      intro z
      apply h0
      unfold opsP
      rw [if_neg c1, if_neg z]
    rw [if_neg (by rw [c2]; exact fun z => z rfl)]
theorem lA_s (F f i : Nat) (ν : Nm) (T : Nat) (h : gi ν 271 5 = nI T) (hT : T ≤ 131) (h0 : opsA T = 0) : Rd_readBoth_6 (G_rd F) (f + 1) (nI i) ν = some ν := by
  have n1 : T ≠ 20 := fun z => by rw [z] at h0; exact absurd h0 (by decide)
  rw [Rd_readBoth_6]
  simp only [show (gi ν 271 5 = (20 : Int32)) = (T = 20) from eqT (k := 20) h hT (by omega)]
  rw [if_pos n1]
  split <;> rfl
theorem lA_g (F f i : Nat) (ν : Nm) (T : Nat) (h : gi ν 271 5 = nI T) (hT : T ≤ 131) (h0 : opsA T ≠ 0) (hi : i < 300) : Rd_readBoth_6 (G_rd F) (f + 1) (nI i) ν = (Rd_next ν).bind fun v1 => (G_rd F 7 0 v1).bind fun v2 => if zkT (gx v2) then (Tx_addCode (gx v2) (-(nI T)) v2).bind fun v4 => Rd_readBoth_6 (G_rd F) f (nI (i + 1)) v4 else none := by
  have c1 : T = 20 := by
    apply Classical.byContradiction
    intro z
    apply h0
    unfold opsA
    rw [if_neg z]
  subst c1
  rw [Rd_readBoth_6, if_neg (by rw [show (300 : Int32) = nI 300 from rfl, nI_le' (by omega) (by omega)]; omega), h, if_neg (fun z => z rfl), show nI i + (1 : Int32) = nI (i + 1) from nI_add i 1]
  rfl
theorem lO_s (F f i : Nat) (ν : Nm) (T : Nat) (h : gi ν 271 5 = nI T) (hT : T ≤ 131) (h0 : opsO T = 0) : Rd_readEither_6 (G_rd F) (f + 1) (nI i) ν = some ν := by
  have n1 : T ≠ 19 := fun z => by rw [z] at h0; exact absurd h0 (by decide)
  rw [Rd_readEither_6]
  simp only [show (gi ν 271 5 = (19 : Int32)) = (T = 19) from eqT (k := 19) h hT (by omega)]
  rw [if_pos n1]
  split <;> rfl
theorem lO_g (F f i : Nat) (ν : Nm) (T : Nat) (h : gi ν 271 5 = nI T) (hT : T ≤ 131) (h0 : opsO T ≠ 0) (hi : i < 300) : Rd_readEither_6 (G_rd F) (f + 1) (nI i) ν = (Rd_next ν).bind fun v1 => (G_rd F 6 0 v1).bind fun v2 => if zkT (gx v2) then (Tx_addCode (gx v2) (-(nI T)) v2).bind fun v4 => Rd_readEither_6 (G_rd F) f (nI (i + 1)) v4 else none := by
  have c1 : T = 19 := by
    apply Classical.byContradiction
    intro z
    apply h0
    unfold opsO
    rw [if_neg z]
  subst c1
  rw [Rd_readEither_6, if_neg (by rw [show (300 : Int32) = nI 300 from rfl, nI_le' (by omega) (by omega)]; omega), h, if_neg (fun z => z rfl), show nI i + (1 : Int32) = nI (i + 1) from nI_add i 1]
  rfl
theorem rP_M (F : Nat) (ν : Nm) : G_rd (F + 1) 1 0 ν = (G_rd F 2 0 ν).bind fun v1 => Rd_readProduct_6 (G_rd F) FU (nI 0) v1 := by rw [G_rd, if_neg (by omega), if_pos rfl]; rfl
theorem rS_M (F : Nat) (ν : Nm) : G_rd (F + 1) 0 0 ν = (G_rd F 1 0 ν).bind fun v1 => Rd_readSum_6 (G_rd F) FU (nI 0) v1 := by rw [G_rd, if_pos rfl]; rfl
theorem rB_M (F : Nat) (ν : Nm) : G_rd (F + 1) 6 0 ν = (G_rd F 7 0 ν).bind fun v1 => Rd_readBoth_6 (G_rd F) FU (nI 0) v1 := by rw [G_rd, if_neg (by omega), if_neg (by omega), if_neg (by omega), if_neg (by omega), if_neg (by omega), if_neg (by omega), if_pos rfl]; rfl
theorem rE_M (F : Nat) (ν : Nm) : G_rd (F + 1) 5 0 ν = (G_rd F 6 0 ν).bind fun v1 => Rd_readEither_6 (G_rd F) FU (nI 0) v1 := by rw [G_rd, if_neg (by omega), if_neg (by omega), if_neg (by omega), if_neg (by omega), if_neg (by omega), if_pos rfl]; rfl
/-! The kinds of parts. -/
def GdP (β : Nat → Nat) (n L p d : Nat) (o : Oc) : Prop := Gd β n L 1 (9 * (8 - d) + 3) false 6 6 4 true stP p d o
def GdS (β : Nat → Nat) (n L p d : Nat) (o : Oc) : Prop := Gd β n L 0 (9 * (8 - d) + 4) false 5 5 3 true stS p d o
def GdA (β : Nat → Nat) (n L p d : Nat) (o : Oc) : Prop := Gd β n L 7 (9 * (8 - d) + 5) true 4 3 2 false stS p d o
def GdB (β : Nat → Nat) (n L p d : Nat) (o : Oc) : Prop := Gd β n L 6 (9 * (8 - d) + 6) true 2 2 1 false stB p d o
def GdE (β : Nat → Nat) (n L p d : Nat) (o : Oc) : Prop := Gd β n L 5 (9 * (8 - d) + 7) true 1 1 0 false stE p d o
def GdO (β : Nat → Nat) (n L p d : Nat) (o : Oc) : Prop := Gd β n L 2 (9 * (8 - d) + 2) false 7 7 5 true stO p d o ∧ ∀ (U X : List Nat) (c : List (Nat × Nat)), (∀ u ∈ U, rk u = 7) → hdR 7 X → cnO (U ++ X) = d → (U ++ X).length ≤ 6 * d + 5 → (tT β n p = 21 → askA (U ++ X) = false) → (o.1 = 0 → Rc β n L (false, p, U ++ X, c) (true, o.2.1, X, c ++ o.2.2 ++ zz U)) ∧ (o.1 ≠ 0 → Ff β n L (false, p, U ++ X, c) o.1 o.2.1)
theorem prod_ok {β : Nat → Nat} {n L d p : Nat} (hb : ∀ i, i < 300 → β i < 256) (hn : n ≤ 300) (hd : d ≤ 8) (here : ∃ o, GdO β n L p d o) (sub : ∀ q, p < q → q ≤ n → ∃ o, GdO β n L q d o) : ∃ o, GdP β n L p d o :=
  chain_ok hb hn hd (by omega) (by omega) (by omega) (by omega) (by omega) hP_o rfl lP_s lP_g rP_M (here.imp fun o h => h.1) (fun q h1 h2 => (sub q h1 h2).imp fun o h => h.1)
theorem sum_ok {β : Nat → Nat} {n L d p : Nat} (hb : ∀ i, i < 300 → β i < 256) (hn : n ≤ 300) (hd : d ≤ 8) (here : ∃ o, GdP β n L p d o) (sub : ∀ q, p < q → q ≤ n → ∃ o, GdP β n L q d o) : ∃ o, GdS β n L p d o :=
  chain_ok hb hn hd (by omega) (by omega) (by omega) (by omega) (by omega) hS_o rfl lS_s lS_g rS_M here sub
theorem both_ok {β : Nat → Nat} {n L d p : Nat} (hb : ∀ i, i < 300 → β i < 256) (hn : n ≤ 300) (hd : d ≤ 8) (here : ∃ o, GdA β n L p d o) (sub : ∀ q, p < q → q ≤ n → ∃ o, GdA β n L q d o) : ∃ o, GdB β n L p d o :=
  chain_ok hb hn hd (by omega) (by omega) (by omega) (by omega) (by omega) hA_o rfl lA_s lA_g rB_M here sub
theorem either_ok {β : Nat → Nat} {n L d p : Nat} (hb : ∀ i, i < 300 → β i < 256) (hn : n ≤ 300) (hd : d ≤ 8) (here : ∃ o, GdB β n L p d o) (sub : ∀ q, p < q → q ≤ n → ∃ o, GdB β n L q d o) : ∃ o, GdE β n L p d o :=
  chain_ok hb hn hd (by omega) (by omega) (by omega) (by omega) (by omega) hO_o rfl lO_s lO_g rE_M here sub
