/-! Runs of the machine; what a part of a sum comes to, for class and machine at once. -/
abbrev Oc : Type := Nat × Nat × List (Nat × Nat)
def Rc (β : Nat → Nat) (n L : Nat) (s s2 : Ms) : Prop := ∃ j, s.2.1 + j ≤ s2.2.1 ∧ ∀ f, mrun β n L (f + j) s = mrun β n L f s2
def Ff (β : Nat → Nat) (n L : Nat) (s : Ms) (f pl : Nat) : Prop := ∃ j s2, s.2.1 + j ≤ n ∧ tS β n s2.2.1 = pl ∧ ∀ k, mrun β n L (k + j + 1) s = some (f, s2)
theorem Rc_rfl {β : Nat → Nat} {n L : Nat} (s : Ms) : Rc β n L s s := ⟨0, Nat.le_refl _, fun f => rfl⟩
theorem Rc_tr {β : Nat → Nat} {n L : Nat} {s s2 s3 : Ms} (h : Rc β n L s s2) (h2 : Rc β n L s2 s3) : Rc β n L s s3 := by
  obtain ⟨j, j1, j2⟩ := h
  obtain ⟨i, i1, i2⟩ := h2
  exact ⟨i + j, by omega, fun f => by rw [← Nat.add_assoc, j2, i2]⟩
theorem Rc_Ff {β : Nat → Nat} {n L : Nat} {s s2 : Ms} {f pl : Nat} (h : Rc β n L s s2) (h2 : Ff β n L s2 f pl) : Ff β n L s f pl := by
  obtain ⟨j, j1, j2⟩ := h
  obtain ⟨i, s3, i1, i2, i3⟩ := h2
  exact ⟨i + j, s3, by omega, i2, fun k => by rw [show k + (i + j) + 1 = (k + i + 1) + j by omega, j2, i3]⟩
theorem Rc_beg {β : Nat → Nat} {n L p : Nat} {X : List Nat} {c : List (Nat × Nat)} {s2 : Ms} (h : mbeg β n L p X c = some (0, s2)) (hp : p + 1 ≤ s2.2.1) : Rc β n L (false, p, X, c) s2 := ⟨1, hp, fun f => by rw [mrun, h]; rfl⟩
theorem Ff_beg {β : Nat → Nat} {n L p f : Nat} {X : List Nat} {c : List (Nat × Nat)} {w : Bool} (h : mbeg β n L p X c = some (f, (w, p, X, c))) (hf : f ≠ 0) (hp : p ≤ n) : Ff β n L (false, p, X, c) f (tS β n p) := ⟨0, (w, p, X, c), hp, rfl, fun k => by rw [Nat.add_zero, mrun, h, Option.bind_some, if_neg hf]⟩
theorem Rc_beh {β : Nat → Nat} {n L p : Nat} {X : List Nat} {c : List (Nat × Nat)} {s2 : Ms} (h : mbeh β n p X c = some (true, s2)) (hp : p + 1 ≤ s2.2.1) : Rc β n L (true, p, X, c) s2 := ⟨1, hp, fun f => by rw [mrun, h]; rfl⟩
theorem Ff_beh {β : Nat → Nat} {n L p : Nat} {X : List Nat} {c : List (Nat × Nat)} (h1 : ¬ btw (tT β n p) X < 99) (h2 : prt (tT β n p) X = 99) (h3 : opn X ≠ 0) (hp : p ≤ n) : Ff β n L (true, p, X, c) 1 (tS β n p) := ⟨0, (true, p, X, c), hp, rfl, fun k => by rw [Nat.add_zero, mrun]; unfold mbeh; rw [if_neg h1, if_pos h2, Option.bind_some, if_pos rfl, if_neg h3]⟩
/-- an operation between -/
theorem Rc_op {β : Nat → Nat} {n L p o l : Nat} {X Y : List Nat} {c : List (Nat × Nat)} (hp : p ≤ n) (h0 : tT β n p ≠ 0) (h131 : tT β n p ≠ 131) (hb : btw (tT β n p) (Y ++ X) = o) (ho : o < 99) (hl : (if rk o = 4 then 5 else rk o) = l) (hY : ∀ y ∈ Y, l ≤ rk y) (hX : hdR l X) (hx : X.length < 160) : Rc β n L (true, p, Y ++ X, c) (false, tE β n p, o :: X, c ++ zz Y) := by
  have hpos := tok_pos (β := β) hp
  have := hpos.2.2.2 h0 h131
  refine Rc_beh ?_ (by show p + 1 ≤ tE β n p; omega)
  unfold mbeh psh
  rw [hb, if_pos ho, hl, stl_app Y X c hY hX, if_pos hx]
/-- what the class comes to -/
def CPo (β : Nat → Nat) (n L T d : Nat) (c : List (Nat × Nat)) (o : Oc) (ν : Nm) : Prop := (o.1 = 0 → CSt β n L T o.2.1 d (c ++ o.2.2) ν) ∧ (o.1 ≠ 0 → CFl T o.1 o.2.1 ν)
def GC (β : Nat → Nat) (n L m F p d : Nat) (o : Oc) : Prop := ∀ (T : Nat) (c : List (Nat × Nat)) (ν : Nm), okT T → CSt β n L T p d c ν → c.length ≤ p → ∃ ν2, G_rd F m 0 ν = some ν2 ∧ CPo β n L T d c o ν2 ∧ Fr (frC T) ν ν2
/-- what the machine comes to -/
def MG (β : Nat → Nat) (n L : Nat) (qf : Bool) (h l lim p d : Nat) (o : Oc) : Prop := ∀ (X : List Nat) (c : List (Nat × Nat)), cnO X = d → X.length ≤ 6 * d + lim → hdR h X → (qf = true → askA X = true) → (qf = false → tT β n p = 21 → askA X = false) → (o.1 = 0 → ∃ Y e1, (∀ y ∈ Y, l ≤ rk y) ∧ (qf = true → cmpd Y = true) ∧ o.2.2 = e1 ++ zz Y ∧ Rc β n L (false, p, X, c) (true, o.2.1, Y ++ X, c ++ e1)) ∧ (o.1 ≠ 0 → Ff β n L (false, p, X, c) o.1 o.2.1)
def PO (β : Nat → Nat) (n L p : Nat) (b : Bool) (st : Nat → Prop) (o : Oc) : Prop := (o.1 = 0 → p < o.2.1 ∧ o.2.1 ≤ n ∧ p + o.2.2.length ≤ o.2.1 ∧ (∀ s, tyL o.2.2 s = some (b :: s)) ∧ nmOK L o.2.2 ∧ st (tT β n o.2.1)) ∧ (o.1 ≠ 0 → o.1 ≤ 6 ∧ o.2.1 ≤ n)
def Gd (β : Nat → Nat) (n L m F0 : Nat) (qf : Bool) (h l lim : Nat) (b : Bool) (st : Nat → Prop) (p d : Nat) (o : Oc) : Prop := (∀ F, F0 ≤ F → GC β n L m F p d o) ∧ MG β n L qf h l lim p d o ∧ PO β n L p b st o
/-- a loop over operations of one rank -/
def LG (β : Nat → Nat) (n L F0 : Nat) (qf : Bool) (l lim : Nat) (b : Bool) (st : Nat → Prop) (Lp : Nat → Nat → Int32 → Nm → Option Nm) (p d : Nat) (o : Oc) : Prop :=
  (∀ F, F0 ≤ F → ∀ (T : Nat) (c : List (Nat × Nat)) (ν : Nm) (f i : Nat), okT T → CSt β n L T p d c ν → c.length ≤ p → i ≤ p → n < f + p → ∃ ν2, Lp F f (nI i) ν = some ν2 ∧ CPo β n L T d c o ν2 ∧ Fr (frC T) ν ν2)
  ∧ (∀ (X : List Nat) (c : List (Nat × Nat)) (Y : List Nat), cnO X = d → X.length ≤ 6 * d + lim → hdR l X → (qf = true → askA X = true) → (∀ y ∈ Y, l ≤ rk y) → (qf = true → cmpd Y = true) → (o.1 = 0 → ∃ Y2 e1, (∀ y ∈ Y2, l ≤ rk y) ∧ (qf = true → cmpd Y2 = true) ∧ zz Y ++ o.2.2 = e1 ++ zz Y2 ∧ Rc β n L (true, p, Y ++ X, c) (true, o.2.1, Y2 ++ X, c ++ e1)) ∧ (o.1 ≠ 0 → Ff β n L (true, p, Y ++ X, c) o.1 o.2.1))
  ∧ (o.1 = 0 → p ≤ o.2.1 ∧ o.2.1 ≤ n ∧ p + o.2.2.length ≤ o.2.1 ∧ (∀ s, tyL o.2.2 (b :: s) = some (b :: s)) ∧ nmOK L o.2.2 ∧ st (tT β n o.2.1)) ∧ (o.1 ≠ 0 → o.1 ≤ 6 ∧ o.2.1 ≤ n)
theorem askA_41 {X : List Nat} (h : askA X = true) : opn X = 41 ∧ cmpd X = false ∧ hdR 4 X := by
  cases X with
  | nil => cases h
  | cons o X =>
    unfold askA at h
    rw [Bool.and_eq_true, decide_eq_true_iff, decide_eq_true_iff] at h
    obtain ⟨h1, h2⟩ := h
    have hr : rk o < 4 := by
      rcases h2 with z | z
      · have := (rk_0 o).mpr z; omega
      · omega
    refine ⟨h1, ?_, hdR_cons hr⟩
    unfold cmpd
    rw [if_pos (by omega), decide_eq_false (by omega)]
theorem nmOK_nil (L : Nat) : nmOK L [] := fun x hx => by cases hx
theorem loop_ok {β : Nat → Nat} {n L m F0 l l2 h2 lim d p0 : Nat} {qf b : Bool} {ops : Nat → Nat} {st : Nat → Prop} {Lp : Nat → Nat → Int32 → Nm → Option Nm}
    (hb : ∀ i, i < 300 → β i < 256) (hn : n ≤ 300) (hd : d ≤ 8) (hlim : lim ≤ 4) (hl4 : l ≠ 4) (hl1 : 1 ≤ l) (hll : l ≤ l2)
    (ho : ∀ T, T ≤ 131 → ops T ≠ 0 → rk (ops T) = l ∧ ops T < 44 ∧ rk (ops T) < h2 ∧ opO (ops T) = false ∧ T ≠ 0 ∧ T ≠ 131 ∧ (∀ W, (qf = true → opn W = 41 ∧ cmpd W = true) → btw T W = ops T) ∧ itm (ops T, 0) = -(nI T) ∧ (∀ s, tyE (ops T, 0) (b :: b :: s) = some (b :: s)) ∧ ops T ≠ 1 ∧ (qf = true → ∀ X, opn X = 41 → askA (ops T :: X) = true) ∧ (qf = false → ∀ X, askA (ops T :: X) = false))
    (h131 : ops 131 = 0)
    (hs : ∀ F f i ν T, gi ν 271 5 = nI T → T ≤ 131 → ops T = 0 → Lp F (f + 1) (nI i) ν = some ν)
    (hg : ∀ F f i ν T, gi ν 271 5 = nI T → T ≤ 131 → ops T ≠ 0 → i < 300 → Lp F (f + 1) (nI i) ν = (Rd_next ν).bind fun v1 => (G_rd F m 0 v1).bind fun v2 => if zkT (gx v2) then (Tx_addCode (gx v2) (-(nI T)) v2).bind fun v4 => Lp F f (nI (i + 1)) v4 else none)
    (sub : ∀ q, p0 < q → q ≤ n → ∃ o, Gd β n L m F0 qf h2 l2 (lim + 1) b st q d o) :
    ∀ (k p : Nat), n ≤ p + k → p0 ≤ p → p ≤ n → st (tT β n p) → ∃ o, LG β n L F0 qf l lim b (fun T => ops T = 0 ∧ st T) Lp p d o := by
  intro k
  induction k with
  | zero =>
    intro p hk hp0 hp hst
    -- nothing is left
    have hpos := tok_pos (β := β) hp
    have hle := tT_le (ν := default) (p := p) hb hn
    have h0 : ops (tT β n p) = 0 := by
      apply Classical.byContradiction
      intro z
      obtain ⟨-, -, -, -, z1, z2, -⟩ := ho _ hle z
      have := hpos.2.2.2 z1 z2
      omega
    refine ⟨(0, p, []), fun F hF T c ν f i hT hC hc hi hf => ?_, fun X c Y x1 x2 x3 x4 x5 x6 => ⟨fun _ => ⟨Y, [], x5, x6, by rw [List.append_nil, List.nil_append], by rw [List.append_nil]; exact Rc_rfl _⟩, fun z => absurd rfl z⟩, fun _ => ⟨Nat.le_refl _, hp, by simp, fun s => rfl, nmOK_nil L, h0, hst⟩, fun z => absurd rfl z⟩
    obtain ⟨f, rfl⟩ : ∃ f2, f = f2 + 1 := ⟨f - 1, by omega⟩
    exact ⟨ν, hs F f i ν _ hC.1.2.2.1 hle h0, ⟨fun _ => by rw [List.append_nil]; exact hC, fun z => absurd rfl z⟩, Fr_rfl _ _⟩
  | succ k ih =>
    intro p hk hp0 hp hst
    have hpos := tok_pos (β := β) hp
    have hle := tT_le (ν := default) (p := p) hb hn
    by_cases h0 : ops (tT β n p) = 0
    · refine ⟨(0, p, []), fun F hF T c ν f i hT hC hc hi hf => ?_, fun X c Y x1 x2 x3 x4 x5 x6 => ⟨fun _ => ⟨Y, [], x5, x6, by rw [List.append_nil, List.nil_append], by rw [List.append_nil]; exact Rc_rfl _⟩, fun z => absurd rfl z⟩, fun _ => ⟨Nat.le_refl _, hp, by simp, fun s => rfl, nmOK_nil L, h0, hst⟩, fun z => absurd rfl z⟩
      obtain ⟨f, rfl⟩ : ∃ f2, f = f2 + 1 := ⟨f - 1, by omega⟩
      exact ⟨ν, hs F f i ν _ hC.1.2.2.1 hle h0, ⟨fun _ => by rw [List.append_nil]; exact hC, fun z => absurd rfl z⟩, Fr_rfl _ _⟩
    · obtain ⟨a1, a2, a3, a4, a5, a6, a7, a8, a9, a10, a11, a12⟩ := ho _ hle h0
      have hlt := hpos.2.2.2 a5 a6
      obtain ⟨o1, G1, M1, P1⟩ := sub (tE β n p) (by omega) hpos.2.2.1
      -- the machine, to where the part behind the sign begins
      have mop : ∀ (X : List Nat) (c : List (Nat × Nat)) (Y : List Nat), cnO X = d → X.length ≤ 6 * d + lim → hdR l X → (qf = true → askA X = true) → (∀ y ∈ Y, l ≤ rk y) → (qf = true → cmpd Y = true) → Rc β n L (true, p, Y ++ X, c) (false, tE β n p, ops (tT β n p) :: X, c ++ zz Y) := by
        intro X c Y x1 x2 x3 x4 x5 x6
        refine Rc_op hp a5 a6 (a7 _ (fun z => ⟨?_, cmpd_appT Y X (x6 z)⟩)) (by omega) (by rw [if_neg (by omega)]; exact a1) x5 x3 (by omega)
        rw [opn_app Y X (fun y hy => Nat.le_trans hl1 (x5 y hy))]
        exact (askA_41 (x4 z)).1
      have msub : ∀ (X : List Nat) (c : List (Nat × Nat)), cnO X = d → X.length ≤ 6 * d + lim → (qf = true → askA X = true) → _ := fun X c x1 x2 x4 => M1 (ops (tT β n p) :: X) c (by rw [cnO_0 a4]; exact x1) (by rw [List.length_cons]; omega) (hdR_cons a3) (fun z => a11 z X (askA_41 (x4 z)).1) (fun z _ => a12 z X)
      by_cases s1 : o1.1 = 0
      · obtain ⟨p1, p2, p3, p4, p5, p6⟩ := P1.1 s1
        obtain ⟨o2, G2, M2, P2, Q2⟩ := ih o1.2.1 (by omega) (by omega) p2 p6
        refine ⟨(o2.1, o2.2.1, o1.2.2 ++ [(ops (tT β n p), 0)] ++ o2.2.2), fun F hF T c ν f i hT hC hc hi hf => ?_, fun X c Y x1 x2 x3 x4 x5 x6 => ?_, fun z => ?_, Q2⟩
        · obtain ⟨f, rfl⟩ : ∃ f2, f = f2 + 1 := ⟨f - 1, by omega⟩
          rw [hg F f i ν _ hC.1.2.2.1 hle h0 (by omega)]
          obtain ⟨v1, b1, b2, b3⟩ := cs_next hT hp hC
          obtain ⟨v2, d1, d2, d3⟩ := G1 F hF T c v1 hT b2 (by omega)
          have d2 := d2.1 s1
          have hx2 : gx v2 = T := d2.2.2.2.2.1
          obtain ⟨v4, e1, e2, e3⟩ := cs_add hT d2 (by rw [List.length_append]; omega) (ops (tT β n p), 0)
          obtain ⟨v5, g1, g2, g3⟩ := G2 F hF T _ v4 f (i + 1) hT e2 (by rw [List.length_append, List.length_append, List.length_singleton]; omega) (by omega) (by omega)
          refine ⟨v5, ?_, ⟨fun z => ?_, fun z => g2.2 z⟩, Fr_tr b3 (Fr_tr d3 (Fr_tr e3 g3))⟩
          · rw [b1, Option.bind_some, d1, Option.bind_some, hx2, if_pos (okT_z hT), ← a8, e1, Option.bind_some]
            exact g1
          · have := g2.1 z
            rw [List.append_assoc, List.append_assoc] at this
            rw [List.append_assoc]
            exact this
        · have r1 := mop X c Y x1 x2 x3 x4 x5 x6
          obtain ⟨Y1, e1, y1, y2, y3, y4⟩ := (msub X (c ++ zz Y) x1 x2 x4).1 s1
          have eY : Y1 ++ ops (tT β n p) :: X = (Y1 ++ [ops (tT β n p)]) ++ X := by rw [List.append_assoc]; rfl
          rw [eY] at y4
          have hY1 : ∀ y ∈ Y1 ++ [ops (tT β n p)], l ≤ rk y := fun y hy => (List.mem_append.mp hy).elim (fun z => Nat.le_trans hll (y1 y z)) (fun z => by rw [List.mem_singleton.mp z, a1]; exact Nat.le_refl _)
          have hc1 : qf = true → cmpd (Y1 ++ [ops (tT β n p)]) = true := fun z => cmpd_appT _ _ (y2 z)
          obtain ⟨m1, m2⟩ := M2 X (c ++ zz Y ++ e1) (Y1 ++ [ops (tT β n p)]) x1 x2 x3 x4 hY1 hc1
          refine ⟨fun z => ?_, fun z => Rc_Ff (Rc_tr r1 y4) (m2 z)⟩
          obtain ⟨Y2, e2, k1, k2, k3, k4⟩ := m1 z
          refine ⟨Y2, zz Y ++ e1 ++ e2, k1, k2, ?_, ?_⟩
          · show zz Y ++ (o1.2.2 ++ [(ops (tT β n p), 0)] ++ o2.2.2) = zz Y ++ e1 ++ e2 ++ zz Y2
            rw [zz_app] at k3
            have k3' : zz Y1 ++ [(ops (tT β n p), 0)] ++ o2.2.2 = e2 ++ zz Y2 := k3
            rw [y3, List.append_assoc (zz Y ++ e1), ← k3']
            simp only [List.append_assoc]
          · have := Rc_tr (Rc_tr r1 y4) k4
            simp only [List.append_assoc] at this ⊢
            exact this
        · obtain ⟨q1, q2, q3, q4, q5, q6⟩ := P2 z
          refine ⟨by show p ≤ o2.2.1; omega, q2, ?_, fun s => ?_, nmOK_app (nmOK_app p5 (nmOK_op a10)) q5, q6⟩
          · show p + (o1.2.2 ++ [(ops (tT β n p), 0)] ++ o2.2.2).length ≤ o2.2.1
            rw [List.length_append, List.length_append, List.length_singleton]; omega
          · show tyL (o1.2.2 ++ [(ops (tT β n p), 0)] ++ o2.2.2) (b :: s) = some (b :: s)
            rw [tyL_app, tyL_app, p4, Option.bind_some]
            show ((tyE (ops (tT β n p), 0) (b :: b :: s)).bind (tyL [])).bind (tyL o2.2.2) = _
            rw [a9]
            exact q4 s
      · refine ⟨o1, fun F hF T c ν f i hT hC hc hi hf => ?_, fun X c Y x1 x2 x3 x4 x5 x6 => ⟨fun z => absurd z s1, fun z => Rc_Ff (mop X c Y x1 x2 x3 x4 x5 x6) ((msub X (c ++ zz Y) x1 x2 x4).2 z)⟩, fun z => absurd z s1, P1.2⟩
        obtain ⟨f, rfl⟩ : ∃ f2, f = f2 + 1 := ⟨f - 1, by omega⟩
        rw [hg F f i ν _ hC.1.2.2.1 hle h0 (by omega)]
        obtain ⟨v1, b1, b2, b3⟩ := cs_next hT hp hC
        obtain ⟨v2, d1, d2, d3⟩ := G1 F hF T c v1 hT b2 (by omega)
        have d2 := d2.2 s1
        have hx2 : gx v2 = T := d2.2.2.2.1
        obtain ⟨v4, e1, e2, e3⟩ := cf_add hT d2 (-(nI (tT β n p)))
        obtain ⟨f, rfl⟩ : ∃ f2, f = f2 + 1 := ⟨f - 1, by omega⟩
        refine ⟨v4, ?_, ⟨fun z => absurd z s1, fun _ => e2⟩, Fr_tr b3 (Fr_tr d3 e3)⟩
        rw [b1, Option.bind_some, d1, Option.bind_some, hx2, if_pos (okT_z hT), e1, Option.bind_some]
        exact hs F f (i + 1) v4 131 e2.2.2.1 (by omega) h131
