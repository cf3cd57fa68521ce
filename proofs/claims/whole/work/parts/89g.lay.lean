/-! Bundles: the model's best. -/
def mnb (ok : Nat → Bool) (R : Nat → Nat) : Nat → Option Nat
  | 0 => none
  | y + 1 => if ok y = true then (match mnb ok R y with | none => some y | some b => if R y < R b then some y else some b) else mnb ok R y
theorem mnb_lt {ok : Nat → Bool} {R : Nat → Nat} : ∀ (n b : Nat), mnb ok R n = some b → b < n ∧ ok b = true ∧ ∀ y, y < n → ok y = true → R b ≤ R y := by
  intro n
  induction n with
  | zero => intro b h; cases h
  | succ n ih =>
    intro b h
    unfold mnb at h
    by_cases q : ok n = true
    · rw [if_pos q] at h
      cases e : mnb ok R n with
      | none =>
        rw [e] at h
        have := Option.some.inj h
        subst this
        refine ⟨by omega, q, fun y hy ho => ?_⟩
        by_cases z : y = n
        · subst z; exact Nat.le_refl _
        · exfalso
          have gen : ∀ m, mnb ok R m = none → ∀ y, y < m → ¬ ok y = true := by
            intro m
            induction m with
            | zero => intro _ y hy; omega
            | succ m ihm =>
              intro hm y hy
              unfold mnb at hm
              by_cases q2 : ok m = true
              · rw [if_pos q2] at hm
                cases e2 : mnb ok R m with
                | none => rw [e2] at hm; cases hm
                | some b2 =>
                  rw [e2] at hm
                  simp only [] at hm
                  split at hm <;> cases hm
              · rw [if_neg q2] at hm
                by_cases z2 : y = m
                · subst z2; exact q2
                · exact ihm hm y (by omega)
          exact gen n e y (by omega) ho
      | some b2 =>
        rw [e] at h
        simp only [] at h
        obtain ⟨i1, i2, i3⟩ := ih b2 e
        by_cases z : R n < R b2
        · rw [if_pos z] at h
          have := Option.some.inj h
          subst this
          refine ⟨by omega, q, fun y hy ho => ?_⟩
          by_cases z2 : y = n
          · subst z2; exact Nat.le_refl _
          · have := i3 y (by omega) ho; omega
        · rw [if_neg z] at h
          have := Option.some.inj h
          subst this
          refine ⟨by omega, i2, fun y hy ho => ?_⟩
          by_cases z2 : y = n
          · subst z2; omega
          · exact i3 y (by omega) ho
    · rw [if_neg q] at h
      obtain ⟨i1, i2, i3⟩ := ih b h
      refine ⟨by omega, i2, fun y hy ho => ?_⟩
      by_cases z2 : y = n
      · subst z2; exact absurd ho q
      · exact i3 y (by omega) ho
theorem mnb_no {ok : Nat → Bool} {R : Nat → Nat} : ∀ m, mnb ok R m = none → ∀ y, y < m → ¬ ok y = true := by
  intro m
  induction m with
  | zero => intro _ y hy; omega
  | succ m ihm =>
    intro hm y hy
    unfold mnb at hm
    by_cases q2 : ok m = true
    · rw [if_pos q2] at hm
      cases e2 : mnb ok R m with
      | none => rw [e2] at hm; cases hm
      | some b2 =>
        rw [e2] at hm
        simp only [] at hm
        split at hm <;> cases hm
    · rw [if_neg q2] at hm
      by_cases z2 : y = m
      · subst z2; exact q2
      · exact ihm hm y (by omega)
def okM (a : Nat → Nat) (y : Nat) : Bool := apK a (shM a y) 4 0
def rkM (a : Nat → Nat) (y : Nat) : Nat := rkS a (shM a y)
theorem shM_16 {a : Nat → Nat} (hw : WF a) (y p : Nat) : shM a y p < 16 := by
  have hb := wb hw
  have p4 : 2 ^ a 0 ≤ 2 ^ 4 := Nat.pow_le_pow_right (by omega) hb.1
  have := ptK_lt y (p + 1) (a 0)
  unfold shM
  omega
theorem unM_lt (a : Nat → Nat) (y : Nat) : unS (shM a y) < 2 ^ a 0 := Nat.or_lt_two_pow (Nat.or_lt_two_pow (Nat.or_lt_two_pow (ptK_lt _ _ _) (ptK_lt _ _ _)) (ptK_lt _ _ _)) (ptK_lt _ _ _)
/-- nothing is shared only where nothing is wanted -/
theorem ok_un {a : Nat → Nat} {y b : Nat} (hy : okM a y = true) (hb : okM a b = true) (h0 : unS (shM a b) = 0) : unS (shM a y) = 0 := by
  unfold okM apK apK apK apK apK at hy hb
  simp only [Nat.zero_add, Nat.reduceAdd, Bool.and_eq_true, Bool.and_true] at hy hb
  obtain ⟨y0, y1, y2, y3⟩ := hy
  obtain ⟨b0, -⟩ := hb
  have h00 : shM a b 0 = 0 := by
    have l1 : shM a b 0 ≤ unS (shM a b) := Nat.le_trans (Nat.le_trans Nat.left_le_or Nat.left_le_or) Nat.left_le_or
    omega
  have w0 : ¬ 0 < a 5 := by
    intro q
    rw [if_pos q, Bool.and_eq_true, decide_eq_true_iff] at b0
    exact b0.1 h00
  rw [if_neg (by omega), decide_eq_true_iff] at y0 y1 y2 y3
  unfold unS
  rw [y0, y1, y2, y3]
  rfl
def lxS (S : Nat → Nat) : Nat := ((S 0 * 16 + S 1) * 16 + S 2) * 16 + S 3
theorem rkS_lx (a : Nat → Nat) (S : Nat → Nat) : rkS a S = (coA a (unS S) * 16 + unS S) * 65536 + lxS S := by unfold rkS lxS; omega
theorem m_lower {S B : Nat → Nat} (hS : ∀ p, S p < 16) (hB : ∀ p, B p < 16) {ν : Nm} (h1 : ∀ p, p < 4 → gi ν 329 (p + 1) = nI (S p)) (h2 : ∀ p, p < 4 → gi ν 330 (p + 1) = nI (B p)) : Md_isLower ν = some (decide (lxS S < lxS B)) := by
  have st : ∀ (f p : Nat), p < 4 → Md_isLower_2 ν (f + 1) (nI (p + 1)) = if S p = B p then Md_isLower_2 ν f (nI (p + 1 + 1)) else if B p ≤ S p then some false else some true := by
    intro f p hp
    have s1 := hS p
    have s2 := hB p
    rw [Md_isLower_2, if_neg (by rw [show (5 : Int32) = nI 5 from rfl, nI_le' (by omega) (by omega)]; omega), inb_nI (by omega), nI_clamp (by omega)]
    simp only [dT (show p + 1 < 5 by omega), if_true]
    rw [h1 p hp, h2 p hp, show nI (p + 1) + 1 = nI (p + 1 + 1) from nI_add (p + 1) 1]
    simp only [nI_eq' (show S p < 2 ^ 31 by omega) (show B p < 2 ^ 31 by omega), nI_le' (show B p < 2 ^ 31 by omega) (show S p < 2 ^ 31 by omega)]
  obtain ⟨f, hf⟩ : ∃ f, FU = f + 5 := ⟨FU - 5, by unfold FU; omega⟩
  have a0 := hS 0
  have a1 := hS 1
  have a2 := hS 2
  have a3 := hS 3
  have b0 := hB 0
  have b1 := hB 1
  have b2 := hB 2
  have b3 := hB 3
  unfold Md_isLower
  show Md_isLower_2 ν FU (nI (0 + 1)) = _
  rw [hf, st _ 0 (by omega)]
  unfold lxS
  by_cases e0 : S 0 = B 0
  · rw [if_pos e0, st _ 1 (by omega)]
    by_cases e1 : S 1 = B 1
    · rw [if_pos e1, st _ 2 (by omega)]
      by_cases e2 : S 2 = B 2
      · rw [if_pos e2, st _ 3 (by omega)]
        by_cases e3 : S 3 = B 3
        · rw [if_pos e3, Md_isLower_2, if_pos (by decide), decide_eq_false (by omega)]
        · rw [if_neg e3]
          by_cases z : B 3 ≤ S 3
          · rw [if_pos z, decide_eq_false (by omega)]
          · rw [if_neg z, decide_eq_true (by omega)]
      · rw [if_neg e2]
        by_cases z : B 2 ≤ S 2
        · rw [if_pos z, decide_eq_false (by omega)]
        · rw [if_neg z, decide_eq_true (by omega)]
    · rw [if_neg e1]
      by_cases z : B 1 ≤ S 1
      · rw [if_pos z, decide_eq_false (by omega)]
      · rw [if_neg z, decide_eq_true (by omega)]
  · rw [if_neg e0]
    by_cases z : B 0 ≤ S 0
    · rw [if_pos z, decide_eq_false (by omega)]
    · rw [if_neg z, decide_eq_true (by omega)]
theorem m_copy {a : Nat → Nat} {ν0 : Nm} {T : Nat → Nat} (k28 : Int32 → Int32 → Int32 → Nm → Option (Int32 × Nm)) (x1 x2 x3 : Int32) : ∀ (k f i : Nat) (ν : Nm), i + k = 5 → k < f → MR a ν0 ν → (∀ p, p < 5 → gi ν 329 p = nI (T p)) → (∀ p, p < i → gi ν 330 p = nI (T p)) → ∃ ν2, Md_layBundle_157 k28 f x1 x2 x3 (nI i) ν = k28 x1 x2 (x3 + 1) ν2 ∧ MR a ν0 ν2 ∧ ∀ p, p < 5 → gi ν2 330 p = nI (T p) := by
  intro k
  induction k with
  | zero =>
    intro f i ν hi hf h hP hQ
    obtain ⟨f, rfl⟩ := fsucc hf
    exact ⟨ν, by rw [Md_layBundle_157, if_pos (by rw [show (5 : Int32) = nI 5 from rfl, nI_le' (by omega) (by omega)]; omega)]; rfl, h, fun p hp => hQ p (by omega)⟩
  | succ k ih =>
    intro f i ν hi hf h hP hQ
    obtain ⟨f, rfl⟩ := fsucc hf
    rw [Md_layBundle_157, if_neg (by rw [show (5 : Int32) = nI 5 from rfl, nI_le' (by omega) (by omega)]; omega), inb_nI (by omega), nI_clamp (by omega)]
    simp only [dT (show i < 5 by omega), if_true]
    rw [hP i (by omega), show nI i + 1 = nI (i + 1) from nI_add i 1]
    refine ih f (i + 1) _ (by omega) (by omega) (MR_si h _ (by omega)) (fun p hp => by rw [gi_si_q _ _ _ _ (by omega)]; exact hP p hp) (fun p hp => ?_)
    by_cases z : p = i
    · subst z; rw [gi_si_s]
    · rw [gi_si_j _ _ _ z]; exact hQ p (by omega)
def enM (a : Nat → Nat) (o : Option Nat) : Int32 := match o with
  | none => -1
  | some b => nI (unS (shM a b))
theorem m_lay28 {a : Nat → Nat} (hw : WF a) {ν0 : Nm} {N : Nat} (hN : N ≤ 625) : ∀ (k f y : Nat) (ν : Nm), y + k = N → k < f → MR a ν0 ν → (∀ b, mnb (okM a) (rkM a) y = some b → ∀ p, p < 5 → gi ν 330 p = nI (ptK b p (a 0))) → ∃ ν2, Md_layBundle_28 f (nI N) (enM a (mnb (okM a) (rkM a) y)) (nI y) ν = some (enM a (mnb (okM a) (rkM a) N), ν2) ∧ MR a ν0 ν2 ∧ ∀ b, mnb (okM a) (rkM a) N = some b → ∀ p, p < 5 → gi ν2 330 p = nI (ptK b p (a 0)) := by
  have hb := wb hw
  have p4 : 2 ^ a 0 ≤ 2 ^ 4 := Nat.pow_le_pow_right (by omega) hb.1
  intro k
  induction k with
  | zero =>
    intro f y ν hy hf h hB
    obtain ⟨f, rfl⟩ := fsucc hf
    obtain rfl : y = N := by omega
    exact ⟨ν, by rw [Md_layBundle_28, if_pos (by rw [nI_le' (by omega) (by omega)]; omega)], h, hB⟩
  | succ k ih =>
    intro f y ν hy hf h hB
    obtain ⟨f, rfl⟩ := fsucc hf
    obtain ⟨ν1, p1, p2, p3, p5⟩ := m_parts hw h (y := y) (by omega)
    have hM1 := MR_M p2
    have hU := unM_lt a y
    have eu : (((gi ν1 329 1) ||| (gi ν1 329 2)) ||| (gi ν1 329 3)) ||| (gi ν1 329 4) = nI (unS (shM a y)) := by
      rw [p3 1 (by omega), p3 2 (by omega), p3 3 (by omega), p3 4 (by omega), nI_or, nI_or, nI_or]; rfl
    have en : mnb (okM a) (rkM a) (y + 1) = if okM a y = true then (match mnb (okM a) (rkM a) y with | none => some y | some b => if rkM a y < rkM a b then some y else some b) else mnb (okM a) (rkM a) y := rfl
    have ey : nI y + 1 = nI (y + 1) := nI_add y 1
    -- it is taken
    have take : mnb (okM a) (rkM a) (y + 1) = some y → ∃ ν2, Md_layBundle_151 (Md_layBundle_28 f) (nI N) (nI y) (nI (unS (shM a y))) ν1 = some (enM a (mnb (okM a) (rkM a) N), ν2) ∧ MR a ν0 ν2 ∧ ∀ b, mnb (okM a) (rkM a) N = some b → ∀ p, p < 5 → gi ν2 330 p = nI (ptK b p (a 0)) := by
      intro e
      obtain ⟨ν2, c1, c2, c3⟩ := m_copy (T := fun p => ptK y p (a 0)) (Md_layBundle_28 f) (nI N) (nI (unS (shM a y))) (nI y) 5 FU 0 ν1 (by omega) (by unfold FU; omega) p2 p3 (fun p hp => by omega)
      have := ih f (y + 1) ν2 (by omega) (by omega) c2 (fun b eb => by rw [e] at eb; have := Option.some.inj eb; subst this; exact c3)
      rw [e] at this
      unfold Md_layBundle_151
      have c1' : Md_layBundle_157 (Md_layBundle_28 f) FU (nI N) (nI (unS (shM a y))) (nI y) 0 ν1 = _ := c1
      rw [c1', ey]
      exact this
    -- it is not
    have leave : mnb (okM a) (rkM a) (y + 1) = mnb (okM a) (rkM a) y → ∃ ν2, Md_layBundle_183 (Md_layBundle_28 f) (nI N) (enM a (mnb (okM a) (rkM a) y)) (nI y) ν1 = some (enM a (mnb (okM a) (rkM a) N), ν2) ∧ MR a ν0 ν2 ∧ ∀ b, mnb (okM a) (rkM a) N = some b → ∀ p, p < 5 → gi ν2 330 p = nI (ptK b p (a 0)) := by
      intro e
      have := ih f (y + 1) ν1 (by omega) (by omega) p2 (fun b eb p hp => by rw [p5 _ _ (by omega)]; rw [e] at eb; exact hB b eb p hp)
      rw [e] at this
      unfold Md_layBundle_183
      rw [ey]
      exact this
    rw [Md_layBundle_28, if_neg (by rw [nI_le' (by omega) (by omega)]; omega), p1, Option.bind_some]
    simp only []
    rw [eu]
    have eo : apK a (shM a y) 4 0 = okM a y := rfl
    rw [eo]
    by_cases q : okM a y = true
    · rw [if_pos q] at en
      rw [q, if_pos (by rw [b2iT]; exact id)]
      cases e : mnb (okM a) (rkM a) y with
      | none =>
        rw [e] at en
        rw [show enM a none = -1 from rfl, if_pos rfl]
        unfold Md_layBundle_108 Md_layBundle_109
        have ch := m_cheaper hM1 hw (s := unS (shM a y)) (b := 0) hU (by have := Nat.one_le_two_pow (n := a 0); omega)
        rw [if_pos rfl, show (-1 : Int32) = enB 0 from rfl, ch, Option.bind_some, if_pos (by rw [decide_eq_true rfl, Bool.true_or, b2iT]; exact id)]
        exact take en
      | some b =>
        rw [e] at en leave
        simp only [] at en
        obtain ⟨-, okb, -⟩ := mnb_lt y b e
        have hV := unM_lt a b
        have hB' : ∀ p, p < 5 → gi ν1 330 p = nI (ptK b p (a 0)) := fun p hp => by rw [p5 _ _ (by omega)]; exact hB b e p hp
        have l1 : lxS (shM a y) < 65536 := by
          have h0 := shM_16 hw y 0; have h1 := shM_16 hw y 1; have h2 := shM_16 hw y 2; have h3 := shM_16 hw y 3
          unfold lxS; omega
        have l2 : lxS (shM a b) < 65536 := by
          have h0 := shM_16 hw b 0; have h1 := shM_16 hw b 1; have h2 := shM_16 hw b 2; have h3 := shM_16 hw b 3
          unfold lxS; omega
        have r1 : rkM a y = (coA a (unS (shM a y)) * 16 + unS (shM a y)) * 65536 + lxS (shM a y) := rkS_lx a _
        have r2 : rkM a b = (coA a (unS (shM a b)) * 16 + unS (shM a b)) * 65536 + lxS (shM a b) := rkS_lx a _
        have low := m_lower (S := shM a y) (B := shM a b) (shM_16 hw y) (shM_16 hw b) (ν := ν1) (fun p hp => p3 (p + 1) (by omega)) (fun p hp => hB' (p + 1) (by omega))
        have bz : coA a (unS (shM a y)) ≠ coA a (unS (shM a b)) → unS (shM a b) ≠ 0 := by
          intro z w
          have := ok_un q okb w
          rw [this, w] at z
          exact z rfl
        have pcy := pc_4 (unS (shM a y)) (by omega)
        have pcb := pc_4 (unS (shM a b)) (by omega)
        have cy : coA a (unS (shM a y)) = prA a (unS (shM a y)) * 5 + pc16 (unS (shM a y)) := rfl
        have cb : coA a (unS (shM a b)) = prA a (unS (shM a b)) * 5 + pc16 (unS (shM a b)) := rfl
        have py := prA_le hw (unS (shM a y))
        have pb := prA_le hw (unS (shM a b))
        have eM : enM a (some b) = nI (unS (shM a b)) := rfl
        rw [eM] at leave ⊢
        generalize hUy : unS (shM a y) = U at *
        generalize hVb : unS (shM a b) = V at *
        have far : coA a U ≠ coA a V → ∃ ν2, Md_layBundle_108 (Md_layBundle_28 f) (nI N) (nI V) (nI y) (nI U) ν1 = some (enM a (mnb (okM a) (rkM a) N), ν2) ∧ MR a ν0 ν2 ∧ ∀ b, mnb (okM a) (rkM a) N = some b → ∀ p, p < 5 → gi ν2 330 p = nI (ptK b p (a 0)) := by
          intro z
          have ch := m_cheaper hM1 hw (s := U) (b := V) hU hV
          rw [enB_n (bz z)] at ch
          unfold Md_layBundle_108 Md_layBundle_109
          rw [if_pos rfl, ch, Option.bind_some, decide_eq_false (bz z), Bool.false_or]
          by_cases w : coA a U < coA a V
          · rw [decide_eq_true w, if_pos (by rw [b2iT]; exact id)]
            exact take (by rw [en, if_pos (by omega)])
          · rw [decide_eq_false w, if_neg (by rw [b2iF]; simp)]
            exact leave (by rw [en, if_neg (by omega)])
        rw [if_neg (neg1 (by omega)), m_price hM1 hw hU, Option.bind_some, m_price hM1 hw hV, Option.bind_some]
        by_cases zp : prA a U = prA a V
        · rw [if_neg (by rw [zp]; exact fun w => w rfl), bits_in U (by omega), Option.bind_some, bits_in V (by omega), Option.bind_some]
          by_cases zc : pc16 U = pc16 V
          · have ec : coA a U = coA a V := by omega
            rw [if_neg (by rw [zc]; exact fun w => w rfl)]
            unfold Md_layBundle_109
            rw [if_neg (by decide)]
            by_cases zu : U < V
            · rw [if_pos (by rw [nI_lt' (by omega) (by omega)]; exact zu)]
              exact take (by rw [en, if_pos (by omega)])
            · rw [if_neg (by rw [nI_lt' (by omega) (by omega)]; exact zu)]
              by_cases ze : U = V
              · rw [if_neg (by rw [ze]; exact fun w => w rfl), low, Option.bind_some]
                by_cases zl : lxS (shM a y) < lxS (shM a b)
                · rw [decide_eq_true zl, if_neg (by rw [b2iT]; exact id)]
                  exact take (by rw [en, if_pos (by omega)])
                · rw [decide_eq_false zl, if_pos (by rw [b2iF]; exact True.intro)]
                  exact leave (by rw [en, if_neg (by omega)])
              · rw [if_pos (by rw [nI_eq' (by omega) (by omega)]; exact ze)]
                exact leave (by rw [en, if_neg (by omega)])
          · rw [if_pos (by rw [nI_eq' (by omega) (by omega)]; exact zc)]
            exact far (by omega)
        · rw [if_pos (by rw [nI_eq' (by omega) (by omega)]; exact zp)]
          exact far (by omega)
    · rw [if_neg q] at en
      rw [Bool.eq_false_iff.mpr q, if_neg (by rw [b2iF]; simp)]
      exact leave en
