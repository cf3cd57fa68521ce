/-! Crews, and what to take. -/
theorem GTb_keep {n T : Nat} {p q : Nat → Bool} {x : Nat} {ν ν2 : Nm} (h : GTb n T p q x ν) (k : ∀ j, gi ν2 x j = gi ν x j) : GTb n T p q x ν2 := fun code h1 h2 => by rw [k]; exact h code h1 h2
/-- while the codes of T held cords are gone through, up to i -/
def GP (n T i : Nat) (p q : Nat → Bool) (x : Nat) (ν : Nm) : Prop := ∀ code, rel n code → (T + 1 ≤ nh code ∨ (nh code = T ∧ code < i)) → gi ν x code = cV n (n - nh code) p q code
theorem m_games9 {a : Nat → Nat} {ν0 : Nm} (hw : WF a) {v1 v2 : Nat} (h1 : v1 ≤ 15360) (h2 : v2 ≤ 15360) (k2 : Int32 → Int32 → Int32 → Nm → Option Nm) {T : Nat} (hT : T ≤ 4) : ∀ (k f i : Nat) (ν : Nm), i + k = 256 → k < f → MR a ν0 ν → GP (a 0) T i (gvP a v1) (gvP a v2) 331 ν → GP (a 0) T i (gvP a v2) (gvP a v1) 332 ν → ∃ ν2, Md_layGames_9 k2 f (nI v1) (nI v2) (nI T) (nI i) ν = k2 (nI v1) (nI v2) (nI T - 1) ν2 ∧ MR a ν0 ν2 ∧ GTb (a 0) T (gvP a v1) (gvP a v2) 331 ν2 ∧ GTb (a 0) T (gvP a v2) (gvP a v1) 332 ν2 := by
  have hb4 := (wb hw).1
  intro k
  induction k with
  | zero =>
    intro f i ν hi hf h hG1 hG2
    obtain ⟨f, rfl⟩ := fsucc hf
    refine ⟨ν, ?_, h, fun code hr ht => ?_, fun code hr ht => ?_⟩
    · rw [Md_layGames_9, if_pos (by rw [show (256 : Int32) = nI 256 from rfl, nI_le' (by omega) (by omega)]; omega), show nI T + (-1 : Int32) = nI T - 1 from (Int32.sub_eq_add_neg _ _).symm]
    · exact hG1 code hr (by have := hr.1; omega)
    · exact hG2 code hr (by have := hr.1; omega)
  | succ k ih =>
    intro f i ν hi hf h hG1 hG2
    obtain ⟨f, rfl⟩ := fsucc hf
    have hi6 : i < 256 := by omega
    have e1 : nI i + 1 = nI (i + 1) := nI_add i 1
    rw [Md_layGames_9, if_neg (by rw [show (256 : Int32) = nI 256 from rfl, nI_le' (by omega) (by omega)]; omega), cf5 i hi6, Option.bind_some]
    unfold Md_layGames_79
    rw [e1]
    -- a code that is passed over
    have skip : ¬ (rel (a 0) i ∧ nh i = T) → ∃ ν2, Md_layGames_9 k2 f (nI v1) (nI v2) (nI T) (nI (i + 1)) ν = k2 (nI v1) (nI v2) (nI T - 1) ν2 ∧ MR a ν0 ν2 ∧ GTb (a 0) T (gvP a v1) (gvP a v2) 331 ν2 ∧ GTb (a 0) T (gvP a v2) (gvP a v1) 332 ν2 := by
      intro hn
      refine ih f (i + 1) ν (by omega) (by omega) h (fun code hr hc => hG1 code hr ?_) (fun code hr hc => hG2 code hr ?_)
      · rcases hc with z | ⟨z1, z2⟩
        · exact Or.inl z
        · by_cases y : code = i
          · subst y; exact absurd ⟨hr, z1⟩ hn
          · exact Or.inr ⟨z1, by omega⟩
      · rcases hc with z | ⟨z1, z2⟩
        · exact Or.inl z
        · by_cases y : code = i
          · subst y; exact absurd ⟨hr, z1⟩ hn
          · exact Or.inr ⟨z1, by omega⟩
    by_cases hic : ic i = true
    · obtain ⟨c1, c2⟩ := cf6 i hi6 hic
      rw [hic, if_neg (by rw [b2iT]; exact id), show (0 : Int32) = nI 0 from rfl, cf1 i hi6 0 (by omega), Option.bind_some, c1, Option.bind_some]
      have zz : (nI (4 - nh i) = (4 : Int32) - nI T) = (nh i = T) := by
        rw [show (4 : Int32) - nI T = nI (4 - T) from nI_sub (a := 4) hT, nI_eq' (by omega) (by omega)]
        exact propext (by omega)
      simp only [zz]
      by_cases hnT : nh i = T
      · rw [if_pos hnT, inb_nI (by omega), nI_clamp (by omega)]
        simp only [dT hi6, if_true]
        by_cases hrel : rel (a 0) i
        · -- a position that a run can come to
          have g2 : GTb (a 0) (T + 1) (gvP a v2) (gvP a v1) 332 ν := fun code hr ht => hG2 code hr (Or.inl ht)
          obtain ⟨ν1, p1, p2, p3⟩ := m_bestV h hw h1 (x := 332) (Or.inr rfl) hrel hnT g2
          rw [p1, Option.bind_some]
          simp only []
          have m1 := MR_si p2 (q := 331) (j := i) (cV (a 0) (a 0 - nh i) (gvP a v1) (gvP a v2) i) (by omega)
          have g1 : GTb (a 0) (T + 1) (gvP a v1) (gvP a v2) 331 (si ν1 331 i (cV (a 0) (a 0 - nh i) (gvP a v1) (gvP a v2) i)) := fun code hr ht => by
            rw [gi_si_j _ _ _ (by rintro rfl; omega), p3.1 _ _ (by omega)]; exact hG1 code hr (Or.inl ht)
          obtain ⟨ν3, q1, q2, q3⟩ := m_bestV m1 hw h2 (x := 331) (Or.inl rfl) hrel hnT g1
          rw [q1, Option.bind_some]
          simp only []
          have m3 := MR_si q2 (q := 332) (j := i) (cV (a 0) (a 0 - nh i) (gvP a v2) (gvP a v1) i) (by omega)
          refine ih f (i + 1) _ (by omega) (by omega) m3 (fun code hr hc => ?_) (fun code hr hc => ?_)
          · rw [gi_si_q _ _ _ _ (by omega), q3.1 _ _ (by omega)]
            by_cases y : code = i
            · subst y; rw [gi_si_s]
            · rw [gi_si_j _ _ _ y, p3.1 _ _ (by omega)]
              exact hG1 code hr (by rcases hc with z | ⟨z1, z2⟩; exact Or.inl z; exact Or.inr ⟨z1, by omega⟩)
          · by_cases y : code = i
            · subst y; rw [gi_si_s]
            · rw [gi_si_j _ _ _ y, q3.1 _ _ (by omega), gi_si_q _ _ _ _ (by omega), p3.1 _ _ (by omega)]
              exact hG2 code hr (by rcases hc with z | ⟨z1, z2⟩; exact Or.inl z; exact Or.inr ⟨z1, by omega⟩)
        · obtain ⟨ν1, p1, p2, p3⟩ := m_best hw h1 hi6 (x := 332) (Or.inr rfl) ν (a 0) FU 0 1000000 ν (by omega) (by unfold FU; omega) h (Fr_rfl _ _)
          have p1' : Md_bestOf (nI i) (nI v1) 332 ν = _ := p1
          rw [p1', Option.bind_some]
          simp only []
          generalize bo (fun c => tkM a v1 332 i c ν) (fun c => decide (dc i c = 0)) (a 0) 0 1000000 = w1
          have m1 := MR_si p2 (q := 331) (j := i) w1 (by omega)
          obtain ⟨ν3, q1, q2, q3⟩ := m_best hw h2 hi6 (x := 331) (Or.inl rfl) (si ν1 331 i w1) (a 0) FU 0 1000000 (si ν1 331 i w1) (by omega) (by unfold FU; omega) m1 (Fr_rfl _ _)
          have q1' : Md_bestOf (nI i) (nI v2) 331 (si ν1 331 i w1) = _ := q1
          rw [q1', Option.bind_some]
          simp only []
          generalize bo (fun c => tkM a v2 331 i c (si ν1 331 i w1)) (fun c => decide (dc i c = 0)) (a 0) 0 1000000 = w2
          have m3 := MR_si q2 (q := 332) (j := i) w2 (by omega)
          refine ih f (i + 1) _ (by omega) (by omega) m3 (fun code hr hc => ?_) (fun code hr hc => ?_)
          · have y : code ≠ i := by rintro rfl; exact hrel hr
            rw [gi_si_q _ _ _ _ (by omega), q3.1 _ _ (by omega), gi_si_j _ _ _ y, p3.1 _ _ (by omega)]
            exact hG1 code hr (by rcases hc with z | ⟨z1, z2⟩; exact Or.inl z; exact Or.inr ⟨z1, by omega⟩)
          · have y : code ≠ i := by rintro rfl; exact hrel hr
            rw [gi_si_j _ _ _ y, q3.1 _ _ (by omega), gi_si_q _ _ _ _ (by omega), p3.1 _ _ (by omega)]
            exact hG2 code hr (by rcases hc with z | ⟨z1, z2⟩; exact Or.inl z; exact Or.inr ⟨z1, by omega⟩)
      · rw [if_neg hnT]
        exact skip (fun z => hnT z.2)
    · rw [Bool.eq_false_iff.mpr hic, if_pos (by rw [b2iF]; exact True.intro)]
      exact skip (fun z => hic z.1.2.1)
theorem m_games2 {a : Nat → Nat} {ν0 : Nm} (hw : WF a) {v1 v2 : Nat} (h1 : v1 ≤ 15360) (h2 : v2 ≤ 15360) : ∀ (T f : Nat) (ν : Nm), T ≤ 5 → T < f → MR a ν0 ν → GTb (a 0) T (gvP a v1) (gvP a v2) 331 ν → GTb (a 0) T (gvP a v2) (gvP a v1) 332 ν → ∃ ν2, Md_layGames_2 f (nI v1) (nI v2) (nI T - 1) ν = some ν2 ∧ MR a ν0 ν2 ∧ GTb (a 0) 0 (gvP a v1) (gvP a v2) 331 ν2 ∧ GTb (a 0) 0 (gvP a v2) (gvP a v1) 332 ν2 := by
  intro T
  induction T with
  | zero =>
    intro f ν _ hf h hG1 hG2
    obtain ⟨f, rfl⟩ := fsucc hf
    exact ⟨ν, by rw [Md_layGames_2, if_pos (by decide)], h, hG1, hG2⟩
  | succ T ih =>
    intro f ν hT hf h hG1 hG2
    obtain ⟨f, rfl⟩ := fsucc hf
    have e : nI (T + 1) - 1 = nI T := nI_sub (b := 1) (by omega)
    obtain ⟨ν1, p1, p2, p3, p4⟩ := m_games9 hw h1 h2 (Md_layGames_2 f) (show T ≤ 4 by omega) 256 FU 0 ν (by omega) (by unfold FU; omega) h (fun code hr hc => hG1 code hr (by omega)) (fun code hr hc => hG2 code hr (by omega))
    obtain ⟨ν2, q1, q2, q3, q4⟩ := ih f ν1 (by omega) (by omega) p2 p3 p4
    refine ⟨ν2, ?_, q2, q3, q4⟩
    rw [Md_layGames_2, e, if_neg (nI_pos (by omega)), show (0 : Int32) = nI 0 from rfl, p1]
    exact q1
theorem m_games {a : Nat → Nat} {ν0 ν : Nm} (h : MR a ν0 ν) (hw : WF a) {v1 v2 : Nat} (h1 : v1 ≤ 15360) (h2 : v2 ≤ 15360) : ∃ ν2, Md_layGames (nI v1) (nI v2) ν = some ν2 ∧ MR a ν0 ν2 ∧ GTb (a 0) 0 (gvP a v1) (gvP a v2) 331 ν2 ∧ GTb (a 0) 0 (gvP a v2) (gvP a v1) 332 ν2 := by
  have n5 : ∀ code, rel (a 0) code → ¬ 5 ≤ nh code := fun code hr z => by have := (cf6 code hr.1 hr.2.1).2; omega
  exact m_games2 hw h1 h2 5 FU ν (by omega) (by unfold FU; omega) h (fun code hr z => absurd z (n5 code hr)) (fun code hr z => absurd z (n5 code hr))
theorem rel_0 (n : Nat) : rel n 0 ∧ nh 0 = 0 ∧ hb 0 1 = 0 ∧ hb 0 2 = 0 := ⟨⟨by decide, by decide, Nat.pow_pos (by decide), Nat.pow_pos (by decide)⟩, by decide, by decide, by decide⟩
theorem st_crews {a b : Nat → Nat} {ν : Nm} (h : Inv a b tau ν) (x y : Int32) : Step tau (Fm_crews x y) (Md_crews x y) ν := by
  have hw := h.1
  have hb4 := (wb hw).1
  obtain ⟨r0', n0, h01, h02⟩ := rel_0 (a 0)
  rcases span_cases x with ⟨v1, u1, u2, rfl, u3⟩ | ⟨u1, u3⟩
  · rcases span_cases y with ⟨v2, w1, w2, rfl, w3⟩ | ⟨w1, w3⟩
    · obtain ⟨ν1, p1, p2⟩ := c_setsGi (CQ_0 h) hw u1 u2
      obtain ⟨ν2, q1, q2⟩ := c_setsGi p2 hw w1 w2
      obtain ⟨ν3, s1, s2, s3, s4⟩ := m_games (MR_0 h q2) hw u2 w2
      have co := c_crew hb4 (a 0) FR 0 (gvP a v1) (gvP a v2) (by unfold FR; omega) r0'.1 r0'.2.1 r0'.2.2.1 r0'.2.2.2 (by omega)
      rw [h01, h02] at co
      refine ⟨cV (a 0) (a 0) (gvP a v1) (gvP a v2) 0, ν2, ν3, a, b, ?_, ?_, Inv_Q h q2 s2⟩
      · unfold Fm_crews
        rw [isSpan_eq, isSpan_eq, u3, Option.bind_some, if_neg (by rw [b2iT]; exact id), w3, Option.bind_some, if_pos (by rw [b2iT]; exact id), p1, Option.bind_some]
        simp only []
        rw [q1, Option.bind_some]
        simp only []
        rw [c_all (CQ_C q2) hw, Option.bind_some, show (0 : Int32) = nI 0 from rfl, co, Option.bind_some]
      · unfold Md_crews
        rw [u3, Option.bind_some, if_neg (by rw [b2iT]; exact id), w3, Option.bind_some, if_pos (by rw [b2iT]; exact id), s1, Option.bind_some, s3 0 r0' (by omega), n0, Nat.sub_zero]
    · exact Step_no h (-2) (by unfold Fm_crews; rw [isSpan_eq, isSpan_eq, u3, Option.bind_some, w3]; rfl) (by unfold Md_crews; rw [u3, Option.bind_some, w3]; rfl)
  · exact Step_no h (-2) (by unfold Fm_crews; rw [isSpan_eq, u3]; rfl) (by unfold Md_crews; rw [u3]; rfl)
/-- the first that is as good as the best -/
def tkF (tk : Nat → Int32) (best : Int32) : Nat → Nat → Int32
  | 0, _ => -1
  | k + 1, c => if tk c = best then nI c else tkF tk best k (c + 1)
def tk0 (a : Nat → Nat) (v1 v2 c : Nat) : Int32 := if gvP a v1 (2 ^ c) = true then 1 else -(cV (a 0) (a 0 - 1) (gvP a v2) (gvP a v1) (tnc (4 ^ c)))
theorem dc0 : ∀ c, c < 4 → dc 0 c = 0 := by decide
theorem c_first {a : Nat → Nat} (hw : WF a) (v1 v2 : Nat) (best : Int32) : ∀ (k f c : Nat), c + k = 4 → k < f → Cr_bestFirst_12 f (nI (mask (gvP a v1) (2 ^ a 0))) (nI (mask (gvP a v2) (2 ^ a 0))) (nI (2 ^ a 0 - 1)) best (nI c) = some (tkF (tk0 a v1 v2) best (a 0 - c) c) := by
  have hb4 := (wb hw).1
  have p4 : 2 ^ a 0 ≤ 2 ^ 4 := Nat.pow_le_pow_right (by omega) hb4
  have p0 : 1 ≤ 2 ^ a 0 := Nat.one_le_two_pow
  obtain ⟨r0', n0, h01, h02⟩ := rel_0 (a 0)
  intro k
  induction k with
  | zero =>
    intro f c hc hf
    obtain ⟨f, rfl⟩ := fsucc hf
    rw [Cr_bestFirst_12, if_pos (by rw [show (4 : Int32) = nI 4 from rfl, nI_le' (by omega) (by omega)]; omega), show a 0 - c = 0 by omega]; rfl
  | succ k ih =>
    intro f c hc hf
    obtain ⟨f, rfl⟩ := fsucc hf
    have h4 : c < 4 := by omega
    have e1 : nI c + 1 = nI (c + 1) := nI_add c 1
    have bt : ((nI (2 ^ a 0 - 1) >>> (nI c &&& 31)) &&& 1 = 0) = ¬ (c < a 0) := by
      apply propext
      rw [bit_tst (by omega) (by omega)]
      have kk : ∀ n, n < 5 → ∀ c, c < 4 → (((2 ^ n - 1) / 2 ^ c % 2 = 1) ↔ c < n) := by decide
      rw [kk (a 0) (by omega) c h4]
    rw [Cr_bestFirst_12, if_neg (by rw [show (4 : Int32) = nI 4 from rfl, nI_le' (by omega) (by omega)]; omega)]
    simp only [bt]
    unfold Cr_bestFirst_32 Cr_bestFirst_57
    rw [e1]
    by_cases hca : c < a 0
    · rw [if_neg (by simp [hca]), if_neg (by decide)]
      have hd := dc0 c h4
      obtain ⟨x1, x2, x3, x4, x5⟩ := cf3b 0 (by decide) c h4 hd
      obtain ⟨y1, y2⟩ := rel_next hb4 r0' hca hd
      rw [Nat.zero_add] at x1 x2 x3 x4 x5 y1 y2
      rw [h01, Nat.zero_or] at x1 x5
      rw [h02] at x4
      have hml := mask_lt (gvP a v1) (2 ^ a 0)
      have h16 : 2 ^ 2 ^ a 0 ≤ 2 ^ 16 := Nat.pow_le_pow_right (by omega) (by omega)
      have hlt : 2 ^ c < 2 ^ a 0 := Nat.pow_lt_pow_right (by omega) hca
      have beh : G_cr FR 1 ((1 : Int32) <<< (nI c &&& 31)) 0 (nI (mask (gvP a v1) (2 ^ a 0))) (nI (mask (gvP a v2) (2 ^ a 0))) (nI (2 ^ a 0 - 1)) = some (tk0 a v1 v2 c) := by
        show Cr_behindTaking (G_cr 199) _ _ _ _ _ = _
        unfold Cr_behindTaking tk0
        rw [show (1 : Int32) = nI 1 from rfl, nI_shl (by omega), Nat.one_mul]
        have bt2 : ((nI (mask (gvP a v1) (2 ^ a 0)) >>> (nI (2 ^ c) &&& 31)) &&& nI 1 = 0) = ¬ (gvP a v1 (2 ^ c) = true) := by
          apply propext
          rw [show (nI 1 : Int32) = 1 from rfl, bit_tst (by omega) (by omega), mask_bit]
          constructor
          · intro w1 w2; exact w1 ⟨hlt, w2⟩
          · intro w1 w2; exact w1 w2.2
        simp only [bt2]
        by_cases w : gvP a v1 (2 ^ c) = true
        · rw [if_neg (by simp [w]), if_pos w]
        · have rec2 := c_crew hb4 (a 0 - 1) 199 (tnc (4 ^ c)) (gvP a v2) (gvP a v1) (by omega) y1.1 y1.2.1 y1.2.2.1 y1.2.2.2 (by omega)
          rw [x4, x5] at rec2
          rw [if_pos w, if_neg w, show (0 : Int32) = nI 0 from rfl, rec2, Option.bind_some]
      rw [beh, Option.bind_some]
      obtain ⟨m, hm⟩ : ∃ m, a 0 - c = m + 1 := ⟨a 0 - c - 1, by omega⟩
      rw [hm]
      show _ = some (if tk0 a v1 v2 c = best then nI c else tkF (tk0 a v1 v2) best m (c + 1))
      by_cases z : tk0 a v1 v2 c = best
      · rw [if_neg (by simp [z]), if_pos z]
      · rw [if_pos z, if_neg z, ih f (c + 1) (by omega) (by omega), show a 0 - (c + 1) = m by omega]
    · rw [if_pos hca, if_pos rfl, ih f (c + 1) (by omega) (by omega), show a 0 - c = 0 by omega, show a 0 - (c + 1) = 0 by omega]; rfl
theorem m_takeL {a : Nat → Nat} {ν0 ν : Nm} (hw : WF a) {v1 v2 : Nat} (h1 : v1 ≤ 15360) (hG : GTb (a 0) 0 (gvP a v2) (gvP a v1) 332 ν) : ∀ (k f c : Nat) (ν1 : Nm), c + k = a 0 → k < f → MR a ν0 ν1 → Fr (fun q _ => 323 ≤ q ∧ q ≤ 328) ν ν1 → ∃ ν2, Md_take_24 f (nI v1) (nI c) ν1 = some (tkF (tk0 a v1 v2) (gi ν 331 0) k c, ν2) ∧ MR a ν0 ν2 := by
  have hb4 := (wb hw).1
  obtain ⟨r0', n0, h01, h02⟩ := rel_0 (a 0)
  intro k
  induction k with
  | zero =>
    intro f c ν1 hc hf h hF
    obtain ⟨f, rfl⟩ := fsucc hf
    exact ⟨ν1, by rw [Md_take_24, mr (MR_M h) (by decide) (by decide), if_pos (by rw [nI_le' (by omega) (by omega)]; omega)]; rfl, h⟩
  | succ k ih =>
    intro f c ν1 hc hf h hF
    obtain ⟨f, rfl⟩ := fsucc hf
    have h4 : c < 4 := by omega
    have hd := dc0 c h4
    obtain ⟨ν2, p1, p2, p3⟩ := m_taken h hw h1 (code := 0) (x := 332) (by decide) h4 hd (Or.inr rfl)
    obtain ⟨x1, x2, x3, x4, x5⟩ := cf3b 0 (by decide) c h4 hd
    obtain ⟨y1, y2⟩ := rel_next hb4 r0' (show c < a 0 by omega) hd
    rw [Nat.zero_add] at x1 x2 x3 y1 y2
    rw [h01, Nat.zero_or] at x1
    have hlt : 2 ^ c < 2 ^ a 0 := Nat.pow_lt_pow_right (by omega) (by omega)
    have et : tkM a v1 332 0 c ν1 = tk0 a v1 v2 c := by
      unfold tkM tk0
      rw [Nat.zero_add, x1, Nat.mod_eq_of_lt hlt, hF.1 _ _ (by omega), hG _ y1 (by omega), y2, n0]
      have eg : gvP a v1 (2 ^ c) = gvB a (2 ^ c) v1 := by unfold gvP; rw [decide_eq_true (by rw [← x1]; exact x2), Bool.true_and]
      rw [eg]
    have hF2 := Fr_tr hF p3
    have p1' : Md_takenBy 0 (nI c) (nI v1) 332 ν1 = some (tkM a v1 332 0 c ν1, ν2) := p1
    rw [Md_take_24, mr (MR_M h) (by decide) (by decide), if_neg (by rw [nI_le' (by omega) (by omega)]; omega), p1', Option.bind_some]
    simp only []
    rw [et, hF2.1 331 0 (by omega), show nI c + 1 = nI (c + 1) from nI_add c 1]
    show ∃ ν3, _ = some (if tk0 a v1 v2 c = gi ν 331 0 then nI c else tkF (tk0 a v1 v2) (gi ν 331 0) k (c + 1), ν3) ∧ _
    by_cases z : tk0 a v1 v2 c = gi ν 331 0
    · rw [if_neg (by simp [z]), if_pos z]; exact ⟨ν2, rfl, p2⟩
    · rw [if_pos z, if_neg z]; exact ih f (c + 1) ν2 (by omega) (by omega) p2 hF2
theorem st_take {a b : Nat → Nat} {ν : Nm} (h : Inv a b tau ν) (x y : Int32) : Step tau (Fm_take x y) (Md_take x y) ν := by
  have hw := h.1
  have hb4 := (wb hw).1
  obtain ⟨r0', n0, h01, h02⟩ := rel_0 (a 0)
  rcases span_cases x with ⟨v1, u1, u2, rfl, u3⟩ | ⟨u1, u3⟩
  · rcases span_cases y with ⟨v2, w1, w2, rfl, w3⟩ | ⟨w1, w3⟩
    · obtain ⟨ν1, p1, p2⟩ := c_setsGi (CQ_0 h) hw u1 u2
      obtain ⟨ν2, q1, q2⟩ := c_setsGi p2 hw w1 w2
      obtain ⟨ν3, s1, s2, s3, s4⟩ := m_games (MR_0 h q2) hw u2 w2
      have co := c_crew hb4 (a 0) FR 0 (gvP a v1) (gvP a v2) (by unfold FR; omega) r0'.1 r0'.2.1 r0'.2.2.1 r0'.2.2.2 (by omega)
      rw [h01, h02] at co
      have g0 := s3 0 r0' (by omega)
      rw [n0, Nat.sub_zero] at g0
      obtain ⟨ν4, t1, t2⟩ := m_takeL hw u2 s4 (a 0) FU 0 ν3 (by omega) (by unfold FU; omega) s2 (Fr_rfl _ _)
      have cf := c_first hw v1 v2 (cV (a 0) (a 0) (gvP a v1) (gvP a v2) 0) 4 FU 0 (by omega) (by unfold FU; omega)
      rw [g0] at t1
      refine ⟨tkF (tk0 a v1 v2) (cV (a 0) (a 0) (gvP a v1) (gvP a v2) 0) (a 0) 0, ν2, ν4, a, b, ?_, ?_, Inv_Q h q2 t2⟩
      · unfold Fm_take Cr_bestFirst
        rw [isSpan_eq, isSpan_eq, u3, Option.bind_some, if_neg (by rw [b2iT]; exact id), w3, Option.bind_some, if_pos (by rw [b2iT]; exact id), p1, Option.bind_some]
        simp only []
        rw [q1, Option.bind_some]
        simp only []
        rw [c_all (CQ_C q2) hw, Option.bind_some, show (0 : Int32) = nI 0 from rfl, co, Option.bind_some, cf, Option.bind_some, Nat.sub_zero]
      · unfold Md_take
        rw [u3, Option.bind_some, if_neg (by rw [b2iT]; exact id), w3, Option.bind_some, if_pos (by rw [b2iT]; exact id), s1, Option.bind_some]
        exact t1
    · exact Step_no h (-1) (by unfold Fm_take; rw [isSpan_eq, isSpan_eq, u3, Option.bind_some, w3]; rfl) (by unfold Md_take; rw [u3, Option.bind_some, w3]; rfl)
  · exact Step_no h (-1) (by unfold Fm_take; rw [isSpan_eq, u3]; rfl) (by unfold Md_take; rw [u3]; rfl)
