/-! The model lays what a set gives; calls on it. -/
def fmQ (q j : Nat) : Prop := 323 ≤ q ∨ (q = 313 ∧ 25 ≤ j)
def MR (a : Nat → Nat) (ν0 ν : Nm) : Prop := MX 314 a ν ∧ RM a ν ∧ Fr fmQ ν0 ν
theorem MR_M {a : Nat → Nat} {ν0 ν : Nm} (h : MR a ν0 ν) : M1 a ν ν := ⟨h.1, Fr_rfl _ _⟩
theorem CQ_0 {a b : Nat → Nat} {ν : Nm} (h : Inv a b tau ν) : CQ a ν ν := ⟨h.2.2.1, h.2.2.2.2.2.2.1.2.2.1, Fr_rfl _ _⟩
theorem MR_0 {a b a2 : Nat → Nat} {ν ν1 : Nm} (h : Inv a b tau ν) (hc : CQ a2 ν ν1) : MR a ν1 ν1 := by
  have k : ∀ q j, 285 ≤ q → gi ν1 q j = gi ν q j := fun q j hq => hc.2.2.1 q j (by unfold fcQ; omega)
  exact ⟨MX_keep h.2.2.2.2.1 (fun j => k _ _ (by omega)), RM_keep h.2.2.2.2.2.2.1.2.2.2 h.2.2.2.2.2.2.1.1 ⟨rfl, fun _ _ _ => rfl⟩ (fun j => k _ _ (by omega)) (fun j => k _ _ (by omega)), Fr_rfl _ _⟩
theorem Inv_Q {a b : Nat → Nat} {ν ν1 ν2 : Nm} (h : Inv a b tau ν) (hc : CQ a ν ν1) (hm : MR a ν1 ν2) : Inv a b tau ν2 := by
  obtain ⟨w1, w2, c1, c2, m1, m2, ⟨t1, ⟨D, hT⟩, t3, t4⟩, ho, o4, ⟨n, n1, n2, n3⟩, o5, o6, o7⟩ := h
  have k : ∀ q j, ¬ fcQ q j → ¬ fmQ q j → gi ν2 q j = gi ν q j := fun q j n1 n2 => (hm.2.2.1 q j n2).trans (hc.2.2.1 q j n1)
  have g : ∀ q j, q ≤ 275 ∨ (285 ≤ q ∧ q ≤ 312) ∨ (q = 313 ∧ j < 25) ∨ (315 ≤ q ∧ q ≤ 322) → gi ν2 q j = gi ν q j := fun q j hq => k q j (by unfold fcQ; omega) (by unfold fmQ; omega)
  have km : ∀ q j, q ≤ 312 → gi ν2 q j = gi ν1 q j := fun q j h1 => hm.2.2.1 q j (by unfold fmQ; omega)
  have kml : ∀ j, gl ν2 277 j = gl ν1 277 j := fun j => hm.2.2.2 _ _ (by unfold fmQ; omega)
  refine ⟨w1, w2, CX_keep hc.1 (fun q j h1 h2 => km q j (by omega)), CX_keep c2 (fun q j _ _ => g q j (by omega)), hm.1, MX_keep m2 (fun j => g _ _ (by omega)), ⟨t1, ⟨D, TO_keep hT (Nat.le_refl _) (fun q j hq => g q j (by omega))⟩, RC_keep hc.2.1 t1 ⟨Nat.le_refl _, fun _ _ _ => rfl⟩ (fun q j hq => km q j (by unfold rcq at hq; omega)) kml, hm.2.1⟩, ho, by rw [g _ _ (by omega)]; exact o4, ⟨n, n1, by rw [g _ _ (by omega)]; exact n2, by rw [g _ _ (by omega)]; exact n3⟩, fun i hi => by rw [g _ _ (by omega), g _ _ (by omega)]; exact o5 i hi, by rw [g _ _ (by omega), g _ _ (by omega)]; exact o6, by rw [g _ _ (by omega), g _ _ (by omega)]; exact o7⟩
theorem has_b {s c : Nat} (hs : s < 16) (hc : c < 4) : Md_has (nI s) (nI c) = some (decide (s / 2 ^ c % 2 = 1)) := by
  have hd := Nat.div_le_self s (2 ^ c)
  unfold Md_has
  rw [nI_shr (by omega) (by omega), show (1 : Int32) = nI 1 from rfl, nI_and, and1]
  by_cases q : s / 2 ^ c % 2 = 1
  · rw [if_neg (by rw [q]; simp), decide_eq_true q]
  · rw [if_pos (by rw [nI_eq' (by omega) (by omega)]; exact q), decide_eq_false q]
/-- of a set, what cords there are -/
theorem mod_bit (s n c : Nat) : ((s % 2 ^ n) / 2 ^ c % 2 = 1) ↔ (c < n ∧ s / 2 ^ c % 2 = 1) := by
  rw [← tbit, Nat.testBit_mod_two_pow, Bool.and_eq_true, decide_eq_true_iff, tbit]
theorem m_first16 {a : Nat → Nat} {s : Nat} (hw : WF a) (hs : s < 16) : ∀ (k f i : Nat) (ν : Nm), i + k = 4 → k < f → MX 314 a ν → ∃ ν2, Md_layFirst_16 f (nI s) (nI i) ν = some ν2 ∧ (∀ c, i ≤ c → c < 4 → gi ν2 325 c = nI (r0 a (s % 2 ^ a 0) c) ∧ gi ν2 326 c = nI 0) ∧ (∀ q j, ¬ ((q = 325 ∨ q = 326) ∧ i ≤ j) → gi ν2 q j = gi ν q j) ∧ ∀ q j, gl ν2 q j = gl ν q j := by
  have hb := wb hw
  intro k
  induction k with
  | zero =>
    intro f i ν hi hf h
    obtain ⟨f, rfl⟩ := fsucc hf
    exact ⟨ν, by rw [Md_layFirst_16, if_pos (by rw [show (4 : Int32) = nI 4 from rfl, nI_le' (by omega) (by omega)]; omega)], fun c _ _ => by omega, fun _ _ _ => rfl, fun _ _ => rfl⟩
  | succ k ih =>
    intro f i ν hi hf h
    obtain ⟨f, rfl⟩ := fsucc hf
    have i4 : i < 4 := by omega
    have hM : M1 a ν ν := ⟨h, Fr_rfl _ _⟩
    have st : Md_layFirst_16 (f + 1) (nI s) (nI i) ν = Md_layFirst_16 f (nI s) (nI (i + 1)) (si (si ν 325 i (nI (r0 a (s % 2 ^ a 0) i))) 326 i (nI 0)) := by
      rw [Md_layFirst_16, if_neg (by rw [show (4 : Int32) = nI 4 from rfl, nI_le' (by omega) (by omega)]; omega), mr hM (by decide) (by decide), has_b hs i4, Option.bind_some, m_full hM i4, Option.bind_some]
      unfold Md_layFirst_52 Md_layFirst_53
      rw [inb_nI (show i < 2 ^ 31 by omega), nI_clamp (show i < 2 ^ 31 by omega)]
      simp only [dT (show i < 24 by omega), if_true]
      rw [show nI i + 1 = nI (i + 1) from nI_add i 1]
      unfold r0
      by_cases q2 : a 0 ≤ i
      · rw [if_pos (by rw [nI_le' (by omega) (by omega)]; exact q2), if_neg (by rw [mod_bit]; omega)]; rfl
      · rw [if_neg (by rw [nI_le' (by omega) (by omega)]; exact q2)]
        by_cases q : s / 2 ^ i % 2 = 1
        · rw [decide_eq_true q, if_neg (by rw [b2iT]; exact id), if_pos (by rw [mod_bit]; omega)]; rfl
        · rw [decide_eq_false q, if_pos (by rw [b2iF]; exact True.intro), if_neg (by rw [mod_bit]; omega)]; rfl
    obtain ⟨ν2, p1, p2, p3, p4⟩ := ih f (i + 1) (si (si ν 325 i (nI (r0 a (s % 2 ^ a 0) i))) 326 i (nI 0)) (by omega) (by omega) (MX_keep h (fun j => by rw [gi_si_q _ _ _ _ (by omega), gi_si_q _ _ _ _ (by omega)]))
    refine ⟨ν2, by rw [st]; exact p1, fun c c1 c2 => ?_, fun q j hq => by rw [p3 q j (by omega), gi_si, if_neg (by omega), gi_si, if_neg (by omega)], fun q j => by rw [p4, gl_si, gl_si]⟩
    by_cases z : c = i
    · subst z
      rw [p3 _ _ (by omega), p3 _ _ (by omega), gi_si_q _ _ _ _ (by omega), gi_si_s, gi_si_s]
      exact ⟨rfl, rfl⟩
    · exact p2 c (by omega) c2
theorem m_first {a : Nat → Nat} {s : Nat} (hw : WF a) (hs : s < 16) {ν : Nm} (h : MX 314 a ν) : ∃ ν2, Md_layFirst (nI s) ν = some ν2 ∧ WM 0 zer (r0 a (s % 2 ^ a 0)) zer ν2 ∧ gi ν2 324 0 = nI 0 ∧ (∀ q j, ¬ (323 ≤ q ∧ q ≤ 326) → gi ν2 q j = gi ν q j) ∧ ∀ q j, gl ν2 q j = gl ν q j := by
  obtain ⟨ν2, p1, p2, p3, p4⟩ := m_first16 hw hs 4 FU 0 (si (si ν 323 0 0) 324 0 0) (by omega) (by unfold FU; omega) (MX_keep h (fun j => by rw [gi_si_q _ _ _ _ (by omega), gi_si_q _ _ _ _ (by omega)]))
  refine ⟨ν2, p1, ⟨fun c hc => ?_, fun i hi => ?_⟩, ?_, fun q j hq => by rw [p3 q j (by omega), gi_si, if_neg (by omega), gi_si, if_neg (by omega)], fun q j => by rw [p4, gl_si, gl_si]⟩
  · rw [show 4 * 0 + c = c by omega]; exact p2 c (by omega) hc
  · obtain rfl : i = 0 := by omega
    rw [p3 _ _ (by omega), gi_si_q _ _ _ _ (by omega), gi_si_s]; rfl
  · rw [p3 _ _ (by omega), gi_si_s]; rfl
theorem m_zero {s : Nat} (hs : s < 16) : ∀ (k f i : Nat) (ν : Nm), i + k = 15361 → k < f → ∃ ν2, Md_layGives_13 f (nI s) (nI i) ν = ((Md_layFirst (nI s) (si ν2 328 s 0)).bind fun v3 => Md_layGives_53 FU (nI s) 0 v3) ∧ (∀ j, i ≤ j → j < 15361 → gi ν2 327 (15361 * s + j) = 0) ∧ (∀ q j, ¬ (q = 327 ∧ 15361 * s + i ≤ j ∧ j < 15361 * s + 15361) → gi ν2 q j = gi ν q j) ∧ ∀ q j, gl ν2 q j = gl ν q j := by
  intro k
  induction k with
  | zero =>
    intro f i ν hi hf
    obtain ⟨f, rfl⟩ := fsucc hf
    exact ⟨ν, by rw [Md_layGives_13, if_pos (by rw [show (15360 : Int32) = nI 15360 from rfl, nI_lt' (by omega) (by omega)]; omega), inb_nI (by omega), nI_clamp (by omega), if_pos (by simp; omega)], fun j _ _ => by omega, fun _ _ _ => rfl, fun _ _ => rfl⟩
  | succ k ih =>
    intro f i ν hi hf
    obtain ⟨f, rfl⟩ := fsucc hf
    obtain ⟨ν2, p1, p2, p3, p4⟩ := ih f (i + 1) (si ν 327 (15361 * s + i) 0) (by omega) (by omega)
    refine ⟨ν2, ?_, fun j j1 j2 => ?_, fun q j hq => by rw [p3 q j (by omega), gi_si, if_neg (by omega)], fun q j => by rw [p4, gl_si]⟩
    · rw [Md_layGives_13, if_neg (by rw [show (15360 : Int32) = nI 15360 from rfl, nI_lt' (by omega) (by omega)]; omega), show (15361 : Int32) * nI s = nI (15361 * s) from nI_mul 15361 s, nI_add, inb_nI (by omega), nI_clamp (by omega), if_pos (by simp; omega), show nI i + 1 = nI (i + 1) from nI_add i 1]
      exact p1
    · by_cases z : j = i
      · subst z; rw [p3 _ _ (by omega), gi_si_s]
      · exact p2 j (by omega) j2
theorem cnt_f : ∀ n, cnt (fun _ => false) n = 0 := by
  intro n
  induction n with
  | zero => rfl
  | succ n ih => show cnt (fun _ => false) n + (if false = true then 1 else 0) = 0; rw [ih]; rfl
theorem by00 {r : Nat → Nat} (hr : RI r zer) : byA r zer 0 = 0 := by
  apply Decidable.byContradiction
  intro q
  obtain ⟨c, hc, c1, -⟩ := by_at hr (vl_0 r zer) q
  apply c1
  unfold bn zer
  rw [dg_0 hc]
theorem m_layG {a : Nat → Nat} {ν0 ν : Nm} (h : MR a ν0 ν) (hw : WF a) {s : Nat} (h1 : 1 ≤ s) (hs : s < 16) : ∃ ν2, Md_layGives (nI s) ν = some ν2 ∧ MR a ν0 ν2 ∧ RM1 a s ν2 ∧ Fr (fun q _ => 323 ≤ q ∧ q ≤ 328) ν ν2 := by
  have hb := wb hw
  have hsm : s % 2 ^ a 0 < 16 := Nat.lt_of_le_of_lt (Nat.mod_le _ _) hs
  unfold Md_layGives
  rw [inb_nI (by omega), nI_clamp (by omega), if_pos (decide_eq_true hs)]
  rcases h.2.1 s h1 hs with e | e
  · rw [if_pos e]
    obtain ⟨ν1, z1, z2, z3, z4⟩ := m_zero hs 15361 FU 0 ν (by omega) (by unfold FU; omega)
    have z3' : ∀ q j, ¬ (q = 327 ∧ 15361 * s ≤ j ∧ j < 15361 * s + 15361) → gi ν1 q j = gi ν q j := fun q j hq => z3 q j (by rw [Nat.add_zero]; exact hq)
    obtain ⟨ν2, f1, f2, f3, f4, f5⟩ := m_first hw hs (ν := si ν1 328 s 0) (MX_keep h.1 (fun j => by rw [gi_si_q _ _ _ _ (by omega), z3' _ _ (by omega)]))
    have hP : PM s (fun _ => false) ν2 := ⟨fun k hk => by rw [f4 _ _ (by omega), gi_si_q _ _ _ _ (by omega), z2 k (by omega) hk]; rfl, by rw [f4 _ _ (by omega), gi_si_s, cnt_f]; rfl⟩
    have hR := RI_0 hw (s % 2 ^ a 0) hsm
    obtain ⟨n, ν3, P3, q1, q2, q3, q4, q5, q6⟩ := m_lg hs 4 81 0 zer (r0 a (s % 2 ^ a 0)) zer ν2 0 (fun _ => false) (by omega) (lv_4 _) hR TI_0 (fun _ => by00 hR) f2 (by omega) f3 hP
    have hn : n ≤ 130216330 := by rw [← cst4]; exact q1
    have g3 : ∀ q j, ¬ ((323 ≤ q ∧ q ≤ 326) ∨ (q = 327 ∧ 15361 * s ≤ j ∧ j < 15361 * s + 15361) ∨ (q = 328 ∧ j = s)) → gi ν3 q j = gi ν q j := fun q j hq => by rw [q3 q j (by unfold fwm; omega), f4 q j (by omega), gi_si, if_neg (by omega), z3' q j (by omega)]
    have r1 : RM1 a s ν3 := ⟨P3, fun k hk => ⟨q5.1 k hk, by
      rw [q6 k, mkS_Sub, Sub_X]
      exact ⟨fun z => z.elim (fun y => by cases y) id, fun z => Or.inr z⟩⟩, q5.2⟩
    refine ⟨ν3, ?_, ⟨MX_keep h.1 (fun j => g3 _ _ (by omega)), fun s2 y1 y3 => ?_, Fr_tr h.2.2 ⟨fun q j hq => g3 q j (by unfold fmQ at hq; omega), fun q j _ => by rw [q4, f5, gl_si, z4]⟩⟩, r1, fun q j hq => g3 q j (by omega), fun q j _ => by rw [q4, f5, gl_si, z4]⟩
    · rw [show (0 : Int32) = nI 0 from rfl, z1]
      rw [show si ν1 328 s 0 = si ν1 328 s 0 from rfl] at f1
      rw [f1, Option.bind_some]
      have q2' := q2 (FU - n)
      rw [show FU - n + n = FU by unfold FU; omega] at q2'
      rw [show (0 : Int32) = nI 0 from rfl, q2']
      obtain ⟨f, hf⟩ : ∃ f, FU - n = f + 1 := ⟨FU - n - 1, by unfold FU; omega⟩
      rw [hf, Md_layGives_53, if_pos (by decide)]
    · by_cases z : s2 = s
      · subst z; exact Or.inr r1
      · have hsep : ∀ k, k < 15361 → ¬ (15361 * s ≤ 15361 * s2 + k ∧ 15361 * s2 + k < 15361 * s + 15361) := by
          intro k hk
          rcases Nat.lt_or_gt_of_ne z with y | y
          · have := Nat.mul_le_mul_left 15361 (show s2 + 1 ≤ s from y); omega
          · have := Nat.mul_le_mul_left 15361 (show s + 1 ≤ s2 from y); omega
        rcases h.2.1 s2 y1 y3 with q | ⟨P, q, q'⟩
        · exact Or.inl (by rw [g3 _ _ (by omega)]; exact q)
        · refine Or.inr ⟨P, fun k hk => ⟨?_, (q k hk).2⟩, by rw [g3 _ _ (by omega)]; exact q'⟩
          rw [g3 _ _ (by have := hsep k hk; omega)]; exact (q k hk).1
  · have hne : ¬ gi ν 328 s = -1 := by
      obtain ⟨P, -, q⟩ := e
      rw [q]
      have := cnt15 P
      exact neg1 (by omega)
    rw [if_neg hne]
    exact ⟨ν, rfl, h, e, Fr_rfl _ _⟩
theorem zbo_b (b : Bool) : zbo (b2i b) = true ∧ (b2i b != 0) = b := by cases b <;> exact ⟨rfl, rfl⟩
theorem m_givenG {a : Nat → Nat} {ν0 ν : Nm} (h : MR a ν0 ν) (hw : WF a) {s v : Nat} (h1 : 1 ≤ s) (hs : s < 16) (hv : v ≤ 15360) : ∃ ν2, Md_isGiven (nI s) (nI v) ν = some (gvB a (s % 2 ^ a 0) v, ν2) ∧ MR a ν0 ν2 ∧ Fr (fun q _ => 323 ≤ q ∧ q ≤ 328) ν ν2 := by
  obtain ⟨ν1, p1, p2, ⟨P, q1, q2⟩, p3⟩ := m_layG h hw h1 hs
  obtain ⟨g1, g2⟩ := q1 v (by omega)
  have eb : P v = gvB a (s % 2 ^ a 0) v := by rw [Bool.eq_iff_iff, g2, gvB_t]
  refine ⟨ν1, ?_, p2, p3⟩
  unfold Md_isGiven
  rw [p1, Option.bind_some, show (15361 : Int32) * nI s = nI (15361 * s) from nI_mul 15361 s, nI_add, inb_nI (by omega), nI_clamp (by omega), if_pos (by simp; omega), g1, if_pos (zbo_b _).1, (zbo_b _).2, eb]
theorem m_given {a : Nat → Nat} {ν0 ν : Nm} (h : MR a ν0 ν) (hw : WF a) {s v : Nat} (h1 : 1 ≤ s) (h2 : s < 2 ^ a 0) (hv : v ≤ 15360) : ∃ ν2, Md_isGiven (nI s) (nI v) ν = some (gvB a s v, ν2) ∧ MR a ν0 ν2 ∧ Fr (fun q _ => 323 ≤ q ∧ q ≤ 328) ν ν2 := by
  have hb := wb hw
  have p4 : 2 ^ a 0 ≤ 2 ^ 4 := Nat.pow_le_pow_right (by omega) hb.1
  have := m_givenG h hw (s := s) (v := v) h1 (by omega) hv
  rw [Nat.mod_eq_of_lt h2] at this
  exact this
theorem st_can {a b : Nat → Nat} {ν : Nm} (h : Inv a b tau ν) (x y : Int32) : Step tau (Fm_can x y) (Md_can x y) ν := by
  have hw := h.1
  have hc0 := C1_0 h
  have hm0 := M1_0 h hc0
  rcases set_cases x (a 0) with ⟨s, h1, h2, rfl⟩ | hx
  · rcases span_cases y with ⟨v, v1, v2, rfl, v3⟩ | ⟨v1, v3⟩
    · obtain ⟨ν1, p1, p2⟩ := c_gives (CQ_0 h) hw h1 h2 v1 v2
      obtain ⟨ν2, q1, q2, -⟩ := m_given (MR_0 h p2) hw h1 h2 v2
      refine ⟨gvB a s v, ν1, ν2, a, b, ?_, ?_, Inv_Q h p2 q2⟩
      · unfold Fm_can
        rw [c_set_t hc0 hw h1 h2, Option.bind_some, if_neg (by rw [b2iT]; exact id), p1, Option.bind_some]
        cases gvB a s v <;> rfl
      · unfold Md_can
        rw [m_set_t (MR_M (MR_0 h p2)) hw h1 h2, Option.bind_some, if_neg (by rw [b2iT]; exact id), v3, Option.bind_some, if_neg (by rw [b2iT]; exact id), q1, Option.bind_some]
        cases gvB a s v <;> rfl
    · refine Step_no h false ?_ ?_
      · unfold Fm_can
        rw [c_set_t hc0 hw h1 h2, Option.bind_some, if_neg (by rw [b2iT]; exact id), c_gives_f ν v1]; rfl
      · unfold Md_can
        rw [m_set_t hm0 hw h1 h2, Option.bind_some, if_neg (by rw [b2iT]; exact id), v3]; rfl
  · refine Step_no h false ?_ ?_
    · unfold Fm_can; rw [c_set_f hc0 hw hx]; rfl
    · unfold Md_can; rw [m_set_f hm0 hw hx]; rfl
