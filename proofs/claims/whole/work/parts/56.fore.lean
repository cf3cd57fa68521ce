/-! Cells that a run may leave as they come; foretold. -/
def fz (q j : Nat) : Prop := (q = 271 ∧ 4 ≤ j) ∨ q = 274 ∨ q = 275 ∨ (282 ≤ q ∧ q ≤ 284) ∨ (q = 313 ∧ 7 ≤ j ∧ j ≠ 23) ∨ (318 ≤ q ∧ q ≤ 326) ∨ 329 ≤ q
theorem Inv_scr' {a b : Nat → Nat} {τ : Ex} {ν ν2 : Nm} (h : Inv a b τ ν) (m : MX 314 a ν2) (k : ∀ q j, ¬ fz q j → q ≠ 314 → gi ν2 q j = gi ν q j) (kl : ∀ q j, dx q → gl ν2 q j = gl ν q j) : Inv a b τ ν2 := by
  obtain ⟨w1, w2, c1, c2, m1, m2, t, ho, o2, ⟨n, n1, n2, n3⟩, o4, o5, o6⟩ := h
  have g : ∀ q j, q ≤ 270 ∨ (q = 271 ∧ j ≤ 3) ∨ q = 272 ∨ q = 273 ∨ (q = 313 ∧ (j ≤ 6 ∨ j = 23)) ∨ (315 ≤ q ∧ q ≤ 317) → gi ν2 q j = gi ν q j := fun q j hq => k q j (by unfold fz; omega) (by omega)
  exact ⟨w1, w2, CX_keep c1 (fun q j _ _ => g q j (by omega)), CX_keep c2 (fun q j _ _ => g q j (by omega)), m, MX_keep m2 (fun j => g _ _ (by omega)), Ex_keep t (fun q j hq => k q j (by unfold dx at hq; unfold fz; omega) (by unfold dx at hq; omega)) kl, ho, by rw [g _ _ (by omega)]; exact o2, ⟨n, n1, by rw [g _ _ (by omega)]; exact n2, by rw [g _ _ (by omega)]; exact n3⟩, fun i hi => by rw [g _ _ (by omega), g _ _ (by omega)]; exact o4 i hi, by rw [g _ _ (by omega), g _ _ (by omega)]; exact o5, by rw [g _ _ (by omega), g _ _ (by omega)]; exact o6⟩
theorem Inv_scr {a b : Nat → Nat} {τ : Ex} {ν ν2 : Nm} (h : Inv a b τ ν) (k : ∀ q j, ¬ fz q j → gi ν2 q j = gi ν q j) (kl : ∀ q j, dx q → gl ν2 q j = gl ν q j) : Inv a b τ ν2 :=
  Inv_scr' h (MX_keep h.2.2.2.2.1 (fun j => k _ _ (by unfold fz; omega))) (fun q j hq _ => k q j hq) kl
theorem pwf_low {n : Nat} : ∀ (k i : Nat) (s : (Nat → Nat) × Nat) (j : Nat), i + k ≤ 4 → (j < 12 ∨ 20 ≤ j) → (pwk false n k i s).1 j = s.1 j := by
  intro k
  induction k with
  | zero => intro i s j _ _; rfl
  | succ k ih =>
    intro i s j h h1
    unfold pwk
    rw [ih (i + 1) _ j (by omega) h1]
    unfold pw1
    split
    · rfl
    · split
      · show upn _ _ _ j = _
        rw [upn_n _ _ (by omega), upn_n _ _ (by omega)]
      · show upn _ _ _ j = _
        rw [upn_n _ _ (by omega)]
theorem passf_low : ∀ (k left : Nat) (s : (Nat → Nat) × Nat) {j : Nat}, (j < 8 ∨ 20 ≤ j) → (passA false k left s).1 j = s.1 j := by
  intro k
  induction k with
  | zero => intro left s j _; rfl
  | succ k ih =>
    intro left s j h
    unfold passA
    by_cases e : left = 0
    · rw [if_pos e]
    · rw [if_neg e, ih _ _ h]
      show (stepA false _ s.1).1 j = s.1 j
      unfold stepA
      rw [pwf_low 4 0 _ j (by omega) (by omega)]
      show upn (upn s.1 8 _) 10 0 j = _
      rw [upn_n _ _ (by omega), upn_n _ _ (by omega)]
/-- twelve numbers are laid aside, and back -/
theorem m_aside {n c : Int32} : ∀ (k f i : Nat) (ν : Nm), i + k = 20 → k < f → ∃ ν2, Md_foretold_23 f n c (nI i) ν = (Md_pass (64 * n) (si ν2 313 23 0)).bind (fun v2 => (Md_get v2 c 0).bind (fun v3 => Md_foretold_71 FU v3 8 v2)) ∧ (∀ q j, q ≠ 322 → gi ν2 q j = gi ν q j) ∧ (∀ q j, gl ν2 q j = gl ν q j) ∧ (∀ j, j < i → gi ν2 322 j = gi ν 322 j) ∧ ∀ j, i ≤ j → j < 20 → gi ν2 322 j = gi ν 314 j := by
  intro k
  induction k with
  | zero =>
    intro f i ν hi hf
    obtain ⟨f, rfl⟩ := fsucc hf
    refine ⟨ν, ?_, fun _ _ _ => rfl, fun _ _ => rfl, fun _ _ => rfl, fun j _ _ => by omega⟩
    rw [Md_foretold_23, if_pos (by rw [show (20 : Int32) = nI 20 from rfl, nI_le' (by omega) (by omega)]; omega)]
  | succ k ih =>
    intro f i ν hi hf
    obtain ⟨f, rfl⟩ := fsucc hf
    obtain ⟨ν2, p1, p2, p3, p4, p5⟩ := ih f (i + 1) (si ν 322 i (gi ν 314 i)) (by omega) (by omega)
    refine ⟨ν2, ?_, fun q j hq => by rw [p2 q j hq, gi_si_q _ _ _ _ hq], fun q j => by rw [p3, gl_si], fun j hj => by rw [p4 j (by omega), gi_si_j _ _ _ (by omega)], fun j j1 j2 => ?_⟩
    · rw [Md_foretold_23, if_neg (by rw [show (20 : Int32) = nI 20 from rfl, nI_le' (by omega) (by omega)]; omega), inb_nI (by omega), nI_clamp (by omega), if_pos (by simp; omega), inb_nI (by omega), if_pos (by simp; omega), show (1 : Int32) = nI 1 from rfl, nI_add]
      exact p1
    · by_cases e : j = i
      · subst e; rw [p4 j (by omega), gi_si_s]
      · rw [p5 j (by omega) j2, gi_si_q _ _ _ _ (by omega)]
theorem m_unaside {v : Int32} : ∀ (k f i : Nat) (ν : Nm), i + k = 20 → k < f → ∃ ν2, Md_foretold_71 f v (nI i) ν = some (v, si ν2 313 23 1) ∧ (∀ q j, q ≠ 314 → gi ν2 q j = gi ν q j) ∧ (∀ q j, gl ν2 q j = gl ν q j) ∧ (∀ j, j < i ∨ 20 ≤ j → gi ν2 314 j = gi ν 314 j) ∧ ∀ j, i ≤ j → j < 20 → gi ν2 314 j = gi ν 322 j := by
  intro k
  induction k with
  | zero =>
    intro f i ν hi hf
    obtain ⟨f, rfl⟩ := fsucc hf
    refine ⟨ν, ?_, fun _ _ _ => rfl, fun _ _ => rfl, fun _ _ => rfl, fun j _ _ => by omega⟩
    rw [Md_foretold_71, if_pos (by rw [show (20 : Int32) = nI 20 from rfl, nI_le' (by omega) (by omega)]; omega)]
  | succ k ih =>
    intro f i ν hi hf
    obtain ⟨f, rfl⟩ := fsucc hf
    obtain ⟨ν2, p1, p2, p3, p4, p5⟩ := ih f (i + 1) (si ν 314 i (gi ν 322 i)) (by omega) (by omega)
    refine ⟨ν2, ?_, fun q j hq => by rw [p2 q j hq, gi_si_q _ _ _ _ hq], fun q j => by rw [p3, gl_si], fun j hj => by rw [p4 j (by omega), gi_si_j _ _ _ (by omega)], fun j j1 j2 => ?_⟩
    · rw [Md_foretold_71, if_neg (by rw [show (20 : Int32) = nI 20 from rfl, nI_le' (by omega) (by omega)]; omega), inb_nI (by omega), nI_clamp (by omega), if_pos (by simp; omega), inb_nI (by omega), if_pos (by simp; omega), show (1 : Int32) = nI 1 from rfl, nI_add]
      exact p1
    · by_cases e : j = i
      · subst e; rw [p4 j (by omega), gi_si_s]
      · rw [p5 j (by omega) j2, gi_si_q _ _ _ _ (by omega)]
theorem st_foretold {a b : Nat → Nat} {τ : Ex} {ν : Nm} (h : Inv a b τ ν) (x y : Int32) : ∃ v ν2, Fm_foretold ν x y = some v ∧ Md_foretold x y ν = some (v, ν2) ∧ Inv a b τ ν2 := by
  have hw := h.1
  have hb := wb hw
  have hc := C1_0 h
  have hm := M1_0 h hc
  have h23 : gi ν 313 23 = 1 := h.2.2.2.2.2.2.2.2.1
  rcases isIn_cases x 1 60 (by decide) (by decide) with ⟨n, h1, h2, rfl, h3⟩ | ⟨h1, h3⟩
  · have h3' : Md_isIn (nI n) 1 60 = some true := h3
    rcases below_cases y (a 0) with ⟨c, hca, rfl⟩ | hx
    · have h4 : c < 4 := by omega
      have hbc := wbc hw h4
      have hp := pc_le (a (13 + 2 * c)) (by omega)
      have hmul : n * 64 * pc16 (a (13 + 2 * c)) ≤ 60 * 64 * 2 := Nat.mul_le_mul (by omega) hp.1
      obtain ⟨v1, p1, p2, p3, p4, p5⟩ := m_aside (n := nI n) (c := nI c) 12 FU 8 ν (by omega) (by unfold FU; omega)
      have mm : M1 a (si v1 313 23 0) (si v1 313 23 0) := ⟨MX_keep hm.1 (fun j => by rw [gi_si_q _ _ _ _ (by omega), p2 _ _ (by omega)]), Fr_rfl _ _⟩
      obtain ⟨v2, q1, q2, q3⟩ := m_pass (w := false) (n := 64 * n) (by omega) (by rw [gi_si_s]; rfl) (WF_WP hw) (fun e => by cases e) mm
      have hr := pass_rest (w := false) 5 (64 * n) (a, 0) (by have := bc_le a; show bc a < 5; omega) (WF_WP hw) (by omega) c h4
      have hr' : (PA false (64 * n) a).1 (12 + 2 * c) = a (12 + 2 * c) - n * 64 * pc16 (a (13 + 2 * c)) := by
        rw [Nat.mul_comm n 64]; exact hr
      obtain ⟨v3, r1, r2, r3, r4, r5⟩ := m_unaside (v := nI ((PA false (64 * n) a).1 (12 + 2 * c))) 12 FU 8 v2 (by omega) (by unfold FU; omega)
      have f2 : ∀ q j, ¬ fm q j → gi v2 q j = gi (si v1 313 23 0) q j := q2.2.1
      have a322 : ∀ j, 8 ≤ j → j < 20 → gi v2 322 j = nI (a j) := fun j j1 j2 => by
        rw [f2 _ _ (by unfold fm; omega), gi_si_q _ _ _ _ (by omega), p5 j j1 j2]; exact mr hm (by omega) (by omega)
      have m3 : MX 314 a v3 := by
        refine ⟨fun j j1 j2 => ?_, ?_⟩
        · by_cases e : 8 ≤ j ∧ j < 20
          · rw [r5 j e.1 e.2, a322 j e.1 e.2]
          · rw [r4 j (by omega), q2.1.1 j j1 j2]
            exact congrArg nI (passf_low 5 (64 * n) (a, 0) (by omega))
        · rw [r4 3 (by omega), q2.1.2]
          exact congrArg (fun z => nI z - 1) (passf_low 5 (64 * n) (a, 0) (by omega))
      refine ⟨nI ((PA false (64 * n) a).1 (12 + 2 * c)), si v3 313 23 1, ?_, ?_, ?_⟩
      · unfold Fm_foretold
        rw [within_isIn, h3', Option.bind_some, if_neg (by rw [b2iT]; exact id), c_has_t hc hw hca, Option.bind_some, if_pos (by rw [b2iT]; exact id), inb_nI (by omega), nI_clamp (by omega), if_pos (by simp; omega), cr_ends hc h4, bc16 (by omega), Option.bind_some, if_pos (by simp; omega), cr_rest hc h4, show (64 : Int32) = nI 64 from rfl, nI_mul, nI_mul, imax_sub (by omega) (by omega), hr']
      · unfold Md_foretold
        rw [h3', Option.bind_some, if_neg (by rw [b2iT]; exact id), m_isCord_t hm hw hca, Option.bind_some, if_pos (by rw [b2iT]; exact id), show (8 : Int32) = nI 8 from rfl, p1, show (64 : Int32) = nI 64 from rfl, nI_mul, q1, Option.bind_some, show (0 : Int32) = nI 0 from rfl, m_g0 q2 h4, Option.bind_some]
        exact r1
      · refine Inv_scr' (ν := ν) h (MX_keep m3 (fun j => gi_si_q _ _ _ _ (by omega))) (fun q j hq hn => ?_) (fun q j hq => ?_)
        · by_cases e : q = 313 ∧ j = 23
          · obtain ⟨rfl, rfl⟩ := e; rw [gi_si_s, h23]
          · rw [gi_si, if_neg e, r2 q j hn, f2 q j (by unfold fz at hq; unfold fm; omega), gi_si, if_neg e, p2 q j (by unfold fz at hq; omega)]
        · rw [gl_si, r3, q2.2.2 q j (by unfold dx at hq; unfold fm; omega), gl_si, p3]
    · refine ⟨-1, ν, ?_, ?_, h⟩
      · unfold Fm_foretold; rw [within_isIn, h3', Option.bind_some, if_neg (by rw [b2iT]; exact id), c_has_f hc hw hx]; rfl
      · unfold Md_foretold; rw [h3', Option.bind_some, if_neg (by rw [b2iT]; exact id), m_isCord_f hm hw hx]; rfl
  · have h3' : Md_isIn x 1 60 = some false := h3
    refine ⟨-1, ν, ?_, ?_, h⟩
    · unfold Fm_foretold; rw [within_isIn, h3']; rfl
    · unfold Md_foretold; rw [h3']; rfl
