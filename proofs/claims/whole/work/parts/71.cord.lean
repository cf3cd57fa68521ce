/-! What a run's predicate tells of texts and rows; a cord is told. -/
def tauP (a : Nat → Nat) (ν : Nm) : Prop := a 0 ≤ 4 ∧ (∃ D, TO D a ν) ∧ RC a ν ∧ RM a ν
def tau : Ex := ⟨tauP, fun a a2 ν ν2 h ha k kl => by
  obtain ⟨h4, ⟨D, hT⟩, hc, hm⟩ := h
  have e : a2 0 ≤ a 0 ∧ ∀ c, c < 4 → c < a2 0 → a2 (20 + 2 * c) = a (20 + 2 * c) := ⟨by rw [ha 0 (by omega)]; exact Nat.le_refl _, fun c c4 _ => ha _ (by omega)⟩
  exact ⟨by rw [ha 0 (by omega)]; exact h4, ⟨D, TO_keep hT (by rw [ha 2 (by omega)]; exact Nat.le_refl _) (fun q j hq => k q j (by unfold dx; omega))⟩, RC_keep hc h4 e (fun q j hq => k q j (by unfold rcq at hq; unfold dx; omega)) (fun j => kl _ _ (by unfold dx; omega)), RM_keep hm h4 ⟨ha 0 (by omega), e.2⟩ (fun j => k _ _ (by unfold dx; omega)) (fun j => k _ _ (by unfold dx; omega))⟩⟩
theorem tau_T : ExT tau := fun a ν h => h.2.1
theorem tau_B : ExB tau := fun a b ν ν2 wa wb2 h ho k kl kn => by
  obtain ⟨h4, ⟨D, hT⟩, hc, hm⟩ := h
  exact ⟨(wb wb2).1, ⟨D, TO_keep hT ho.2.1 (fun q j hq => k q j (by unfold dx; omega) (by omega))⟩, RC_keep hc h4 ⟨ho.1, ho.2.2⟩ (fun q j hq => k q j (by unfold rcq at hq; unfold dx; omega) (by unfold rcq at hq; omega)) (fun j => kl _ _ (by unfold dx; omega)), RM_none kn⟩
def fcP (q j : Nat) : Prop := fc q j ∨ (q = 276 ∧ (j = 4 ∨ j = 5))
def fmP (q j : Nat) : Prop := fm q j ∨ q = 328
/-- the class holds a, rows too, while a text is played -/
def CP (a : Nat → Nat) (ν0 ν : Nm) : Prop := CX 1 a ν ∧ RC a ν ∧ Fr fcP ν0 ν
def MP (a : Nat → Nat) (ν0 ν : Nm) : Prop := MX 314 a ν ∧ RM a ν ∧ Fr fmP ν0 ν
theorem CP_C {a : Nat → Nat} {ν0 ν : Nm} (h : CP a ν0 ν) : C1 a ν ν := ⟨h.1, Fr_rfl _ _⟩
theorem MP_M {a : Nat → Nat} {ν0 ν : Nm} (h : MP a ν0 ν) : M1 a ν ν := ⟨h.1, Fr_rfl _ _⟩
theorem CP_go {a a2 : Nat → Nat} {ν0 ν ν2 : Nm} (h : CP a ν0 ν) (h4 : a 0 ≤ 4) (hc : C1 a2 ν ν2) (ha : ∀ j, j = 0 ∨ (20 ≤ j ∧ j < 28) → a2 j = a j) : CP a2 ν0 ν2 :=
  ⟨hc.1, RC_keep h.2.1 h4 ⟨by rw [ha 0 (by omega)]; exact Nat.le_refl _, fun c c4 _ => ha _ (by omega)⟩ (fun q j hq => hc.2.1 q j (by unfold rcq at hq; unfold fc; omega)) (fun j => hc.2.2 _ _ (by unfold fc; omega)), Fr_tr h.2.2 (Fr_mono hc.2 (fun _ _ m => Or.inl m))⟩
theorem MP_go {a a2 : Nat → Nat} {ν0 ν ν2 : Nm} (h : MP a ν0 ν) (h4 : a 0 ≤ 4) (hc : M1 a2 ν ν2) (ha : ∀ j, j = 0 ∨ (20 ≤ j ∧ j < 28) → a2 j = a j) : MP a2 ν0 ν2 :=
  ⟨hc.1, RM_keep h.2.1 h4 ⟨ha 0 (by omega), fun c c4 _ => ha _ (by omega)⟩ (fun j => hc.2.1 _ _ (by unfold fm; omega)) (fun j => hc.2.1 _ _ (by unfold fm; omega)), Fr_tr h.2.2 (Fr_mono hc.2 (fun _ _ m => Or.inl m))⟩
theorem CP_0 {a b : Nat → Nat} {ν : Nm} (h : Inv a b tau ν) : CP a ν ν := ⟨h.2.2.1, h.2.2.2.2.2.2.1.2.2.1, Fr_rfl _ _⟩
theorem MP_0 {a b a2 : Nat → Nat} {ν ν1 : Nm} (h : Inv a b tau ν) (hc : CP a2 ν ν1) : MP a ν1 ν1 := by
  have k : ∀ q j, 285 ≤ q → gi ν1 q j = gi ν q j := fun q j hq => hc.2.2.1 q j (by unfold fcP fc; omega)
  exact ⟨MX_keep h.2.2.2.2.1 (fun j => k _ _ (by omega)), RM_keep h.2.2.2.2.2.2.1.2.2.2 h.2.2.2.2.2.2.1.1 ⟨rfl, fun _ _ _ => rfl⟩ (fun j => k _ _ (by omega)) (fun j => k _ _ (by omega)), Fr_rfl _ _⟩
theorem Inv_P {a b a2 : Nat → Nat} {ν ν1 ν2 : Nm} (h : Inv a b tau ν) (hc : CP a2 ν ν1) (hm : MP a2 ν1 ν2) (hw : WF a2) (h2 : a2 2 = a 2) (h0 : a 0 ≤ a2 0) (ha : ∀ c, c < a 0 → a2 (20 + 2 * c) = a (20 + 2 * c)) : Inv a2 b tau ν2 := by
  obtain ⟨w1, w2, c1, c2, m1, m2, ⟨t1, ⟨D, hT⟩, t3, t4⟩, ⟨o0, o1, o3⟩, o4, ⟨n, n1, n2, n3⟩, o5, o6, o7⟩ := h
  have k : ∀ q j, ¬ fcP q j → ¬ fmP q j → gi ν2 q j = gi ν q j := fun q j n1 n2 => (hm.2.2.1 q j n2).trans (hc.2.2.1 q j n1)
  have g : ∀ q j, (136 ≤ q ∧ q ≤ 273) ∨ (285 ≤ q ∧ q ≤ 312) ∨ (q = 313 ∧ j ≠ 24) ∨ (315 ≤ q ∧ q ≤ 317) → gi ν2 q j = gi ν q j := fun q j hq => k q j (by unfold fcP fc; omega) (by unfold fmP fm; omega)
  have km : ∀ q j, 276 ≤ q → q ≤ 281 → gi ν2 q j = gi ν1 q j := fun q j h1 h2 => hm.2.2.1 q j (by unfold fmP fm; omega)
  have kml : ∀ j, gl ν2 277 j = gl ν1 277 j := fun j => hm.2.2.2 _ _ (by unfold fmP fm; omega)
  refine ⟨hw, w2, CX_keep hc.1 (fun q j h1 h2 => hm.2.2.1 q j (by unfold fmP fm; omega)), CX_keep c2 (fun q j _ _ => g q j (by omega)), hm.1, MX_keep m2 (fun j => g _ _ (by omega)), ⟨(wb hw).1, ⟨D, TO_keep hT (by omega) (fun q j hq => g q j (by omega))⟩, RC_keep hc.2.1 (wb hw).1 ⟨Nat.le_refl _, fun _ _ _ => rfl⟩ (fun q j hq => km q j (by unfold rcq at hq; omega) (by unfold rcq at hq; omega)) kml, hm.2.1⟩, ⟨by omega, by omega, fun c c4 hcb => by rw [ha c (by omega)]; exact o3 c c4 hcb⟩, by rw [g _ _ (by omega)]; exact o4, ⟨n, n1, by rw [g _ _ (by omega)]; exact n2, by rw [g _ _ (by omega)]; exact n3⟩, fun i hi => by rw [g _ _ (by omega), g _ _ (by omega)]; exact o5 i hi, by rw [g _ _ (by omega), g _ _ (by omega)]; exact o6, by rw [g _ _ (by omega), g _ _ (by omega)]; exact o7⟩
/-- a cord is told -/
def cdA (a : Nat → Nat) (m p : Nat) : Nat → Nat := upn (upn a (20 + 2 * a 0) m) (21 + 2 * a 0) p
def cordA (a : Nat → Nat) (m p : Nat) : Nat → Nat := upn (beginA (cdA a m p) (a 0)) 0 (a 0 + 1)
theorem cdA_n {a : Nat → Nat} {m p j : Nat} (h1 : j ≠ 20 + 2 * a 0) (h2 : j ≠ 21 + 2 * a 0) : cdA a m p j = a j := by unfold cdA; rw [upn_n _ _ h2, upn_n _ _ h1]
theorem cdA_20 {a : Nat → Nat} {m p : Nat} : cdA a m p (20 + 2 * a 0) = m := by unfold cdA; rw [upn_n _ _ (by omega), upn_s]
theorem cdA_21 {a : Nat → Nat} {m p : Nat} : cdA a m p (21 + 2 * a 0) = p := by unfold cdA; rw [upn_s]
theorem cordA_n {a : Nat → Nat} {m p j : Nat} (h0 : j ≠ 0) (h1 : j ≠ 20 + 2 * a 0) (h2 : j ≠ 21 + 2 * a 0) (h3 : j ≠ 12 + 2 * a 0) (h4 : j ≠ 13 + 2 * a 0) : cordA a m p j = a j := by
  unfold cordA beginA
  rw [upn_n _ _ h0, upn_n _ _ h4, upn_n _ _ h3, cdA_n h1 h2]
theorem cordA_v {a : Nat → Nat} {m p : Nat} (h4 : a 0 < 4) : cordA a m p 0 = a 0 + 1 ∧ cordA a m p (20 + 2 * a 0) = m ∧ cordA a m p (21 + 2 * a 0) = p ∧ cordA a m p (12 + 2 * a 0) = 64 * m ∧ cordA a m p (13 + 2 * a 0) = 0 := by
  unfold cordA beginA
  refine ⟨upn_s _ _ _, ?_, ?_, ?_, ?_⟩
  · rw [upn_n _ _ (by omega), upn_n _ _ (by omega), upn_n _ _ (by omega), cdA_20]
  · rw [upn_n _ _ (by omega), upn_n _ _ (by omega), upn_n _ _ (by omega), cdA_21]
  · rw [upn_n _ _ (by omega), upn_n _ _ (by omega), upn_s, cdA_20]
  · rw [upn_n _ _ (by omega), upn_s]
theorem WF_cord {a : Nat → Nat} (hw : WF a) {m p : Nat} (h4 : a 0 < 4) (hm : 1 ≤ m ∧ m ≤ 60) (hp : p ≤ 99) : WF (cordA a m p) := by
  obtain ⟨v0, v1, v2, v3, v5⟩ := cordA_v (m := m) (p := p) h4
  have n : ∀ j, (j ≠ 0 ∧ j < 12) ∨ 28 ≤ j → cordA a m p j = a j := fun j hj => cordA_n (by omega) (by omega) (by omega) (by omega) (by omega)
  have nc : ∀ c, c < 4 → c ≠ a 0 → cordA a m p (20 + 2 * c) = a (20 + 2 * c) ∧ cordA a m p (12 + 2 * c) = a (12 + 2 * c) ∧ cordA a m p (13 + 2 * c) = a (13 + 2 * c) ∧ cordA a m p (21 + 2 * c) = a (21 + 2 * c) := fun c hc hn => ⟨cordA_n (by omega) (by omega) (by omega) (by omega) (by omega), cordA_n (by omega) (by omega) (by omega) (by omega) (by omega), cordA_n (by omega) (by omega) (by omega) (by omega) (by omega), cordA_n (by omega) (by omega) (by omega) (by omega) (by omega)⟩
  have ku : ∀ c, c < 4 → ub (12 + 2 * c) = 3840 ∧ ub (13 + 2 * c) = 3 ∧ ub (20 + 2 * c) = 60 ∧ ub (21 + 2 * c) = 99 := by decide
  obtain ⟨u, w1, w2, w3, w4, w5, w6⟩ := hw
  refine ⟨fun i hi => ?_, by unfold W1; rw [n 1 (by omega)]; exact w1, by unfold W2; rw [n 3 (by omega), n 2 (by omega)]; exact w2, ⟨?_, fun c c4 h => ?_⟩, W4_keep w4 (fun j hj => n j (by omega)), fun i i8 hi => ?_, fun i i30 hi => ?_⟩
  · by_cases e0 : i = 0
    · subst e0; rw [v0]; show a 0 + 1 ≤ 4; omega
    · by_cases e : 12 ≤ i ∧ i < 28
      · by_cases e1 : i = 20 + 2 * a 0
        · rw [e1, v1, (ku _ h4).2.2.1]; exact hm.2
        · by_cases e2 : i = 21 + 2 * a 0
          · rw [e2, v2, (ku _ h4).2.2.2]; exact hp
          · by_cases e3 : i = 12 + 2 * a 0
            · rw [e3, v3, (ku _ h4).1]; omega
            · by_cases e5 : i = 13 + 2 * a 0
              · rw [e5, v5, (ku _ h4).2.1]; omega
              · rw [cordA_n e0 e1 e2 e3 e5]; exact u i hi
      · rw [n i (by omega)]; exact u i hi
  · rw [v0]
    intro c hc
    rw [show 12 + 1 + 2 * c = 13 + 2 * c by omega]
    by_cases e : c = a 0
    · subst e
      rw [v1, v3, v5]
      exact ⟨fun q => absurd rfl q, fun _ => rfl, fun _ => Nat.le_refl _⟩
    · obtain ⟨q1, q2, q3, q4⟩ := nc c hc e
      have := w3.1 c hc
      rw [show 12 + 1 + 2 * c = 13 + 2 * c by omega] at this
      rw [q1, q2, q3]
      exact ⟨this.1, fun z => this.2.1 (by omega), fun z => this.2.2 (by omega)⟩
  · rw [v0] at h
    by_cases e : c = a 0
    · subst e; rw [v1]; exact hm.1
    · rw [(nc c c4 e).1]; exact w3.2 c c4 (by omega)
  · rw [n 7 (by omega)] at hi
    rw [n _ (by omega), v0]
    have := w5 i i8 hi
    omega
  · rw [n 4 (by omega)] at hi
    obtain ⟨q1, q2⟩ := w6 i i30 hi
    rw [n _ (by omega), v0]
    refine ⟨by omega, fun c hc => ?_⟩
    have := q2 c hc
    rw [n (70 + 43 * i + 1 + 2 * c) (by omega), n (70 + 43 * i + 2 * c) (by omega)]
    refine ⟨this.1, this.2.1, fun z => ?_⟩
    rw [(nc c hc (by omega)).1]; exact this.2.2 z
theorem c_cord {a : Nat → Nat} {ν0 ν : Nm} (h : CP a ν0 ν) (hw : WF a) {m p : Nat} (h4 : a 0 < 4) (hm : 1 ≤ m ∧ m ≤ 60) (hp : p ≤ 99) : ∃ ν2, Fm_cord (nI m) (nI p) ν = some (nI (a 0), ν2) ∧ CP (cordA a m p) ν0 ν2 := by
  have hb := wb hw
  have h30 := hb.2.2.2.2.2.1
  have hc := CP_C h
  have c1 := C1_pl (C1_pl hc (20 + 2 * a 0) 128 (a 0) (plc3 _ h4) (by omega) (by omega) h30 m) (21 + 2 * a 0) 129 (a 0) (plc4 _ h4) (by omega) (by omega) (by rw [upn_n _ _ (by omega)]; exact h30) p
  have c1' : C1 (upn (cdA a m p) 0 (a 0)) ν (si (si ν 128 (a 0) (nI m)) 129 (a 0) (nI p)) := by
    have e : upn (cdA a m p) 0 (a 0) = cdA a m p := by
      have := upn_id (cdA a m p) 0
      rw [cdA_n (by omega) (by omega)] at this
      exact this
    rw [e]; exact c1
  obtain ⟨ν1, p1, p2⟩ := c_lay1 c1' (by rw [cdA_n (by omega) (by omega)]; exact h30) h4
  rw [cdA_20] at p1
  have k1 : ∀ q j, rcq q → gi ν1 q j = gi ν q j := fun q j hq => p2.2.1 q j (by unfold rcq at hq; unfold fc; omega)
  have r1 : RC a ν1 := RC_keep h.2.1 hb.1 ⟨Nat.le_refl _, fun _ _ _ => rfl⟩ k1 (fun j => p2.2.2 _ _ (by unfold fc; omega))
  obtain ⟨ν2, q1, q2, q3, q4⟩ := c_forget r1 h4 (a2 := cordA a m p) (cordA_v h4).1 (fun c hcl => cordA_n (by omega) (by omega) (by omega) (by omega) (by omega))
  refine ⟨ν2, ?_, CX_keep p2.1 (fun q j _ _ => q3 q j (by omega)), q2, Fr_tr h.2.2 (Fr_tr (Fr_mono p2.2 (fun _ _ m => Or.inl m)) ⟨fun q j n => q3 q j (fun z => n (Or.inr ⟨z.1, z.2⟩)), fun q j _ => q4 q j⟩)⟩
  unfold Fm_cord
  rw [within_isIn, within_isIn, show (1 : Int32) = nI 1 from rfl, show (60 : Int32) = nI 60 from rfl, isIn_t hm.1 hm.2 (by decide), Option.bind_some, if_neg (by rw [b2iT]; exact id), show (0 : Int32) = nI 0 from rfl, show (99 : Int32) = nI 99 from rfl, isIn_t (by omega) hp (by decide), Option.bind_some, if_neg (by rw [b2iT']; exact id), (cr hc).1, if_pos (by rw [show (4 : Int32) = nI 4 from rfl, nI_lt' (by omega) (by omega)]; exact h4), inb_nI (by omega), nI_clamp (by omega), if_pos (decide_eq_true h4), if_pos (decide_eq_true h4), p1, Option.bind_some, q1, Option.bind_some]
theorem m_cord {a : Nat → Nat} {ν0 ν : Nm} (h : MP a ν0 ν) (hw : WF a) {m p : Nat} (h4 : a 0 < 4) (hm : 1 ≤ m ∧ m ≤ 60) (hp : p ≤ 99) : ∃ ν2, Md_cord (nI m) (nI p) ν = some (nI (a 0), ν2) ∧ MP (cordA a m p) ν0 ν2 := by
  have hb := wb hw
  have hc := MP_M h
  have c1 := M1_up (M1_up hc (i := 20 + 2 * a 0) m (by omega)) (i := 21 + 2 * a 0) p (by omega)
  obtain ⟨ν1, p1, p2⟩ := m_begin c1 h4
  have p3 := M1_up p2 (i := 0) (a 0 + 1) (by omega)
  have e0 : gi ν1 314 0 + 1 = nI (a 0 + 1) := by
    rw [mr p2 (by decide) (by decide)]
    unfold beginA
    rw [upn_n _ _ (by omega), upn_n _ _ (by omega), upn_n _ _ (by omega), upn_n _ _ (by omega)]
    exact nI_add (a 0) 1
  obtain ⟨ν2, q1, q2, q3, q4⟩ := m_forget (si ν1 314 0 (nI (a 0 + 1)))
  refine ⟨ν2, ?_, MX_keep p3.1 (fun j => q2 _ _ (by omega)), RM_none q4, Fr_tr h.2.2 (Fr_tr (Fr_mono p3.2 (fun _ _ m => Or.inl m)) ⟨fun q j n => q2 q j (fun z => n (Or.inr z)), fun q j _ => q3 q j⟩)⟩
  unfold Md_cord
  rw [show (1 : Int32) = nI 1 from rfl, show (60 : Int32) = nI 60 from rfl, isIn_t hm.1 hm.2 (by decide), Option.bind_some, if_neg (by rw [b2iT]; exact id), show (0 : Int32) = nI 0 from rfl, show (99 : Int32) = nI 99 from rfl, isIn_t (by omega) hp (by decide), Option.bind_some, if_neg (by rw [b2iT']; exact id), mr hc (by decide) (by decide), if_pos (by rw [show (4 : Int32) = nI 4 from rfl, nI_eq' (by omega) (by omega)]; omega), show (20 : Int32) = nI 20 from rfl, show (2 : Int32) = nI 2 from rfl, nI_mul, nI_add, nI_add, inb_nI (by omega), inb_nI (by omega), nI_clamp (by omega), nI_clamp (by omega), if_pos (by simp; omega), if_pos (by simp; omega), show 20 + 2 * a 0 + 1 = 21 + 2 * a 0 by omega, p1, Option.bind_some, show nI 1 = (1 : Int32) from rfl, e0, q1, Option.bind_some]
theorem st_cord {a b : Nat → Nat} {ν : Nm} (h : Inv a b tau ν) (x y : Int32) : Step tau (Fm_cord x y) (Md_cord x y) ν := by
  have hw := h.1
  have hb := wb hw
  have hc0 := C1_0 h
  rcases isIn_cases x 1 60 (by decide) (by decide) with ⟨m, m1, m2, rfl, m3⟩ | ⟨_, m3⟩
  · have m3' : Md_isIn (nI m) 1 60 = some true := m3
    rcases isIn_cases y 0 99 (by decide) (by decide) with ⟨p, _, p2, rfl, p3⟩ | ⟨_, p3⟩
    · have p3' : Md_isIn (nI p) 0 99 = some true := p3
      by_cases h4 : a 0 < 4
      · obtain ⟨ν1, q1, q2⟩ := c_cord (CP_0 h) hw h4 ⟨m1, m2⟩ p2
        obtain ⟨ν2, r1, r2⟩ := m_cord (MP_0 h q2) hw h4 ⟨m1, m2⟩ p2
        exact ⟨_, ν1, ν2, _, b, q1, r1, Inv_P h q2 r2 (WF_cord hw h4 ⟨m1, m2⟩ p2) (cordA_n (by omega) (by omega) (by omega) (by omega) (by omega)) (by rw [(cordA_v h4).1]; omega) (fun c hc => cordA_n (by omega) (by omega) (by omega) (by omega) (by omega))⟩
      · have e4 : a 0 = 4 := by omega
        refine Step_no h (-1) ?_ ?_
        · unfold Fm_cord
          rw [within_isIn, within_isIn, m3', Option.bind_some, p3', (cr hc0).1, e4]; rfl
        · unfold Md_cord
          rw [m3', Option.bind_some, p3', mr (M1_0 h hc0) (by decide) (by decide), e4]; rfl
    · have p3' : Md_isIn y 0 99 = some false := p3
      exact Step_no h (-1) (by unfold Fm_cord; rw [within_isIn, within_isIn, m3', Option.bind_some, p3']; rfl) (by unfold Md_cord; rw [m3', Option.bind_some, p3']; rfl)
  · have m3' : Md_isIn x 1 60 = some false := m3
    exact Step_no h (-1) (by unfold Fm_cord; rw [within_isIn, m3']; rfl) (by unfold Md_cord; rw [m3']; rfl)
