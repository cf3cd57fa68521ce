/-! Laws asked for; an end is lit. -/
/-- what the ruling law says of lighting an end, and how often it fails by a text -/
def lgV (D : Nat → TD) (a : Nat → Nat) (c s : Nat) : Int32 := if a 3 = 0 then 1 else saysV a c s (D (a 3 - 1)) 0 1 (-99) 99
def flV (D : Nat → TD) (a : Nat → Nat) (t c : Nat) : Int32 := saysV a c 0 (D t) 1 0 0 10
/-- by the ruling text -/
def frV (D : Nat → TD) (a : Nat → Nat) (c : Nat) : Int32 := if a 3 = 0 then 0 else flV D a (a 3 - 1) c
theorem rul_n {a : Nat → Nat} (h : a 3 ≠ 0) : nI (a 3) - 1 = nI (a 3 - 1) := nI_sub (b := 1) (by omega)
theorem neg1_lt {x : Int32} (h : x = -1) : ∀ c, c < 4 → x ≠ nI c := fun c hc e => neg1 (show c < 2 ^ 31 by omega) (e.symm.trans h)
theorem c_failsT {D : Nat → TD} {a : Nat → Nat} {ν0 ν : Nm} (hT : TO D a ν) (h : C1 a ν0 ν) (hw : WF a) {t c : Nat} (ht : t < a 2) (hc : c < a 0) : ∃ ν2, Fm_failsSays (nI t) (nI c) ν = some (flV D a t c, ν2) ∧ C1 a ν0 ν2 ∧ Fr (fun q _ => q = 274 ∨ q = 275) ν ν2 := by
  have hb := wb hw
  have h4 : t < 4 := by omega
  obtain ⟨-, -, -, -, -, hL⟩ := hT t h4 ht
  unfold Fm_failsSays flV saysV
  rw [c_text_t h hw ht, Option.bind_some, if_neg (by rw [b2iT]; exact id), inb_nI (by omega), nI_clamp (by omega), if_pos (decide_eq_true h4), if_pos (decide_eq_true h4), show (1 : Int32) = nI 1 from rfl, TLaw_rules (by omega) hL, Option.bind_some]
  by_cases e : tb (D t) 1 < te (D t) 1
  · obtain ⟨ν2, q1, q2, q3⟩ := c_value (by omega) (by omega) hL e h hw hc (show 0 < 2 by omega)
    rw [decide_eq_true e, if_pos (by rw [b2iT]; exact id), if_pos e, show (0 : Int32) = nI 0 from rfl, q1, Option.bind_some]
    exact ⟨ν2, rfl, q2, q3⟩
  · rw [decide_eq_false e, if_neg (by rw [b2iF]; simp), if_neg e]
    exact ⟨ν, rfl, h, Fr_rfl _ _⟩
theorem c_fails {D : Nat → TD} {a : Nat → Nat} {ν0 ν : Nm} (hT : TO D a ν) (h : C1 a ν0 ν) (hw : WF a) {c : Nat} (hc : c < a 0) : ∃ ν2, Fm_failsSays (gi ν 1 7) (nI c) ν = some (frV D a c, ν2) ∧ C1 a ν0 ν2 ∧ Fr (fun q _ => q = 274 ∨ q = 275) ν ν2 := by
  have hb := wb hw
  rw [(cr h).2.2.2.1]
  unfold frV
  by_cases e : a 3 = 0
  · rw [if_pos e, e]
    refine ⟨ν, ?_, h, Fr_rfl _ _⟩
    unfold Fm_failsSays
    rw [c_text_f h hw (x := nI 0 - 1) (fun c hc => neg1_lt (x := nI 0 - 1) rfl c (by omega))]; rfl
  · rw [if_neg e, rul_n e]
    exact c_failsT hT h hw (by omega) hc
theorem c_lights {D : Nat → TD} {a : Nat → Nat} {ν0 ν : Nm} (hT : TO D a ν) (h : C1 a ν0 ν) (hw : WF a) {c s : Nat} (hc : c < a 0) (hs : s < 2) : ∃ ν2, Fm_lightsSays (nI c) (nI s) ν = some (lgV D a c s, ν2) ∧ C1 a ν0 ν2 ∧ Fr (fun q _ => q = 274 ∨ q = 275) ν ν2 := by
  have hb := wb hw
  unfold Fm_lightsSays lgV
  rw [(cr h).2.2.2.1]
  by_cases e : a 3 = 0
  · rw [if_pos e, e]
    refine ⟨ν, ?_, h, Fr_rfl _ _⟩
    rw [c_text_f h hw (x := nI 0 - 1) (fun c hc => neg1_lt (x := nI 0 - 1) rfl c (by omega))]; rfl
  · have h4 : a 3 - 1 < 4 := by omega
    obtain ⟨-, -, -, -, hL, -⟩ := hT (a 3 - 1) h4 (by omega)
    unfold saysV
    rw [if_neg e, rul_n e, c_text_t h hw (by omega), Option.bind_some, if_neg (by rw [b2iT]; exact id), inb_nI (by omega), nI_clamp (by omega), if_pos (decide_eq_true h4), if_pos (decide_eq_true h4), show (0 : Int32) = nI 0 from rfl, TLaw_rules (by omega) hL, Option.bind_some]
    by_cases e2 : tb (D (a 3 - 1)) 0 < te (D (a 3 - 1)) 0
    · obtain ⟨ν2, q1, q2, q3⟩ := c_value (by omega) (by omega) hL e2 h hw hc hs
      rw [decide_eq_true e2, if_pos (by rw [b2iT']; exact id), if_pos e2, q1, Option.bind_some]
      exact ⟨ν2, rfl, q2, q3⟩
    · rw [decide_eq_false e2, if_neg (by rw [b2iF']; simp), if_neg e2]
      exact ⟨ν, rfl, h, Fr_rfl _ _⟩
theorem TO_319 {D : Nat → TD} {a : Nat → Nat} {ν ν2 : Nm} (h : TO D a ν) (k : ∀ q j, q ≠ 319 → gi ν2 q j = gi ν q j) : TO D a ν2 := TO_keep h (Nat.le_refl _) (fun q j hq => k q j (by omega))
theorem m_failsT {D : Nat → TD} {a : Nat → Nat} {ν0 ν : Nm} (hT : TO D a ν) (h : M1 a ν0 ν) (hw : WF a) {t c : Nat} (ht : t < a 2) (hc : c < 4) : ∃ ν2, Md_failsOf (nI t) (nI c) ν = some (flV D a t c, ν2) ∧ M1 a ν0 ν2 := by
  have hb := wb hw
  obtain ⟨ν1, p1, p2, p3, p4⟩ := m_name h hw hc 0
  have hT1 := TO_319 hT p4 t (by omega) ht
  obtain ⟨ν2, q1, q2⟩ := m_says (by omega) (show 1 < 2 by omega) hT1 p2 hw hc (show 0 < 2 by omega) (fun v v1 v2 => p3 v (by have := v2 rfl; omega)) (wo := 0) (lo := 0) (hi := 10) (by decide)
  refine ⟨ν2, ?_, q2⟩
  unfold Md_failsOf
  rw [p1, Option.bind_some]
  have q1' : Md_says (nI t) 1 0 0 10 ν1 = some (flV D a t c, ν2) := q1
  rw [q1', Option.bind_some]
theorem m_fails {D : Nat → TD} {a : Nat → Nat} {ν0 ν : Nm} (hT : TO D a ν) (h : M1 a ν0 ν) (hw : WF a) {c : Nat} (hc : c < 4) : ∃ ν2, Md_failsOf (gi ν 314 3) (nI c) ν = some (frV D a c, ν2) ∧ M1 a ν0 ν2 := by
  have hb := wb hw
  rw [mr3 h]
  unfold frV
  by_cases e : a 3 = 0
  · rw [if_pos e, e]
    obtain ⟨ν1, p1, p2, p3, p4⟩ := m_name h hw hc 0
    refine ⟨ν1, ?_, p2⟩
    unfold Md_failsOf Md_says
    rw [p1, Option.bind_some, show FU = 999999999 + 1 from rfl, Md_says_3, if_pos (by decide), Option.bind_some]
  · rw [if_neg e, rul_n e]
    exact m_failsT hT h hw (by omega) hc
theorem m_lights {D : Nat → TD} {a : Nat → Nat} {ν0 ν : Nm} (hT : TO D a ν) (h : M1 a ν0 ν) (hw : WF a) {c : Nat} (hc : c < 4) (x : Int32) : ∃ ν2, Md_lightsOf (nI c) x ν = some (lgV D a c (sb x), ν2) ∧ M1 a ν0 ν2 := by
  have hb := wb hw
  obtain ⟨ν1, p1, p2, p3, p4⟩ := m_name h hw hc (sb x)
  have key : ∀ s, s < 2 → (∀ v, v < 6 → gi ν1 319 v = nI (nmV a c s v)) → ∃ ν2, Md_lightsOf_20 (nI s) 6 ν1 = some (lgV D a c s, ν2) ∧ M1 a ν0 ν2 := by
    intro s hs p3
    have m2 : M1 a ν0 (si ν1 319 6 (nI s)) := ⟨MX_keep p2.1 (fun k => gi_si_q _ _ _ _ (by omega)), Fr_si p2.2 _ (Or.inr (Or.inr (by omega)))⟩
    unfold Md_lightsOf_20 lgV
    rw [show (6 : Int32) = nI 6 from rfl, inb_nI (by omega), nI_clamp (by omega), if_pos (by decide), mr3 m2]
    by_cases e : a 3 = 0
    · rw [if_pos e, e]
      refine ⟨_, ?_, m2⟩
      unfold Md_says
      rw [show FU = 999999999 + 1 from rfl, Md_says_3, if_pos (by decide), Option.bind_some]
    · have hT1 := TO_319 (ν2 := si ν1 319 6 (nI s)) hT (fun q j hq => by rw [gi_si_q _ _ _ _ hq, p4 q j hq]) (a 3 - 1) (by omega) (by omega)
      obtain ⟨ν2, q1, q2⟩ := m_says (by omega) (show 0 < 2 by omega) hT1 m2 hw hc hs (fun v v1 v2 => by
        by_cases e6 : v = 6
        · subst e6; rw [gi_si_s]; rfl
        · rw [gi_si_j _ _ _ e6]; exact p3 v (by omega)) (wo := 1) (lo := -99) (hi := 99) (by decide)
      refine ⟨ν2, ?_, q2⟩
      have q1' : Md_says (nI (a 3 - 1)) 0 1 (-99) 99 (si ν1 319 6 (nI s)) = some (saysV a c s (D (a 3 - 1)) 0 1 (-99) 99, ν2) := q1
      rw [if_neg e, rul_n e, q1', Option.bind_some]
  unfold Md_lightsOf
  rw [p1, Option.bind_some]
  rcases sb_eq (x := x) with ⟨q1, q2⟩ | ⟨q1, q2⟩
  · rw [if_pos q1, q2]; rw [q2] at p3; exact key 0 (by omega) p3
  · rw [if_neg q1, q2]; rw [q2] at p3; exact key 1 (by omega) p3
/-- an end can be lit -/
def canL (D : Nat → TD) (a : Nat → Nat) (c s : Nat) : Bool := decide (a (12 + 2 * c) ≠ 0 ∧ ¬ (a (13 + 2 * c) / 2 ^ s % 2 = 1) ∧ a 10 < a 1) && decide (0 < lgV D a c s)
theorem c_canLight {D : Nat → TD} {a : Nat → Nat} {ν0 ν : Nm} (hT : TO D a ν) (h : C1 a ν0 ν) (hw : WF a) {c s : Nat} (hc : c < a 0) (hs : s < 2) : ∃ ν2, Fm_canLight (nI c) (nI s) ν = some (canL D a c s, ν2) ∧ C1 a ν0 ν2 ∧ Fr (fun q _ => q = 274 ∨ q = 275) ν ν2 := by
  have hb := wb hw
  have h4 : c < 4 := by omega
  have hbc := wbc hw h4
  unfold Fm_canLight canL
  rw [c_has_t h hw hc, Option.bind_some, if_neg (by rw [b2iT]; exact id), inb_nI (by omega), nI_clamp (by omega), if_pos (decide_eq_true h4), cr_rest h h4, c_burns h hw hc hs, Option.bind_some, (cr h).2.1, (cr h).2.2.2.2.2.2.2.2.2.2.1]
  have z : (nI (a (12 + 2 * c)) = 0) = (a (12 + 2 * c) = 0) := nI_eq' (b := 0) (by omega) (by decide)
  simp only [z]
  by_cases e1 : a (12 + 2 * c) = 0
  · rw [if_pos e1, decide_eq_false (by omega)]; exact ⟨ν, rfl, h, Fr_rfl _ _⟩
  · rw [if_neg e1]
    by_cases e2 : a (13 + 2 * c) / 2 ^ s % 2 = 1
    · rw [decide_eq_true e2, if_neg (by rw [b2iT]; exact id), decide_eq_false (by omega)]; exact ⟨ν, rfl, h, Fr_rfl _ _⟩
    · rw [decide_eq_false e2, if_pos (by rw [b2iF]; exact True.intro)]
      by_cases e3 : a 1 ≤ a 10
      · rw [if_pos (by rw [nI_le' (by omega) (by omega)]; exact e3), decide_eq_false (by omega)]; exact ⟨ν, rfl, h, Fr_rfl _ _⟩
      · obtain ⟨ν2, q1, q2, q3⟩ := c_lights hT h hw hc hs
        rw [if_neg (by rw [nI_le' (by omega) (by omega)]; exact e3), q1, Option.bind_some, decide_eq_true (by omega)]
        by_cases e4 : lgV D a c s ≤ 0
        · rw [if_pos e4, decide_eq_false (Int32.not_lt.mpr e4)]; exact ⟨ν2, rfl, q2, q3⟩
        · rw [if_neg e4, decide_eq_true (Int32.not_le.mp e4)]; exact ⟨ν2, rfl, q2, q3⟩
theorem m_canLight {D : Nat → TD} {a : Nat → Nat} {ν0 ν : Nm} (hT : TO D a ν) (h : M1 a ν0 ν) (hw : WF a) {c : Nat} (hc : c < a 0) (x : Int32) : ∃ ν2, Md_canLight (nI c) x ν = some (canL D a c (sb x), ν2) ∧ M1 a ν0 ν2 := by
  have hb := wb hw
  have h4 : c < 4 := by omega
  have hbc := wbc hw h4
  have eand : ∃ y, Md_sideBit x = some y ∧ ((nI (a (13 + 2 * c)) &&& y = 0) ↔ ¬ (a (13 + 2 * c) / 2 ^ sb x % 2 = 1)) := by
    unfold Md_sideBit
    rcases sb_eq (x := x) with ⟨q1, q2⟩ | ⟨q1, q2⟩
    · rw [if_pos q1, q2]; exact ⟨1, rfl, e_and1 _ (by omega)⟩
    · rw [if_neg q1, q2]; exact ⟨2, rfl, e_and2 _ (by omega)⟩
  obtain ⟨y, y1, y2⟩ := eand
  unfold Md_canLight canL
  rw [m_isCord_t h hw hc, Option.bind_some, if_neg (by rw [b2iT]; exact id), show (1 : Int32) = nI 1 from rfl, m_g1 h h4, Option.bind_some, y1, Option.bind_some, m_isOut h hw h4, Option.bind_some, mr h (by decide) (by decide), mr h (by decide) (by decide)]
  by_cases e2 : a (13 + 2 * c) / 2 ^ sb x % 2 = 1
  · rw [if_pos (fun q => y2.mp q e2), decide_eq_false (by omega)]; exact ⟨ν, rfl, h⟩
  · rw [if_neg (fun q => q (y2.mpr e2))]
    by_cases e1 : a (12 + 2 * c) = 0
    · rw [decide_eq_true e1, if_pos (by rw [b2iT]; exact id), decide_eq_false (by omega)]; exact ⟨ν, rfl, h⟩
    · rw [decide_eq_false e1, if_neg (by rw [b2iF]; simp)]
      by_cases e3 : a 1 ≤ a 10
      · rw [if_pos (by rw [nI_le' (by omega) (by omega)]; exact e3), decide_eq_false (by omega)]; exact ⟨ν, rfl, h⟩
      · obtain ⟨ν2, q1, q2⟩ := m_lights hT h hw h4 x
        rw [if_neg (by rw [nI_le' (by omega) (by omega)]; exact e3), q1, Option.bind_some, decide_eq_true (by omega)]
        by_cases e4 : lgV D a c (sb x) ≤ 0
        · rw [if_pos e4, decide_eq_false (Int32.not_lt.mpr e4)]; exact ⟨ν2, rfl, q2⟩
        · rw [if_neg e4, decide_eq_true (Int32.not_le.mp e4)]; exact ⟨ν2, rfl, q2⟩
/-- lit, or fizzled -/
def drA (a : Nat → Nat) : Nat → Nat := upn a 9 ((a 9 * 569 + 439) % 30781)
def fzl (D : Nat → TD) (a : Nat → Nat) (c : Nat) : Bool := decide (nI (a 9 % 10) < frV D a c)
def litA (D : Nat → TD) (a : Nat → Nat) (c s : Nat) : Nat → Nat :=
  if fzl D a c = true then writeA (upn (drA a) 10 (a 10 + 1)) c 1 s
  else writeA (upn (upn (drA a) 10 (a 10 + 1)) (13 + 2 * c) (setb (a (13 + 2 * c)) s)) c 0 s
def litV (D : Nat → TD) (a : Nat → Nat) (c : Nat) : Int32 := if fzl D a c = true then 0 else 1
theorem drA_9 {a : Nat → Nat} (hw : WF a) : nI (a 9) * 569 + 439 - (nI (a 9) * 569 + 439) / 30781 * 30781 = nI ((a 9 * 569 + 439) % 30781) := by
  have hb := wb hw
  rw [show (569 : Int32) = nI 569 from rfl, show (439 : Int32) = nI 439 from rfl, show (30781 : Int32) = nI 30781 from rfl, nI_mul, nI_add, nI_mod (by omega) (by omega)]
theorem WF_dr {a : Nat → Nat} (hw : WF a) : WF (drA a) := WF_free hw (by omega) (show _ ≤ 30780 by omega)
theorem c_draw {a : Nat → Nat} {ν0 ν : Nm} (h : C1 a ν0 ν) (hw : WF a) : ∃ ν2, Pt_draw 2 ν = some (nI (a 9), ν2) ∧ C1 (drA a) ν0 ν2 := by
  unfold Pt_draw drA
  rw [(cr h).2.2.2.2.2.2.2.2.2.1, drA_9 hw]
  exact ⟨_, rfl, C1_pl h 9 2 2 (by decide) (by omega) (by omega) (wb hw).2.2.2.2.2.1 _⟩
theorem l_an {n : Nat} (h : n ≤ 30780) : (lq n * 569 + 439 - (lq n * 569 + 439) / 30781 * 30781).toInt32 = nI ((n * 569 + 439) % 30781) := by
  have e1 : lq n * 569 + 439 = lq (n * 569 + 439) := by
    unfold lq
    rw [Int64.ofNat_add, Int64.ofNat_mul]; rfl
  have e2 : lq (n * 569 + 439) / 30781 = lq ((n * 569 + 439) / 30781) := by
    apply Int64.toInt_inj.mp
    have hd := Nat.div_le_self (n * 569 + 439) 30781
    rw [Int64.toInt_div, lq_int (by omega), lq_int (by omega), show (30781 : Int64).toInt = ((30781 : Nat) : Int) from rfl, Int.tdiv_eq_ediv_of_nonneg (by omega)]
    have e : (((n * 569 + 439 : Nat) : Int) / ((30781 : Nat) : Int)) = (((n * 569 + 439) / 30781 : Nat) : Int) := by norm_cast
    rw [e]
    exact bm64 (by omega) (by omega)
  have e3 : lq ((n * 569 + 439) / 30781) * 30781 = lq ((n * 569 + 439) / 30781 * 30781) := lq_mul _ 30781
  rw [e1, e2, e3]
  apply Int32.toInt_inj.mp
  have hm := Nat.div_add_mod (n * 569 + 439) 30781
  rw [Int64.toInt_toInt32, Int64.toInt_sub, lq_int (by omega), lq_int (by omega), nI_toInt (by omega), bm64 (by omega) (by omega), Int.bmod_eq_of_le (by omega) (by omega)]
  omega
theorem m_anew {a : Nat → Nat} {ν0 ν : Nm} (h : M1 a ν0 ν) (hw : WF a) : ∃ ν2, Md_anew ν = some ν2 ∧ M1 (drA a) ν0 ν2 := by
  have hb := wb hw
  unfold Md_anew Md_anew_28 drA
  rw [mr h (by decide) (by decide), nI_lq (by omega), l_an (by omega)]
  exact ⟨_, rfl, M1_up h _ (by omega)⟩
