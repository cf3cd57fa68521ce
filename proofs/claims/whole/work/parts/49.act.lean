/-! Steps by hand: snuffed, renewed, burnt, minutes; class and model each do what a function of numbers says. -/
theorem wr23 {a : Nat → Nat} {ν0 ν : Nm} (h : M1 a ν0 ν) (hq : gi ν0 313 23 = 1) : gi ν 313 23 = 1 := by rw [h.2.1 _ _ (by unfold fm; omega)]; exact hq
def sb (x : Int32) : Nat := if x = 0 then 0 else 1
theorem sb_lt (x : Int32) : sb x < 2 := by unfold sb; split <;> omega
theorem sb_eq {x : Int32} : (x = 0 ∧ sb x = 0) ∨ (¬ x = 0 ∧ sb x = 1) := by
  unfold sb
  by_cases e : x = 0
  · exact Or.inl ⟨e, by rw [if_pos e]⟩
  · exact Or.inr ⟨e, by rw [if_neg e]⟩
/-- an end is put out, is lit -/
def clr (e s : Nat) : Nat := if e / 2 ^ s % 2 = 1 then e - 2 ^ s else e
def setb (e s : Nat) : Nat := if e / 2 ^ s % 2 = 1 then e else e + 2 ^ s
theorem e_bit : ∀ e, e < 4 → ∀ s, s < 2 → (((nI e >>> (nI s &&& 31)) &&& (1 : Int32)) = 0 ↔ ¬ e / 2 ^ s % 2 = 1) := by decide +kernel
theorem e_and1 : ∀ e, e < 4 → ((nI e &&& (1 : Int32)) = 0 ↔ ¬ e / 2 ^ 0 % 2 = 1) := by decide +kernel
theorem e_and2 : ∀ e, e < 4 → ((nI e &&& (2 : Int32)) = 0 ↔ ¬ e / 2 ^ 1 % 2 = 1) := by decide +kernel
theorem e_clr : ∀ e, e < 4 → ∀ s, s < 2 → nI e &&& (((1 : Int32) <<< (nI s &&& 31)) ^^^ (-1 : Int32)) = nI (clr e s) := by decide +kernel
theorem e_clr1 : ∀ e, e < 4 → nI e &&& ((1 : Int32) ^^^ (-1 : Int32)) = nI (clr e 0) := by decide +kernel
theorem e_clr2 : ∀ e, e < 4 → nI e &&& ((2 : Int32) ^^^ (-1 : Int32)) = nI (clr e 1) := by decide +kernel
theorem e_set : ∀ e, e < 4 → ∀ s, s < 2 → nI e ||| ((1 : Int32) <<< (nI s &&& 31)) = nI (setb e s) := by decide +kernel
theorem e_set1 : ∀ e, e < 4 → nI e ||| (1 : Int32) = nI (setb e 0) := by decide +kernel
theorem e_set2 : ∀ e, e < 4 → nI e ||| (2 : Int32) = nI (setb e 1) := by decide +kernel
theorem clr_le : ∀ e, e < 4 → ∀ s, s < 2 → clr e s ≤ 3 ∧ (clr e s ≠ 0 → e ≠ 0) := by decide
theorem set_le : ∀ e, e < 4 → ∀ s, s < 2 → setb e s ≤ 3 ∧ setb e s ≠ 0 := by decide
theorem c_burns {a : Nat → Nat} {ν0 ν : Nm} (h : C1 a ν0 ν) (hw : WF a) {c s : Nat} (hc : c < a 0) (hs : s < 2) : Pt_burns ν 2 (nI c) (nI s) = some (decide (a (13 + 2 * c) / 2 ^ s % 2 = 1)) := by
  have hb := (wb hw).1
  have h4 : c < 4 := by omega
  have he := (wbc hw h4).2.1
  unfold Pt_burns
  rw [c_has_t h hw hc, Option.bind_some, if_neg (by rw [b2iT]; exact id), inb_nI (by omega), nI_clamp (by omega), if_pos (decide_eq_true h4), show (2 + 2 : Nat) = 4 from rfl, cr_ends h h4]
  by_cases e : a (13 + 2 * c) / 2 ^ s % 2 = 1
  · rw [if_neg (fun q => (e_bit _ (by omega) s hs).mp q e), decide_eq_true e]
  · rw [if_pos ((e_bit _ (by omega) s hs).mpr e), decide_eq_false e]
theorem c_burns_f {a : Nat → Nat} {ν0 ν : Nm} (h : C1 a ν0 ν) (hw : WF a) {x y : Int32} (hx : ∀ c, c < a 0 → x ≠ nI c) : Pt_burns ν 2 x y = some false := by
  unfold Pt_burns
  rw [c_has_f h hw hx, Option.bind_some, if_pos (by rw [b2iF]; exact True.intro)]
theorem m_canSnuff {a : Nat → Nat} {ν0 ν : Nm} (h : M1 a ν0 ν) (hw : WF a) {c : Nat} (hc : c < a 0) (x : Int32) : Md_canSnuff ν (nI c) x = some (decide (a (13 + 2 * c) / 2 ^ sb x % 2 = 1)) := by
  have hb := (wb hw).1
  have h4 : c < 4 := by omega
  have he := (wbc hw h4).2.1
  unfold Md_canSnuff
  rw [m_isCord_t h hw hc, Option.bind_some, if_neg (by rw [b2iT]; exact id), show (1 : Int32) = nI 1 from rfl, m_g1 h h4, Option.bind_some]
  unfold Md_sideBit
  rcases sb_eq (x := x) with ⟨q1, q2⟩ | ⟨q1, q2⟩
  · rw [if_pos q1, q2, Option.bind_some]
    by_cases e : a (13 + 2 * c) / 2 ^ 0 % 2 = 1
    · rw [if_neg (fun q => (e_and1 _ (by omega)).mp q e), decide_eq_true e]
    · rw [if_pos ((e_and1 _ (by omega)).mpr e), decide_eq_false e]
  · rw [if_neg q1, q2, Option.bind_some]
    by_cases e : a (13 + 2 * c) / 2 ^ 1 % 2 = 1
    · rw [if_neg (fun q => (e_and2 _ (by omega)).mp q e), decide_eq_true e]
    · rw [if_pos ((e_and2 _ (by omega)).mpr e), decide_eq_false e]
theorem m_canSnuff_f {a : Nat → Nat} {ν0 ν : Nm} (h : M1 a ν0 ν) (hw : WF a) {x y : Int32} (hx : ∀ c, c < a 0 → x ≠ nI c) : Md_canSnuff ν x y = some false := by
  unfold Md_canSnuff
  rw [m_isCord_f h hw hx, Option.bind_some, if_pos (by rw [b2iF]; exact True.intro)]
theorem WF_e {a : Nat → Nat} (hw : WF a) {c e : Nat} (hc : c < 4) (he : e ≤ 3) (h1 : e ≠ 0 → a (12 + 2 * c) ≠ 0) (h2 : a 0 ≤ c → e = 0) : WF (upn a (13 + 2 * c) e) := by
  have hb := wbc hw hc
  have := WF_re hw hc (r := a (12 + 2 * c)) (e := e) hb.1 he h1 h2 (WP_e (WF_WP hw) hc).2.2
  rw [upn_id] at this
  exact this
def snuffA (a : Nat → Nat) (c s : Nat) : Nat → Nat := writeA (upn a (13 + 2 * c) (clr (a (13 + 2 * c)) s)) c 2 s
theorem WF_clr {a : Nat → Nat} (hw : WF a) {c s : Nat} (hc : c < a 0) (hs : s < 2) : WF (upn a (13 + 2 * c) (clr (a (13 + 2 * c)) s)) := by
  have hb := (wb hw).1
  have h4 : c < 4 := by omega
  have he := (wbc hw h4).2.1
  have hl := clr_le (a (13 + 2 * c)) (by omega) s hs
  exact WF_e hw h4 hl.1 (fun q => (WP_e (WF_WP hw) h4).1 (hl.2 q)) (fun q => by omega)
theorem WF_snuff {a : Nat → Nat} (hw : WF a) {c s : Nat} (hc : c < a 0) (hs : s < 2) : WF (snuffA a c s) := by
  have hb := (wb hw).1
  exact WF_write (WF_clr hw hc hs) (by omega) (by omega) hs
theorem snuffA_low {a : Nat → Nat} {c s j : Nat} (h : j < 1355) (h2 : j ≠ 11) (h3 : j ≠ 13 + 2 * c) : snuffA a c s j = a j := by
  unfold snuffA; rw [writeA_low h h2, upn_n _ _ h3]
theorem c_putOut {a : Nat → Nat} {ν0 ν : Nm} (h : C1 a ν0 ν) (hw : WF a) {c s : Nat} (hc : c < a 0) (hs : s < 2) : ∃ ν2, Pt_putOut 2 (nI c) (nI s) ν = some ν2 ∧ C1 (snuffA a c s) ν0 ν2 := by
  have hb := wb hw
  have h4 : c < 4 := by omega
  have he := (wbc hw h4).2.1
  have h1 := C1_pl h (13 + 2 * c) 4 c (plc2 c h4) (by omega) (by omega) hb.2.2.2.2.2.1 (clr (a (13 + 2 * c)) s)
  obtain ⟨ν2, q1, q2⟩ := c_write h1 (WF_clr hw hc hs) h4 (show 2 < 4 by omega) hs
  unfold Pt_putOut
  rw [inb_nI (by omega), nI_clamp (by omega), if_pos (decide_eq_true h4), if_pos (decide_eq_true h4), show (2 + 2 : Nat) = 4 from rfl, cr_ends h h4, e_clr _ (by omega) s hs, show (2 : Int32) = nI 2 from rfl, q1, Option.bind_some]
  exact ⟨ν2, rfl, q2⟩
theorem m_snuffNow {a : Nat → Nat} {ν0 ν : Nm} (h : M1 a ν0 ν) (hw : WF a) (hq : gi ν0 313 23 = 1) {c : Nat} (hc : c < a 0) (x : Int32) : ∃ ν2, Md_snuffNow (nI c) x ν = some ν2 ∧ M1 (snuffA a c (sb x)) ν0 ν2 := by
  have hb := wb hw
  have h4 : c < 4 := by omega
  have he := (wbc hw h4).2.1
  have key : ∀ s, s < 2 → ∃ ν2, (Md_put (nI c) (nI 1) (nI (clr (a (13 + 2 * c)) s)) ν).bind (fun v3 => Md_snuffNow_31 (nI s) 2 (nI c) v3) = some ν2 ∧ M1 (snuffA a c s) ν0 ν2 := by
    intro s hs
    obtain ⟨ν1, p1, p2⟩ := m_put h (w := 1) (v := clr (a (13 + 2 * c)) s) h4 (by decide)
    rw [show 12 + 2 * c + 1 = 13 + 2 * c by omega] at p2
    obtain ⟨ν2, q1, q2⟩ := m_write p2 (WF_clr hw hc hs) (wr23 p2 hq) (c := c) (w := 2) (s := s)
    rw [p1, Option.bind_some]
    unfold Md_snuffNow_31
    rw [show (2 : Int32) = nI 2 from rfl, q1, Option.bind_some]
    exact ⟨ν2, rfl, q2⟩
  unfold Md_snuffNow
  rw [show Md_get ν (nI c) 1 = some (nI (a (13 + 2 * c))) from m_g1 h h4, Option.bind_some]
  unfold Md_sideBit
  rcases sb_eq (x := x) with ⟨q1, q2⟩ | ⟨q1, q2⟩
  · obtain ⟨ν2, r1, r2⟩ := key 0 (by omega)
    simp only [if_pos q1, q2, Option.bind_some, e_clr1 _ (show a (13 + 2 * c) < 4 by omega)]
    exact ⟨ν2, r1, r2⟩
  · obtain ⟨ν2, r1, r2⟩ := key 1 (by omega)
    simp only [if_neg q1, q2, Option.bind_some, e_clr2 _ (show a (13 + 2 * c) < 4 by omega)]
    exact ⟨ν2, r1, r2⟩
/-- snuffed by hand -/
def snuffB (a : Nat → Nat) (c s : Nat) : Bool × (Nat → Nat) := if a (13 + 2 * c) / 2 ^ s % 2 = 1 then (true, snuffA (keepA a) c s) else (false, a)
theorem c_snuff {a : Nat → Nat} {ν0 ν : Nm} (h : C1 a ν0 ν) (hw : WF a) {c : Nat} (hc : c < a 0) (x : Int32) : ∃ ν2, Fm_snuff (nI c) x ν = some ((snuffB a c (sb x)).1, ν2) ∧ C1 (snuffB a c (sb x)).2 ν0 ν2 := by
  have hb := wb hw
  have h4 : c < 4 := by omega
  have key : ∀ s, s < 2 → ∃ ν2, Fm_snuff_9 (nI c) (nI s) ν = some ((snuffB a c s).1, ν2) ∧ C1 (snuffB a c s).2 ν0 ν2 := by
    intro s hs
    unfold Fm_snuff_9 snuffB
    rw [c_burns h hw hc hs, Option.bind_some]
    by_cases e : a (13 + 2 * c) / 2 ^ s % 2 = 1
    · obtain ⟨ν1, p1, p2⟩ := c_keep h hb.2.2.2.2.2.1
      have e0 : keepA a 0 = a 0 := keepA_low hb.2.2.2.2.2.1 (by omega) (by omega)
      obtain ⟨ν2, r1, r2⟩ := c_putOut p2 (WF_keep hw) (by rw [e0]; exact hc) hs
      rw [if_pos e, decide_eq_true e, if_pos (by rw [b2iT]; exact id), p1, Option.bind_some, r1, Option.bind_some]
      exact ⟨ν2, rfl, r2⟩
    · rw [if_neg e, decide_eq_false e, if_neg (by rw [b2iF]; simp)]
      exact ⟨ν, rfl, h⟩
  unfold Fm_snuff
  rcases sb_eq (x := x) with ⟨q1, q2⟩ | ⟨q1, q2⟩
  · rw [if_pos q1, q2]; exact key 0 (by omega)
  · rw [if_neg q1, q2]; exact key 1 (by omega)
theorem c_snuff_f {a : Nat → Nat} {ν0 ν : Nm} (h : C1 a ν0 ν) (hw : WF a) {x y : Int32} (hx : ∀ c, c < a 0 → x ≠ nI c) : Fm_snuff x y ν = some (false, ν) := by
  have key : ∀ s : Int32, Fm_snuff_9 x s ν = some (false, ν) := by
    intro s
    unfold Fm_snuff_9
    rw [c_burns_f h hw hx, Option.bind_some, if_neg (by rw [b2iF]; simp)]
  unfold Fm_snuff
  rw [key, key]; split <;> rfl
theorem m_snuff {a : Nat → Nat} {ν0 ν : Nm} (h : M1 a ν0 ν) (hw : WF a) (hq : gi ν0 313 23 = 1) {c : Nat} (hc : c < a 0) (x : Int32) : ∃ ν2, Md_snuff (nI c) x ν = some ((snuffB a c (sb x)).1, ν2) ∧ M1 (snuffB a c (sb x)).2 ν0 ν2 := by
  have hb := wb hw
  unfold Md_snuff snuffB
  rw [m_canSnuff h hw hc, Option.bind_some]
  by_cases e : a (13 + 2 * c) / 2 ^ sb x % 2 = 1
  · obtain ⟨ν1, p1, p2⟩ := m_keep h hb.2.2.2.2.2.1
    have e0 : keepA a 0 = a 0 := keepA_low hb.2.2.2.2.2.1 (by omega) (by omega)
    obtain ⟨ν2, r1, r2⟩ := m_snuffNow p2 (WF_keep hw) hq (by rw [e0]; exact hc) x
    rw [if_pos e, decide_eq_true e, if_pos (by rw [b2iT]; exact id), p1, Option.bind_some, r1, Option.bind_some]
    exact ⟨ν2, rfl, r2⟩
  · rw [if_neg e, decide_eq_false e, if_neg (by rw [b2iF]; simp)]
    exact ⟨ν, rfl, h⟩
theorem m_snuff_f {a : Nat → Nat} {ν0 ν : Nm} (h : M1 a ν0 ν) (hw : WF a) {x y : Int32} (hx : ∀ c, c < a 0 → x ≠ nI c) : Md_snuff x y ν = some (false, ν) := by
  unfold Md_snuff
  rw [m_canSnuff_f h hw hx, Option.bind_some, if_neg (by rw [b2iF]; simp)]
theorem WF_snuffB {a : Nat → Nat} (hw : WF a) {c s : Nat} (hc : c < a 0) (hs : s < 2) : WF (snuffB a c s).2 := by
  have hb := wb hw
  have e0 : keepA a 0 = a 0 := keepA_low hb.2.2.2.2.2.1 (by omega) (by omega)
  unfold snuffB
  split
  · exact WF_snuff (WF_keep hw) (by rw [e0]; exact hc) hs
  · exact hw
theorem snuffB_low {a : Nat → Nat} (h30 : a 4 ≤ 30) {c s j : Nat} (hc : c < 4) (h : j < 4 ∨ (20 ≤ j ∧ j < 65)) : (snuffB a c s).2 j = a j := by
  unfold snuffB
  split
  · show snuffA (keepA a) c s j = a j
    rw [snuffA_low (by omega) (by omega) (by omega), keepA_low h30 (by omega) (by omega)]
  · rfl
theorem i23 {a b : Nat → Nat} {τ : Ex} {ν : Nm} (h : Inv a b τ ν) {a2 : Nat → Nat} {ν1 : Nm} (hc : C1 a2 ν ν1) : gi ν1 313 23 = 1 := by
  rw [hc.2.1 _ _ (by unfold fc; omega)]; exact h.2.2.2.2.2.2.2.2.1
theorem st_snuff {a b : Nat → Nat} {τ : Ex} {ν : Nm} (h : Inv a b τ ν) (x y : Int32) : Step τ (Fm_snuff x y) (Md_snuff x y) ν := by
  have hw := h.1
  have hc0 := C1_0 h
  have hb := wb hw
  rcases below_cases x (a 0) with ⟨c, hc, rfl⟩ | hx
  · obtain ⟨ν1, p1, p2⟩ := c_snuff hc0 hw hc y
    obtain ⟨ν2, q1, q2⟩ := m_snuff (M1_0 h p2) hw (i23 h p2) hc y
    exact Step_mk h p2 q2 (WF_snuffB hw hc (sb_lt y)) (fun i hi => snuffB_low hb.2.2.2.2.2.1 (by omega) (by omega)) _ p1 q1
  · exact Step_no h false (c_snuff_f hc0 hw hx) (m_snuff_f (M1_0 h hc0) hw hx)
/-! Renewed. -/
def canR (a : Nat → Nat) (c : Nat) : Bool := decide (a (13 + 2 * c) ≠ 0 ∨ a (12 + 2 * c) < 64 * a (20 + 2 * c))
theorem c_canRenew {a : Nat → Nat} {ν0 ν : Nm} (h : C1 a ν0 ν) (hw : WF a) {c : Nat} (hc : c < a 0) : Fm_canRenew ν (nI c) = some (canR a c) := by
  have hb := (wb hw).1
  have h4 : c < 4 := by omega
  have hb4 := wbc hw h4
  unfold Fm_canRenew canR
  rw [c_has_t h hw hc, Option.bind_some, if_pos (by rw [b2iT]; exact id)]
  simp (disch := omega) only [lit_nI, nI_add, nI_mul, nI_sub, nI_le', nI_lt', nI_eq', inb_nI, nI_clamp, b2iT', b2iF', b2i0', Option.bind_some, if_true, if_false, not_true_eq_false, not_false_eq_true, decide_eq_true_eq, decide_eq_false_iff_not, reduceCtorEq, Nat.add_zero, Nat.zero_add, h4, cr_ends h, cr_rest h, cr_min h]
  by_cases e : a (13 + 2 * c) = 0
  · rw [if_neg (by simp [e])]
    by_cases e2 : a (20 + 2 * c) * 64 ≤ a (12 + 2 * c)
    · rw [if_pos e2]; simp [e]; omega
    · rw [if_neg e2]; simp [e]; omega
  · rw [if_pos e]; simp [e]
theorem m_canRenew {a : Nat → Nat} {ν0 ν : Nm} (h : M1 a ν0 ν) (hw : WF a) {c : Nat} (hc : c < a 0) : Md_canRenew ν (nI c) = some (canR a c) := by
  have hb := (wb hw).1
  have h4 : c < 4 := by omega
  have hb4 := wbc hw h4
  unfold Md_canRenew canR
  rw [m_isCord_t h hw hc, Option.bind_some, if_neg (by rw [b2iT]; exact id), m_full h h4]
  simp (disch := omega) only [lit_nI, nI_add, nI_mul, nI_sub, nI_le', nI_lt', nI_eq', inb_nI, nI_clamp, b2iT', b2iF', b2i0', Option.bind_some, if_true, if_false, not_true_eq_false, not_false_eq_true, decide_eq_true_eq, decide_eq_false_iff_not, reduceCtorEq, Nat.add_zero, Nat.zero_add, h4, m_g0 h, m_g1 h]
  by_cases e2 : a (12 + 2 * c) < 64 * a (20 + 2 * c)
  · rw [if_pos e2]; simp [e2]
  · rw [if_neg e2]
    by_cases e : a (13 + 2 * c) = 0
    · rw [if_pos e]; simp [e, e2]
    · rw [if_neg e]; simp [e]
def renewB (a : Nat → Nat) (c : Nat) : Bool × (Nat → Nat) := if canR a c = true then (true, beginA (keepA a) c) else (false, a)
theorem c_renew {a : Nat → Nat} {ν0 ν : Nm} (h : C1 a ν0 ν) (hw : WF a) {c : Nat} (hc : c < a 0) : ∃ ν2, Fm_renew (nI c) ν = some ((renewB a c).1, ν2) ∧ C1 (renewB a c).2 ν0 ν2 := by
  have hb := wb hw
  have h4 : c < 4 := by omega
  unfold Fm_renew renewB
  rw [c_canRenew h hw hc, Option.bind_some]
  by_cases e : canR a c = true
  · obtain ⟨ν1, p1, p2⟩ := c_keep h hb.2.2.2.2.2.1
    have e4 : keepA a 4 ≤ 30 := (wb (WF_keep hw)).2.2.2.2.2.1
    obtain ⟨ν2, r1, r2⟩ := c_new p2 e4 h4
    rw [if_pos e, e, if_pos (by rw [b2iT]; exact id), p1, Option.bind_some, inb_nI (by omega), nI_clamp (by omega), if_pos (decide_eq_true h4), cr_min p2 h4, r1, Option.bind_some]
    exact ⟨ν2, rfl, r2⟩
  · rw [if_neg e, Bool.eq_false_iff.mpr e, if_neg (by rw [b2iF]; simp)]
    exact ⟨ν, rfl, h⟩
theorem m_renew {a : Nat → Nat} {ν0 ν : Nm} (h : M1 a ν0 ν) (hw : WF a) {c : Nat} (hc : c < a 0) : ∃ ν2, Md_renew (nI c) ν = some ((renewB a c).1, ν2) ∧ M1 (renewB a c).2 ν0 ν2 := by
  have hb := wb hw
  have h4 : c < 4 := by omega
  unfold Md_renew renewB
  rw [m_canRenew h hw hc, Option.bind_some]
  by_cases e : canR a c = true
  · obtain ⟨ν1, p1, p2⟩ := m_keep h hb.2.2.2.2.2.1
    obtain ⟨ν2, r1, r2⟩ := m_begin p2 h4
    rw [if_pos e, e, if_pos (by rw [b2iT]; exact id), p1, Option.bind_some, r1, Option.bind_some]
    exact ⟨ν2, rfl, r2⟩
  · rw [if_neg e, Bool.eq_false_iff.mpr e, if_neg (by rw [b2iF]; simp)]
    exact ⟨ν, rfl, h⟩
theorem c_renew_f {a : Nat → Nat} {ν0 ν : Nm} (h : C1 a ν0 ν) (hw : WF a) {x : Int32} (hx : ∀ c, c < a 0 → x ≠ nI c) : Fm_renew x ν = some (false, ν) := by
  unfold Fm_renew Fm_canRenew
  rw [c_has_f h hw hx, Option.bind_some, if_neg (by rw [b2iF]; simp), Option.bind_some, if_neg (by rw [b2iF]; simp)]
theorem m_renew_f {a : Nat → Nat} {ν0 ν : Nm} (h : M1 a ν0 ν) (hw : WF a) {x : Int32} (hx : ∀ c, c < a 0 → x ≠ nI c) : Md_renew x ν = some (false, ν) := by
  unfold Md_renew Md_canRenew
  rw [m_isCord_f h hw hx, Option.bind_some, if_pos (by rw [b2iF]; exact True.intro), Option.bind_some, if_neg (by rw [b2iF]; simp)]
theorem WF_renewB {a : Nat → Nat} (hw : WF a) {c : Nat} (hc : c < 4) : WF (renewB a c).2 := by
  unfold renewB
  split
  · exact WF_begin (WF_keep hw) hc
  · exact hw
theorem renewB_low {a : Nat → Nat} (h30 : a 4 ≤ 30) {c j : Nat} (hc : c < 4) (h : j < 4 ∨ (20 ≤ j ∧ j < 65)) : (renewB a c).2 j = a j := by
  unfold renewB
  split
  · show beginA (keepA a) c j = a j
    unfold beginA
    rw [upn_n _ _ (by omega), upn_n _ _ (by omega), keepA_low h30 (by omega) (by omega)]
  · rfl
theorem st_renew {a b : Nat → Nat} {τ : Ex} {ν : Nm} (h : Inv a b τ ν) (x : Int32) : Step τ (Fm_renew x) (Md_renew x) ν := by
  have hw := h.1
  have hc0 := C1_0 h
  have hb := wb hw
  rcases below_cases x (a 0) with ⟨c, hc, rfl⟩ | hx
  · obtain ⟨ν1, p1, p2⟩ := c_renew hc0 hw hc
    obtain ⟨ν2, q1, q2⟩ := m_renew (M1_0 h p2) hw hc
    exact Step_mk h p2 q2 (WF_renewB hw (by omega)) (fun i hi => renewB_low hb.2.2.2.2.2.1 (by omega) (by omega)) _ p1 q1
  · exact Step_no h false (c_renew_f hc0 hw hx) (m_renew_f (M1_0 h hc0) hw hx)
