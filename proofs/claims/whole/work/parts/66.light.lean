/-! An end is lit, on both sides; laws; whose law it was. -/
theorem drA_low {a : Nat → Nat} {j : Nat} (h : j ≠ 9) : drA a j = a j := upn_n _ _ h
theorem up10 {a : Nat → Nat} {v : Nat} {j : Nat} (h : j ≠ 9) (h2 : j ≠ 10) : upn (drA a) 10 v j = a j := by rw [upn_n _ _ h2, drA_low h]
theorem WF_10 {a : Nat → Nat} (hw : WF a) (h : a 10 < a 1) : WF (upn (drA a) 10 (a 10 + 1)) := WF_free (WF_dr hw) (by omega) (by have hb := wb hw; show a 10 + 1 ≤ 8; omega)
theorem WF_set {a : Nat → Nat} (hw : WF a) {c s : Nat} (hc : c < a 0) (hs : s < 2) (hr : a (12 + 2 * c) ≠ 0) (h : a 10 < a 1) : WF (upn (upn (drA a) 10 (a 10 + 1)) (13 + 2 * c) (setb (a (13 + 2 * c)) s)) := by
  have hb := (wb hw).1
  have h4 : c < 4 := by omega
  have he := (wbc hw h4).2.1
  have hl := set_le (a (13 + 2 * c)) (by omega) s hs
  exact WF_e (WF_10 hw h) h4 hl.1 (fun _ => by rw [up10 (by omega) (by omega)]; exact hr) (fun q => by rw [up10 (by omega) (by omega)] at q; omega)
theorem WF_lit {D : Nat → TD} {a : Nat → Nat} (hw : WF a) {c s : Nat} (hc : c < a 0) (hs : s < 2) (hr : a (12 + 2 * c) ≠ 0) (h : a 10 < a 1) : WF (litA D a c s) := by
  have hb := (wb hw).1
  unfold litA
  split
  · exact WF_write (WF_10 hw h) (by omega) (by omega) hs
  · exact WF_write (WF_set hw hc hs hr h) (by omega) (by omega) hs
theorem litA_low {D : Nat → TD} {a : Nat → Nat} {c s j : Nat} (h : j < 1355) (h9 : j ≠ 9) (h10 : j ≠ 10) (h11 : j ≠ 11) (h13 : j ≠ 13 + 2 * c) : litA D a c s j = a j := by
  unfold litA
  split
  · rw [writeA_low h h11, up10 h9 h10]
  · rw [writeA_low h h11, upn_n _ _ h13, up10 h9 h10]
theorem c_kindle {D : Nat → TD} {a : Nat → Nat} {ν0 ν : Nm} (hT : TO D a ν) (h : C1 a ν0 ν) (hw : WF a) {c s : Nat} (hc : c < a 0) (hs : s < 2) (hr : a (12 + 2 * c) ≠ 0) (h10 : a 10 < a 1) : ∃ ν2, Fm_kindle (nI c) (nI s) ν = some (litV D a c, ν2) ∧ C1 (litA D a c s) ν0 ν2 := by
  have hb := wb hw
  have h4 : c < 4 := by omega
  have he := (wbc hw h4).2.1
  obtain ⟨ν1, p1, p2, -⟩ := c_fails hT h hw hc
  obtain ⟨ν2, q1, q2⟩ := c_draw p2 hw
  have h30 : drA a 4 ≤ 30 := by rw [drA_low (by omega)]; exact hb.2.2.2.2.2.1
  have c10 := C1_pl q2 10 2 3 (by decide) (by omega) (by omega) h30 (a 10 + 1)
  have r10 : gi ν2 2 3 + 1 = nI (a 10 + 1) := by rw [(cr q2).2.2.2.2.2.2.2.2.2.2.1, drA_low (by omega)]; exact nI_add (a 10) 1
  have em : nI (a 9) - nI (a 9) / 10 * 10 = nI (a 9 % 10) := nI_mod (b := 10) (by omega) (by decide)
  unfold Fm_kindle
  rw [p1, Option.bind_some, q1, Option.bind_some]
  simp only []
  rw [em]
  unfold litA litV fzl
  by_cases e : nI (a 9 % 10) < frV D a c
  · rw [if_neg (Int32.not_le.mpr e), decide_eq_true e, if_pos rfl, if_pos rfl]
    obtain ⟨ν3, r1, r2⟩ := c_write c10 (WF_10 hw h10) h4 (show 1 < 4 by omega) hs
    refine ⟨ν3, ?_, r2⟩
    unfold Fm_kindle_35 Pt_touch Pt_touch_26 Pt_touch_37
    rw [if_pos (by decide), if_neg (by decide), r10, show (1 : Int32) = nI 1 from rfl, r1, Option.bind_some, Option.bind_some, if_neg (by decide)]
  · rw [if_pos (Int32.not_lt.mp e), decide_eq_false e, if_neg (by simp), if_neg (by simp)]
    have c13 := C1_pl c10 (13 + 2 * c) 4 c (plc2 c h4) (by omega) (by omega) (by rw [up10 (by omega) (by omega)]; exact hb.2.2.2.2.2.1) (setb (a (13 + 2 * c)) s)
    obtain ⟨ν3, r1, r2⟩ := c_write c13 (WF_set hw hc hs hr h10) h4 (show 0 < 4 by omega) hs
    refine ⟨ν3, ?_, r2⟩
    unfold Fm_kindle_35 Pt_touch Pt_touch_26 Pt_touch_37
    rw [if_neg (by decide), inb_nI (by omega), nI_clamp (by omega), if_pos (decide_eq_true h4), if_pos (decide_eq_true h4), if_pos rfl, r10, show (2 + 2 : Nat) = 4 from rfl, cr_ends c10 h4, up10 (by omega) (by omega), e_set _ (by omega) s hs]
    have r1' : Pt_writeDown 2 (nI c) 0 (nI s) (si (si ν2 2 3 (nI (a 10 + 1))) 4 c (nI (setb (a (13 + 2 * c)) s))) = some ν3 := r1
    rw [r1', Option.bind_some, Option.bind_some, if_pos rfl]
theorem m_lightNow {D : Nat → TD} {a : Nat → Nat} {ν0 ν : Nm} (hT : TO D a ν) (h : M1 a ν0 ν) (hw : WF a) (hq : gi ν0 313 23 = 1) {c : Nat} (hc : c < a 0) (x : Int32) (hr : a (12 + 2 * c) ≠ 0) (h10 : a 10 < a 1) : ∃ ν2, Md_lightNow (nI c) x ν = some (litV D a c, ν2) ∧ M1 (litA D a c (sb x)) ν0 ν2 := by
  have hb := wb hw
  have h4 : c < 4 := by omega
  have he := (wbc hw h4).2.1
  have hs := sb_lt x
  obtain ⟨ν1, p1, p2⟩ := m_fails hT h hw h4
  obtain ⟨ν2, q1, q2⟩ := m_anew p2 hw
  have c10 := M1_up q2 (i := 10) (a 10 + 1) (by omega)
  have r10 : gi ν2 314 10 + 1 = nI (a 10 + 1) := by rw [mr q2 (by decide) (by decide), drA_low (by omega)]; exact nI_add (a 10) 1
  have em : nI (a 9) - nI (a 9) / 10 * 10 = nI (a 9 % 10) := nI_mod (b := 10) (by omega) (by decide)
  have sbI : ∀ (F : Int32 → Option (Int32 × Nm)), (if x = 0 then F 0 else F 1) = F (nI (sb x)) := by
    intro F
    rcases sb_eq (x := x) with ⟨z1, z2⟩ | ⟨z1, z2⟩
    · rw [if_pos z1, z2]; rfl
    · rw [if_neg z1, z2]; rfl
  unfold Md_lightNow
  rw [p1, Option.bind_some, mr h (by decide) (by decide), em]
  simp only []
  unfold litA litV fzl
  by_cases e : nI (a 9 % 10) < frV D a c
  · rw [if_neg (Int32.not_le.mpr e), decide_eq_true e, if_pos rfl, if_pos rfl]
    obtain ⟨ν3, r1, r2⟩ := m_write c10 (WF_10 hw h10) (wr23 c10 hq) (c := c) (w := 1) (s := sb x)
    refine ⟨ν3, ?_, r2⟩
    unfold Md_lightNow_29
    rw [q1, Option.bind_some, if_pos (by decide), r10]
    unfold Md_lightNow_66 Md_lightNow_77
    rw [if_neg (by decide), sbI (fun z => Md_lightNow_86 1 z 1 (nI c) (si ν2 314 10 (nI (a 10 + 1))))]
    unfold Md_lightNow_86
    have r1' : Md_write (nI c) 1 (nI (sb x)) (si ν2 314 10 (nI (a 10 + 1))) = some ν3 := r1
    rw [r1', Option.bind_some, if_neg (by decide)]
  · rw [if_pos (Int32.not_lt.mp e), decide_eq_false e, if_neg (by simp), if_neg (by simp)]
    have eo : ∃ y, Md_sideBit x = some y ∧ nI (a (13 + 2 * c)) ||| y = nI (setb (a (13 + 2 * c)) (sb x)) := by
      unfold Md_sideBit
      rcases sb_eq (x := x) with ⟨z1, z2⟩ | ⟨z1, z2⟩
      · rw [if_pos z1, z2]; exact ⟨1, rfl, e_set1 _ (by omega)⟩
      · rw [if_neg z1, z2]; exact ⟨2, rfl, e_set2 _ (by omega)⟩
    obtain ⟨y, y1, y2⟩ := eo
    obtain ⟨ν4, t1, t2⟩ := m_put c10 (w := 1) (v := setb (a (13 + 2 * c)) (sb x)) h4 (by decide)
    rw [show 12 + 2 * c + 1 = 13 + 2 * c by omega] at t2
    obtain ⟨ν3, r1, r2⟩ := m_write t2 (WF_set hw hc hs hr h10) (wr23 t2 hq) (c := c) (w := 0) (s := sb x)
    refine ⟨ν3, ?_, r2⟩
    unfold Md_lightNow_29
    rw [q1, Option.bind_some, if_neg (by decide), r10, show (1 : Int32) = nI 1 from rfl, m_g1 c10 h4, Option.bind_some, y1, Option.bind_some, up10 (by omega) (by omega), y2, t1, Option.bind_some]
    unfold Md_lightNow_66 Md_lightNow_77
    rw [if_pos rfl, show nI 1 = (1 : Int32) from rfl, sbI (fun z => Md_lightNow_86 0 z 0 (nI c) ν4)]
    unfold Md_lightNow_86
    have r1' : Md_write (nI c) 0 (nI (sb x)) ν4 = some ν3 := r1
    rw [r1', Option.bind_some, if_pos rfl]
/-- lit by hand -/
def lightB (D : Nat → TD) (a : Nat → Nat) (c s : Nat) : Nat → Nat := if canL D a c s = true then litA D (keepA a) c s else a
def lightV (D : Nat → TD) (a : Nat → Nat) (c s : Nat) : Int32 := if canL D a c s = true then litV D (keepA a) c else -1
theorem canL_t {D : Nat → TD} {a : Nat → Nat} {c s : Nat} (h : canL D a c s = true) : a (12 + 2 * c) ≠ 0 ∧ a 10 < a 1 := by
  unfold canL at h
  rw [Bool.and_eq_true, decide_eq_true_iff] at h
  exact ⟨h.1.1, h.1.2.2⟩
theorem TO_fr {D : Nat → TD} {a a2 : Nat → Nat} {ν ν2 : Nm} (h : TO D a ν) (ha : a2 2 = a 2) (k : ∀ q j, ((285 ≤ q ∧ q ≤ 312) ∨ q = 316) → gi ν2 q j = gi ν q j) : TO D a2 ν2 := TO_keep h (by omega) k
theorem TO_c {D : Nat → TD} {a a2 : Nat → Nat} {ν0 ν : Nm} (h : TO D a ν0) (ha : a2 2 = a 2) (hc : C1 a2 ν0 ν) : TO D a2 ν := TO_fr h ha (fun q j hq => hc.2.1 q j (by unfold fc; omega))
theorem TO_m {D : Nat → TD} {a a2 : Nat → Nat} {ν0 ν : Nm} (h : TO D a ν0) (ha : a2 2 = a 2) (hc : M1 a2 ν0 ν) : TO D a2 ν := TO_fr h ha (fun q j hq => hc.2.1 q j (by unfold fm; omega))
theorem keep_2 {a : Nat → Nat} (h30 : a 4 ≤ 30) : keepA a 2 = a 2 := keepA_low h30 (by omega) (by omega)
/-- texts stand in ν0, on which the run began -/
theorem c_light {D : Nat → TD} {a : Nat → Nat} {ν0 ν : Nm} (hT : TO D a ν0) (h : C1 a ν0 ν) (hw : WF a) {c : Nat} (hc : c < a 0) (x : Int32) : ∃ ν2, Fm_light (nI c) x ν = some (lightV D a c (sb x), ν2) ∧ C1 (lightB D a c (sb x)) ν0 ν2 := by
  have hb := wb hw
  have h30 := hb.2.2.2.2.2.1
  have key : ∀ s, s < 2 → ∃ ν2, Fm_light_9 (nI c) (nI s) ν = some (lightV D a c s, ν2) ∧ C1 (lightB D a c s) ν0 ν2 := by
    intro s hs
    obtain ⟨ν1, p1, p2, -⟩ := c_canLight (TO_c hT rfl h) h hw hc hs
    unfold Fm_light_9 lightV lightB
    rw [p1, Option.bind_some]
    by_cases e : canL D a c s = true
    · obtain ⟨ν2, q1, q2⟩ := c_keep p2 h30
      have ct := canL_t e
      obtain ⟨ν3, r1, r2⟩ := c_kindle (TO_c hT (keep_2 h30) q2) q2 (WF_keep hw) (by rw [keepA_low h30 (by omega) (by omega)]; exact hc) hs (by rw [keepA_low h30 (by omega) (by omega)]; exact ct.1) (by rw [keepA_low h30 (by omega) (by omega), keepA_low h30 (by omega) (by omega)]; exact ct.2)
      simp only []
      rw [e, if_pos (by rw [b2iT]; exact id), if_pos rfl, if_pos rfl, q1, Option.bind_some, r1, Option.bind_some]
      exact ⟨ν3, rfl, r2⟩
    · simp only []
      rw [Bool.eq_false_iff.mpr e, if_neg (by rw [b2iF]; simp), if_neg (by simp), if_neg (by simp)]
      exact ⟨ν1, rfl, p2⟩
  unfold Fm_light
  rcases sb_eq (x := x) with ⟨q1, q2⟩ | ⟨q1, q2⟩
  · rw [if_pos q1, q2]; exact key 0 (by omega)
  · rw [if_neg q1, q2]; exact key 1 (by omega)
theorem m_light {D : Nat → TD} {a : Nat → Nat} {ν0 ν : Nm} (hT : TO D a ν0) (h : M1 a ν0 ν) (hw : WF a) (hq : gi ν0 313 23 = 1) {c : Nat} (hc : c < a 0) (x : Int32) : ∃ ν2, Md_light (nI c) x ν = some (lightV D a c (sb x), ν2) ∧ M1 (lightB D a c (sb x)) ν0 ν2 := by
  have hb := wb hw
  have h30 := hb.2.2.2.2.2.1
  obtain ⟨ν1, p1, p2⟩ := m_canLight (TO_m hT rfl h) h hw hc x
  unfold Md_light lightV lightB
  rw [p1, Option.bind_some]
  by_cases e : canL D a c (sb x) = true
  · obtain ⟨ν2, q1, q2⟩ := m_keep p2 h30
    have ct := canL_t e
    obtain ⟨ν3, r1, r2⟩ := m_lightNow (TO_m hT (keep_2 h30) q2) q2 (WF_keep hw) hq (by rw [keepA_low h30 (by omega) (by omega)]; exact hc) x (by rw [keepA_low h30 (by omega) (by omega)]; exact ct.1) (by rw [keepA_low h30 (by omega) (by omega), keepA_low h30 (by omega) (by omega)]; exact ct.2)
    simp only []
    rw [e, if_pos (by rw [b2iT]; exact id), if_pos rfl, if_pos rfl, q1, Option.bind_some, r1, Option.bind_some]
    exact ⟨ν3, rfl, r2⟩
  · simp only []
    rw [Bool.eq_false_iff.mpr e, if_neg (by rw [b2iF]; simp), if_neg (by simp), if_neg (by simp)]
    exact ⟨ν1, rfl, p2⟩
theorem c_light_f {a : Nat → Nat} {ν0 ν : Nm} (h : C1 a ν0 ν) (hw : WF a) {x y : Int32} (hx : ∀ c, c < a 0 → x ≠ nI c) : Fm_light x y ν = some (-1, ν) := by
  have key : ∀ s : Int32, Fm_light_9 x s ν = some (-1, ν) := by
    intro s
    unfold Fm_light_9 Fm_canLight
    rw [c_has_f h hw hx, Option.bind_some, if_pos (by rw [b2iF]; exact True.intro), Option.bind_some, if_neg (by rw [b2iF]; simp)]
  unfold Fm_light
  rw [key, key]; split <;> rfl
theorem m_light_f {a : Nat → Nat} {ν0 ν : Nm} (h : M1 a ν0 ν) (hw : WF a) {x y : Int32} (hx : ∀ c, c < a 0 → x ≠ nI c) : Md_light x y ν = some (-1, ν) := by
  unfold Md_light Md_canLight
  rw [m_isCord_f h hw hx, Option.bind_some, if_pos (by rw [b2iF]; exact True.intro), Option.bind_some, if_neg (by rw [b2iF]; simp)]
theorem WF_lightB {D : Nat → TD} {a : Nat → Nat} (hw : WF a) {c s : Nat} (hc : c < a 0) (hs : s < 2) : WF (lightB D a c s) := by
  have h30 := (wb hw).2.2.2.2.2.1
  have hb4 := (wb hw).1
  unfold lightB
  split
  · rename_i e
    have ct := canL_t e
    exact WF_lit (WF_keep hw) (by rw [keepA_low h30 (by omega) (by omega)]; exact hc) hs (by rw [keepA_low h30 (by omega) (by omega)]; exact ct.1) (by rw [keepA_low h30 (by omega) (by omega), keepA_low h30 (by omega) (by omega)]; exact ct.2)
  · exact hw
theorem lightB_low {D : Nat → TD} {a : Nat → Nat} (h30 : a 4 ≤ 30) {c s j : Nat} (hc : c < 4) (h : j < 4 ∨ (20 ≤ j ∧ j < 65)) : lightB D a c s j = a j := by
  unfold lightB
  split
  · rw [litA_low (by omega) (by omega) (by omega) (by omega) (by omega), keepA_low h30 (by omega) (by omega)]
  · rfl
/-- what a run's predicate must tell of texts -/
def ExT (τ : Ex) : Prop := ∀ (a : Nat → Nat) (ν : Nm), τ.1 a ν → ∃ D, TO D a ν
theorem Inv_TO {a b : Nat → Nat} {τ : Ex} (hτ : ExT τ) {ν : Nm} (h : Inv a b τ ν) : ∃ D, TO D a ν := hτ a ν h.2.2.2.2.2.2.1
theorem st_light {a b : Nat → Nat} {τ : Ex} (hτ : ExT τ) {ν : Nm} (h : Inv a b τ ν) (x y : Int32) : Step τ (Fm_light x y) (Md_light x y) ν := by
  have hw := h.1
  have hc0 := C1_0 h
  have hb := wb hw
  obtain ⟨D, hT⟩ := Inv_TO hτ h
  rcases below_cases x (a 0) with ⟨c, hc, rfl⟩ | hx
  · obtain ⟨ν1, p1, p2⟩ := c_light hT hc0 hw hc y
    have hT1 : TO D a ν1 := TO_fr hT rfl (fun q j hq => p2.2.1 q j (by unfold fc; omega))
    obtain ⟨ν2, q1, q2⟩ := m_light hT1 (M1_0 h p2) hw (i23 h p2) hc y
    exact Step_mk h p2 q2 (WF_lightB hw hc (sb_lt y)) (fun i hi => lightB_low hb.2.2.2.2.2.1 (by omega) (by omega)) _ p1 q1
  · exact Step_no h (-1) (c_light_f hc0 hw hx) (m_light_f (M1_0 h hc0) hw hx)
theorem st_law {a b : Nat → Nat} {τ : Ex} (hτ : ExT τ) {ν : Nm} (h : Inv a b τ ν) (x y z : Int32) : Step τ (Fm_law x y z) (Md_law x y z) ν := by
  have hw := h.1
  have hc0 := C1_0 h
  have hb := wb hw
  obtain ⟨D, hT⟩ := Inv_TO hτ h
  rcases below_cases x (a 0) with ⟨c, hc, rfl⟩ | hx
  · have h4 : c < 4 := by omega
    by_cases hz : z = 0
    · obtain ⟨ν1, p1, p2, -⟩ := c_fails hT hc0 hw hc
      have hT1 : TO D a ν1 := TO_c hT rfl p2
      obtain ⟨ν2, q1, q2⟩ := m_fails hT1 (M1_0 h p2) hw h4
      refine Step_mk h p2 q2 hw (fun i _ => rfl) (frV D a c) ?_ ?_
      · unfold Fm_law
        rw [c_has_t hc0 hw hc, Option.bind_some, if_pos (by rw [b2iT]; exact id), if_pos hz, p1, Option.bind_some]
      · unfold Md_law
        rw [m_isCord_t (M1_0 h p2) hw hc, Option.bind_some, if_pos (by rw [b2iT]; exact id), if_pos hz, q1, Option.bind_some]
    · obtain ⟨ν1, p1, p2, -⟩ := c_lights hT hc0 hw hc (sb_lt y)
      have hT1 : TO D a ν1 := TO_c hT rfl p2
      obtain ⟨ν2, q1, q2⟩ := m_lights hT1 (M1_0 h p2) hw h4 y
      refine Step_mk h p2 q2 hw (fun i _ => rfl) (lgV D a c (sb y)) ?_ ?_
      · unfold Fm_law
        rw [c_has_t hc0 hw hc, Option.bind_some, if_pos (by rw [b2iT]; exact id), if_neg hz]
        unfold Fm_law_32
        rcases sb_eq (x := y) with ⟨z1, z2⟩ | ⟨z1, z2⟩
        · rw [if_pos z1]; rw [z2] at p1 ⊢; rw [show (0 : Int32) = nI 0 from rfl, p1, Option.bind_some]
        · rw [if_neg z1]; rw [z2] at p1 ⊢; rw [show (1 : Int32) = nI 1 from rfl, p1, Option.bind_some]
      · unfold Md_law
        rw [m_isCord_t (M1_0 h p2) hw hc, Option.bind_some, if_pos (by rw [b2iT]; exact id), if_neg hz, q1, Option.bind_some]
  · refine Step_no h (-100) ?_ ?_
    · unfold Fm_law; rw [c_has_f hc0 hw hx]; rfl
    · unfold Md_law; rw [m_isCord_f (M1_0 h hc0) hw hx]; rfl
