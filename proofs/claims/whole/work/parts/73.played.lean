/-! A text is played, on both sides. -/
theorem lw4 {a a2 : Nat → Nat} (h : ∀ j, j < 4 ∨ (20 ≤ j ∧ j < 65) → a2 j = a j) : ∀ j, j = 0 ∨ (20 ≤ j ∧ j < 28) → a2 j = a j := fun j hj => h j (by omega)
theorem c_pl1 {D : Nat → TD} {p : Nat × Nat × Nat} {a : Nat → Nat} {ν0 ν : Nm} (hT : TO D a ν) (h : CP a ν0 ν) (hw : WF a) (hp : clOK p) {y z : Int32} (hy : 2 ≤ p.1 → p.1 ≠ 8 → y = nI p.2.1) (hz : p.1 = 2 → z = nI p.2.2) : ∃ ν2, Fm_carriedOut (nI (kdK p.1)) y z ν = some ((pl1 D p a).1, ν2) ∧ CP (pl1 D p a).2 ν0 ν2 := by
  have hb := wb hw
  have h30 := hb.2.2.2.2.2.1
  have hC := CP_C h
  obtain ⟨o1, o2, o3, o4, o9⟩ := hp
  obtain ⟨s, u, w⟩ := p
  simp only [] at hy hz o1 o2 o3 o4 o9 ⊢
  rcases (show s = 0 ∨ s = 1 ∨ s = 2 ∨ s = 3 ∨ s = 4 ∨ s = 5 ∨ s = 6 ∨ s = 7 ∨ s = 8 ∨ s = 9 by omega) with rfl | rfl | rfl | rfl | rfl | rfl | rfl | rfl | rfl | rfl
  · exact ⟨ν, rfl, h⟩
  · exact ⟨ν, rfl, h⟩
  · obtain ⟨q1, q2, q3⟩ := o2 rfl
    rw [hy (by omega) (by omega), hz rfl]
    show ∃ ν2, ((Fm_cord (nI u) (nI w) ν).bind fun v1 => if v1.1 = -1 then some (false, v1.2) else some (true, v1.2)) = some ((if a 0 < 4 then (true, cordA a u w) else (false, a)).1, ν2) ∧ CP (if a 0 < 4 then (true, cordA a u w) else (false, a)).2 ν0 ν2
    by_cases e : a 0 < 4
    · obtain ⟨ν2, r1, r2⟩ := c_cord h hw e ⟨q1, q2⟩ q3
      rw [r1, Option.bind_some, if_pos e]
      simp only []
      rw [if_neg (neg1 (by omega))]
      exact ⟨ν2, rfl, r2⟩
    · have r1 : Fm_cord (nI u) (nI w) ν = some (-1, ν) := by
        unfold Fm_cord
        rw [within_isIn, within_isIn, show (1 : Int32) = nI 1 from rfl, show (60 : Int32) = nI 60 from rfl, isIn_t q1 q2 (by decide), Option.bind_some, if_neg (by rw [b2iT]; exact id), show (0 : Int32) = nI 0 from rfl, show (99 : Int32) = nI 99 from rfl, isIn_t (by omega) q3 (by decide), Option.bind_some, if_neg (by rw [b2iT']; exact id), (cr hC).1, if_neg (by rw [show (4 : Int32) = nI 4 from rfl, nI_lt' (by omega) (by omega)]; exact e)]
      rw [r1, Option.bind_some, if_neg e]
      exact ⟨ν, rfl, h⟩
  · obtain ⟨q1, q2⟩ := o3 rfl
    rw [hy (by omega) (by omega)]
    have c1 := C1_pl hC 1 1 5 (by decide) (by decide) (by decide) h30 u
    have r1 : Fm_hands (nI u) ν = some (true, si ν 1 5 (nI u)) := by
      unfold Fm_hands
      rw [within_isIn, show (1 : Int32) = nI 1 from rfl, show (8 : Int32) = nI 8 from rfl, isIn_t q1 q2 (by decide)]; rfl
    show ∃ ν2, ((Fm_hands (nI u) ν).bind fun v4 => some (v4.1, v4.2)) = some (true, ν2) ∧ CP (upn a 1 u) ν0 ν2
    rw [r1, Option.bind_some]
    exact ⟨_, rfl, CP_go h hb.1 c1 (fun j hj => upn_n _ _ (by omega))⟩
  · have q1 := o4 ⟨by omega, by omega⟩
    rw [hy (by omega) (by omega)]
    show ∃ ν2, ((Fm_light (nI u) 0 ν).bind fun v6 => if v6.1 = -1 then some (false, v6.2) else some (true, v6.2)) = some ((if u < a 0 then (canL D a u 0, lightB D a u 0) else (false, a)).1, ν2) ∧ CP (if u < a 0 then (canL D a u 0, lightB D a u 0) else (false, a)).2 ν0 ν2
    by_cases e : u < a 0
    · obtain ⟨ν2, r1, r2⟩ := c_light hT hC hw e 0
      rw [sb01.1] at r1 r2
      rw [r1, Option.bind_some, if_pos e]
      simp only [(lightV_n D a u 0).1]
      refine ⟨ν2, ?_, CP_go h hb.1 r2 (lw4 (fun j hj => lightB_low h30 (by omega) hj))⟩
      cases canL D a u 0 <;> rfl
    · rw [c_light_f hC hw (notc q1 e), Option.bind_some, if_neg e]
      exact ⟨ν, rfl, h⟩
  · have q1 := o4 ⟨by omega, by omega⟩
    rw [hy (by omega) (by omega)]
    show ∃ ν2, ((Fm_light (nI u) 1 ν).bind fun v6 => if v6.1 = -1 then some (false, v6.2) else some (true, v6.2)) = some ((if u < a 0 then (canL D a u 1, lightB D a u 1) else (false, a)).1, ν2) ∧ CP (if u < a 0 then (canL D a u 1, lightB D a u 1) else (false, a)).2 ν0 ν2
    by_cases e : u < a 0
    · obtain ⟨ν2, r1, r2⟩ := c_light hT hC hw e 1
      rw [sb01.2] at r1 r2
      rw [r1, Option.bind_some, if_pos e]
      simp only [(lightV_n D a u 1).1]
      refine ⟨ν2, ?_, CP_go h hb.1 r2 (lw4 (fun j hj => lightB_low h30 (by omega) hj))⟩
      cases canL D a u 1 <;> rfl
    · rw [c_light_f hC hw (notc q1 e), Option.bind_some, if_neg e]
      exact ⟨ν, rfl, h⟩
  · have q1 := o4 ⟨by omega, by omega⟩
    rw [hy (by omega) (by omega)]
    show ∃ ν2, ((Fm_snuff (nI u) 0 ν).bind fun v12 => if ¬ b2i v12.1 = 0 then some (true, v12.2) else (Fm_snuff (nI u) 1 v12.2).bind fun v14 => if b2i v14.1 = 0 then some (false, v14.2) else some (true, v14.2)) = some ((if u < a 0 then (if (snuffB a u 0).1 = true then snuffB a u 0 else snuffB a u 1) else (false, a)).1, ν2) ∧ CP (if u < a 0 then (if (snuffB a u 0).1 = true then snuffB a u 0 else snuffB a u 1) else (false, a)).2 ν0 ν2
    by_cases e : u < a 0
    · obtain ⟨ν2, r1, r2⟩ := c_snuff hC hw e 0
      rw [sb01.1] at r1 r2
      rw [r1, Option.bind_some, if_pos e]
      simp only []
      by_cases e2 : (snuffB a u 0).1 = true
      · rw [e2, if_pos (by rw [b2iT]; exact id), if_pos rfl]
        exact ⟨ν2, by rw [e2], CP_go h hb.1 r2 (lw4 (fun j hj => snuffB_low h30 (by omega) hj))⟩
      · have e3 : (snuffB a u 0).2 = a := by
          unfold snuffB at e2 ⊢
          split at e2
          · exact absurd rfl e2
          · rename_i z; rw [if_neg z]
        rw [e3] at r2
        have f1 := Bool.eq_false_iff.mpr e2
        obtain ⟨ν3, t1, t2⟩ := c_snuff r2 hw e 1
        rw [sb01.2] at t1 t2
        rw [f1, if_neg (by rw [b2iF]; simp), t1, Option.bind_some]
        simp only [Bool.false_eq_true, if_false]
        refine ⟨ν3, ?_, CP_go h hb.1 t2 (lw4 (fun j hj => snuffB_low h30 (by omega) hj))⟩
        cases (snuffB a u 1).1 <;> rfl
    · rw [c_snuff_f hC hw (notc q1 e), Option.bind_some, if_neg e]
      simp only []
      rw [if_neg (by rw [b2iF]; simp), c_snuff_f hC hw (notc q1 e), Option.bind_some]
      exact ⟨ν, rfl, h⟩
  · have q1 := o4 ⟨by omega, by omega⟩
    rw [hy (by omega) (by omega)]
    show ∃ ν2, ((Fm_renew (nI u) ν).bind fun v17 => some (v17.1, v17.2)) = some ((if u < a 0 then renewB a u else (false, a)).1, ν2) ∧ CP (if u < a 0 then renewB a u else (false, a)).2 ν0 ν2
    by_cases e : u < a 0
    · obtain ⟨ν2, r1, r2⟩ := c_renew hC hw e
      rw [r1, Option.bind_some, if_pos e]
      exact ⟨ν2, rfl, CP_go h hb.1 r2 (lw4 (fun j hj => renewB_low h30 (by omega) hj))⟩
    · rw [c_renew_f hC hw (notc q1 e), Option.bind_some, if_neg e]
      exact ⟨ν, rfl, h⟩
  · show ∃ ν2, ((Fm_burn ν).bind fun v19 => if v19.1 = -1 then some (false, v19.2) else some (true, v19.2)) = some (canB a, ν2) ∧ CP (burnB a) ν0 ν2
    obtain ⟨ν2, r1, r2⟩ := c_burn hC hw
    rw [r1, Option.bind_some]
    simp only [(burnV_n hw).1]
    refine ⟨ν2, ?_, CP_go h hb.1 r2 (lw4 (fun j hj => burnB_low h30 hj))⟩
    cases canB a <;> rfl
  · obtain ⟨q1, q2⟩ := o9 rfl
    rw [hy (by omega) (by omega)]
    show ∃ ν2, ((Fm_minutesPassed (nI u) ν).bind fun v22 => some (v22.1, v22.2)) = some ((minS u (a, 0)).1, ν2) ∧ CP (minS u (a, 0)).2.1 ν0 ν2
    obtain ⟨ν2, r1, r2⟩ := c_minsP q2 u FU 0 (a, 0) ν (by omega) (by unfold FU; omega) hw hC
    have r1' : Fm_minutesPassed (nI u) ν = some ((minS u (a, 0)).1, ν2) := r1
    obtain ⟨k1, k2, -⟩ := minS_ok u (a, 0) hw
    rw [r1', Option.bind_some]
    exact ⟨ν2, rfl, CP_go h hb.1 r2 (lw4 (fun j hj => k2 j hj))⟩
theorem m_pl1 {D : Nat → TD} {p : Nat × Nat × Nat} {a : Nat → Nat} {ν0 ν : Nm} (hT : TO D a ν) (h : MP a ν0 ν) (hw : WF a) (hq : gi ν 313 23 = 1) (hp : clOK p) {x : Nat} (hx : x + 2 < 2724) (h1 : gi ν 316 x = nI p.1) (hy : 2 ≤ p.1 → p.1 ≠ 8 → gi ν 316 (x + 1) = nI p.2.1) (hz : p.1 = 2 → gi ν 316 (x + 2) = nI p.2.2) : ∃ ν2, Md_isPlayed (nI x) ν = some ((pl1 D p a).1, ν2) ∧ MP (pl1 D p a).2 ν0 ν2 := by
  have hb := wb hw
  have h30 := hb.2.2.2.2.2.1
  have hC := MP_M h
  obtain ⟨o1, o2, o3, o4, o9⟩ := hp
  obtain ⟨s, u, w⟩ := p
  simp only [] at h1 hy hz o1 o2 o3 o4 o9 ⊢
  unfold Md_isPlayed
  rw [show nI x + 1 = nI (x + 1) from nI_add x 1, show nI x + 2 = nI (x + 2) from nI_add x 2, inb_nI (by omega), inb_nI (by omega), inb_nI (by omega), nI_clamp (by omega), nI_clamp (by omega), nI_clamp (by omega), if_pos (decide_eq_true (show x + 1 < 2724 by omega)), if_pos (decide_eq_true (show x < 2724 by omega)), if_pos (decide_eq_true hx), h1]
  rcases (show s = 0 ∨ s = 1 ∨ s = 2 ∨ s = 3 ∨ s = 4 ∨ s = 5 ∨ s = 6 ∨ s = 7 ∨ s = 8 ∨ s = 9 by omega) with rfl | rfl | rfl | rfl | rfl | rfl | rfl | rfl | rfl | rfl
  · exact ⟨ν, rfl, h⟩
  · exact ⟨ν, rfl, h⟩
  · obtain ⟨q1, q2, q3⟩ := o2 rfl
    rw [hy (by omega) (by omega), hz rfl]
    show ∃ ν2, ((Md_cord (nI u) (nI w) ν).bind fun v1 => if v1.1 < 0 then some (false, v1.2) else some (true, v1.2)) = some ((if a 0 < 4 then (true, cordA a u w) else (false, a)).1, ν2) ∧ MP (if a 0 < 4 then (true, cordA a u w) else (false, a)).2 ν0 ν2
    by_cases e : a 0 < 4
    · obtain ⟨ν2, r1, r2⟩ := m_cord h hw e ⟨q1, q2⟩ q3
      rw [r1, Option.bind_some, if_pos e]
      simp only []
      rw [if_neg (nI_pos (by omega))]
      exact ⟨ν2, rfl, r2⟩
    · have r1 : Md_cord (nI u) (nI w) ν = some (-1, ν) := by
        unfold Md_cord
        rw [show (1 : Int32) = nI 1 from rfl, show (60 : Int32) = nI 60 from rfl, isIn_t q1 q2 (by decide), Option.bind_some, if_neg (by rw [b2iT]; exact id), show (0 : Int32) = nI 0 from rfl, show (99 : Int32) = nI 99 from rfl, isIn_t (by omega) q3 (by decide), Option.bind_some, if_neg (by rw [b2iT']; exact id), mr hC (by decide) (by decide), if_neg (by rw [show (4 : Int32) = nI 4 from rfl, nI_eq' (by omega) (by omega)]; omega)]
      rw [r1, Option.bind_some, if_neg e]
      exact ⟨ν, rfl, h⟩
  · obtain ⟨q1, q2⟩ := o3 rfl
    rw [hy (by omega) (by omega)]
    have c1 := M1_up hC (i := 1) u (by decide)
    have r1 : Md_hands (nI u) ν = some (true, si ν 314 1 (nI u)) := by
      unfold Md_hands
      rw [show (1 : Int32) = nI 1 from rfl, show (8 : Int32) = nI 8 from rfl, isIn_t q1 q2 (by decide)]; rfl
    show ∃ ν2, ((Md_hands (nI u) ν).bind fun v4 => some (v4.1, v4.2)) = some (true, ν2) ∧ MP (upn a 1 u) ν0 ν2
    rw [r1, Option.bind_some]
    exact ⟨_, rfl, MP_go h hb.1 c1 (fun j hj => upn_n _ _ (by omega))⟩
  · have q1 := o4 ⟨by omega, by omega⟩
    rw [hy (by omega) (by omega)]
    show ∃ ν2, ((Md_light (nI u) 0 ν).bind fun v6 => if v6.1 < 0 then some (false, v6.2) else some (true, v6.2)) = some ((if u < a 0 then (canL D a u 0, lightB D a u 0) else (false, a)).1, ν2) ∧ MP (if u < a 0 then (canL D a u 0, lightB D a u 0) else (false, a)).2 ν0 ν2
    by_cases e : u < a 0
    · obtain ⟨ν2, r1, r2⟩ := m_light hT hC hw hq e 0
      rw [sb01.1] at r1 r2
      rw [r1, Option.bind_some, if_pos e]
      simp only [(lightV_n D a u 0).2]
      refine ⟨ν2, ?_, MP_go h hb.1 r2 (lw4 (fun j hj => lightB_low h30 (by omega) hj))⟩
      cases canL D a u 0 <;> rfl
    · rw [m_light_f hC hw (notc q1 e), Option.bind_some, if_neg e]
      exact ⟨ν, rfl, h⟩
  · have q1 := o4 ⟨by omega, by omega⟩
    rw [hy (by omega) (by omega)]
    show ∃ ν2, ((Md_light (nI u) 1 ν).bind fun v6 => if v6.1 < 0 then some (false, v6.2) else some (true, v6.2)) = some ((if u < a 0 then (canL D a u 1, lightB D a u 1) else (false, a)).1, ν2) ∧ MP (if u < a 0 then (canL D a u 1, lightB D a u 1) else (false, a)).2 ν0 ν2
    by_cases e : u < a 0
    · obtain ⟨ν2, r1, r2⟩ := m_light hT hC hw hq e 1
      rw [sb01.2] at r1 r2
      rw [r1, Option.bind_some, if_pos e]
      simp only [(lightV_n D a u 1).2]
      refine ⟨ν2, ?_, MP_go h hb.1 r2 (lw4 (fun j hj => lightB_low h30 (by omega) hj))⟩
      cases canL D a u 1 <;> rfl
    · rw [m_light_f hC hw (notc q1 e), Option.bind_some, if_neg e]
      exact ⟨ν, rfl, h⟩
  · have q1 := o4 ⟨by omega, by omega⟩
    rw [hy (by omega) (by omega)]
    show ∃ ν2, ((Md_canSnuff ν (nI u) 0).bind fun v15 => if ¬ b2i v15 = 0 then Md_isPlayed_134 0 (nI u) ν else Md_isPlayed_134 1 (nI u) ν) = some ((if u < a 0 then (if (snuffB a u 0).1 = true then snuffB a u 0 else snuffB a u 1) else (false, a)).1, ν2) ∧ MP (if u < a 0 then (if (snuffB a u 0).1 = true then snuffB a u 0 else snuffB a u 1) else (false, a)).2 ν0 ν2
    unfold Md_isPlayed_134
    by_cases e : u < a 0
    · rw [m_canSnuff hC hw e 0, Option.bind_some, if_pos e, sb01.1]
      by_cases e2 : a (13 + 2 * u) / 2 ^ 0 % 2 = 1
      · obtain ⟨ν2, r1, r2⟩ := m_snuff hC hw hq e 0
        rw [sb01.1] at r1 r2
        have e3 : (snuffB a u 0).1 = true := by unfold snuffB; rw [if_pos e2]
        rw [decide_eq_true e2, if_pos (by rw [b2iT]; exact id), if_pos e3, r1, Option.bind_some]
        exact ⟨ν2, rfl, MP_go h hb.1 r2 (lw4 (fun j hj => snuffB_low h30 (by omega) hj))⟩
      · obtain ⟨ν2, r1, r2⟩ := m_snuff hC hw hq e 1
        rw [sb01.2] at r1 r2
        have e3 : ¬ (snuffB a u 0).1 = true := by unfold snuffB; rw [if_neg e2]; simp
        rw [decide_eq_false e2, if_neg (by rw [b2iF]; simp), if_neg e3, r1, Option.bind_some]
        exact ⟨ν2, rfl, MP_go h hb.1 r2 (lw4 (fun j hj => snuffB_low h30 (by omega) hj))⟩
    · rw [m_canSnuff_f hC hw (notc q1 e), Option.bind_some, if_neg e, if_neg (by rw [b2iF]; simp), m_snuff_f hC hw (notc q1 e), Option.bind_some]
      exact ⟨ν, rfl, h⟩
  · have q1 := o4 ⟨by omega, by omega⟩
    rw [hy (by omega) (by omega)]
    show ∃ ν2, ((Md_renew (nI u) ν).bind fun v17 => some (v17.1, v17.2)) = some ((if u < a 0 then renewB a u else (false, a)).1, ν2) ∧ MP (if u < a 0 then renewB a u else (false, a)).2 ν0 ν2
    by_cases e : u < a 0
    · obtain ⟨ν2, r1, r2⟩ := m_renew hC hw e
      rw [r1, Option.bind_some, if_pos e]
      exact ⟨ν2, rfl, MP_go h hb.1 r2 (lw4 (fun j hj => renewB_low h30 (by omega) hj))⟩
    · rw [m_renew_f hC hw (notc q1 e), Option.bind_some, if_neg e]
      exact ⟨ν, rfl, h⟩
  · show ∃ ν2, ((Md_burn ν).bind fun v19 => if v19.1 < 0 then some (false, v19.2) else some (true, v19.2)) = some (canB a, ν2) ∧ MP (burnB a) ν0 ν2
    obtain ⟨ν2, r1, r2⟩ := m_burn hC hw hq
    rw [r1, Option.bind_some]
    simp only [(burnV_n hw).2]
    refine ⟨ν2, ?_, MP_go h hb.1 r2 (lw4 (fun j hj => burnB_low h30 hj))⟩
    cases canB a <;> rfl
  · obtain ⟨q1, q2⟩ := o9 rfl
    rw [hy (by omega) (by omega)]
    show ∃ ν2, ((Md_arePassed (nI u) ν).bind fun v22 => some (v22.1, v22.2)) = some ((minS u (a, 0)).1, ν2) ∧ MP (minS u (a, 0)).2.1 ν0 ν2
    obtain ⟨ν2, r1, r2, -⟩ := m_arePassed q2 hC hw hq
    obtain ⟨k1, k2, -⟩ := minS_ok u (a, 0) hw
    rw [r1, Option.bind_some]
    exact ⟨ν2, rfl, MP_go h hb.1 r2 (lw4 (fun j hj => k2 j hj))⟩
def plK (D : Nat → TD) (d : TD) : Nat → Nat → (Nat → Nat) → Int32 × (Nat → Nat)
  | 0, _, a => (-1, a)
  | k + 1, i, a => if (pl1 D (tk d i) a).1 = true then plK D d k (i + 1) (pl1 D (tk d i) a).2 else (nI i, (pl1 D (tk d i) a).2)
theorem TO_2 {D : Nat → TD} {a a2 : Nat → Nat} {ν : Nm} (h : TO D a ν) (h2 : a2 2 = a 2) : TO D a2 ν := TO_fr h h2 (fun _ _ _ => rfl)
theorem c_plK {D : Nat → TD} {t : Nat} (ht : t < 4) {ν0 : Nm} : ∀ (k f i : Nat) (a : Nat → Nat) (ν : Nm), i + k = tn (D t) → k < f → TO D a ν0 → t < a 2 → WF a → CP a ν0 ν → ∃ ν2, Fm_played_20 f (285 + 7 * t) (nI i) ν = some ((plK D (D t) k i a).1, ν2) ∧ CP (plK D (D t) k i a).2 ν0 ν2 := by
  intro k
  induction k with
  | zero =>
    intro f i a ν hi hf hT ht2 hw h
    obtain ⟨f, rfl⟩ := fsucc hf
    have kT : ∀ q j, (285 ≤ q ∧ q ≤ 312) → gi ν q j = gi ν0 q j := fun q j hq => h.2.2.1 q j (by unfold fcP fc; omega)
    obtain ⟨h1, h2, -⟩ := hT t ht ht2
    exact ⟨ν, by rw [Fm_played_20, kT _ _ (by omega), h2, if_pos (by rw [nI_le' (by omega) (by omega)]; omega)]; rfl, h⟩
  | succ k ih =>
    intro f i a ν hi hf hT ht2 hw h
    obtain ⟨f, rfl⟩ := fsucc hf
    have kT : ∀ q j, (285 ≤ q ∧ q ≤ 312) ∨ q = 316 → gi ν q j = gi ν0 q j := fun q j hq => h.2.2.1 q j (by unfold fcP fc; omega)
    obtain ⟨h1, h2, h3, h4, h5, h6⟩ := hT t ht ht2
    obtain ⟨q1, q2, q3, q4, q5⟩ := h4 i (by omega)
    obtain ⟨ν1, p1, p2⟩ := c_pl1 (y := gi ν (285 + 7 * t + 2) i) (z := gi ν (285 + 7 * t + 3) i) (TO_fr hT rfl kT) h hw q1 (fun z1 z2 => by rw [kT _ _ (by omega)]; exact (q4 z1 z2).1) (fun z1 => by rw [kT _ _ (by omega)]; exact (q5 z1).1)
    obtain ⟨w1, w2, w3, w4⟩ := pl1_ok (D := D) hw q1
    rw [Fm_played_20, kT (285 + 7 * t) 3 (by omega), h2, if_neg (by rw [nI_le' (by omega) (by omega)]; omega), if_neg (by rw [show (24 : Int32) = nI 24 from rfl, nI_le' (by omega) (by omega)]; omega), inb_nI (by omega), nI_clamp (by omega), if_pos (by simp; omega), if_pos (by simp; omega), if_pos (by simp; omega), kT (285 + 7 * t + 1) i (by omega), q2, p1, Option.bind_some]
    simp only []
    unfold plK
    by_cases e : (pl1 D (tk (D t) i) a).1 = true
    · rw [e, if_pos (by rw [b2iT]; exact id), if_pos rfl, show nI i + 1 = nI (i + 1) from nI_add i 1]
      exact ih f (i + 1) _ ν1 (by omega) (by omega) (TO_2 hT w2) (by omega) w1 p2
    · rw [Bool.eq_false_iff.mpr e, if_neg (by rw [b2iF]; simp), if_neg (by simp)]
      exact ⟨ν1, rfl, p2⟩
theorem m_plK {D : Nat → TD} {t : Nat} (ht : t < 4) {ν0 : Nm} (hq : gi ν0 313 23 = 1) : ∀ (k f i : Nat) (a : Nat → Nat) (ν : Nm), i + k = tn (D t) → k < f → TO D a ν0 → t < a 2 → WF a → MP a ν0 ν → ∃ ν2, Md_played_21 f (nI t) (nI i) ν = some ((plK D (D t) k i a).1, ν2) ∧ MP (plK D (D t) k i a).2 ν0 ν2 := by
  intro k
  induction k with
  | zero =>
    intro f i a ν hi hf hT ht2 hw h
    obtain ⟨f, rfl⟩ := fsucc hf
    have kT : ∀ q j, (285 ≤ q ∧ q ≤ 312) ∨ q = 316 → gi ν q j = gi ν0 q j := fun q j hq => h.2.2.1 q j (by unfold fmP fm; omega)
    obtain ⟨h1, h2, h3, -⟩ := hT t ht ht2
    exact ⟨ν, by rw [Md_played_21, show (681 : Int32) = nI 681 from rfl, nI_mul, inb_nI (by omega), nI_clamp (by omega), if_pos (by simp; omega), kT _ _ (by omega), h3, if_pos (by rw [nI_le' (by omega) (by omega)]; omega)]; rfl, h⟩
  | succ k ih =>
    intro f i a ν hi hf hT ht2 hw h
    obtain ⟨f, rfl⟩ := fsucc hf
    have kT : ∀ q j, (285 ≤ q ∧ q ≤ 312) ∨ q = 316 → gi ν q j = gi ν0 q j := fun q j hq => h.2.2.1 q j (by unfold fmP fm; omega)
    obtain ⟨h1, h2, h3, h4, h5, h6⟩ := hT t ht ht2
    obtain ⟨q1, q2, q3, q4, q5⟩ := h4 i (by omega)
    have hq1 : gi ν 313 23 = 1 := by rw [h.2.2.1 _ _ (by unfold fmP fm; omega)]; exact hq
    obtain ⟨ν1, p1, p2⟩ := m_pl1 (x := 681 * t + 1 + 3 * i) (TO_fr hT rfl kT) h hw hq1 q1 (by omega) (by rw [kT _ _ (by omega)]; exact q3) (fun z1 z2 => by rw [kT _ _ (by omega), show 681 * t + 1 + 3 * i + 1 = 681 * t + 2 + 3 * i by omega]; exact (q4 z1 z2).2) (fun z1 => by rw [kT _ _ (by omega), show 681 * t + 1 + 3 * i + 2 = 681 * t + 3 + 3 * i by omega]; exact (q5 z1).2)
    obtain ⟨w1, w2, w3, w4⟩ := pl1_ok (D := D) hw q1
    rw [Md_played_21, show (681 : Int32) = nI 681 from rfl, nI_mul, inb_nI (by omega), nI_clamp (by omega), if_pos (by simp; omega), kT _ _ (by omega), h3, if_neg (by rw [nI_le' (by omega) (by omega)]; omega), show (3 : Int32) = nI 3 from rfl, nI_mul, show nI (681 * t) + 1 = nI (681 * t + 1) from nI_add _ 1, nI_add, p1, Option.bind_some]
    simp only []
    unfold plK
    by_cases e : (pl1 D (tk (D t) i) a).1 = true
    · rw [e, if_pos (by rw [b2iT]; exact id), if_pos rfl, show nI i + 1 = nI (i + 1) from nI_add i 1]
      exact ih f (i + 1) _ ν1 (by omega) (by omega) (TO_2 hT w2) (by omega) w1 p2
    · rw [Bool.eq_false_iff.mpr e, if_neg (by rw [b2iF]; simp), if_neg (by simp)]
      exact ⟨ν1, rfl, p2⟩
theorem plK_ok {D : Nat → TD} {d : TD} : ∀ (k i : Nat) (a : Nat → Nat), WF a → (∀ j, i ≤ j → j < i + k → clOK (tk d j)) → WF (plK D d k i a).2 ∧ (plK D d k i a).2 2 = a 2 ∧ a 0 ≤ (plK D d k i a).2 0 ∧ ∀ c, c < a 0 → (plK D d k i a).2 (20 + 2 * c) = a (20 + 2 * c) := by
  intro k
  induction k with
  | zero => intro i a hw _; exact ⟨hw, rfl, Nat.le_refl _, fun _ _ => rfl⟩
  | succ k ih =>
    intro i a hw hc
    obtain ⟨w1, w2, w3, w4⟩ := pl1_ok (D := D) hw (hc i (by omega) (by omega))
    unfold plK
    split
    · obtain ⟨v1, v2, v3, v4⟩ := ih (i + 1) _ w1 (fun j h1 h2 => hc j (by omega) (by omega))
      exact ⟨v1, by rw [v2, w2], by omega, fun c h => by rw [v4 c (by omega), w4 c h]⟩
    · exact ⟨w1, w2, w3, w4⟩
theorem st_played {a b : Nat → Nat} {ν : Nm} (h : Inv a b tau ν) (x : Int32) : Step tau (Fm_played x) (Md_played x) ν := by
  have hw := h.1
  have hb := wb hw
  have hc0 := C1_0 h
  obtain ⟨D, hT⟩ := Inv_TO tau_T h
  rcases below_cases x (a 2) with ⟨t, ht, rfl⟩ | hx
  · have h4 : t < 4 := by omega
    obtain ⟨t1, t2, t3, t4, -, -⟩ := hT t h4 ht
    obtain ⟨ν1, p1, p2⟩ := c_plK h4 (tn (D t)) FU 0 a ν (by omega) (by unfold FU; omega) hT ht hw (CP_0 h)
    have hT1 : TO D a ν1 := TO_fr hT rfl (fun q j hq => p2.2.2.1 q j (by unfold fcP fc; omega))
    have hq : gi ν1 313 23 = 1 := by rw [p2.2.2.1 _ _ (by unfold fcP fc; omega)]; exact h.2.2.2.2.2.2.2.2.1
    obtain ⟨ν2, q1, q2⟩ := m_plK h4 hq (tn (D t)) FU 0 a ν1 (by omega) (by unfold FU; omega) hT1 ht hw (MP_0 h p2)
    obtain ⟨w1, w2, w3, w4⟩ := plK_ok (D := D) (d := D t) (tn (D t)) 0 a hw (fun j _ hj => (t4 j (by omega)).1)
    refine ⟨(plK D (D t) (tn (D t)) 0 a).1, ν1, ν2, (plK D (D t) (tn (D t)) 0 a).2, b, ?_, ?_, Inv_P h p2 q2 w1 w2 w3 w4⟩
    · unfold Fm_played
      rw [c_text_t hc0 hw ht, Option.bind_some, if_pos (by rw [b2iT]; exact id), inb_nI (by omega), nI_clamp (by omega), if_pos (decide_eq_true h4)]
      exact p1
    · unfold Md_played
      rw [mr (M1_0 h hc0 |> fun z => (⟨(MP_0 h p2).1, Fr_rfl _ _⟩ : M1 a ν1 ν1)) (by decide) (by decide), show (0 : Int32) = nI 0 from rfl, show (1 : Int32) = nI 1 from rfl, isIn0_t ht (by omega), Option.bind_some, if_pos (by rw [b2iT']; exact id)]
      exact q1
  · refine Step_no h (-2) ?_ ?_
    · unfold Fm_played; rw [c_text_f hc0 hw hx]; rfl
    · unfold Md_played
      rw [mr (M1_0 h hc0) (by decide) (by decide), show (0 : Int32) = nI 0 from rfl, show (1 : Int32) = nI 1 from rfl, isIn0_f hx (by omega)]; rfl
