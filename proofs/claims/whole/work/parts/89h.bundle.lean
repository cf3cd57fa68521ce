/-! bundle, part -/
def cvt (b b2 y : Nat) : Nat → Nat
  | 0 => 0
  | c + 1 => cvt b b2 y c + (y / b ^ c % b) * b2 ^ c
def cA (w n y : Nat) : Bool := decide (cvt (w + 1) 5 y n < 5 ^ n) && (List.range 4).all (fun p => decide (ptK (cvt (w + 1) 5 y n) (p + 1) n = shK (w + 1) y p 4) && (decide (p < w) || decide (shK (w + 1) y p 4 = 0)))
def cB (w n y : Nat) : Bool := (List.range 4).any (fun p => decide (w ≤ p) && decide (ptK y (p + 1) n ≠ 0)) || (decide (cvt 5 (w + 1) y n < (w + 1) ^ n) && (List.range 4).all (fun p => decide (shK (w + 1) (cvt 5 (w + 1) y n) p 4 = ptK y (p + 1) n)))
theorem cA_all : (List.range 5).all (fun w => (List.range 5).all (fun n => (List.range ((w + 1) ^ n)).all (fun y => cA w n y))) = true := by decide +kernel
theorem cB_all : (List.range 5).all (fun w => (List.range 5).all (fun n => (List.range (5 ^ n)).all (fun y => cB w n y))) = true := by decide +kernel
theorem cvA {w n y : Nat} (hw : w < 5) (hn : n < 5) (hy : y < (w + 1) ^ n) : cvt (w + 1) 5 y n < 5 ^ n ∧ ∀ p, p < 4 → ptK (cvt (w + 1) 5 y n) (p + 1) n = shK (w + 1) y p 4 ∧ (w ≤ p → shK (w + 1) y p 4 = 0) := by
  have h := List.all_eq_true.mp (List.all_eq_true.mp (List.all_eq_true.mp cA_all w (List.mem_range.mpr hw)) n (List.mem_range.mpr hn)) y (List.mem_range.mpr hy)
  unfold cA at h
  rw [Bool.and_eq_true, decide_eq_true_iff, List.all_eq_true] at h
  refine ⟨h.1, fun p hp => ?_⟩
  have q := h.2 p (List.mem_range.mpr hp)
  rw [Bool.and_eq_true, decide_eq_true_iff, Bool.or_eq_true, decide_eq_true_iff, decide_eq_true_iff] at q
  exact ⟨q.1, fun z => q.2.elim (fun w => by omega) id⟩
theorem cvB {w n y : Nat} (hw : w < 5) (hn : n < 5) (hy : y < 5 ^ n) (h0 : ∀ p, p < 4 → w ≤ p → ptK y (p + 1) n = 0) : cvt 5 (w + 1) y n < (w + 1) ^ n ∧ ∀ p, p < 4 → shK (w + 1) (cvt 5 (w + 1) y n) p 4 = ptK y (p + 1) n := by
  have h := List.all_eq_true.mp (List.all_eq_true.mp (List.all_eq_true.mp cB_all w (List.mem_range.mpr hw)) n (List.mem_range.mpr hn)) y (List.mem_range.mpr hy)
  unfold cB at h
  rw [Bool.or_eq_true] at h
  rcases h with h | h
  · rw [List.any_eq_true] at h
    obtain ⟨p, p1, p2⟩ := h
    rw [Bool.and_eq_true, decide_eq_true_iff, decide_eq_true_iff] at p2
    exact absurd (h0 p (List.mem_range.mp p1) p2.1) p2.2
  · rw [Bool.and_eq_true, decide_eq_true_iff, List.all_eq_true] at h
    exact ⟨h.1, fun p hp => by have := h.2 p (List.mem_range.mpr hp); rw [decide_eq_true_iff] at this; exact this⟩
theorem alK_t {a S : Nat → Nat} : ∀ (k i : Nat), alK a S k i = true ↔ ∀ p, i ≤ p → p < i + k → S p < 2 ^ a 0 ∧ S p ≠ 0 ∧ gvB a (S p) (a (29 + p)) = true := by
  intro k
  induction k with
  | zero => intro i; exact ⟨fun _ p _ _ => by omega, fun _ => rfl⟩
  | succ k ih =>
    intro i
    show ((decide (S i < 2 ^ a 0) && gvP a (a (29 + i)) (S i)) && alK a S k (i + 1)) = true ↔ _
    unfold gvP
    simp only [Bool.and_eq_true, decide_eq_true_iff, ih (i + 1)]
    constructor
    · rintro ⟨⟨q1, q2, q3⟩, q4⟩ p p1 p2
      by_cases z : p = i
      · subst z; exact ⟨q1, q2, q3⟩
      · exact q4 p (by omega) (by omega)
    · intro h
      exact ⟨h i (by omega) (by omega), fun p p1 p2 => h p (by omega) (by omega)⟩
theorem apK_t {a S : Nat → Nat} : ∀ (k i : Nat), apK a S k i = true ↔ ∀ p, i ≤ p → p < i + k → (p < a 5 → S p ≠ 0 ∧ gvB a (S p) (a (29 + p)) = true) ∧ (a 5 ≤ p → S p = 0) := by
  intro k
  induction k with
  | zero => intro i; exact ⟨fun _ p _ _ => by omega, fun _ => rfl⟩
  | succ k ih =>
    intro i
    show ((if i < a 5 then decide (S i ≠ 0) && gvB a (S i) (a (29 + i)) else decide (S i = 0)) && apK a S k (i + 1)) = true ↔ _
    rw [Bool.and_eq_true, ih (i + 1)]
    have e : ((if i < a 5 then decide (S i ≠ 0) && gvB a (S i) (a (29 + i)) else decide (S i = 0)) = true) ↔ ((i < a 5 → S i ≠ 0 ∧ gvB a (S i) (a (29 + i)) = true) ∧ (a 5 ≤ i → S i = 0)) := by
      by_cases z : i < a 5
      · rw [if_pos z, Bool.and_eq_true, decide_eq_true_iff]
        exact ⟨fun q => ⟨fun _ => q, fun w => by omega⟩, fun q => q.1 z⟩
      · rw [if_neg z, decide_eq_true_iff]
        exact ⟨fun q => ⟨fun w => by omega, fun _ => q⟩, fun q => q.2 (by omega)⟩
    rw [e]
    constructor
    · rintro ⟨q1, q4⟩ p p1 p2
      by_cases z : p = i
      · subst z; exact q1
      · exact q4 p (by omega) (by omega)
    · intro h
      exact ⟨h i (by omega) (by omega), fun p p1 p2 => h p (by omega) (by omega)⟩
theorem rkS_cg {a S T : Nat → Nat} (h : ∀ p, p < 4 → S p = T p) : rkS a S = rkS a T := by
  have e : unS S = unS T := by unfold unS; rw [h 0 (by omega), h 1 (by omega), h 2 (by omega), h 3 (by omega)]
  unfold rkS
  rw [e, h 0 (by omega), h 1 (by omega), h 2 (by omega), h 3 (by omega)]
theorem ok_CM {a : Nat → Nat} (hw : WF a) {y : Nat} (hy : y < NC a) (ho : okC a y = true) : ∃ y2, y2 < 5 ^ a 0 ∧ okM a y2 = true ∧ rkM a y2 = rkC a y := by
  have hb := wb hw
  obtain ⟨c1, c2⟩ := cvA (w := a 5) (n := a 0) (by omega) (by omega) hy
  refine ⟨cvt (a 5 + 1) 5 y (a 0), c1, ?_, rkS_cg (fun p hp => (c2 p hp).1)⟩
  unfold okM
  rw [apK_t]
  unfold okC at ho
  rw [alK_t] at ho
  intro p p1 p2
  have e : shM a (cvt (a 5 + 1) 5 y (a 0)) p = shF (a 5 + 1) y p := (c2 p (by omega)).1
  rw [e]
  exact ⟨fun z => (ho p (by omega) (by omega)).2, fun z => (c2 p (by omega)).2 z⟩
theorem ok_MC {a : Nat → Nat} (hw : WF a) {y : Nat} (hy : y < 5 ^ a 0) (ho : okM a y = true) : ∃ y2, y2 < NC a ∧ okC a y2 = true ∧ rkC a y2 = rkM a y := by
  have hb := wb hw
  unfold okM at ho
  rw [apK_t] at ho
  obtain ⟨c1, c2⟩ := cvB (w := a 5) (n := a 0) (by omega) (by omega) hy (fun p p1 p2 => (ho p (by omega) (by omega)).2 p2)
  refine ⟨cvt 5 (a 5 + 1) y (a 0), c1, ?_, rkS_cg (fun p hp => c2 p hp)⟩
  unfold okC
  rw [alK_t]
  intro p p1 p2
  have e : shF (a 5 + 1) (cvt 5 (a 5 + 1) y (a 0)) p = shM a y p := c2 p (by omega)
  rw [e]
  obtain ⟨q1, q2⟩ := (ho p (by omega) (by omega)).1 (by omega)
  exact ⟨ptK_lt _ _ _, q1, q2⟩
theorem mnv_some {ok : Nat → Bool} {R : Nat → Nat} : ∀ (n r : Nat), mnv ok R n = some r → (∃ y, y < n ∧ ok y = true ∧ R y = r) ∧ ∀ y, y < n → ok y = true → r ≤ R y := by
  intro n
  induction n with
  | zero => intro r h; cases h
  | succ n ih =>
    intro r h
    unfold mnv at h
    by_cases q : ok n = true
    · rw [if_pos q] at h
      cases e : mnv ok R n with
      | none =>
        rw [e] at h
        have hr : R n = r := Option.some.inj h
        have no : ∀ m, mnv ok R m = none → ∀ y, y < m → ¬ ok y = true := by
          intro m
          induction m with
          | zero => intro _ y hy; omega
          | succ m ihm =>
            intro hm y hy
            unfold mnv at hm
            by_cases q2 : ok m = true
            · rw [if_pos q2] at hm
              cases e2 : mnv ok R m <;> rw [e2] at hm <;> cases hm
            · rw [if_neg q2] at hm
              by_cases z2 : y = m
              · subst z2; exact q2
              · exact ihm hm y (by omega)
        refine ⟨⟨n, by omega, q, hr⟩, fun y hy ho => ?_⟩
        by_cases z : y = n
        · subst z; omega
        · exact absurd ho (no n e y (by omega))
      | some x =>
        rw [e] at h
        have hr : min x (R n) = r := Option.some.inj h
        obtain ⟨⟨y0, i1, i2, i3⟩, i4⟩ := ih x e
        refine ⟨?_, fun y hy ho => ?_⟩
        · by_cases z : x ≤ R n
          · exact ⟨y0, by omega, i2, by omega⟩
          · exact ⟨n, by omega, q, by omega⟩
        · by_cases z : y = n
          · subst z; omega
          · have := i4 y (by omega) ho; omega
    · rw [if_neg q] at h
      obtain ⟨⟨y0, i1, i2, i3⟩, i4⟩ := ih r h
      refine ⟨⟨y0, by omega, i2, i3⟩, fun y hy ho => ?_⟩
      by_cases z : y = n
      · subst z; exact absurd ho q
      · exact i4 y (by omega) ho
theorem mnv_no {ok : Nat → Bool} {R : Nat → Nat} : ∀ m, mnv ok R m = none → ∀ y, y < m → ¬ ok y = true := by
  intro m
  induction m with
  | zero => intro _ y hy; omega
  | succ m ihm =>
    intro hm y hy
    unfold mnv at hm
    by_cases q2 : ok m = true
    · rw [if_pos q2] at hm
      cases e2 : mnv ok R m <;> rw [e2] at hm <;> cases hm
    · rw [if_neg q2] at hm
      by_cases z2 : y = m
      · subst z2; exact q2
      · exact ihm hm y (by omega)
theorem best_eq {a : Nat → Nat} (hw : WF a) : mnv (okC a) (rkC a) (NC a) = (mnb (okM a) (rkM a) (5 ^ a 0)).map (rkM a) := by
  cases e : mnb (okM a) (rkM a) (5 ^ a 0) with
  | none =>
    cases e2 : mnv (okC a) (rkC a) (NC a) with
    | none => rfl
    | some r =>
      obtain ⟨⟨y, y1, y2, -⟩, -⟩ := mnv_some _ _ e2
      obtain ⟨z, z1, z2, -⟩ := ok_CM hw y1 y2
      exact absurd z2 (mnb_no _ e z z1)
  | some b =>
    obtain ⟨b1, b2, b3⟩ := mnb_lt _ _ e
    obtain ⟨y, y1, y2, y3⟩ := ok_MC hw b1 b2
    cases e2 : mnv (okC a) (rkC a) (NC a) with
    | none => exact absurd y2 (mnv_no _ e2 y y1)
    | some r =>
      obtain ⟨⟨x, x1, x2, x3⟩, x4⟩ := mnv_some _ _ e2
      obtain ⟨z, z1, z2, z3⟩ := ok_CM hw x1 x2
      have l1 := x4 y y1 y2
      have l2 := b3 z z1 z2
      show some r = some (rkM a b)
      congr 1
      omega
theorem sh63b : ∀ k, k < 32 → (((nI k).toInt64 &&& 63).toBitVec.smod 64).toNat = k := by decide +kernel
theorem lq_dec {R k : Nat} (hR : R < 2 ^ 31) (hk : k < 32) : ((lq R >>> ((nI k).toInt64 &&& 63)) &&& (15 : Int64)).toInt32 = nI (R / 2 ^ k % 16) := by
  have e0 : (lq R).toBitVec = BitVec.ofNat 64 R := rfl
  have hm : (BitVec.ofNat 64 R).msb = false := by
    rw [BitVec.msb_eq_decide, BitVec.toNat_ofNat]
    simp
    omega
  have e1 : (lq R >>> ((nI k).toInt64 &&& 63)).toBitVec.toNat = R / 2 ^ k := by
    show ((lq R).toBitVec.sshiftRight ((((nI k).toInt64 &&& 63).toBitVec.smod 64).toNat)).toNat = _
    rw [sh63b k hk, e0, BitVec.sshiftRight_eq_of_msb_false hm, BitVec.toNat_ushiftRight, BitVec.toNat_ofNat, Nat.shiftRight_eq_div_pow, Nat.mod_eq_of_lt (by omega)]
  apply Int32.toBitVec_inj.mp
  apply BitVec.eq_of_toNat_eq
  have e2 : (nI (R / 2 ^ k % 16)).toBitVec.toNat = R / 2 ^ k % 16 := by
    show (BitVec.ofNat 32 (R / 2 ^ k % 16)).toNat = _
    rw [BitVec.toNat_ofNat]
    omega
  rw [e2]
  show (((lq R >>> ((nI k).toInt64 &&& 63)).toBitVec &&& (15 : Int64).toBitVec).signExtend 32).toNat = _
  rw [BitVec.signExtend_eq_setWidth_of_le _ (by omega), BitVec.toNat_setWidth, BitVec.toNat_and, e1, show (15 : Int64).toBitVec.toNat = 2 ^ 4 - 1 from rfl, Nat.and_two_pow_sub_one_eq_mod]
  omega
theorem rk_dec {a S : Nat → Nat} (hw : WF a) (hS : ∀ p, S p < 16) : rkS a S / 2 ^ 16 % 16 = unS S ∧ ∀ p, p < 4 → rkS a S / 2 ^ (4 * (3 - p)) % 16 = S p := by
  have hu := unS_16 hS
  have h0 := hS 0
  have h1 := hS 1
  have h2 := hS 2
  have h3 := hS 3
  unfold rkS
  refine ⟨by omega, fun p hp => ?_⟩
  rcases c4 hp with rfl | rfl | rfl | rfl
  · show _ / 2 ^ 12 % 16 = _; omega
  · show _ / 2 ^ 8 % 16 = _; omega
  · show _ / 2 ^ 4 % 16 = _; omega
  · show _ / 2 ^ 0 % 16 = _; omega
theorem m_lay4 {a : Nat → Nat} (hw : WF a) {ν0 ν : Nm} (h : MR a ν0 ν) : ∀ (k f i : Nat), i + k = a 0 → k < f → Md_layBundle_4 f (nI (5 ^ i)) (nI i) ν = Md_layBundle_28 FU (nI (5 ^ a 0)) (-1) 0 ν := by
  have hb := wb hw
  intro k
  induction k with
  | zero =>
    intro f i hi hf
    obtain ⟨f, rfl⟩ := fsucc hf
    rw [Md_layBundle_4, mr (MR_M h) (by decide) (by decide), if_pos (by rw [nI_le' (by omega) (by omega)]; omega), show i = a 0 by omega]
  | succ k ih =>
    intro f i hi hf
    obtain ⟨f, rfl⟩ := fsucc hf
    rw [Md_layBundle_4, mr (MR_M h) (by decide) (by decide), if_neg (by rw [nI_le' (by omega) (by omega)]; omega), show nI (5 ^ i) * 5 = nI (5 ^ i * 5) from nI_mul _ 5, ← Nat.pow_succ, show nI i + 1 = nI (i + 1) from nI_add i 1]
    exact ih f (i + 1) (by omega) (by omega)
theorem m_layB {a : Nat → Nat} (hw : WF a) {ν0 ν : Nm} (h : MR a ν0 ν) : ∃ ν2, Md_layBundle ν = some (enM a (mnb (okM a) (rkM a) (5 ^ a 0)), ν2) ∧ MR a ν0 ν2 ∧ ∀ b, mnb (okM a) (rkM a) (5 ^ a 0) = some b → ∀ p, p < 5 → gi ν2 330 p = nI (ptK b p (a 0)) := by
  have hb := wb hw
  have hN := pw_le 5 (by omega) (a 0) (by omega)
  obtain ⟨ν2, p1, p2⟩ := m_lay28 hw (ν0 := ν0) hN (5 ^ a 0) FU 0 ν (by omega) (by unfold FU; omega) h (fun b eb => by cases eb)
  refine ⟨ν2, ?_, p2⟩
  unfold Md_layBundle
  have e4 : Md_layBundle_4 FU 1 0 ν = _ := m_lay4 hw h (a 0) FU 0 (by omega) (by unfold FU; omega)
  rw [e4]
  exact p1
theorem st_bundle {a b : Nat → Nat} {ν : Nm} (h : Inv a b tau ν) (x : Int32) : Step tau (Fm_bundle x) (Md_bundle x) ν := by
  have hw := h.1
  have hb := wb hw
  have p4 : 2 ^ a 0 ≤ 2 ^ 4 := Nat.pow_le_pow_right (by omega) hb.1
  obtain ⟨ν1, c1, c2, c3⟩ := c_findB (CQ_0 h) hw
  obtain ⟨ν2, m1, m2, m3⟩ := m_layB hw (MR_0 h c2)
  rw [best_eq hw] at c1 c3
  cases e : mnb (okM a) (rkM a) (5 ^ a 0) with
  | none =>
    rw [e] at c1 m1
    refine ⟨-1, ν1, ν2, a, b, ?_, ?_, Inv_Q h c2 m2⟩
    · unfold Fm_bundle; rw [c1]; rfl
    · unfold Md_bundle; rw [m1]; rfl
  | some y =>
    rw [e] at c1 c3 m1
    have hS := shM_16 hw y
    have hR := rkS_le hw hS
    obtain ⟨d1, -⟩ := rk_dec hw hS
    have hU := unM_lt a y
    have cc : Bu_cords ν1 = some (nI (unS (shM a y))) := by
      unfold Bu_cords
      rw [c3]
      show some (((lq (rkS a (shM a y))) >>> ((nI 16).toInt64 &&& 63)) &&& (15 : Int64)).toInt32 = _
      rw [lq_dec hR (by omega), d1]
    have cF : Fm_bundle x ν = if x = 0 then some (nI (unS (shM a y)), ν1) else some (nI (prA a (unS (shM a y))), ν1) := by
      unfold Fm_bundle
      rw [c1, Option.bind_some]
      simp only []
      rw [if_pos (by show ¬ b2i true = 0; rw [b2iT]; exact id), cc, Option.bind_some, Option.bind_some, c_price (CQ_C c2) (by omega), Option.bind_some]
    have mF : Md_bundle x ν1 = if x = 0 then some (nI (unS (shM a y)), ν2) else some (nI (prA a (unS (shM a y))), ν2) := by
      unfold Md_bundle
      rw [m1, Option.bind_some]
      simp only []
      rw [show enM a (some y) = nI (unS (shM a y)) from rfl, if_pos (neg1 (by omega)), m_price (MR_M m2) hw hU, Option.bind_some]
    by_cases z : x = 0
    · exact ⟨_, ν1, ν2, a, b, by rw [cF, if_pos z], by rw [mF, if_pos z], Inv_Q h c2 m2⟩
    · exact ⟨_, ν1, ν2, a, b, by rw [cF, if_neg z], by rw [mF, if_neg z], Inv_Q h c2 m2⟩
theorem st_part {a b : Nat → Nat} {ν : Nm} (h : Inv a b tau ν) (x : Int32) : Step tau (Fm_part x) (Md_part x) ν := by
  have hw := h.1
  have hb := wb hw
  have hc0 := C1_0 h
  have hm0 := M1_0 h hc0
  have e5 : gi ν 130 1 = nI (a 5) := (cr hc0).2.2.2.2.2.1
  rcases below_cases x (a 5) with ⟨j, j1, rfl⟩ | hx
  · obtain ⟨ν1, c1, c2, c3⟩ := c_findB (CQ_0 h) hw
    obtain ⟨ν2, m1, m2, m3⟩ := m_layB hw (MR_0 h c2)
    rw [best_eq hw] at c1 c3
    have cF : Fm_part (nI j) ν = (Fm_findBundle ν).bind fun v3 => (if ¬ (b2i v3.1) = 0 then (Bu_share v3.2 (nI j)).bind fun v5 => some (v5, v3.2) else some ((-1 : Int32), v3.2)) := by
      unfold Fm_part
      rw [if_neg (nI_pos (by omega)), e5, if_neg (by rw [nI_le' (by omega) (by omega)]; omega)]
    have mF : Md_part (nI j) ν1 = (Md_layBundle ν1).bind fun v3 => (if ¬ v3.1 = (-1 : Int32) then (if inb (nI j + 1) 5 then some ((gi v3.2 330 (nI j + 1).toNatClampNeg), v3.2) else none) else some ((-1 : Int32), v3.2)) := by
      unfold Md_part
      have e : Md_isIn (nI j) 0 (nI (a 5) - 1) = some true := isIn0_t j1 (by omega)
      rw [mr (MR_M (MR_0 h c2)) (by decide) (by decide), e, Option.bind_some, if_neg (by rw [b2iT]; exact id)]
    cases e : mnb (okM a) (rkM a) (5 ^ a 0) with
    | none =>
      rw [e] at c1 m1
      refine ⟨-1, ν1, ν2, a, b, ?_, ?_, Inv_Q h c2 m2⟩
      · rw [cF, c1]; rfl
      · rw [mF, m1]; rfl
    | some y =>
      have m3' := m3 y e
      rw [e] at c1 c3 m1
      have hS := shM_16 hw y
      have hR := rkS_le hw hS
      have d1 := (rk_dec hw hS).2 j (by omega)
      have p4 : 2 ^ a 0 ≤ 2 ^ 4 := Nat.pow_le_pow_right (by omega) hb.1
      have hU := unM_lt a y
      refine ⟨nI (shM a y j), ν1, ν2, a, b, ?_, ?_, Inv_Q h c2 m2⟩
      · rw [cF, c1, Option.bind_some]
        simp only []
        rw [if_pos (by show ¬ b2i true = 0; rw [b2iT]; exact id)]
        unfold Bu_share
        rw [c3, show (3 : Int32) - nI j = nI (3 - j) from nI_sub (a := 3) (by omega), show (4 : Int32) * nI (3 - j) = nI (4 * (3 - j)) from nI_mul 4 (3 - j)]
        show (some (((lq (rkS a (shM a y))) >>> ((nI (4 * (3 - j))).toInt64 &&& 63)) &&& (15 : Int64)).toInt32).bind _ = _
        rw [lq_dec hR (by omega), d1]
        rfl
      · rw [mF, m1, Option.bind_some]
        simp only []
        rw [show enM a (some y) = nI (unS (shM a y)) from rfl, if_pos (neg1 (by omega)), show nI j + 1 = nI (j + 1) from nI_add j 1, inb_nI (by omega), nI_clamp (by omega), if_pos (by simp; omega), m3' (j + 1) (by omega)]
        rfl
  · refine Step_no h (-1) ?_ ?_
    · unfold Fm_part
      rcases arg_cases x with q | ⟨j, j1, rfl⟩
      · rw [if_pos q]
      · rw [if_neg (nI_pos j1), e5, if_pos (by
          rw [nI_le' (by omega) j1]
          apply Nat.le_of_not_lt
          intro q
          exact hx j q rfl)]
    · unfold Md_part
      have e : Md_isIn x 0 (nI (a 5) - 1) = some false := isIn0_f hx (by omega)
      rw [mr hm0 (by decide) (by decide), e]
      rfl
