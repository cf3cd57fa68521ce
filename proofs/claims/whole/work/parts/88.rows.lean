/-! row, between -/
theorem cstn : ∀ n, n < 5 → cst n 0 ≤ 130216330 := by decide +kernel
theorem m_isRow {a : Nat → Nat} {ν0 ν : Nm} (h : MR a ν0 ν) (hw : WF a) {s v n : Nat} (h2 : s < 2 ^ a 0) (v2 : v ≤ 15360) (n1 : 1 ≤ n) (n4 : n ≤ 4) : ∃ ν2, MR a ν0 ν2 ∧ (fn0 a s v n = none → Md_isRow (nI s) (nI v) (nI n) ν = some (false, ν2)) ∧ ∀ i l, fn0 a s v n = some (i, l) → Md_isRow (nI s) (nI v) (nI n) ν = some (true, ν2) ∧ gi ν2 313 32 = nI i ∧ ∀ j, j < n → gi ν2 324 j = nI (l.getD j 0 + 1) := by
  have hb := wb hw
  have p4 : 2 ^ a 0 ≤ 2 ^ 4 := Nat.pow_le_pow_right (by omega) hb.1
  obtain ⟨νf, f1, f2, f3, f4, f5⟩ := m_first hw (show s < 16 by omega) h.1
  rw [Nat.mod_eq_of_lt h2] at f2
  obtain ⟨k, rfl⟩ : ∃ k, n = k + 1 := ⟨n - 1, by omega⟩
  have hR := RI_0 hw s (show s < 16 by omega)
  obtain ⟨c, ν2, q1, q2, q3, q4, q5⟩ := m_ir v2 n4 k 81 0 zer (r0 a s) zer νf 0 (by omega) hR TI_0 (fun _ => by00 hR) f2 (by omega) f3
  have hc := cstn (k + 1) (by omega)
  have g : ∀ q j, ¬ ((323 ≤ q ∧ q ≤ 326) ∨ (q = 313 ∧ j = 32)) → gi ν2 q j = gi ν q j := fun q j hq => by rw [q2 q j (by unfold fwr; omega), f4 q j (by omega)]
  refine ⟨ν2, ⟨MX_keep h.1 (fun j => g _ _ (by omega)), RM_keep h.2.1 hb.1 ⟨rfl, fun _ _ _ => rfl⟩ (fun j => g _ _ (by omega)) (fun j => g _ _ (by omega)), Fr_tr h.2.2 ⟨fun q j hq => g q j (by unfold fmQ at hq; omega), fun q j _ => by rw [q3, f5]⟩⟩, fun hn => ?_, fun i l hs => ?_⟩
  · unfold Md_isRow
    rw [f1, Option.bind_some]
    have q4' := q4 hn (FU - c)
    rw [show FU - c + c = FU by unfold FU; omega] at q4'
    show Md_isRow_8 FU (nI v) (nI (k + 1)) (nI 0) νf = _
    rw [q4']
    obtain ⟨f, hf⟩ : ∃ f, FU - c = f + 1 := ⟨FU - c - 1, by unfold FU; omega⟩
    rw [hf, Md_isRow_8, if_pos (by decide)]
  · obtain ⟨z1, z2, z3⟩ := q5 i l hs
    refine ⟨?_, z2, fun j hj => by have := z3 j hj; rw [Nat.zero_add] at this; exact this⟩
    unfold Md_isRow
    rw [f1, Option.bind_some]
    have z1' := z1 (FU - c)
    rw [show FU - c + c = FU by unfold FU; omega] at z1'
    exact z1'
theorem m_lr13 {a : Nat → Nat} {ν0 : Nm} (hw : WF a) {s v N i : Nat} {l : List Nat} (h2 : s < 2 ^ a 0) (v2 : v ≤ 15360) (hA : RowA a s v N i l) : ∀ (k f n : Nat) (ν : Nm), n + k = N → k < f → 1 ≤ n → MR a ν0 ν → ∃ ν2, Md_layRow_13 f (nI s) (nI v) (nI n) ν = some (nI N, ν2) ∧ MR a ν0 ν2 ∧ gi ν2 313 32 = nI i ∧ ∀ j, j < N → gi ν2 324 j = nI (l.getD j 0 + 1) := by
  obtain ⟨a1, a2, a3, a4⟩ := id hA
  intro k
  induction k with
  | zero =>
    intro f n ν hn hf n1 h
    obtain ⟨f, rfl⟩ := fsucc hf
    obtain rfl : n = N := by omega
    obtain ⟨ν2, p1, -, p3⟩ := m_isRow h hw (n := n) h2 v2 n1 a2
    obtain ⟨z1, z2, z3⟩ := p3 i l a3
    refine ⟨ν2, ?_, p1, z2, z3⟩
    rw [Md_layRow_13, z1, Option.bind_some]; rfl
  | succ k ih =>
    intro f n ν hn hf n1 h
    obtain ⟨f, rfl⟩ := fsucc hf
    obtain ⟨ν1, p1, p2, -⟩ := m_isRow h hw (n := n) h2 v2 n1 (by omega)
    obtain ⟨ν2, q1, q2⟩ := ih f (n + 1) ν1 (by omega) (by omega) (by omega) p1
    refine ⟨ν2, ?_, q2⟩
    rw [Md_layRow_13, p2 (a4 n n1 (by omega)), Option.bind_some]
    simp only []
    rw [if_neg (by rw [b2iF]; simp), show nI n + 1 = nI (n + 1) from nI_add n 1]
    exact q1
theorem m_can {a : Nat → Nat} {ν0 ν : Nm} (h : MR a ν0 ν) (hw : WF a) {s v : Nat} (h1 : 1 ≤ s) (h2 : s < 2 ^ a 0) (v1 : 1 ≤ v) (v2 : v ≤ 15360) : ∃ ν2, Md_can (nI s) (nI v) ν = some (gvB a s v, ν2) ∧ MR a ν0 ν2 := by
  obtain ⟨ν2, q1, q2, -⟩ := m_given h hw h1 h2 v2
  refine ⟨ν2, ?_, q2⟩
  have hsp : Md_isSpan (nI v) = some true := by
    rcases span_cases (nI v) with ⟨n, _, _, _, q⟩ | ⟨q, _⟩
    · exact q
    · exact absurd rfl (q v v1 v2)
  unfold Md_can
  rw [m_set_t (MR_M h) hw h1 h2, Option.bind_some, if_neg (by rw [b2iT]; exact id), hsp, Option.bind_some, if_neg (by rw [b2iT]; exact id), q1, Option.bind_some]
  cases gvB a s v <;> rfl
theorem m_layRow {a : Nat → Nat} {ν0 ν : Nm} (h : MR a ν0 ν) (hw : WF a) {s v : Nat} (h1 : 1 ≤ s) (h2 : s < 2 ^ a 0) (v1 : 1 ≤ v) (v2 : v ≤ 15360) : (∀ n i l, RowA a s v n i l → ∃ ν2, Md_layRow (nI s) (nI v) ν = some (nI n, ν2) ∧ MR a ν0 ν2 ∧ gi ν2 313 32 = nI i ∧ ∀ j, j < n → gi ν2 324 j = nI (l.getD j 0 + 1)) ∧ (¬ mkS a s v → ∃ ν2, Md_layRow (nI s) (nI v) ν = some (-1, ν2) ∧ MR a ν0 ν2) := by
  obtain ⟨ν1, p1, p2⟩ := m_can h hw h1 h2 v1 v2
  unfold Md_layRow
  rw [p1, Option.bind_some]
  simp only []
  refine ⟨fun n i l hA => ?_, fun hg => ?_⟩
  · have hg : mkS a s v := ⟨n, hA.1, hA.2.1, by rw [hA.2.2.1]; rfl⟩
    rw [gvB_t.mpr hg, if_pos (by rw [b2iT]; exact id)]
    exact m_lr13 hw h2 v2 hA (n - 1) FU 1 ν1 (by have := hA.1; omega) (by have := hA.2.1; unfold FU; omega) (by omega) p2
  · have : gvB a s v = false := Bool.eq_false_iff.mpr (fun q => hg (gvB_t.mp q))
    rw [this, if_neg (by rw [b2iF]; simp)]
    exact ⟨ν1, rfl, p2⟩
theorem m_layRow_f {a : Nat → Nat} {ν0 ν : Nm} (h : M1 a ν0 ν) (hw : WF a) {x y : Int32} (hx : (∀ s, 1 ≤ s → s < 2 ^ a 0 → x ≠ nI s) ∨ (∃ s, 1 ≤ s ∧ s < 2 ^ a 0 ∧ x = nI s) ∧ Md_isSpan y = some false) : Md_layRow x y ν = some (-1, ν) := by
  have : Md_can x y ν = some (false, ν) := by
    unfold Md_can
    rcases hx with q | ⟨⟨s, h1, h2, rfl⟩, q⟩
    · rw [m_set_f h hw q]; rfl
    · rw [m_set_t h hw h1 h2, Option.bind_some, if_neg (by rw [b2iT]; exact id), q]; rfl
  unfold Md_layRow
  rw [this]; rfl
theorem row_in {n : Nat} (hn : n ≤ 4) (n1 : 1 ≤ n) : ∀ x : Int32, (x = -1 ∧ Md_isIn x (-1) (nI n - 1) = some true) ∨ (∃ j, j < n ∧ x = nI j ∧ Md_isIn x (-1) (nI n - 1) = some true) ∨ ((∀ j, j < n → x ≠ nI j) ∧ x ≠ -1 ∧ Md_isIn x (-1) (nI n - 1) = some false) := by
  intro x
  have e : nI n - 1 = nI (n - 1) := nI_sub (b := 1) (by omega)
  rw [e]
  rcases arg_cases x with q | ⟨j, j1, rfl⟩
  · by_cases z : x = -1
    · subst z
      refine Or.inl ⟨rfl, ?_⟩
      rcases (show n = 1 ∨ n = 2 ∨ n = 3 ∨ n = 4 by omega) with rfl | rfl | rfl | rfl <;> rfl
    · refine Or.inr (Or.inr ⟨fun j hj z2 => by rw [z2] at q; exact nI_pos (show j < 2 ^ 31 by omega) q, z, ?_⟩)
      unfold Md_isIn
      rw [if_pos]
      rw [Int32.lt_iff_toInt_lt] at q ⊢
      have h1 : ¬ x.toInt = -1 := fun w => z (by rw [← Int32.toInt_inj]; exact w)
      have h2 : (0 : Int32).toInt = 0 := rfl
      have h3 : (-1 : Int32).toInt = -1 := rfl
      omega
  · have lo : ¬ nI j < (-1 : Int32) := by
      intro z
      apply nI_pos j1
      rw [Int32.lt_iff_toInt_lt] at z ⊢
      have h2 : (0 : Int32).toInt = 0 := rfl
      have h3 : (-1 : Int32).toInt = -1 := rfl
      omega
    by_cases z : j < n
    · refine Or.inr (Or.inl ⟨j, z, rfl, ?_⟩)
      unfold Md_isIn
      rw [if_neg lo, if_neg (by rw [nI_lt' (by omega) (by omega)]; omega)]
    · refine Or.inr (Or.inr ⟨fun i hi w => ?_, neg1 j1, ?_⟩)
      · rw [nI_eq' j1 (by omega)] at w; omega
      · unfold Md_isIn
        rw [if_neg lo, if_pos (by rw [nI_lt' (by omega) (by omega)]; omega)]
theorem st_row {a b : Nat → Nat} {ν : Nm} (h : Inv a b tau ν) (x y z : Int32) : Step tau (Fm_row x y z) (Md_row x y z) ν := by
  have hw := h.1
  have hc0 := C1_0 h
  have hm0 := M1_0 h hc0
  rcases set_cases x (a 0) with ⟨s, h1, h2, rfl⟩ | hx
  · rcases span_cases y with ⟨v, v1, v2, rfl, v3⟩ | ⟨v1, v3⟩
    · obtain ⟨f1, f2⟩ := c_findRow (CQ_0 h) hw h1 h2 v1 v2
      by_cases hg : mkS a s v
      · obtain ⟨ν1, n, i, l, p1, p2, p3, p4⟩ := f1 hg
        obtain ⟨ν2, q1, q2, q3, q4⟩ := (m_layRow (MR_0 h p2) hw h1 h2 v1 v2).1 n i l p3
        have hl := fnd_81 _ _ _ _ _ i l p3.2.2.1
        obtain ⟨l1, l2⟩ := c_litAt p4 p3.2.1 hl
        have n1 := p3.1
        have n4 := p3.2.1
        have cF : Fm_row (nI s) (nI v) z ν = if ¬ z = (-1 : Int32) then (Rw_litAt ν1 z).bind fun v6 => some (v6, ν1) else some (nI n, ν1) := by
          unfold Fm_row
          rw [c_set_t hc0 hw h1 h2, Option.bind_some, if_neg (by rw [b2iT]; exact id), p1, Option.bind_some]
          simp only []
          rw [if_pos (by rw [b2iT]; exact id), p4.1]
        have mF : Md_row (nI s) (nI v) z ν1 = (Md_isIn z (-1) (nI n - 1)).bind fun v3 => if ¬ (b2i v3) = 0 then (if ¬ z = (-1 : Int32) then (if inb z 6 then some ((gi ν2 324 z.toNatClampNeg) - 1, ν2) else none) else some (nI n, ν2)) else some (-2, ν2) := by
          unfold Md_row
          rw [q1, Option.bind_some]
          simp only []
          rw [if_neg (neg1 (by omega))]
        rcases row_in n4 n1 z with ⟨rfl, e⟩ | ⟨j, j1, rfl, e⟩ | ⟨e1, e2, e⟩
        · refine ⟨nI n, ν1, ν2, a, b, ?_, ?_, Inv_Q h p2 q2⟩
          · rw [cF]; rfl
          · rw [mF, e]; rfl
        · refine ⟨nI (l.getD j 0), ν1, ν2, a, b, ?_, ?_, Inv_Q h p2 q2⟩
          · rw [cF, if_pos (neg1 (by omega)), l1 j j1]; rfl
          · rw [mF, e, Option.bind_some, if_pos (by rw [b2iT]; exact id), if_pos (neg1 (by omega)), inb_nI (by omega), nI_clamp (by omega), if_pos (by simp; omega), q4 j j1, show nI (l.getD j 0 + 1) - 1 = nI (l.getD j 0) from nI_sub (b := 1) (by omega)]
        · refine ⟨-2, ν1, ν2, a, b, ?_, ?_, Inv_Q h p2 q2⟩
          · rw [cF, if_pos e2, l2 z e1]; rfl
          · rw [mF, e]; rfl
      · obtain ⟨ν1, p1, p2⟩ := f2 hg
        obtain ⟨ν2, q1, q2⟩ := (m_layRow (MR_0 h p2) hw h1 h2 v1 v2).2 hg
        refine ⟨-2, ν1, ν2, a, b, ?_, ?_, Inv_Q h p2 q2⟩
        · unfold Fm_row
          rw [c_set_t hc0 hw h1 h2, Option.bind_some, if_neg (by rw [b2iT]; exact id), p1]; rfl
        · unfold Md_row
          rw [q1]; rfl
    · refine Step_no h (-2) ?_ ?_
      · unfold Fm_row
        rw [c_set_t hc0 hw h1 h2, Option.bind_some, if_neg (by rw [b2iT]; exact id), c_findRow_f (CQ_0 h) hw h1 h2 v1]; rfl
      · unfold Md_row
        rw [m_layRow_f hm0 hw (Or.inr ⟨⟨s, h1, h2, rfl⟩, v3⟩)]; rfl
  · refine Step_no h (-2) ?_ ?_
    · unfold Fm_row; rw [c_set_f hc0 hw hx]; rfl
    · unfold Md_row; rw [m_layRow_f hm0 hw (Or.inl hx)]; rfl
theorem st_between {a b : Nat → Nat} {ν : Nm} (h : Inv a b tau ν) (x y z : Int32) : Step tau (Fm_between x y z) (Md_between x y z) ν := by
  have hw := h.1
  have hc0 := C1_0 h
  have hm0 := M1_0 h hc0
  rcases set_cases x (a 0) with ⟨s, h1, h2, rfl⟩ | hx
  · rcases span_cases y with ⟨v, v1, v2, rfl, v3⟩ | ⟨v1, v3⟩
    · obtain ⟨f1, f2⟩ := c_findRow (CQ_0 h) hw h1 h2 v1 v2
      by_cases hg : mkS a s v
      · obtain ⟨ν1, n, i, l, p1, p2, p3, p4⟩ := f1 hg
        obtain ⟨ν2, q1, q2, q3, q4⟩ := (m_layRow (MR_0 h p2) hw h1 h2 v1 v2).1 n i l p3
        have n4 := p3.2.1
        have cF : Fm_between (nI s) (nI v) z ν = if z = 0 then some (nI i, ν1) else some (nI n, ν1) := by
          unfold Fm_between
          rw [c_set_t hc0 hw h1 h2, Option.bind_some, if_neg (by rw [b2iT]; exact id), p1, Option.bind_some]
          simp only []
          rw [if_pos (by rw [b2iT]; exact id), p4.1, p4.2.1]
        have mF : Md_between (nI s) (nI v) z ν1 = if z = 0 then some (nI i, ν2) else some (nI n, ν2) := by
          unfold Md_between
          rw [q1, Option.bind_some]
          simp only []
          rw [if_pos (neg1 (by omega)), q3]
        by_cases e : z = 0
        · exact ⟨nI i, ν1, ν2, a, b, by rw [cF, if_pos e], by rw [mF, if_pos e], Inv_Q h p2 q2⟩
        · exact ⟨nI n, ν1, ν2, a, b, by rw [cF, if_neg e], by rw [mF, if_neg e], Inv_Q h p2 q2⟩
      · obtain ⟨ν1, p1, p2⟩ := f2 hg
        obtain ⟨ν2, q1, q2⟩ := (m_layRow (MR_0 h p2) hw h1 h2 v1 v2).2 hg
        refine ⟨-2, ν1, ν2, a, b, ?_, ?_, Inv_Q h p2 q2⟩
        · unfold Fm_between
          rw [c_set_t hc0 hw h1 h2, Option.bind_some, if_neg (by rw [b2iT]; exact id), p1]; rfl
        · unfold Md_between
          rw [q1]; rfl
    · refine Step_no h (-2) ?_ ?_
      · unfold Fm_between
        rw [c_set_t hc0 hw h1 h2, Option.bind_some, if_neg (by rw [b2iT]; exact id), c_findRow_f (CQ_0 h) hw h1 h2 v1]; rfl
      · unfold Md_between
        rw [m_layRow_f hm0 hw (Or.inr ⟨⟨s, h1, h2, rfl⟩, v3⟩)]; rfl
  · refine Step_no h (-2) ?_ ?_
    · unfold Fm_between; rw [c_set_f hc0 hw hx]; rfl
    · unfold Md_between; rw [m_layRow_f hm0 hw (Or.inl hx)]; rfl
