/-! Calls that tell numbers. -/
theorem WF_free {a : Nat → Nat} (h : WF a) {i v : Nat} (hi : i = 6 ∨ (8 ≤ i ∧ i ≤ 11) ∨ i = 28 ∨ (33 ≤ i ∧ i < 49) ∨ 1355 ≤ i) (hv : v ≤ ub i) : WF (upn a i v) := by
  obtain ⟨u, w1, w2, w3, w4, w5, w6⟩ := h
  have n : ∀ j, j ≠ i → upn a i v j = a j := fun j hj => upn_n _ _ hj
  exact ⟨UB_up u hv, by unfold W1; rw [n 1 (by omega)]; exact w1, by unfold W2; rw [n 3 (by omega), n 2 (by omega)]; exact w2, W3_keep w3 (fun j hj => n j (by omega)), W4_keep w4 (fun j hj => n j (by omega)), W5_keep w5 (fun j hj => n j (by omega)), W6_keep w6 (fun j hj => n j (by omega))⟩
theorem WF_1 {a : Nat → Nat} (h : WF a) {v : Nat} (hv : 1 ≤ v ∧ v ≤ 8) : WF (upn a 1 v) := by
  obtain ⟨u, w1, w2, w3, w4, w5, w6⟩ := h
  have n : ∀ j, j ≠ 1 → upn a 1 v j = a j := fun j hj => upn_n _ _ hj
  exact ⟨UB_up u hv.2, by unfold W1; rw [upn_s]; exact hv.1, by unfold W2; rw [n 3 (by decide), n 2 (by decide)]; exact w2, W3_keep w3 (fun j hj => n j (by omega)), W4_keep w4 (fun j hj => n j (by omega)), W5_keep w5 (fun j hj => n j (by omega)), W6_keep w6 (fun j hj => n j (by omega))⟩
theorem WF_3 {a : Nat → Nat} (h : WF a) {v : Nat} (hv : v ≤ a 2) : WF (upn a 3 v) := by
  have hb := wb h
  obtain ⟨u, w1, w2, w3, w4, w5, w6⟩ := h
  have n : ∀ j, j ≠ 3 → upn a 3 v j = a j := fun j hj => upn_n _ _ hj
  exact ⟨UB_up u (show v ≤ 4 by omega), by unfold W1; rw [n 1 (by decide)]; exact w1, by unfold W2; rw [upn_s, n 2 (by decide)]; exact hv, W3_keep w3 (fun j hj => n j (by omega)), W4_keep w4 (fun j hj => n j (by omega)), W5_keep w5 (fun j hj => n j (by omega)), W6_keep w6 (fun j hj => n j (by omega))⟩
theorem WF_5 {a : Nat → Nat} (h : WF a) {v : Nat} (hv : v ≤ 4) (hk : ∀ i, i < v → 1 ≤ a (29 + i)) : WF (upn a 5 v) := by
  obtain ⟨u, w1, w2, w3, w4, w5, w6⟩ := h
  have n : ∀ j, j ≠ 5 → upn a 5 v j = a j := fun j hj => upn_n _ _ hj
  exact ⟨UB_up u hv, by unfold W1; rw [n 1 (by decide)]; exact w1, by unfold W2; rw [n 3 (by decide), n 2 (by decide)]; exact w2, W3_keep w3 (fun j hj => n j (by omega)), fun i h1 h2 => by rw [upn_s] at h2; rw [n _ (by omega)]; exact hk i h2, W5_keep w5 (fun j hj => n j (by omega)), W6_keep w6 (fun j hj => n j (by omega))⟩
theorem WF_29 {a : Nat → Nat} (h : WF a) {i v : Nat} (hi : i < 4) (hv : 1 ≤ v ∧ v ≤ 15360) : WF (upn a (29 + i) v) := by
  obtain ⟨u, w1, w2, w3, w4, w5, w6⟩ := h
  have n : ∀ j, j ≠ 29 + i → upn a (29 + i) v j = a j := fun j hj => upn_n _ _ hj
  have k : ∀ c, c < 4 → ub (29 + c) = 15360 := by decide
  refine ⟨UB_up u (by rw [k i hi]; exact hv.2), by unfold W1; rw [n 1 (by omega)]; exact w1, by unfold W2; rw [n 3 (by omega), n 2 (by omega)]; exact w2, W3_keep w3 (fun j hj => n j (by omega)), fun c h1 h2 => ?_, W5_keep w5 (fun j hj => n j (by omega)), W6_keep w6 (fun j hj => n j (by omega))⟩
  rw [n 5 (by omega)] at h2
  by_cases e : c = i
  · subst e; rw [upn_s]; exact hv.1
  · rw [n _ (by omega)]; exact w4 c h1 h2
theorem WF_7 {a : Nat → Nat} (h : WF a) {v : Nat} (hv : v ≤ 8) (hk : ∀ i, i < v → a (49 + 2 * i) < a 0) : WF (upn a 7 v) := by
  obtain ⟨u, w1, w2, w3, w4, w5, w6⟩ := h
  have n : ∀ j, j ≠ 7 → upn a 7 v j = a j := fun j hj => upn_n _ _ hj
  exact ⟨UB_up u hv, by unfold W1; rw [n 1 (by decide)]; exact w1, by unfold W2; rw [n 3 (by decide), n 2 (by decide)]; exact w2, W3_keep w3 (fun j hj => n j (by omega)), W4_keep w4 (fun j hj => n j (by omega)), fun i h1 h2 => by rw [upn_s] at h2; rw [n _ (by omega), n 0 (by omega)]; exact hk i h2, W6_keep w6 (fun j hj => n j (by omega))⟩
theorem WF_49 {a : Nat → Nat} (h : WF a) {i v : Nat} (hi : 49 ≤ i ∧ i < 65) (hv : v ≤ ub i) (hc : i % 2 = 1 → v < a 0) : WF (upn a i v) := by
  obtain ⟨u, w1, w2, w3, w4, w5, w6⟩ := h
  have n : ∀ j, j ≠ i → upn a i v j = a j := fun j hj => upn_n _ _ hj
  refine ⟨UB_up u hv, by unfold W1; rw [n 1 (by omega)]; exact w1, by unfold W2; rw [n 3 (by omega), n 2 (by omega)]; exact w2, W3_keep w3 (fun j hj => n j (by omega)), W4_keep w4 (fun j hj => n j (by omega)), fun c h1 h2 => ?_, W6_keep w6 (fun j hj => n j (by omega))⟩
  rw [n 7 (by omega)] at h2
  rw [n 0 (by omega)]
  by_cases e : 49 + 2 * c = i
  · rw [e, upn_s]; exact hc (by omega)
  · rw [n _ (by omega)]; exact w5 c h1 h2
theorem C1_tried {a : Nat → Nat} {ν0 ν : Nm} (h : C1 a ν0 ν) {i : Nat} (hi : i < 8) (h30 : a 4 ≤ 30) (s e : Nat) : C1 (upn (upn a (33 + 2 * i) s) (34 + 2 * i) e) ν0 (si ν 133 i (nI (2 * s + e))) := by
  refine ⟨?_, Fr_si h.2 _ (Or.inl (by omega))⟩
  obtain ⟨⟨h1, h2, ⟨h3, h34⟩, f, h5, h6, h7⟩, _⟩ := h
  have n : ∀ j, j ≠ 33 + 2 * i → j ≠ 34 + 2 * i → upn (upn a (33 + 2 * i) s) (34 + 2 * i) e j = a j := fun j q1 q2 => by rw [upn_n _ _ q2, upn_n _ _ q1]
  refine ⟨fun q hq => ?_, ?_, ⟨fun c hc => ?_, fun c hc => ?_⟩, f, h5, ?_, fun c hc => ?_⟩
  · have := plNo q hq
    rw [gi_si_q _ _ _ _ (by omega), n _ (by omega) (by omega)]; exact h1 q hq
  · unfold RX; rw [gi_si_q _ _ _ _ (by omega), n _ (by omega) (by omega)]; exact h2
  · by_cases e2 : c = i
    · subst e2
      rw [gi_si_s, upn_n _ _ (by omega), upn_s, upn_s]
    · rw [gi_si_j _ _ _ e2, n _ (by omega) (by omega), n _ (by omega) (by omega)]; exact h3 c hc
  · rw [gi_si_q _ _ _ _ (by omega), n _ (by omega) (by omega), n _ (by omega) (by omega)]; exact h34 c hc
  · rw [gi_si_q _ _ _ _ (by omega)]; exact h6
  · rw [n 4 (by omega) (by omega)] at hc
    exact SX1_keep (h7 c hc) (fun q j a1 a2 => gi_si_q _ _ _ _ (by omega)) (fun k k1 k2 => n _ (by omega) (by omega))
theorem C1_said {a : Nat → Nat} {ν0 ν : Nm} (h : C1 a ν0 ν) {i : Nat} (hi : i < 8) (h30 : a 4 ≤ 30) (s e : Nat) : C1 (upn (upn a (49 + 2 * i) s) (50 + 2 * i) e) ν0 (si ν 135 i (nI (11 * s + e))) := by
  refine ⟨?_, Fr_si h.2 _ (Or.inl (by omega))⟩
  obtain ⟨⟨h1, h2, ⟨h3, h34⟩, f, h5, h6, h7⟩, _⟩ := h
  have n : ∀ j, j ≠ 49 + 2 * i → j ≠ 50 + 2 * i → upn (upn a (49 + 2 * i) s) (50 + 2 * i) e j = a j := fun j q1 q2 => by rw [upn_n _ _ q2, upn_n _ _ q1]
  refine ⟨fun q hq => ?_, ?_, ⟨fun c hc => ?_, fun c hc => ?_⟩, f, h5, ?_, fun c hc => ?_⟩
  · have := plNo q hq
    rw [gi_si_q _ _ _ _ (by omega), n _ (by omega) (by omega)]; exact h1 q hq
  · unfold RX; rw [gi_si_q _ _ _ _ (by omega), n _ (by omega) (by omega)]; exact h2
  · rw [gi_si_q _ _ _ _ (by omega), n _ (by omega) (by omega), n _ (by omega) (by omega)]; exact h3 c hc
  · by_cases e2 : c = i
    · subst e2
      rw [gi_si_s, upn_n _ _ (by omega), upn_s, upn_s]
    · rw [gi_si_j _ _ _ e2, n _ (by omega) (by omega), n _ (by omega) (by omega)]; exact h34 c hc
  · rw [gi_si_q _ _ _ _ (by omega)]; exact h6
  · rw [n 4 (by omega) (by omega)] at hc
    exact SX1_keep (h7 c hc) (fun q j a1 a2 => gi_si_q _ _ _ _ (by omega)) (fun k k1 k2 => n _ (by omega) (by omega))
theorem C1_by {a : Nat → Nat} {ν0 ν : Nm} (h : C1 a ν0 ν) (h30 : a 4 ≤ 30) (r : Nat) : C1 (upn a 3 r) ν0 (si ν 1 7 (nI r - 1)) := by
  refine ⟨?_, Fr_si h.2 _ (Or.inl (by omega))⟩
  obtain ⟨⟨h1, h2, ⟨h3, h34⟩, f, h5, h6, h7⟩, _⟩ := h
  have n : ∀ j, j ≠ 3 → upn a 3 r j = a j := fun j q1 => upn_n _ _ q1
  refine ⟨fun q hq => ?_, ?_, ⟨fun c hc => ?_, fun c hc => ?_⟩, f, h5, ?_, fun c hc => ?_⟩
  · have := plNo q hq
    rw [gi_si, if_neg (fun e => this.2.2.2.1 (Prod.ext (by show q.2.1 = 0; omega) e.2)), n _ (by omega)]; exact h1 q hq
  · unfold RX; rw [gi_si_s, upn_s]
  · rw [gi_si_q _ _ _ _ (by omega), n _ (by omega), n _ (by omega)]; exact h3 c hc
  · rw [gi_si_q _ _ _ _ (by omega), n _ (by omega), n _ (by omega)]; exact h34 c hc
  · rw [gi_si_q _ _ _ _ (by omega)]; exact h6
  · rw [n 4 (by omega)] at hc
    exact SX1_keep (h7 c hc) (fun q j a1 a2 => gi_si_q _ _ _ _ (by omega)) (fun k k1 k2 => n _ (by omega))
theorem M1_by {a : Nat → Nat} {ν0 ν : Nm} (h : M1 a ν0 ν) (r : Nat) : M1 (upn a 3 r) ν0 (si ν 314 3 (nI r - 1)) :=
  ⟨⟨fun j h1 h3 => by rw [gi_si_j _ _ _ h3, upn_n _ _ h3]; exact h.1.1 j h1 h3, by rw [gi_si_s, upn_s]⟩, Fr_si h.2 _ (Or.inl rfl)⟩
theorem Step_no {α : Type} {a b : Nat → Nat} {τ : Ex} {ν : Nm} (h : Inv a b τ ν) {x m : Nm → Option (α × Nm)} (v : α) (h1 : x ν = some (v, ν)) (h2 : m ν = some (v, ν)) : Step τ x m ν := ⟨v, ν, ν, a, b, h1, h2, h⟩
theorem st_hands {a b : Nat → Nat} {τ : Ex} {ν : Nm} (h : Inv a b τ ν) (x : Int32) : Step τ (Fm_hands x) (Md_hands x) ν := by
  unfold Fm_hands Md_hands
  simp only [lit_nI, within_isIn]
  rcases isIn_cases x 1 8 (by decide) (by decide) with ⟨n, h1, h2, rfl, h3⟩ | ⟨h1, h3⟩
  · have hc := C1_pl (C1_0 h) 1 1 5 (by decide) (by decide) (by decide) (wb h.1).2.2.2.2.2.1 n
    have hm := M1_up (M1_0 h hc) (i := 1) n (by decide)
    exact Step_mk h hc hm (WF_1 h.1 ⟨h1, h2⟩) (fun i hi => upn_n _ _ (by omega)) true (by simp only [h3, lit_nI, nI_add, nI_mul, b2iT', b2iF', Option.bind_some, if_true, if_false, not_true_eq_false, not_false_eq_true]) (by simp only [h3, lit_nI, nI_add, nI_mul, b2iT', b2iF', Option.bind_some, if_true, if_false, not_true_eq_false, not_false_eq_true])
  · exact Step_no h false (by simp only [h3, lit_nI, nI_add, nI_mul, b2iT', b2iF', Option.bind_some, if_true, if_false, not_true_eq_false, not_false_eq_true]) (by simp only [h3, lit_nI, nI_add, nI_mul, b2iT', b2iF', Option.bind_some, if_true, if_false, not_true_eq_false, not_false_eq_true])
theorem st_by {a b : Nat → Nat} {τ : Ex} {ν : Nm} (h : Inv a b τ ν) (x : Int32) : Step τ (Fm_by x) (Md_by x) ν := by
  have hw := h.1
  have hb := wb hw
  have key : ∀ r, r ≤ a 2 → x = nI r - 1 → Fm_by x ν = some (true, si ν 1 7 x) → Md_isIn x (-1) (nI (a 2) - 1) = some true → Step τ (Fm_by x) (Md_by x) ν := by
    intro r hr e h1 h2
    have hc := C1_by (C1_0 h) hb.2.2.2.2.2.1 r
    have hm := M1_by (M1_0 h hc) r
    refine Step_mk h hc hm (WF_3 hw hr) (fun i hi => upn_n _ _ (by omega)) true (by rw [← e]; exact h1) ?_
    subst e
    unfold Md_by
    rw [mr (M1_0 h hc) (by decide) (by decide), h2]
    rfl
  by_cases e : x = -1
  · subst e
    refine key 0 (by omega) rfl (by unfold Fm_by; rw [if_pos rfl]; rfl) ?_
    unfold Md_isIn
    rw [if_neg (by decide), if_neg]
    by_cases q : a 2 = 0
    · rw [q]; decide
    · rw [show (1 : Int32) = nI 1 from rfl, nI_sub (by omega)]
      exact fun q => nI_pos (show a 2 - 1 < 2 ^ 31 by omega) (Int32.lt_of_lt_of_le q (by decide))
  · rcases below_cases x (a 2) with ⟨c, hc, rfl⟩ | hn
    · refine key (c + 1) (by omega) (nI_pred c).symm ?_ ?_
      · unfold Fm_by
        rw [if_neg e, c_text_t (C1_0 h) hw hc]; rfl
      · unfold Md_isIn
        rw [if_neg (fun q => nI_pos (show c < 2 ^ 31 by omega) (Int32.lt_of_lt_of_le q (by decide))), if_neg]
        rw [show (1 : Int32) = nI 1 from rfl, nI_sub (by omega), nI_lt' (by omega) (by omega)]
        omega
    · refine Step_no h false ?_ ?_
      · unfold Fm_by
        rw [if_neg e, c_text_f (C1_0 h) hw hn]; rfl
      · unfold Md_by
        rw [mr (M1_0 h (C1_0 h)) (by decide) (by decide)]
        have : Md_isIn x (-1) (nI (a 2) - 1) = some false := by
          unfold Md_isIn
          by_cases q : x < -1
          · rw [if_pos q]
          · rw [if_neg q, if_pos]
            rcases arg_cases x with q2 | ⟨j, hj, rfl⟩
            · exfalso
              have q3 : (-1 : Int32) ≤ x := Int32.not_lt.mp q
              have q4 := Int32.le_iff_toInt_le.mp q3
              have q5 := Int32.lt_iff_toInt_lt.mp q2
              refine e (Int32.toInt_inj.mp ?_)
              have e1 : (-1 : Int32).toInt = -1 := rfl
              have e0 : (0 : Int32).toInt = 0 := rfl
              omega
            · have n1 : a 2 ≤ j := Nat.le_of_not_lt (fun q => hn j q rfl)
              by_cases q0 : a 2 = 0
              · rw [q0]
                exact Int32.lt_of_lt_of_le (by decide) (nI_pos' hj)
              · rw [show (1 : Int32) = nI 1 from rfl, nI_sub (by omega), nI_lt' (by omega) hj]
                omega
        rw [this]; rfl
theorem wetU : ∀ w, w < 16 → ∀ c, c < 4 → (∃ v, v < 16 ∧ nI w &&& (((1 : Int32) <<< (nI c &&& 31)) ^^^ (-1 : Int32)) = nI v) ∧ ∃ v, v < 16 ∧ nI w ||| ((1 : Int32) <<< (nI c &&& 31)) = nI v := by decide +kernel
theorem st_wet {a b : Nat → Nat} {τ : Ex} {ν : Nm} (h : Inv a b τ ν) (x y : Int32) : Step τ (Fm_wet x y) (Md_wet x y) ν := by
  have hw := h.1
  have hb := wb hw
  have hc0 := C1_0 h
  rcases below_cases x (a 0) with ⟨c, h1, rfl⟩ | hx
  · obtain ⟨⟨v1, u1, e1⟩, v2, u2, e2⟩ := wetU (a 28) (by omega) c (by omega)
    have key : ∀ v, v < 16 → Fm_wet (nI c) y ν = some (true, si ν 1 4 (nI v)) → (∀ ν1, M1 a ν1 ν1 → Md_wet (nI c) y ν1 = some (true, si ν1 314 28 (nI v))) → Step τ (Fm_wet (nI c) y) (Md_wet (nI c) y) ν := by
      intro v hv q1 q2
      have hc := C1_pl hc0 28 1 4 (by decide) (by decide) (by decide) hb.2.2.2.2.2.1 v
      have hm := M1_up (M1_0 h hc) (i := 28) v (by decide)
      exact Step_mk h hc hm (WF_free hw (by omega) (show v ≤ 15 by omega)) (fun i hi => upn_n _ _ (by omega)) true q1 (q2 _ (M1_0 h hc))
    by_cases hy : y = 0
    · refine key v1 u1 ?_ (fun ν1 hm => ?_)
      · unfold Fm_wet
        rw [c_has_t hc0 hw h1, Option.bind_some, if_pos (by simp [b2iT]), if_pos hy, (cr hc0).2.2.2.2.2.2.2.2.2.2.2.2, e1]
      · unfold Md_wet
        rw [m_isCord_t hm hw h1, Option.bind_some, if_pos (by simp [b2iT]), if_pos hy, mr hm (by decide) (by decide), e1]
    · refine key v2 u2 ?_ (fun ν1 hm => ?_)
      · unfold Fm_wet
        rw [c_has_t hc0 hw h1, Option.bind_some, if_pos (by simp [b2iT]), if_neg hy, (cr hc0).2.2.2.2.2.2.2.2.2.2.2.2, e2]
      · unfold Md_wet
        rw [m_isCord_t hm hw h1, Option.bind_some, if_pos (by simp [b2iT]), if_neg hy, mr hm (by decide) (by decide), e2]
  · exact Step_no h false (by unfold Fm_wet; rw [c_has_f hc0 hw hx]; rfl) (by unfold Md_wet; rw [m_isCord_f (M1_0 h hc0) hw hx]; rfl)
theorem tl_130 : tl 130 = 4 := by decide +kernel
theorem tl_132 : tl 132 = 8 := by decide +kernel
theorem tl_134 : tl 134 = 8 := by decide +kernel
theorem isSpan_eq (x : Int32) : Fm_isSpan x = Md_isSpan x := rfl
theorem span_cases (x : Int32) : (∃ n, 1 ≤ n ∧ n ≤ 15360 ∧ x = nI n ∧ Md_isSpan x = some true) ∨ ((∀ n, 1 ≤ n → n ≤ 15360 → x ≠ nI n) ∧ Md_isSpan x = some false) := by
  unfold Md_isSpan
  rcases isIn_cases x 1 15360 (by decide) (by decide) with ⟨n, h1, h2, h3, h4⟩ | ⟨h1, h4⟩
  · exact Or.inl ⟨n, h1, h2, h3, by rw [show (1 : Int32) = nI 1 from rfl, show (15360 : Int32) = nI 15360 from rfl, h4]; rfl⟩
  · exact Or.inr ⟨h1, by rw [show (1 : Int32) = nI 1 from rfl, show (15360 : Int32) = nI 15360 from rfl, h4]; rfl⟩
theorem st_want {a b : Nat → Nat} {τ : Ex} {ν : Nm} (h : Inv a b τ ν) (x : Int32) : Step τ (Fm_want x) (Md_want x) ν := by
  have hw := h.1
  have hb := wb hw
  have hc0 := C1_0 h
  have hm0 := M1_0 h hc0
  by_cases e : x = -1
  · have hc := C1_pl hc0 5 130 1 (by decide) (by decide) (by decide) hb.2.2.2.2.2.1 0
    have hm := M1_up (M1_0 h hc) (i := 5) 0 (by decide)
    exact Step_mk h hc hm (WF_5 hw (by omega) (fun i hi => by omega)) (fun i hi => upn_n _ _ (by omega)) 0 (by unfold Fm_want; rw [if_neg (by simp [e])]; rfl) (by unfold Md_want; rw [if_neg (by simp [e])]; rfl)
  · rcases span_cases x with ⟨n, h1, h2, rfl, h3⟩ | ⟨h1, h3⟩
    · by_cases h4 : a 5 = 4
      · refine Step_no h (-2) ?_ ?_
        · unfold Fm_want To_add
          rw [if_pos e, isSpan_eq, h3, tl_130, (cr hc0).2.2.2.2.2.1, h4]; rfl
        · unfold Md_want
          rw [if_pos e, h3, mr hm0 (by decide) (by decide), h4]; rfl
      · have hc := C1_pl (C1_pl hc0 (29 + a 5) 131 (a 5) (plc5 _ (by omega)) (by omega) (by omega) hb.2.2.2.2.2.1 n) 5 130 1 (by decide) (by decide) (by decide) (by rw [upn_n _ _ (by show (4 : Nat) ≠ 29 + a 5; omega)]; exact hb.2.2.2.2.2.1) (a 5 + 1)
        have hm1 := M1_0 h hc
        have hm := M1_up (M1_up hm1 (i := 29 + a 5) n (by omega)) (i := 5) (a 5 + 1) (by decide)
        have n1 : a 5 < 4 := by omega
        have n2 : 29 + a 5 < 1385 := by omega
        refine Step_mk h hc hm (WF_5 (WF_29 hw n1 ⟨h1, h2⟩) (by omega) (fun i hi => ?_)) (fun i hi => by rw [upn_n _ _ (by show i ≠ 5; omega), upn_n _ _ (by show i ≠ 29 + a 5; omega)]) (nI (a 5 + 1)) ?_ ?_
        · by_cases q : i = a 5
          · subst q; rw [upn_s]; exact h1
          · rw [upn_n _ _ (by omega)]; exact hw.2.2.2.2.1 i (by omega) (by omega)
        · unfold Fm_want To_add
          rw [if_pos e, isSpan_eq, h3, tl_130]
          simp (disch := omega) only [(cr hc0).2.2.2.2.2.1, lit_nI, nI_add, nI_mul, nI_sub, nI_le', nI_lt', nI_eq', inb_nI, nI_clamp, b2iT', b2iF', b2i0', Option.bind_some, if_true, if_false, not_true_eq_false, not_false_eq_true, decide_eq_true_eq, decide_eq_false_iff_not, reduceCtorEq, Nat.add_zero, Nat.zero_add, gi_si_q, gi_si_s, n1, show Int32.ofNat 4 = nI 4 from rfl, if_true]
        · unfold Md_want
          rw [if_pos e, h3]
          simp (disch := omega) only [mr hm1, lit_nI, nI_add, nI_mul, nI_sub, nI_le', nI_lt', nI_eq', inb_nI, nI_clamp, b2iT', b2iF', b2i0', Option.bind_some, if_true, if_false, not_true_eq_false, not_false_eq_true, decide_eq_true_eq, decide_eq_false_iff_not, reduceCtorEq, Nat.add_zero, Nat.zero_add, gi_si_j, gi_si_s, n2, h4]
    · exact Step_no h (-2) (by unfold Fm_want; rw [if_pos e, isSpan_eq, h3]; rfl) (by unfold Md_want; rw [if_pos e, h3]; rfl)
theorem st_tried {a b : Nat → Nat} {τ : Ex} {ν : Nm} (h : Inv a b τ ν) (x y : Int32) : Step τ (Fm_tried x y) (Md_tried x y) ν := by
  have hw := h.1
  have hb := wb hw
  have hc0 := C1_0 h
  have hm0 := M1_0 h hc0
  by_cases e : x = -1
  · have hc := C1_pl hc0 6 132 1 (by decide) (by decide) (by decide) hb.2.2.2.2.2.1 0
    have hm := M1_up (M1_0 h hc) (i := 6) 0 (by decide)
    exact Step_mk h hc hm (WF_free hw (by omega) (by omega)) (fun i hi => upn_n _ _ (by omega)) 0 (by unfold Fm_tried; rw [if_neg (by simp [e])]; rfl) (by unfold Md_tried; rw [if_neg (by simp [e])]; rfl)
  · rcases set_cases x (a 0) with ⟨s, h1, h2, rfl⟩ | hx
    · have p4 : 2 ^ a 0 ≤ 2 ^ 4 := Nat.pow_le_pow_right (by omega) hb.1
      by_cases h4 : a 6 = 8
      · refine Step_no h (-2) ?_ ?_
        · unfold Fm_tried Fm_tried_30 To_add
          rw [if_pos e, c_set_t hc0 hw h1 h2, tl_132, (cr hc0).2.2.2.2.2.2.1, h4]
          by_cases hy : y = 0 <;> simp only [hy, if_true, if_false] <;> rfl
        · unfold Md_tried
          rw [if_pos e, m_set_t hm0 hw h1 h2, mr hm0 (by decide) (by decide), h4]; rfl
      · have key : ∀ q, q < 2 → (∀ ν1, M1 a ν1 ν1 → Md_tried (nI s) y ν1 = Md_tried_83 (nI q) (nI (34 + 2 * a 6)) (si ν1 314 (33 + 2 * a 6) (nI s))) → Fm_tried (nI s) y ν = Fm_tried_30 (nI s) (nI q) (nI s * 2) ν → Step τ (Fm_tried (nI s) y) (Md_tried (nI s) y) ν := by
          intro q hq q1 q2
          have hc := C1_pl (C1_tried hc0 (show a 6 < 8 by omega) hb.2.2.2.2.2.1 s q) 6 132 1 (by decide) (by decide) (by decide) (by rw [upn_n _ _ (by omega), upn_n _ _ (by omega)]; exact hb.2.2.2.2.2.1) (a 6 + 1)
          have hm1 := M1_0 h hc
          have hm := M1_up (M1_up (M1_up hm1 (i := 33 + 2 * a 6) s (by omega)) (i := 34 + 2 * a 6) q (by omega)) (i := 6) (a 6 + 1) (by decide)
          have n1 : a 6 < 8 := by omega
          have n2 : 34 + 2 * a 6 < 1385 := by omega
          have k : ∀ c, c < 8 → ub (33 + 2 * c) = 15 ∧ ub (34 + 2 * c) = 1 := by decide
          refine Step_mk h hc hm (WF_free (WF_free (WF_free hw (by omega) (by rw [(k _ n1).1]; omega)) (by omega) (by rw [(k _ n1).2]; omega)) (by omega) (show a 6 + 1 ≤ 8 by omega)) (fun i hi => by rw [upn_n _ _ (by show i ≠ 6; omega), upn_n _ _ (by omega), upn_n _ _ (by omega)]) (nI (a 6 + 1)) ?_ ?_
          · rw [q2]
            unfold Fm_tried_30 To_add
            rw [c_set_t hc0 hw h1 h2, tl_132]
            simp (disch := omega) only [(cr hc0).2.2.2.2.2.2.1, lit_nI, nI_add, nI_mul, nI_sub, nI_le', nI_lt', nI_eq', inb_nI, nI_clamp, b2iT', b2iF', b2i0', Option.bind_some, if_true, if_false, not_true_eq_false, not_false_eq_true, decide_eq_true_eq, decide_eq_false_iff_not, reduceCtorEq, Nat.add_zero, Nat.zero_add, gi_si_q, gi_si_s, n1, show Int32.ofNat 8 = nI 8 from rfl, if_true]
            rw [Nat.mul_comm s 2]
          · rw [q1 _ hm1]
            unfold Md_tried_83
            simp (disch := omega) only [mr hm1, lit_nI, nI_add, nI_mul, nI_sub, nI_le', nI_lt', nI_eq', inb_nI, nI_clamp, b2iT', b2iF', b2i0', Option.bind_some, if_true, if_false, not_true_eq_false, not_false_eq_true, decide_eq_true_eq, decide_eq_false_iff_not, reduceCtorEq, Nat.add_zero, Nat.zero_add, gi_si_j, gi_si_s, n2]
        have n2 : 33 + 2 * a 6 < 1385 := by omega
        have m1 : ∀ ν1, M1 a ν1 ν1 → Md_areCords ν1 (nI s) = some true := fun ν1 hm => m_set_t hm hw h1 h2
        by_cases hy : y = 0
        · refine key 0 (by omega) (fun ν1 hm => ?_) ?_
          · unfold Md_tried
            rw [if_pos e, m1 ν1 hm]
            simp (disch := omega) only [mr hm, lit_nI, nI_add, nI_mul, nI_sub, nI_le', nI_lt', nI_eq', inb_nI, nI_clamp, b2iT', b2iF', b2i0', Option.bind_some, if_true, if_false, not_true_eq_false, not_false_eq_true, decide_eq_true_eq, decide_eq_false_iff_not, reduceCtorEq, Nat.add_zero, Nat.zero_add, gi_si_j, gi_si_s, n2, h4, show y = nI 0 from hy]
            rw [show 33 + 2 * a 6 + 1 = 34 + 2 * a 6 by omega]
          · unfold Fm_tried
            rw [if_pos e, if_pos hy]; rfl
        · refine key 1 (by omega) (fun ν1 hm => ?_) ?_
          · unfold Md_tried
            rw [if_pos e, m1 ν1 hm]
            simp (disch := omega) only [mr hm, lit_nI, nI_add, nI_mul, nI_sub, nI_le', nI_lt', nI_eq', inb_nI, nI_clamp, b2iT', b2iF', b2i0', Option.bind_some, if_true, if_false, not_true_eq_false, not_false_eq_true, decide_eq_true_eq, decide_eq_false_iff_not, reduceCtorEq, Nat.add_zero, Nat.zero_add, gi_si_j, gi_si_s, n2, h4, show ¬ y = nI 0 from hy]
            rw [show 33 + 2 * a 6 + 1 = 34 + 2 * a 6 by omega]
          · unfold Fm_tried
            rw [if_pos e, if_neg hy]; rfl
    · refine Step_no h (-2) ?_ ?_
      · unfold Fm_tried Fm_tried_30
        rw [if_pos e, c_set_f hc0 hw hx]
        by_cases hy : y = 0 <;> simp only [hy, if_true, if_false] <;> rfl
      · unfold Md_tried
        rw [if_pos e, m_set_f hm0 hw hx]; rfl
theorem st_said {a b : Nat → Nat} {τ : Ex} {ν : Nm} (h : Inv a b τ ν) (x y : Int32) : Step τ (Fm_said x y) (Md_said x y) ν := by
  have hw := h.1
  have hb := wb hw
  have hc0 := C1_0 h
  have hm0 := M1_0 h hc0
  by_cases e : x = -1
  · have hc := C1_pl hc0 7 134 1 (by decide) (by decide) (by decide) hb.2.2.2.2.2.1 0
    have hm := M1_up (M1_0 h hc) (i := 7) 0 (by decide)
    exact Step_mk h hc hm (WF_7 hw (by omega) (fun i hi => by omega)) (fun i hi => upn_n _ _ (by omega)) 0 (by unfold Fm_said; rw [if_neg (by simp [e])]; rfl) (by unfold Md_said; rw [if_neg (by simp [e])]; rfl)
  · rcases below_cases x (a 0) with ⟨c, h1, rfl⟩ | hx
    · rcases isIn_cases y 0 10 (by decide) (by decide) with ⟨q, _, hq, rfl, h3⟩ | ⟨hy, h3⟩
      · by_cases h4 : a 7 = 8
        · refine Step_no h (-2) ?_ ?_
          · unfold Fm_said To_add
            rw [if_pos e, c_has_t hc0 hw h1, tl_134, (cr hc0).2.2.2.2.2.2.2.1, h4]
            simp only [within_isIn, lit_nI, nI_add, nI_mul, b2iT', b2iF', Option.bind_some, if_true, if_false, not_true_eq_false, not_false_eq_true, h3]
            rfl
          · unfold Md_said
            rw [if_pos e, m_isCord_t hm0 hw h1, mr hm0 (by decide) (by decide), h4]
            simp only [lit_nI, nI_add, nI_mul, b2iT', b2iF', Option.bind_some, if_true, if_false, not_true_eq_false, not_false_eq_true, h3]
        · have hc := C1_pl (C1_said hc0 (show a 7 < 8 by omega) hb.2.2.2.2.2.1 c q) 7 134 1 (by decide) (by decide) (by decide) (by rw [upn_n _ _ (by omega), upn_n _ _ (by omega)]; exact hb.2.2.2.2.2.1) (a 7 + 1)
          have hm1 := M1_0 h hc
          have hm := M1_up (M1_up (M1_up hm1 (i := 49 + 2 * a 7) c (by omega)) (i := 50 + 2 * a 7) q (by omega)) (i := 7) (a 7 + 1) (by decide)
          have n1 : a 7 < 8 := by omega
          have n2 : 49 + 2 * a 7 < 1385 := by omega
          have n3 : 49 + 2 * a 7 + 1 < 1385 := by omega
          have k : ∀ c, c < 8 → ub (49 + 2 * c) = 3 ∧ ub (50 + 2 * c) = 10 := by decide
          have w1 : WF (upn (upn a (49 + 2 * a 7) c) (50 + 2 * a 7) q) := WF_49 (WF_49 hw (by omega) (by rw [(k _ n1).1]; omega) (fun _ => h1)) (by omega) (by rw [(k _ n1).2]; omega) (fun o => by omega)
          refine Step_mk h hc hm (WF_7 w1 (by omega) (fun i hi => ?_)) (fun i hi => by rw [upn_n _ _ (by show i ≠ 7; omega), upn_n _ _ (by omega), upn_n _ _ (by omega)]) (nI (a 7 + 1)) ?_ ?_
          · rw [upn_n _ _ (show 0 ≠ 50 + 2 * a 7 by omega), upn_n _ _ (show 0 ≠ 49 + 2 * a 7 by omega), upn_n _ _ (show 49 + 2 * i ≠ 50 + 2 * a 7 by omega)]
            by_cases q2 : i = a 7
            · subst q2; rw [upn_s]; exact h1
            · rw [upn_n _ _ (by omega)]; exact hw.2.2.2.2.2.1 i (by omega) (by omega)
          · unfold Fm_said To_add
            rw [if_pos e, c_has_t hc0 hw h1, tl_134]
            simp (disch := omega) only [(cr hc0).2.2.2.2.2.2.2.1, within_isIn, h3, lit_nI, nI_add, nI_mul, nI_sub, nI_le', nI_lt', nI_eq', inb_nI, nI_clamp, b2iT', b2iF', b2i0', Option.bind_some, if_true, if_false, not_true_eq_false, not_false_eq_true, decide_eq_true_eq, decide_eq_false_iff_not, reduceCtorEq, Nat.add_zero, Nat.zero_add, gi_si_q, gi_si_s, n1, show Int32.ofNat 8 = nI 8 from rfl, if_true]
            rw [Nat.mul_comm c 11]
          · unfold Md_said Md_said_86
            rw [if_pos e, m_isCord_t hm1 hw h1]
            simp (disch := omega) only [mr hm1, h3, lit_nI, nI_add, nI_mul, nI_sub, nI_le', nI_lt', nI_eq', inb_nI, nI_clamp, b2iT', b2iF', b2i0', Option.bind_some, if_true, if_false, not_true_eq_false, not_false_eq_true, decide_eq_true_eq, decide_eq_false_iff_not, reduceCtorEq, Nat.add_zero, Nat.zero_add, gi_si_j, gi_si_s, n2, n3, h4]
            rw [show 49 + 2 * a 7 + 1 = 50 + 2 * a 7 by omega]
      · refine Step_no h (-2) ?_ ?_
        · unfold Fm_said
          rw [if_pos e, c_has_t hc0 hw h1]
          simp only [within_isIn, lit_nI, nI_add, nI_mul, b2iT', b2iF', Option.bind_some, if_true, if_false, not_true_eq_false, not_false_eq_true, h3]
        · unfold Md_said
          rw [if_pos e, m_isCord_t hm0 hw h1]
          simp only [lit_nI, nI_add, nI_mul, b2iT', b2iF', Option.bind_some, if_true, if_false, not_true_eq_false, not_false_eq_true, h3]
    · exact Step_no h (-2) (by unfold Fm_said; rw [if_pos e, c_has_f hc0 hw hx]; rfl) (by unfold Md_said; rw [if_pos e, m_isCord_f hm0 hw hx]; rfl)
