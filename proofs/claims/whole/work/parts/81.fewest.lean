/-! By the fewest, the cheapest. -/
def prK (a : Nat → Nat) (s : Nat) : Nat → Nat → Nat
  | 0, _ => 0
  | k + 1, c => (if s / 2 ^ c % 2 = 1 then a (21 + 2 * c) else 0) + prK a s k (c + 1)
def prA (a : Nat → Nat) (s : Nat) : Nat := prK a s 4 0
theorem prK_le {a : Nat → Nat} (hw : WF a) (s : Nat) : ∀ (k c : Nat), c + k ≤ 4 → prK a s k c ≤ 99 * k := by
  intro k
  induction k with
  | zero => intro c _; exact Nat.le_refl _
  | succ k ih =>
    intro c hc
    have h1 := ih (c + 1) (by omega)
    have h2 := (wbc hw (show c < 4 by omega)).2.2.2.1
    show (if s / 2 ^ c % 2 = 1 then a (21 + 2 * c) else 0) + prK a s k (c + 1) ≤ 99 * (k + 1)
    split <;> omega
theorem prA_le {a : Nat → Nat} (hw : WF a) (s : Nat) : prA a s ≤ 396 := prK_le hw s 4 0 (by omega)
theorem prK_hi {a : Nat → Nat} {s n : Nat} (hs : s < 2 ^ n) : ∀ (k c : Nat), n ≤ c → prK a s k c = 0 := by
  intro k
  induction k with
  | zero => intro c _; rfl
  | succ k ih =>
    intro c hc
    show (if s / 2 ^ c % 2 = 1 then a (21 + 2 * c) else 0) + prK a s k (c + 1) = 0
    rw [if_neg (fun q => by have := bit_lt hs q; omega), ih (c + 1) (by omega)]
theorem prK_add {a : Nat → Nat} {s : Nat} : ∀ (k m c : Nat), prK a s (k + m) c = prK a s k c + prK a s m (c + k) := by
  intro k
  induction k with
  | zero => intro m c; rw [Nat.zero_add]; show _ = 0 + _; rw [Nat.zero_add]; rfl
  | succ k ih =>
    intro m c
    rw [show k + 1 + m = (k + m) + 1 by omega]
    show (if s / 2 ^ c % 2 = 1 then a (21 + 2 * c) else 0) + prK a s (k + m) (c + 1) = (if s / 2 ^ c % 2 = 1 then a (21 + 2 * c) else 0) + prK a s k (c + 1) + prK a s m (c + (k + 1))
    rw [ih m (c + 1), show c + 1 + k = c + (k + 1) by omega, Nat.add_assoc]
theorem prA_n {a : Nat → Nat} (hw : WF a) {s : Nat} (hs : s < 2 ^ a 0) : prA a s = prK a s (a 0) 0 := by
  have h4 := (wb hw).1
  unfold prA
  have e := prK_add (a := a) (s := s) (a 0) (4 - a 0) 0
  rw [show a 0 + (4 - a 0) = 4 by omega, prK_hi hs (4 - a 0) (0 + a 0) (by omega), Nat.add_zero] at e
  exact e
theorem c_price4 {a : Nat → Nat} {ν0 ν : Nm} (h : C1 a ν0 ν) {s : Nat} (hs : s < 16) : ∀ (k f c p : Nat), c + k = 4 → k < f → So_priceOf_4 ν f 1 (nI s) (nI p) (nI c) = some (nI (p + prK a s k c)) := by
  intro k
  induction k with
  | zero =>
    intro f c p hc hf
    obtain ⟨f, rfl⟩ := fsucc hf
    rw [So_priceOf_4, if_pos (by rw [show (4 : Int32) = nI 4 from rfl, nI_le' (by omega) (by omega)]; omega)]; rfl
  | succ k ih =>
    intro f c p hc hf
    obtain ⟨f, rfl⟩ := fsucc hf
    have c4' : c < 4 := by omega
    have e1 : nI c + 1 = nI (c + 1) := nI_add c 1
    rw [So_priceOf_4, if_neg (by rw [show (4 : Int32) = nI 4 from rfl, nI_le' (by omega) (by omega)]; omega)]
    simp only [r0_4 (a := a) hs c4']
    unfold So_priceOf_26
    rw [e1, inb_nI (by omega), nI_clamp (by omega)]
    simp only [dT c4', if_true]
    show _ = some (nI (p + ((if s / 2 ^ c % 2 = 1 then a (21 + 2 * c) else 0) + prK a s k (c + 1))))
    by_cases q : s / 2 ^ c % 2 = 1
    · rw [if_neg (by simp [q]), if_pos q, show (1 + 128 : Nat) = 129 from rfl, cr_price h c4', nI_add, ih f (c + 1) _ (by omega) (by omega), Nat.add_assoc]
    · rw [if_pos q, if_neg q, Nat.zero_add]
      exact ih f (c + 1) p (by omega) (by omega)
theorem c_price {a : Nat → Nat} {ν0 ν : Nm} (h : C1 a ν0 ν) {s : Nat} (hs : s < 16) : So_priceOf ν 1 (nI s) = some (nI (prA a s)) := by
  have := c_price4 h hs 4 FU 0 0 (by omega) (by unfold FU; omega)
  rw [Nat.zero_add] at this
  exact this
theorem m_price4 {a : Nat → Nat} {ν0 ν : Nm} (h : M1 a ν0 ν) (hw : WF a) {s : Nat} (hs : s < 16) : ∀ (k f c p : Nat), c + k = a 0 → k < f → Md_priceOf_4 ν f (nI s) (nI p) (nI c) = some (nI (p + prK a s k c)) := by
  have hb := wb hw
  intro k
  induction k with
  | zero =>
    intro f c p hc hf
    obtain ⟨f, rfl⟩ := fsucc hf
    rw [Md_priceOf_4, mr h (by decide) (by decide), if_pos (by rw [nI_le' (by omega) (by omega)]; omega)]; rfl
  | succ k ih =>
    intro f c p hc hf
    obtain ⟨f, rfl⟩ := fsucc hf
    have c4' : c < 4 := by omega
    have e1 : nI c + 1 = nI (c + 1) := nI_add c 1
    rw [Md_priceOf_4, mr h (by decide) (by decide), if_neg (by rw [nI_le' (by omega) (by omega)]; omega), has_b hs c4', Option.bind_some]
    unfold Md_priceOf_40
    rw [e1, show (20 : Int32) = nI 20 from rfl, show (2 : Int32) = nI 2 from rfl, nI_mul, nI_add 20, show nI (20 + 2 * c) + 1 = nI (21 + 2 * c) by rw [show (1 : Int32) = nI 1 from rfl, nI_add]; congr 1; omega, inb_nI (by omega), nI_clamp (by omega)]
    simp only [dT (show 21 + 2 * c < 1385 by omega), if_true]
    show _ = some (nI (p + ((if s / 2 ^ c % 2 = 1 then a (21 + 2 * c) else 0) + prK a s k (c + 1))))
    by_cases q : s / 2 ^ c % 2 = 1
    · rw [decide_eq_true q, if_neg (by rw [b2iT]; exact id), if_pos q, mr h (by omega) (by omega), nI_add, ih f (c + 1) _ (by omega) (by omega), Nat.add_assoc]
    · rw [decide_eq_false q, if_pos (by rw [b2iF]; exact True.intro), if_neg q, Nat.zero_add, show (0 : Int32) = nI 0 from rfl, nI_add, Nat.add_zero]
      exact ih f (c + 1) p (by omega) (by omega)
theorem m_price {a : Nat → Nat} {ν0 ν : Nm} (h : M1 a ν0 ν) (hw : WF a) {s : Nat} (hs : s < 2 ^ a 0) : Md_priceOf ν (nI s) = some (nI (prA a s)) := by
  have hb := wb hw
  have p4 : 2 ^ a 0 ≤ 2 ^ 4 := Nat.pow_le_pow_right (by omega) hb.1
  have := m_price4 h hw (show s < 16 by omega) (a 0) FU 0 0 (by omega) (by unfold FU; omega)
  rw [Nat.zero_add] at this
  rw [prA_n hw hs]
  exact this
theorem pc_le4 : ∀ s, s < 16 → pc16 s ≤ 4 := by decide +kernel
/-- the best of sets, by an order (0: none yet) -/
def bst (ok : Nat → Bool) (less : Nat → Nat → Bool) : Nat → Nat → Nat → Nat
  | 0, _, b => b
  | k + 1, s, b => bst ok less k (s + 1) (if ok s && (decide (b = 0) || less s b) then s else b)
def enB (b : Nat) : Int32 := if b = 0 then -1 else nI b
theorem enB_0 : enB 0 = -1 := rfl
theorem enB_n {b : Nat} (h : b ≠ 0) : enB b = nI b := by unfold enB; rw [if_neg h]
theorem enB_m {b : Nat} (h : b < 16) : (enB b = -1) = (b = 0) := by
  unfold enB
  by_cases q : b = 0
  · rw [if_pos q]; simp [q]
  · rw [if_neg q]; simp only [q]; exact eq_false (neg1 (by omega))
theorem c_fewest {a : Nat → Nat} {ν0 : Nm} (hw : WF a) {v : Nat} (v1 : 1 ≤ v) (v2 : v ≤ 15360) : ∀ (k f s b : Nat) (ν : Nm), s + k = 2 ^ a 0 → 1 ≤ s → k < f → b < s → CQ a ν0 ν → ∃ ν2, Fm_fewest_4 f (nI v) (enB b) (nI s) ν = some (enB (bst (fun s => gvB a s v) (fun s b => decide (pc16 s < pc16 b)) k s b), ν2) ∧ CQ a ν0 ν2 := by
  have hb := wb hw
  have p4 : 2 ^ a 0 ≤ 2 ^ 4 := Nat.pow_le_pow_right (by omega) hb.1
  intro k
  induction k with
  | zero =>
    intro f s b ν hs h1 hf hbs h
    obtain ⟨f, rfl⟩ := fsucc hf
    exact ⟨ν, by rw [Fm_fewest_4, c_all (CQ_C h) hw, Option.bind_some, if_pos (by rw [nI_lt' (by omega) (by omega)]; omega)]; rfl, h⟩
  | succ k ih =>
    intro f s b ν hs h1 hf hbs h
    obtain ⟨f, rfl⟩ := fsucc hf
    have e1 : nI s + 1 = nI (s + 1) := nI_add s 1
    have hl := pc_le4 s (by omega)
    rw [Fm_fewest_4, c_all (CQ_C h) hw, Option.bind_some, if_neg (by rw [nI_lt' (by omega) (by omega)]; omega)]
    simp only [enB_m (show b < 16 by omega)]
    obtain ⟨ν1, p1, p2⟩ := c_gives h hw h1 (by omega) v1 v2
    have go : ∃ ν2, Fm_fewest_28 (Fm_fewest_4 f) (nI v) (enB b) (nI s) ν = some (enB (bst (fun s => gvB a s v) (fun s b => decide (pc16 s < pc16 b)) k (s + 1) (if gvB a s v = true then s else b)), ν2) ∧ CQ a ν0 ν2 := by
      unfold Fm_fewest_28 Fm_fewest_33 Fm_fewest_54
      rw [if_neg (by decide), p1, Option.bind_some, e1]
      simp only []
      by_cases g : gvB a s v = true
      · rw [g, if_neg (by rw [b2iT]; exact id), if_pos rfl, ← enB_n (show s ≠ 0 by omega)]
        exact ih f (s + 1) s ν1 (by omega) (by omega) (by omega) (by omega) p2
      · rw [Bool.eq_false_iff.mpr g, if_pos (by rw [b2iF]; exact True.intro), if_neg (by simp)]
        exact ih f (s + 1) b ν1 (by omega) (by omega) (by omega) (by omega) p2
    show ∃ ν2, _ = some (enB (bst (fun s => gvB a s v) (fun s b => decide (pc16 s < pc16 b)) k (s + 1) (if (gvB a s v && (decide (b = 0) || decide (pc16 s < pc16 b))) = true then s else b)), ν2) ∧ _
    by_cases b0 : b = 0
    · rw [if_pos b0, decide_eq_true b0, Bool.true_or, Bool.and_true]
      exact go
    · have hlb := pc_le4 b (by omega)
      rw [if_neg b0, bc16 (by omega), Option.bind_some, enB_n b0, bc16 (by omega), Option.bind_some, decide_eq_false b0, Bool.false_or]
      by_cases q : pc16 s < pc16 b
      · rw [if_neg (by rw [nI_le' (by omega) (by omega)]; omega), decide_eq_true q, Bool.and_true, ← enB_n b0]
        exact go
      · rw [if_pos (by rw [nI_le' (by omega) (by omega)]; omega), decide_eq_false q, Bool.and_false, if_neg (by simp)]
        unfold Fm_fewest_33 Fm_fewest_54
        rw [if_pos rfl, e1, ← enB_n b0]
        exact ih f (s + 1) b ν (by omega) (by omega) (by omega) (by omega) h
theorem c_fewest_f {a : Nat → Nat} {ν0 ν : Nm} (h : CQ a ν0 ν) (hw : WF a) {y : Int32} (hy : ∀ n, 1 ≤ n → n ≤ 15360 → y ≠ nI n) : ∀ (k f s : Nat), s + k = 2 ^ a 0 → 1 ≤ s → k < f → Fm_fewest_4 f y (-1) (nI s) ν = some (-1, ν) := by
  have hb := wb hw
  have p4 : 2 ^ a 0 ≤ 2 ^ 4 := Nat.pow_le_pow_right (by omega) hb.1
  intro k
  induction k with
  | zero =>
    intro f s hs h1 hf
    obtain ⟨f, rfl⟩ := fsucc hf
    rw [Fm_fewest_4, c_all (CQ_C h) hw, Option.bind_some, if_pos (by rw [nI_lt' (by omega) (by omega)]; omega)]
  | succ k ih =>
    intro f s hs h1 hf
    obtain ⟨f, rfl⟩ := fsucc hf
    rw [Fm_fewest_4, c_all (CQ_C h) hw, Option.bind_some, if_neg (by rw [nI_lt' (by omega) (by omega)]; omega), if_pos rfl]
    unfold Fm_fewest_28 Fm_fewest_33 Fm_fewest_54
    rw [if_neg (by decide), c_gives_f ν hy, Option.bind_some, if_pos (by rw [b2iF]; exact True.intro), show nI s + 1 = nI (s + 1) from nI_add s 1]
    exact ih f (s + 1) (by omega) (by omega) (by omega)
theorem m_fewest {a : Nat → Nat} {ν0 : Nm} (hw : WF a) {v : Nat} (v2 : v ≤ 15360) : ∀ (k f s b : Nat) (ν : Nm), s + k = 2 ^ a 0 → 1 ≤ s → k < f → b < s → MR a ν0 ν → ∃ ν2, Md_fewest_13 f (nI v) (enB b) (nI s) ν = some (enB (bst (fun s => gvB a s v) (fun s b => decide (pc16 s < pc16 b)) k s b), ν2) ∧ MR a ν0 ν2 := by
  have hb := wb hw
  have p4 : 2 ^ a 0 ≤ 2 ^ 4 := Nat.pow_le_pow_right (by omega) hb.1
  intro k
  induction k with
  | zero =>
    intro f s b ν hs h1 hf hbs h
    obtain ⟨f, rfl⟩ := fsucc hf
    exact ⟨ν, by rw [Md_fewest_13, mr (MR_M h) (by decide) (by decide), show (1 : Int32) = nI 1 from rfl, nI_shl (by omega), Nat.one_mul, if_pos (by rw [nI_le' (by omega) (by omega)]; omega)]; rfl, h⟩
  | succ k ih =>
    intro f s b ν hs h1 hf hbs h
    obtain ⟨f, rfl⟩ := fsucc hf
    have e1 : nI s + 1 = nI (s + 1) := nI_add s 1
    have hl := pc_le4 s (by omega)
    obtain ⟨ν1, p1, p2, -⟩ := m_given h hw (s := s) (v := v) h1 (by omega) v2
    rw [Md_fewest_13, mr (MR_M h) (by decide) (by decide), show (1 : Int32) = nI 1 from rfl, nI_shl (by omega), Nat.one_mul, if_neg (by rw [nI_le' (by omega) (by omega)]; omega), p1, Option.bind_some]
    simp only []
    unfold Md_fewest_50 Md_fewest_52
    rw [e1, show -nI 1 = (-1 : Int32) from rfl]
    simp only [enB_m (show b < 16 by omega)]
    show ∃ ν2, _ = some (enB (bst (fun s => gvB a s v) (fun s b => decide (pc16 s < pc16 b)) k (s + 1) (if (gvB a s v && (decide (b = 0) || decide (pc16 s < pc16 b))) = true then s else b)), ν2) ∧ _
    by_cases g : gvB a s v = true
    · rw [g, if_neg (by rw [b2iT]; exact id), Bool.true_and]
      by_cases b0 : b = 0
      · rw [if_pos b0, decide_eq_true b0, Bool.true_or, if_pos rfl, ← enB_n (show s ≠ 0 by omega)]
        exact ih f (s + 1) s ν1 (by omega) (by omega) (by omega) (by omega) p2
      · have hlb := pc_le4 b (by omega)
        rw [if_neg b0, bits_in _ (by omega), Option.bind_some, enB_n b0, bits_in _ (by omega), Option.bind_some, decide_eq_false b0, Bool.false_or]
        by_cases q : pc16 s < pc16 b
        · rw [if_neg (by rw [nI_le' (by omega) (by omega)]; omega), decide_eq_true q, if_pos rfl, ← enB_n (show s ≠ 0 by omega)]
          exact ih f (s + 1) s ν1 (by omega) (by omega) (by omega) (by omega) p2
        · rw [if_pos (by rw [nI_le' (by omega) (by omega)]; omega), decide_eq_false q, if_neg (by simp), ← enB_n b0]
          exact ih f (s + 1) b ν1 (by omega) (by omega) (by omega) (by omega) p2
    · rw [Bool.eq_false_iff.mpr g, if_pos (by rw [b2iF]; exact True.intro), Bool.false_and, if_neg (by simp)]
      exact ih f (s + 1) b ν1 (by omega) (by omega) (by omega) (by omega) p2
theorem st_fewest {a b : Nat → Nat} {ν : Nm} (h : Inv a b tau ν) (y : Int32) : Step tau (Fm_fewest y) (Md_fewest y) ν := by
  have hw := h.1
  have hb := wb hw
  have p4 : 2 ^ a 0 ≤ 2 ^ 4 := Nat.pow_le_pow_right (by omega) hb.1
  have p0 : 1 ≤ 2 ^ a 0 := Nat.one_le_two_pow
  rcases span_cases y with ⟨v, v1, v2, rfl, v3⟩ | ⟨v1, v3⟩
  · obtain ⟨ν1, p1, p2⟩ := c_fewest hw v1 v2 (2 ^ a 0 - 1) FU 1 0 ν (by omega) (by omega) (by unfold FU; omega) (by omega) (CQ_0 h)
    obtain ⟨ν2, q1, q2⟩ := m_fewest hw v2 (2 ^ a 0 - 1) FU 1 0 ν1 (by omega) (by omega) (by unfold FU; omega) (by omega) (MR_0 h p2)
    refine ⟨_, ν1, ν2, a, b, p1, ?_, Inv_Q h p2 q2⟩
    unfold Md_fewest
    rw [v3, Option.bind_some, if_pos (by rw [b2iT]; exact id)]
    exact q1
  · refine Step_no h (-1) (c_fewest_f (CQ_0 h) hw v1 (2 ^ a 0 - 1) FU 1 (by omega) (by omega) (by unfold FU; omega)) ?_
    unfold Md_fewest; rw [v3]; rfl
/-! the cheapest -/
def coA (a : Nat → Nat) (s : Nat) : Nat := prA a s * 5 + pc16 s
theorem c_cheap {a : Nat → Nat} {ν0 : Nm} (hw : WF a) {v : Nat} (v1 : 1 ≤ v) (v2 : v ≤ 15360) : ∀ (k f s b : Nat) (x : Nat) (ν : Nm), s + k = 2 ^ a 0 → 1 ≤ s → k < f → b < s → (b ≠ 0 → x = coA a b) → CQ a ν0 ν → ∃ ν2, Fm_cheapest_7 f (nI v) (enB b) (nI x) (nI s) ν = some (enB (bst (fun s => gvB a s v) (fun s b => decide (coA a s < coA a b)) k s b), ν2) ∧ CQ a ν0 ν2 := by
  have hb := wb hw
  have p4 : 2 ^ a 0 ≤ 2 ^ 4 := Nat.pow_le_pow_right (by omega) hb.1
  intro k
  induction k with
  | zero =>
    intro f s b x ν hs h1 hf hbs hx h
    obtain ⟨f, rfl⟩ := fsucc hf
    exact ⟨ν, by rw [Fm_cheapest_7, c_all (CQ_C h) hw, Option.bind_some, if_pos (by rw [nI_lt' (by omega) (by omega)]; omega)]; rfl, h⟩
  | succ k ih =>
    intro f s b x ν hs h1 hf hbs hx h
    obtain ⟨f, rfl⟩ := fsucc hf
    have e1 : nI s + 1 = nI (s + 1) := nI_add s 1
    have hl := pc_le4 s (by omega)
    have hpr := prA_le hw s
    have hc1 : coA a s ≤ 1984 := by unfold coA; omega
    have eco : nI (prA a s) * 5 + nI (pc16 s) = nI (coA a s) := by rw [show (5 : Int32) = nI 5 from rfl, nI_mul, nI_add]; rfl
    rw [Fm_cheapest_7, c_all (CQ_C h) hw, Option.bind_some, if_neg (by rw [nI_lt' (by omega) (by omega)]; omega), c_price (CQ_C h) (by omega), Option.bind_some, bc16 (by omega), Option.bind_some, eco]
    simp only [enB_m (show b < 16 by omega)]
    obtain ⟨ν1, p1, p2⟩ := c_gives h hw h1 (by omega) v1 v2
    have go : ∃ ν2, Fm_cheapest_46 (Fm_cheapest_7 f) (nI v) (enB b) (nI x) (nI s) (nI (coA a s)) ν = some (enB (bst (fun s => gvB a s v) (fun s b => decide (coA a s < coA a b)) k (s + 1) (if gvB a s v = true then s else b)), ν2) ∧ CQ a ν0 ν2 := by
      unfold Fm_cheapest_46 Fm_cheapest_65
      rw [p1, Option.bind_some, e1]
      simp only []
      by_cases g : gvB a s v = true
      · rw [g, if_neg (by rw [b2iT]; exact id), if_pos rfl, ← enB_n (show s ≠ 0 by omega)]
        exact ih f (s + 1) s _ ν1 (by omega) (by omega) (by omega) (by omega) (fun _ => rfl) p2
      · rw [Bool.eq_false_iff.mpr g, if_pos (by rw [b2iF]; exact True.intro), if_neg (by simp)]
        exact ih f (s + 1) b x ν1 (by omega) (by omega) (by omega) (by omega) hx p2
    show ∃ ν2, _ = some (enB (bst (fun s => gvB a s v) (fun s b => decide (coA a s < coA a b)) k (s + 1) (if (gvB a s v && (decide (b = 0) || decide (coA a s < coA a b))) = true then s else b)), ν2) ∧ _
    by_cases b0 : b = 0
    · rw [if_pos b0, decide_eq_true b0, Bool.true_or, Bool.and_true]
      exact go
    · have hlb := pc_le4 b (by omega)
      have hprb := prA_le hw b
      have hc2 : coA a b ≤ 1984 := by unfold coA; omega
      have hx2 := hx b0
      rw [if_neg b0, decide_eq_false b0, Bool.false_or]
      by_cases q : coA a s < coA a b
      · rw [if_neg (by rw [hx2, nI_le' (by omega) (by omega)]; omega), decide_eq_true q, Bool.and_true]
        exact go
      · rw [if_pos (by rw [hx2, nI_le' (by omega) (by omega)]; omega), decide_eq_false q, Bool.and_false, if_neg (by simp)]
        unfold Fm_cheapest_65
        rw [e1]
        exact ih f (s + 1) b x ν (by omega) (by omega) (by omega) (by omega) hx h
theorem c_cheap_f {a : Nat → Nat} {ν0 ν : Nm} (h : CQ a ν0 ν) (hw : WF a) {y : Int32} (hy : ∀ n, 1 ≤ n → n ≤ 15360 → y ≠ nI n) (x : Int32) : ∀ (k f s : Nat), s + k = 2 ^ a 0 → 1 ≤ s → k < f → Fm_cheapest_7 f y (-1) x (nI s) ν = some (-1, ν) := by
  have hb := wb hw
  have p4 : 2 ^ a 0 ≤ 2 ^ 4 := Nat.pow_le_pow_right (by omega) hb.1
  intro k
  induction k with
  | zero =>
    intro f s hs h1 hf
    obtain ⟨f, rfl⟩ := fsucc hf
    rw [Fm_cheapest_7, c_all (CQ_C h) hw, Option.bind_some, if_pos (by rw [nI_lt' (by omega) (by omega)]; omega)]
  | succ k ih =>
    intro f s hs h1 hf
    obtain ⟨f, rfl⟩ := fsucc hf
    rw [Fm_cheapest_7, c_all (CQ_C h) hw, Option.bind_some, if_neg (by rw [nI_lt' (by omega) (by omega)]; omega), c_price (CQ_C h) (by omega), Option.bind_some, bc16 (by omega), Option.bind_some, if_pos rfl]
    unfold Fm_cheapest_46 Fm_cheapest_65
    rw [c_gives_f ν hy, Option.bind_some, if_pos (by rw [b2iF]; exact True.intro), show nI s + 1 = nI (s + 1) from nI_add s 1]
    exact ih f (s + 1) (by omega) (by omega) (by omega)
theorem m_cheaper {a : Nat → Nat} {ν0 ν : Nm} (h : M1 a ν0 ν) (hw : WF a) {s b : Nat} (hs : s < 2 ^ a 0) (hbb : b < 2 ^ a 0) : Md_isCheaper ν (nI s) (enB b) = some (decide (b = 0) || decide (coA a s < coA a b)) := by
  have hb := wb hw
  have p4 : 2 ^ a 0 ≤ 2 ^ 4 := Nat.pow_le_pow_right (by omega) hb.1
  unfold Md_isCheaper
  simp only [enB_m (show b < 16 by omega)]
  by_cases b0 : b = 0
  · rw [if_pos b0, decide_eq_true b0]; rfl
  · have h1 := pc_le4 s (by omega)
    have h2 := pc_le4 b (by omega)
    have h3 := prA_le hw s
    have h4 := prA_le hw b
    rw [if_neg b0, decide_eq_false b0, Bool.false_or, enB_n b0, m_price h hw hs, m_price h hw hbb, bits_in _ (by omega), bits_in _ (by omega)]
    simp only [Option.bind_some]
    unfold coA
    by_cases q : prA a s < prA a b
    · rw [if_pos (by rw [nI_lt' (by omega) (by omega)]; exact q), decide_eq_true (by omega)]
    · rw [if_neg (by rw [nI_lt' (by omega) (by omega)]; exact q)]
      by_cases q2 : prA a s = prA a b
      · rw [if_neg (by rw [q2]; simp)]
        by_cases q3 : pc16 b ≤ pc16 s
        · rw [if_pos (by rw [nI_le' (by omega) (by omega)]; exact q3), decide_eq_false (by omega)]
        · rw [if_neg (by rw [nI_le' (by omega) (by omega)]; exact q3), decide_eq_true (by omega)]
      · rw [if_pos (by rw [nI_eq' (by omega) (by omega)]; exact q2), decide_eq_false (by omega)]
theorem m_cheap {a : Nat → Nat} {ν0 : Nm} (hw : WF a) {v : Nat} (v2 : v ≤ 15360) : ∀ (k f s b : Nat) (ν : Nm), s + k = 2 ^ a 0 → 1 ≤ s → k < f → b < s → MR a ν0 ν → ∃ ν2, Md_cheapest_13 f (nI v) (enB b) (nI s) ν = some (enB (bst (fun s => gvB a s v) (fun s b => decide (coA a s < coA a b)) k s b), ν2) ∧ MR a ν0 ν2 := by
  have hb := wb hw
  have p4 : 2 ^ a 0 ≤ 2 ^ 4 := Nat.pow_le_pow_right (by omega) hb.1
  intro k
  induction k with
  | zero =>
    intro f s b ν hs h1 hf hbs h
    obtain ⟨f, rfl⟩ := fsucc hf
    exact ⟨ν, by rw [Md_cheapest_13, mr (MR_M h) (by decide) (by decide), show (1 : Int32) = nI 1 from rfl, nI_shl (by omega), Nat.one_mul, if_pos (by rw [nI_le' (by omega) (by omega)]; omega)]; rfl, h⟩
  | succ k ih =>
    intro f s b ν hs h1 hf hbs h
    obtain ⟨f, rfl⟩ := fsucc hf
    have e1 : nI s + 1 = nI (s + 1) := nI_add s 1
    obtain ⟨ν1, p1, p2, -⟩ := m_given h hw (s := s) (v := v) h1 (by omega) v2
    rw [Md_cheapest_13, mr (MR_M h) (by decide) (by decide), show (1 : Int32) = nI 1 from rfl, nI_shl (by omega), Nat.one_mul, if_neg (by rw [nI_le' (by omega) (by omega)]; omega), p1, Option.bind_some]
    simp only []
    unfold Md_cheapest_45
    rw [e1, m_cheaper (MR_M p2) hw (by omega) (by omega), Option.bind_some]
    show ∃ ν2, _ = some (enB (bst (fun s => gvB a s v) (fun s b => decide (coA a s < coA a b)) k (s + 1) (if (gvB a s v && (decide (b = 0) || decide (coA a s < coA a b))) = true then s else b)), ν2) ∧ _
    by_cases g : gvB a s v = true
    · rw [g, if_neg (by rw [b2iT]; exact id), Bool.true_and]
      by_cases q : (decide (b = 0) || decide (coA a s < coA a b)) = true
      · rw [q, if_neg (by rw [b2iT]; exact id), if_pos rfl, ← enB_n (show s ≠ 0 by omega)]
        exact ih f (s + 1) s ν1 (by omega) (by omega) (by omega) (by omega) p2
      · rw [Bool.eq_false_iff.mpr q, if_pos (by rw [b2iF]; exact True.intro), if_neg (by simp)]
        exact ih f (s + 1) b ν1 (by omega) (by omega) (by omega) (by omega) p2
    · rw [Bool.eq_false_iff.mpr g, if_pos (by rw [b2iF]; exact True.intro), Bool.false_and, if_neg (by simp)]
      exact ih f (s + 1) b ν1 (by omega) (by omega) (by omega) (by omega) p2
theorem st_cheapest {a b : Nat → Nat} {ν : Nm} (h : Inv a b tau ν) (y : Int32) : Step tau (Fm_cheapest y) (Md_cheapest y) ν := by
  have hw := h.1
  have hb := wb hw
  have p4 : 2 ^ a 0 ≤ 2 ^ 4 := Nat.pow_le_pow_right (by omega) hb.1
  have p0 : 1 ≤ 2 ^ a 0 := Nat.one_le_two_pow
  rcases span_cases y with ⟨v, v1, v2, rfl, v3⟩ | ⟨v1, v3⟩
  · obtain ⟨ν1, p1, p2⟩ := c_cheap hw v1 v2 (2 ^ a 0 - 1) FU 1 0 0 ν (by omega) (by omega) (by unfold FU; omega) (by omega) (fun z => absurd rfl z) (CQ_0 h)
    obtain ⟨ν2, q1, q2⟩ := m_cheap hw v2 (2 ^ a 0 - 1) FU 1 0 ν1 (by omega) (by omega) (by unfold FU; omega) (by omega) (MR_0 h p2)
    refine ⟨_, ν1, ν2, a, b, p1, ?_, Inv_Q h p2 q2⟩
    unfold Md_cheapest
    rw [v3, Option.bind_some, if_pos (by rw [b2iT]; exact id)]
    exact q1
  · refine Step_no h (-1) (c_cheap_f (CQ_0 h) hw v1 0 (2 ^ a 0 - 1) FU 1 (by omega) (by omega) (by unfold FU; omega)) ?_
    unfold Md_cheapest; rw [v3]; rfl
