/-! Suspects: what is asked. -/
def upA (h : Nat → Nat) (p : Nat → Bool) : Nat → Nat → Nat → Nat
  | 0, _, x => x
  | k + 1, i, x => upA h p k (i + 1) (if p i then x &&& h i else x)
def dnA (h : Nat → Nat) (p : Nat → Bool) : Nat → Nat → Nat
  | 0, x => x
  | k + 1, x => dnA h p k (if p k then x &&& h k else x)
theorem upA_bit (h : Nat → Nat) (p : Nat → Bool) (c : Nat) : ∀ k i x, (upA h p k i x).testBit c = true ↔ (x.testBit c = true ∧ ∀ s, i ≤ s → s < i + k → p s = true → (h s).testBit c = true) := by
  intro k
  induction k with
  | zero => intro i x; exact ⟨fun q => ⟨q, fun s h1 h2 _ => by omega⟩, fun q => q.1⟩
  | succ k ih =>
    intro i x
    show (upA h p k (i + 1) (if p i = true then x &&& h i else x)).testBit c = true ↔ _
    rw [ih (i + 1)]
    by_cases e : p i = true
    · rw [if_pos e, Nat.testBit_and, Bool.and_eq_true]
      constructor
      · rintro ⟨⟨q1, q2⟩, q3⟩
        refine ⟨q1, fun s s1 s2 s3 => ?_⟩
        by_cases e2 : s = i
        · subst e2; exact q2
        · exact q3 s (by omega) (by omega) s3
      · rintro ⟨q1, q2⟩
        exact ⟨⟨q1, q2 i (by omega) (by omega) e⟩, fun s s1 s2 s3 => q2 s (by omega) (by omega) s3⟩
    · rw [if_neg e]
      constructor
      · rintro ⟨q1, q3⟩
        refine ⟨q1, fun s s1 s2 s3 => ?_⟩
        by_cases e2 : s = i
        · subst e2; exact absurd s3 e
        · exact q3 s (by omega) (by omega) s3
      · rintro ⟨q1, q2⟩
        exact ⟨q1, fun s s1 s2 s3 => q2 s (by omega) (by omega) s3⟩
theorem dnA_bit (h : Nat → Nat) (p : Nat → Bool) (c : Nat) : ∀ k x, (dnA h p k x).testBit c = true ↔ (x.testBit c = true ∧ ∀ s, s < k → p s = true → (h s).testBit c = true) := by
  intro k
  induction k with
  | zero => intro x; exact ⟨fun q => ⟨q, fun s h1 _ => by omega⟩, fun q => q.1⟩
  | succ k ih =>
    intro x
    show (dnA h p k (if p k = true then x &&& h k else x)).testBit c = true ↔ _
    rw [ih]
    by_cases e : p k = true
    · rw [if_pos e, Nat.testBit_and, Bool.and_eq_true]
      constructor
      · rintro ⟨⟨q1, q2⟩, q3⟩
        refine ⟨q1, fun s s1 s3 => ?_⟩
        by_cases e2 : s = k
        · subst e2; exact q2
        · exact q3 s (by omega) s3
      · rintro ⟨q1, q2⟩
        exact ⟨⟨q1, q2 k (by omega) e⟩, fun s s1 s3 => q2 s (by omega) s3⟩
    · rw [if_neg e]
      constructor
      · rintro ⟨q1, q3⟩
        refine ⟨q1, fun s s1 s3 => ?_⟩
        by_cases e2 : s = k
        · subst e2; exact absurd s3 e
        · exact q3 s (by omega) s3
      · rintro ⟨q1, q2⟩
        exact ⟨q1, fun s s1 s3 => q2 s (by omega) s3⟩
/-- p below m alone -/
def pm (p : Nat → Bool) (m : Nat) : Nat → Bool := fun i => decide (i < m) && p i
theorem pm_t {p : Nat → Bool} {m i : Nat} : pm p m i = true ↔ (i < m ∧ p i = true) := by unfold pm; rw [Bool.and_eq_true, decide_eq_true_iff]
theorem up_dn (h : Nat → Nat) (p : Nat → Bool) {m : Nat} (hm : m ≤ 16) (x : Nat) : upA h (pm p m) 16 0 x = dnA h p m x := by
  apply Nat.eq_of_testBit_eq
  intro c
  rw [Bool.eq_iff_iff, upA_bit, dnA_bit]
  constructor
  · rintro ⟨q1, q2⟩; exact ⟨q1, fun s s1 s2 => q2 s (by omega) (by omega) (pm_t.mpr ⟨s1, s2⟩)⟩
  · rintro ⟨q1, q2⟩; exact ⟨q1, fun s _ _ s3 => q2 s (pm_t.mp s3).1 (pm_t.mp s3).2⟩
theorem mask_tst (p : Nat → Bool) {m i : Nat} (hm : m ≤ 16) (hi : i < 16) : ((nI (mask p m) >>> (nI i &&& 31)) &&& 1 = 0) = ¬ pm p m i = true := by
  have hl := mask_lt p m
  have h16 : 2 ^ m ≤ 2 ^ 16 := Nat.pow_le_pow_right (by omega) hm
  apply propext
  rw [bit_tst (by omega) hi, mask_bit, pm_t]
theorem upA_lt {h : Nat → Nat} {p : Nat → Bool} {x i : Nat} (hx : x < 16) : (if p i = true then x &&& h i else x) < 16 := by
  split
  · exact Nat.lt_of_le_of_lt Nat.and_le_left hx
  · exact hx
theorem c_inAll (p : Nat → Bool) {m : Nat} (hm : m ≤ 16) : ∀ (k f i x : Nat), i + k = 16 → k < f → Sp_inAll_4 f (nI (mask p m)) (nI x) (nI i) = some (nI (upA id (pm p m) k i x)) := by
  intro k
  induction k with
  | zero =>
    intro f i x hi hf
    obtain ⟨f, rfl⟩ := fsucc hf
    rw [Sp_inAll_4, if_pos (by rw [show (16 : Int32) = nI 16 from rfl, nI_le' (by omega) (by omega)]; omega)]; rfl
  | succ k ih =>
    intro f i x hi hf
    obtain ⟨f, rfl⟩ := fsucc hf
    rw [Sp_inAll_4, if_neg (by rw [show (16 : Int32) = nI 16 from rfl, nI_le' (by omega) (by omega)]; omega)]
    unfold Sp_inAll_22
    simp only [mask_tst p hm (show i < 16 by omega)]
    rw [nI_and, show (1 : Int32) = nI 1 from rfl, nI_add, ih f (i + 1) x (by omega) (by omega), ih f (i + 1) (x &&& i) (by omega) (by omega)]
    show _ = some (nI (upA id (pm p m) k (i + 1) (if pm p m i = true then x &&& i else x)))
    by_cases e : pm p m i = true
    · rw [if_neg (by simp [e]), if_pos e]
    · rw [if_pos e, if_neg e]
def cpl (s : Nat) : Nat := 15 - s
theorem and_cpl : ∀ x, x < 16 → ∀ s, s < 16 → nI x &&& (nI s ^^^ (-1 : Int32)) = nI (x &&& cpl s) := by decide +kernel
theorem c_inNone (p : Nat → Bool) {m : Nat} (hm : m ≤ 16) : ∀ (k f i x : Nat), i + k = 16 → k < f → x < 16 → Sp_inNone_4 f (nI (mask p m)) (nI x) (nI i) = some (nI (upA cpl (pm p m) k i x)) := by
  intro k
  induction k with
  | zero =>
    intro f i x hi hf _
    obtain ⟨f, rfl⟩ := fsucc hf
    rw [Sp_inNone_4, if_pos (by rw [show (16 : Int32) = nI 16 from rfl, nI_le' (by omega) (by omega)]; omega)]; rfl
  | succ k ih =>
    intro f i x hi hf hx
    obtain ⟨f, rfl⟩ := fsucc hf
    rw [Sp_inNone_4, if_neg (by rw [show (16 : Int32) = nI 16 from rfl, nI_le' (by omega) (by omega)]; omega)]
    unfold Sp_inNone_24
    simp only [mask_tst p hm (show i < 16 by omega)]
    rw [and_cpl x hx i (by omega), show (1 : Int32) = nI 1 from rfl, nI_add, ih f (i + 1) x (by omega) (by omega) hx, ih f (i + 1) (x &&& cpl i) (by omega) (by omega) (Nat.lt_of_le_of_lt Nat.and_le_left hx)]
    show _ = some (nI (upA cpl (pm p m) k (i + 1) (if pm p m i = true then x &&& cpl i else x)))
    by_cases e : pm p m i = true
    · rw [if_neg (by simp [e]), if_pos e]
    · rw [if_pos e, if_neg e]
/-- the lowest from the top down -/
def lowD (p : Nat → Bool) : Nat → Int32 → Int32
  | 0, l => l
  | k + 1, l => lowD p k (if p k then nI k else l)
theorem lowD_at (p : Nat → Bool) : ∀ k l s, s < k → p s = true → (∀ i, i < s → p i = false) → lowD p k l = nI s := by
  intro k
  induction k with
  | zero => intro l s h; omega
  | succ k ih =>
    intro l s h1 h2 h3
    show lowD p k (if p k = true then nI k else l) = _
    by_cases e : s = k
    · subst e
      rw [if_pos h2]
      have : ∀ j l, (∀ i, i < j → p i = false) → lowD p j l = l := by
        intro j
        induction j with
        | zero => intro l _; rfl
        | succ j jh => intro l hl; show lowD p j (if p j = true then nI j else l) = l; rw [hl j (by omega), jh _ (fun i hi => hl i (by omega))]; rfl
      exact this s _ h3
    · exact ih _ s (by omega) h2 h3
theorem c_lowest (p : Nat → Bool) {m : Nat} (hm : m ≤ 16) : ∀ (k f i : Nat), i + k = 16 → k < f → (∀ j, j < i → pm p m j = false) → (∃ s, s < m ∧ p s = true) → Sp_lowest_2 f (nI (mask p m)) (nI i) = some (lowD p m (-1)) := by
  intro k
  induction k with
  | zero =>
    intro f i hi hf hl ⟨s, s1, s2⟩
    have := hl s (by omega)
    rw [pm_t.mpr ⟨s1, s2⟩] at this
    cases this
  | succ k ih =>
    intro f i hi hf hl hs
    obtain ⟨f, rfl⟩ := fsucc hf
    rw [Sp_lowest_2, if_neg (by rw [show (16 : Int32) = nI 16 from rfl, nI_le' (by omega) (by omega)]; omega)]
    simp only [mask_tst p hm (show i < 16 by omega)]
    by_cases e : pm p m i = true
    · rw [if_neg (by simp [e])]
      have e2 := pm_t.mp e
      rw [lowD_at p m (-1) i e2.1 e2.2 (fun j hj => ?_)]
      have := hl j hj
      cases hp : p j with
      | false => rfl
      | true => rw [pm_t.mpr ⟨by omega, hp⟩] at this; cases this
    · rw [if_pos e, show (1 : Int32) = nI 1 from rfl, nI_add]
      refine ih f (i + 1) (by omega) (by omega) (fun j hj => ?_) hs
      by_cases e2 : j = i
      · subst e2; exact Bool.eq_false_iff.mpr e
      · exact hl j (by omega)
theorem cnt_pos (p : Nat → Bool) : ∀ m, cnt p m ≠ 0 → ∃ s, s < m ∧ p s = true := by
  intro m
  induction m with
  | zero => intro h; exact absurd rfl h
  | succ m ih =>
    intro h
    by_cases e : p m = true
    · exact ⟨m, by omega, e⟩
    · have : cnt p (m + 1) = cnt p m := by show cnt p m + (if p m = true then 1 else 0) = _; rw [if_neg e]; rfl
      rw [this] at h
      obtain ⟨s, s1, s2⟩ := ih h
      exact ⟨s, by omega, s2⟩
theorem mask_0 (p : Nat → Bool) (m : Nat) : mask p m = 0 ↔ cnt p m = 0 := by
  induction m with
  | zero => exact ⟨fun _ => rfl, fun _ => rfl⟩
  | succ m ih =>
    show mask p m + (if p m = true then 2 ^ m else 0) = 0 ↔ cnt p m + (if p m = true then 1 else 0) = 0
    have : 0 < 2 ^ m := Nat.pow_pos (by omega)
    split <;> omega
theorem m_sus {a : Nat → Nat} {ν0 ν : Nm} (h : M1 a ν0 ν) (hw : WF a) {w : Int32} : ∀ (j f n x y : Nat) (l : Int32), j ≤ 16 → j < f → x < 16 → y < 16 → Md_suspects_42 ν f w (nI n) (nI x) (nI y) l (nI j - 1) = Md_suspects_42 ν (f - j) w (nI (n + cnt (susp a) j)) (nI (dnA id (susp a) j x)) (nI (dnA cpl (susp a) j y)) (lowD (susp a) j l) (-1) := by
  intro j
  induction j with
  | zero => intro f n x y l _ _ _ _; rfl
  | succ j ih =>
    intro f n x y l h16 hf hx hy
    obtain ⟨f, rfl⟩ := fsucc hf
    have e1 : nI (j + 1) - 1 = nI j := by rw [show (1 : Int32) = nI 1 from rfl, nI_sub (by omega)]; rfl
    rw [Md_suspects_42, e1, if_neg (nI_pos (by omega)), m_susp' h hw (by omega), Option.bind_some]
    unfold Md_suspects_80
    rw [show nI j + (-1 : Int32) = nI j - 1 from (Int32.sub_eq_add_neg _ _).symm, nI_and, and_cpl y hy j (by omega), show (1 : Int32) = nI 1 from rfl, nI_add n 1, show nI 1 = (1 : Int32) from rfl]
    show _ = Md_suspects_42 ν (f + 1 - (j + 1)) w (nI (n + (cnt (susp a) j + (if susp a j = true then 1 else 0)))) (nI (dnA id (susp a) j (if susp a j = true then x &&& j else x))) (nI (dnA cpl (susp a) j (if susp a j = true then y &&& cpl j else y))) (lowD (susp a) j (if susp a j = true then nI j else l)) (-1)
    have hA : x &&& j < 16 := Nat.lt_of_le_of_lt Nat.and_le_left hx
    have hB : y &&& cpl j < 16 := Nat.lt_of_le_of_lt Nat.and_le_left hy
    by_cases e : susp a j = true
    · rw [e, if_pos (by rw [b2iT]; exact id), ih f (n + 1) (x &&& j) (y &&& cpl j) _ (by omega) (by omega) hA hB]
      simp only [if_true]
      rw [show f + 1 - (j + 1) = f - j by omega, show n + 1 + cnt (susp a) j = n + (cnt (susp a) j + 1) by omega]
    · rw [Bool.eq_false_iff.mpr e, if_neg (by rw [b2iF]; simp), ih f n x y _ (by omega) (by omega) hx hy]
      rw [show f + 1 - (j + 1) = f - j by omega]
      rfl
theorem m_suspects {a : Nat → Nat} {ν0 ν : Nm} (h : M1 a ν0 ν) (hw : WF a) {w : Nat} (h3 : w ≤ 3) : Md_suspects ν (nI w) = some (if w = 0 then nI (cnt (susp a) (2 ^ a 0)) else if cnt (susp a) (2 ^ a 0) = 0 then -1 else if w = 1 then nI (dnA id (susp a) (2 ^ a 0) (2 ^ a 0 - 1)) else if w = 2 then nI (dnA cpl (susp a) (2 ^ a 0) (2 ^ a 0 - 1)) else lowD (susp a) (2 ^ a 0) (-1)) := by
  have hb := wb hw
  have p4 : 2 ^ a 0 ≤ 2 ^ 4 := Nat.pow_le_pow_right (by omega) hb.1
  have p0 : 1 ≤ 2 ^ a 0 := Nat.one_le_two_pow
  have hc := cnt_le (susp a) (2 ^ a 0)
  unfold Md_suspects
  rw [show (0 : Int32) = nI 0 from rfl, show (3 : Int32) = nI 3 from rfl, isIn_t (by omega) h3 (by decide), Option.bind_some, if_pos (by rw [b2iT']; exact id), mr h (by decide) (by decide), show (1 : Int32) = nI 1 from rfl, nI_shl (by omega), Nat.one_mul]
  have q := m_sus h hw (w := nI w) (2 ^ a 0) FU 0 (2 ^ a 0 - 1) (2 ^ a 0 - 1) (-1) p4 (by unfold FU; omega) (by omega) (by omega)
  have e1 : nI (2 ^ a 0) - 1 = nI (2 ^ a 0 - 1) := nI_sub (b := 1) (by omega)
  rw [show nI 1 = (1 : Int32) from rfl, e1]
  rw [e1, Nat.zero_add] at q
  rw [q]
  obtain ⟨f, hf⟩ : ∃ f, FU - 2 ^ a 0 = f + 1 := ⟨FU - 2 ^ a 0 - 1, by unfold FU; omega⟩
  rw [hf, Md_suspects_42, if_pos (by decide)]
  have z0 : (nI w = 0) = (w = 0) := nI_eq' (b := 0) (by omega) (by decide)
  have z1 : (nI w = 1) = (w = 1) := nI_eq' (b := 1) (by omega) (by decide)
  have z2 : (nI w = 2) = (w = 2) := nI_eq' (b := 2) (by omega) (by decide)
  have zc : (nI (cnt (susp a) (2 ^ a 0)) = 0) = (cnt (susp a) (2 ^ a 0) = 0) := nI_eq' (b := 0) (by omega) (by decide)
  simp only [z0, z1, z2, zc]
  by_cases w0 : w = 0
  · simp [w0]
  · by_cases c0 : cnt (susp a) (2 ^ a 0) = 0
    · simp [w0, c0]
    · by_cases w1 : w = 1
      · simp [w1, c0]
      · by_cases w2 : w = 2
        · simp [w2, c0]
        · simp [w0, w1, w2, c0]
theorem st_suspects {a b : Nat → Nat} {τ : Ex} {ν : Nm} (h : Inv a b τ ν) (x : Int32) : ∃ v, Fm_suspects ν x = some v ∧ Md_suspects ν x = some v := by
  have hw := h.1
  have hb := wb hw
  have hc := C1_0 h
  have hm := M1_0 h hc
  have p4 : 2 ^ a 0 ≤ 2 ^ 4 := Nat.pow_le_pow_right (by omega) hb.1
  have p0 : 1 ≤ 2 ^ a 0 := Nat.one_le_two_pow
  have hl := mask_lt (susp a) (2 ^ a 0)
  have h16 : 2 ^ 2 ^ a 0 ≤ 2 ^ 16 := Nat.pow_le_pow_right (by omega) (by omega)
  rcases isIn_cases x 0 3 (by decide) (by decide) with ⟨w, _, h2, rfl, h3⟩ | ⟨hy, h3⟩
  · refine ⟨_, ?_, m_suspects hm hw h2⟩
    have h3' : Md_isIn (nI w) 0 3 = some true := h3
    unfold Fm_suspects
    rw [within_isIn, h3', Option.bind_some, if_pos (by rw [b2iT]; exact id), c_sets' hc hw, Option.bind_some, c_all hc hw, Option.bind_some, Option.bind_some, bc16w (by omega), Option.bind_some, pc_mask (susp a) (by omega)]
    have z0 : (nI w = 0) = (w = 0) := nI_eq' (b := 0) (by omega) (by decide)
    have z1 : (nI w = 1) = (w = 1) := nI_eq' (b := 1) (by omega) (by decide)
    have z2 : (nI w = 2) = (w = 2) := nI_eq' (b := 2) (by omega) (by decide)
    have zc : (nI (mask (susp a) (2 ^ a 0)) = 0) = (cnt (susp a) (2 ^ a 0) = 0) := by
      rw [← mask_0]; exact nI_eq' (b := 0) (by omega) (by decide)
    simp only [z0, z1, z2, zc]
    have iA : Sp_inAll (nI (mask (susp a) (2 ^ a 0))) (nI (2 ^ a 0 - 1)) = some (nI (dnA id (susp a) (2 ^ a 0) (2 ^ a 0 - 1))) := by
      rw [← up_dn id (susp a) p4]; exact c_inAll (susp a) p4 16 FU 0 _ (by omega) (by unfold FU; omega)
    have iN : Sp_inNone (nI (mask (susp a) (2 ^ a 0))) (nI (2 ^ a 0 - 1)) = some (nI (dnA cpl (susp a) (2 ^ a 0) (2 ^ a 0 - 1))) := by
      rw [← up_dn cpl (susp a) p4]; exact c_inNone (susp a) p4 16 FU 0 _ (by omega) (by unfold FU; omega) (by omega)
    rw [iA, iN, Option.bind_some, Option.bind_some]
    by_cases w0 : w = 0
    · simp [w0]
    · by_cases c0 : cnt (susp a) (2 ^ a 0) = 0
      · simp [w0, c0]
      · have iL : Sp_lowest (nI (mask (susp a) (2 ^ a 0))) = some (lowD (susp a) (2 ^ a 0) (-1)) := c_lowest (susp a) p4 16 FU 0 (by omega) (by unfold FU; omega) (fun j hj => by omega) (cnt_pos _ _ c0)
        rw [iL, Option.bind_some]
        by_cases w1 : w = 1
        · simp [w1, c0]
        · by_cases w2 : w = 2
          · simp [w2, c0]
          · simp [w0, w1, w2, c0]
  · have h3' : Md_isIn x 0 3 = some false := h3
    exact ⟨-1, by unfold Fm_suspects; rw [within_isIn, h3']; rfl, by unfold Md_suspects; rw [h3']; rfl⟩
/-! What to try. -/
def flP (p : Nat → Bool) (t : Nat) : Nat → Bool := fun s => p s && decide (s &&& t ≠ 0)
theorem c_failing (p : Nat → Bool) {m t : Nat} (hm : m ≤ 16) (ht : t < 16) : ∀ (k f i n : Nat), i + k = 16 → k < f → n = cnt (flP (pm p m) t) i → Sp_countFailing_4 f (nI (mask p m)) (nI t) (nI n) (nI i) = some (nI (cnt (flP (pm p m) t) 16)) := by
  intro k
  induction k with
  | zero =>
    intro f i n hi hf hn
    obtain ⟨f, rfl⟩ := fsucc hf
    rw [Sp_countFailing_4, if_pos (by rw [show (16 : Int32) = nI 16 from rfl, nI_le' (by omega) (by omega)]; omega), hn, show i = 16 by omega]
  | succ k ih =>
    intro f i n hi hf hn
    obtain ⟨f, rfl⟩ := fsucc hf
    have hand : i &&& t < 16 := Nat.lt_of_le_of_lt Nat.and_le_right ht
    rw [Sp_countFailing_4, if_neg (by rw [show (16 : Int32) = nI 16 from rfl, nI_le' (by omega) (by omega)]; omega)]
    unfold Sp_countFailing_27
    have z : (nI (i &&& t) = 0) = (i &&& t = 0) := nI_eq' (b := 0) (by omega) (by decide)
    rw [nI_and, show (1 : Int32) = nI 1 from rfl, nI_add, nI_add, show nI 1 = (1 : Int32) from rfl]
    simp only [mask_tst p hm (show i < 16 by omega), z]
    have es : cnt (flP (pm p m) t) (i + 1) = cnt (flP (pm p m) t) i + (if flP (pm p m) t i = true then 1 else 0) := rfl
    by_cases e : pm p m i = true
    · rw [if_neg (by simp [e])]
      by_cases e2 : i &&& t = 0
      · rw [if_pos e2]
        exact ih f (i + 1) n (by omega) (by omega) (by rw [es, hn]; simp [flP, e2])
      · rw [if_neg e2]
        exact ih f (i + 1) (n + 1) (by omega) (by omega) (by rw [es, hn]; simp [flP, e2, e])
    · rw [if_pos e]
      exact ih f (i + 1) n (by omega) (by omega) (by rw [es, hn]; simp [flP, e])
theorem fl_m (p : Nat → Bool) {m : Nat} (hm : m ≤ 16) (t : Nat) : cnt (flP (pm p m) t) 16 = cnt (flP p t) m := by
  rw [show (16 : Nat) = m + (16 - m) by omega, cnt_more _ m (fun i hi => by unfold flP pm; rw [decide_eq_false (by omega)]; rfl)]
  exact cnt_ext m (fun i hi => by unfold flP pm; rw [decide_eq_true hi]; rfl)
def lfA (p : Nat → Bool) (m t : Nat) : Nat := max (cnt (flP p t) m) (cnt p m - cnt (flP p t) m)
theorem fl_le (p : Nat → Bool) (t : Nat) : ∀ m, cnt (flP p t) m ≤ cnt p m := by
  intro m
  induction m with
  | zero => exact Nat.le_refl _
  | succ m ih =>
    show cnt (flP p t) m + (if flP p t m = true then 1 else 0) ≤ cnt p m + (if p m = true then 1 else 0)
    by_cases e : p m = true
    · rw [if_pos e]; split <;> omega
    · have : flP p t m = false := by unfold flP; rw [Bool.eq_false_iff.mpr e]; rfl
      rw [this, if_neg e]; simp; exact ih
theorem m_failing {a : Nat → Nat} {ν0 ν : Nm} (h : M1 a ν0 ν) (hw : WF a) (k15 : Int32 → Int32 → Int32 → Int32 → Option Int32) {n : Nat} (hn : n = cnt (susp a) (2 ^ a 0)) {x2 x3 : Int32} {t : Nat} (ht : t < 16) : ∀ (k f i : Nat), i + k = 2 ^ a 0 → k < f → Md_test_39 ν k15 f (nI n) x2 x3 (nI t) (nI (cnt (flP (susp a) t) i)) (nI i) = Md_test_103 ν k15 (nI n) x2 x3 (nI t) (nI (lfA (susp a) (2 ^ a 0) t)) := by
  have hb := wb hw
  have p4 : 2 ^ a 0 ≤ 2 ^ 4 := Nat.pow_le_pow_right (by omega) hb.1
  have hc := cnt_le (susp a) (2 ^ a 0)
  intro k
  induction k with
  | zero =>
    intro f i hi hf
    obtain ⟨f, rfl⟩ := fsucc hf
    have hle := fl_le (susp a) t (2 ^ a 0)
    rw [Md_test_39, mr h (by decide) (by decide), show (1 : Int32) = nI 1 from rfl, nI_shl (by omega), Nat.one_mul, if_pos (by rw [nI_le' (by omega) (by omega)]; omega), show i = 2 ^ a 0 by omega, nI_sub (by omega)]
    unfold lfA
    by_cases e : cnt (flP (susp a) t) (2 ^ a 0) ≤ n - cnt (flP (susp a) t) (2 ^ a 0)
    · rw [if_pos (by rw [nI_le' (by omega) (by omega)]; exact e), Nat.max_eq_right (by rw [← hn]; exact e), hn]
    · rw [if_neg (by rw [nI_le' (by omega) (by omega)]; exact e), Nat.max_eq_left (by rw [← hn]; omega)]
  | succ k ih =>
    intro f i hi hf
    obtain ⟨f, rfl⟩ := fsucc hf
    have hand : i &&& t < 16 := Nat.lt_of_le_of_lt Nat.and_le_right ht
    have z : (nI (i &&& t) = 0) = (i &&& t = 0) := nI_eq' (b := 0) (by omega) (by decide)
    rw [Md_test_39, mr h (by decide) (by decide), show (1 : Int32) = nI 1 from rfl, nI_shl (by omega), Nat.one_mul, if_neg (by rw [nI_le' (by omega) (by omega)]; omega), m_susp' h hw (by omega), Option.bind_some]
    unfold Md_test_75 Md_test_76
    have es : cnt (flP (susp a) t) (i + 1) = cnt (flP (susp a) t) i + (if flP (susp a) t i = true then 1 else 0) := rfl
    rw [nI_and, show (1 : Int32) = nI 1 from rfl, show (0 : Int32) = nI 0 from rfl, nI_add, nI_add, nI_add, show nI 0 = (0 : Int32) from rfl, Nat.add_zero]
    simp only [z]
    have nx := ih f (i + 1) (by omega) (by omega)
    by_cases e : susp a i = true
    · rw [e, if_neg (by rw [b2iT]; exact id)]
      by_cases e2 : i &&& t = 0
      · rw [if_pos e2]
        rw [es, show flP (susp a) t i = false by simp [flP, e2]] at nx
        exact nx
      · rw [if_neg e2]
        rw [es, show flP (susp a) t i = true by simp [flP, e2, e]] at nx
        exact nx
    · rw [Bool.eq_false_iff.mpr e, if_pos (by rw [b2iF]; exact True.intro)]
      rw [es, show flP (susp a) t i = false by simp [flP, e]] at nx
      exact nx
theorem test_loop {a b : Nat → Nat} {τ : Ex} {ν : Nm} (h : Inv a b τ ν) {n : Nat} (hn : n = cnt (susp a) (2 ^ a 0)) (h2 : 2 ≤ n) : ∀ (k f f2 t : Nat) (best : Int32) (l : Nat) (l2 : Int32), t + k = 2 ^ a 0 → 1 ≤ t → k < f → k < f2 → (best = -1 ∧ l2 = nI 1000000 ∨ (∃ c, c < 16 ∧ best = nI c) ∧ l2 = nI l ∧ l ≤ 16) → ∃ v, Sp_bestTrial_7 f (nI (mask (susp a) (2 ^ a 0))) (nI (2 ^ a 0 - 1)) best (nI l) (nI t) = some v ∧ Md_test_15 ν f2 (nI n) best l2 (nI t) = some v := by
  have hw := h.1
  have hb := wb hw
  have hm := M1_0 h (C1_0 h)
  have p4 : 2 ^ a 0 ≤ 2 ^ 4 := Nat.pow_le_pow_right (by omega) hb.1
  have p0 : 1 ≤ 2 ^ a 0 := Nat.one_le_two_pow
  have hl := mask_lt (susp a) (2 ^ a 0)
  have h16 : 2 ^ 2 ^ a 0 ≤ 2 ^ 16 := Nat.pow_le_pow_right (by omega) (by omega)
  have hc := cnt_le (susp a) (2 ^ a 0)
  intro k
  induction k with
  | zero =>
    intro f f2 t best l l2 ht h1 hf hf2 hs
    obtain ⟨f, rfl⟩ := fsucc hf
    obtain ⟨f2, rfl⟩ := fsucc hf2
    refine ⟨best, ?_, ?_⟩
    · rw [Sp_bestTrial_7, if_pos (by rw [nI_lt' (by omega) (by omega)]; omega)]
    · rw [Md_test_15, mr hm (by decide) (by decide), show (1 : Int32) = nI 1 from rfl, nI_shl (by omega), Nat.one_mul, if_pos (by rw [nI_le' (by omega) (by omega)]; omega)]
  | succ k ih =>
    intro f f2 t best l l2 ht h1 hf hf2 hs
    obtain ⟨f, rfl⟩ := fsucc hf
    obtain ⟨f2, rfl⟩ := fsucc hf2
    have hfl := fl_le (susp a) t (2 ^ a 0)
    have hcf : Sp_countFailing (nI (mask (susp a) (2 ^ a 0))) (nI t) = some (nI (cnt (flP (susp a) t) (2 ^ a 0))) := by
      rw [← fl_m (susp a) p4 t]; exact c_failing (susp a) p4 (by omega) 16 FU 0 0 (by omega) (by unfold FU; omega) rfl
    have hmx : imax (nI (cnt (flP (susp a) t) (2 ^ a 0))) (nI (cnt (susp a) (2 ^ a 0)) - nI (cnt (flP (susp a) t) (2 ^ a 0))) = nI (lfA (susp a) (2 ^ a 0) t) := by
      rw [nI_sub hfl]
      unfold imax lfA
      by_cases e : cnt (flP (susp a) t) (2 ^ a 0) < cnt (susp a) (2 ^ a 0) - cnt (flP (susp a) t) (2 ^ a 0)
      · rw [if_pos (by rw [nI_lt' (by omega) (by omega)]; exact e), Nat.max_eq_right (by omega)]
      · rw [if_neg (by rw [nI_lt' (by omega) (by omega)]; exact e), Nat.max_eq_left (by omega)]
    have hlf : lfA (susp a) (2 ^ a 0) t ≤ 16 := by unfold lfA; omega
    have mf := m_failing hm hw (Md_test_15 ν f2) hn (x2 := best) (x3 := l2) (t := t) (by omega) (2 ^ a 0) FU 0 (by omega) (by unfold FU; omega)
    have mf' : Md_test_39 ν (Md_test_15 ν f2) FU (nI n) best l2 (nI t) (nI 0) (nI 0) = Md_test_103 ν (Md_test_15 ν f2) (nI n) best l2 (nI t) (nI (lfA (susp a) (2 ^ a 0) t)) := mf
    have eC : Sp_bestTrial_7 (f + 1) (nI (mask (susp a) (2 ^ a 0))) (nI (2 ^ a 0 - 1)) best (nI l) (nI t) = (if best = -1 then Sp_bestTrial_7 f (nI (mask (susp a) (2 ^ a 0))) (nI (2 ^ a 0 - 1)) (nI t) (nI (lfA (susp a) (2 ^ a 0) t)) (nI (t + 1)) else if nI l ≤ nI (lfA (susp a) (2 ^ a 0) t) then Sp_bestTrial_7 f (nI (mask (susp a) (2 ^ a 0))) (nI (2 ^ a 0 - 1)) best (nI l) (nI (t + 1)) else Sp_bestTrial_7 f (nI (mask (susp a) (2 ^ a 0))) (nI (2 ^ a 0 - 1)) (nI t) (nI (lfA (susp a) (2 ^ a 0) t)) (nI (t + 1))) := by
      rw [Sp_bestTrial_7, if_neg (by rw [nI_lt' (by omega) (by omega)]; omega), hcf, Option.bind_some, bc16w (by omega), Option.bind_some, pc_mask (susp a) (by omega), hmx]
      unfold Sp_bestTrial_46 Sp_bestTrial_52
      have e1 : nI t + 1 = nI (t + 1) := nI_add t 1
      rw [e1]
    have eM : Md_test_15 ν (f2 + 1) (nI n) best l2 (nI t) = (if nI (lfA (susp a) (2 ^ a 0) t) < l2 then Md_test_15 ν f2 (nI n) (nI t) (nI (lfA (susp a) (2 ^ a 0) t)) (nI (t + 1)) else Md_test_15 ν f2 (nI n) best l2 (nI (t + 1))) := by
      rw [Md_test_15, mr hm (by decide) (by decide), show (1 : Int32) = nI 1 from rfl, nI_shl (by omega), Nat.one_mul, if_neg (by rw [nI_le' (by omega) (by omega)]; omega), if_neg (by rw [nI_le' (by omega) (by omega)]; omega), show (0 : Int32) = nI 0 from rfl, mf']
      unfold Md_test_103 Md_test_120
      have e1 : nI t + 1 = nI (t + 1) := nI_add t 1
      rw [e1]
    rw [eC, eM]
    rcases hs with ⟨rfl, rfl⟩ | ⟨⟨c, hc4, rfl⟩, rfl, hl16⟩
    · rw [if_pos rfl, if_pos (by rw [nI_lt' (by omega) (by omega)]; omega)]
      exact ih f f2 (t + 1) _ _ _ (by omega) (by omega) (by omega) (by omega) (Or.inr ⟨⟨t, by omega, rfl⟩, rfl, hlf⟩)
    · rw [if_neg (neg1 (by omega))]
      by_cases e : l ≤ lfA (susp a) (2 ^ a 0) t
      · rw [if_pos (by rw [nI_le' (by omega) (by omega)]; exact e), if_neg (by rw [nI_lt' (by omega) (by omega)]; omega)]
        exact ih f f2 (t + 1) _ _ _ (by omega) (by omega) (by omega) (by omega) (Or.inr ⟨⟨c, hc4, rfl⟩, rfl, hl16⟩)
      · rw [if_neg (by rw [nI_le' (by omega) (by omega)]; exact e), if_pos (by rw [nI_lt' (by omega) (by omega)]; omega)]
        exact ih f f2 (t + 1) _ _ _ (by omega) (by omega) (by omega) (by omega) (Or.inr ⟨⟨t, by omega, rfl⟩, rfl, hlf⟩)
theorem st_test {a b : Nat → Nat} {τ : Ex} {ν : Nm} (h : Inv a b τ ν) : ∃ v, Fm_test ν = some v ∧ Md_test ν = some v := by
  have hw := h.1
  have hb := wb hw
  have hc := C1_0 h
  have hm := M1_0 h hc
  have p4 : 2 ^ a 0 ≤ 2 ^ 4 := Nat.pow_le_pow_right (by omega) hb.1
  have p0 : 1 ≤ 2 ^ a 0 := Nat.one_le_two_pow
  have hl := mask_lt (susp a) (2 ^ a 0)
  have h16 : 2 ^ 2 ^ a 0 ≤ 2 ^ 16 := Nat.pow_le_pow_right (by omega) (by omega)
  have hcn := cnt_le (susp a) (2 ^ a 0)
  have ms := m_suspects hm hw (w := 0) (by omega)
  rw [if_pos rfl] at ms
  have ms' : Md_suspects ν 0 = some (nI (cnt (susp a) (2 ^ a 0))) := ms
  by_cases e : 2 ≤ cnt (susp a) (2 ^ a 0)
  · obtain ⟨v, v1, v2⟩ := test_loop h rfl e (2 ^ a 0 - 1) FU FU 1 (-1) 0 (nI 1000000) (by omega) (by omega) (by unfold FU; omega) (by unfold FU; omega) (Or.inl ⟨rfl, rfl⟩)
    refine ⟨v, ?_, ?_⟩
    · unfold Fm_test
      rw [c_sets' hc hw, Option.bind_some, bc16w (by omega), Option.bind_some, pc_mask (susp a) (by omega), if_pos (by rw [show (2 : Int32) = nI 2 from rfl, nI_le' (by omega) (by omega)]; exact e), c_all hc hw, Option.bind_some]
      have v1' : Sp_bestTrial (nI (mask (susp a) (2 ^ a 0))) (nI (2 ^ a 0 - 1)) = some v := v1
      rw [v1', Option.bind_some]
    · unfold Md_test
      rw [ms', Option.bind_some]
      exact v2
  · refine ⟨-1, ?_, ?_⟩
    · unfold Fm_test
      rw [c_sets' hc hw, Option.bind_some, bc16w (by omega), Option.bind_some, pc_mask (susp a) (by omega), if_neg (by rw [show (2 : Int32) = nI 2 from rfl, nI_le' (by omega) (by omega)]; exact e)]
    · unfold Md_test
      rw [ms', Option.bind_some, show FU = 999999999 + 1 from rfl, Md_test_15, mr hm (by decide) (by decide), show (1 : Int32) = nI 1 from rfl, nI_shl (by omega), Nat.one_mul]
      by_cases e2 : 2 ^ a 0 ≤ 1
      · rw [if_pos (by rw [nI_le' (by omega) (by omega)]; exact e2)]
      · rw [if_neg (by rw [nI_le' (by omega) (by omega)]; exact e2), if_pos (by rw [nI_le' (by omega) (by omega)]; omega)]
