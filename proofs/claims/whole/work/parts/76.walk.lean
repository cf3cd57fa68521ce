/-! The class walks: marks. -/
theorem sh1 : ∀ p, p < 64 → ((1 : Int64) <<< ((nI p).toInt64 &&& 63)).toBitVec = BitVec.ofNat 64 (2 ^ p) := by decide +kernel
theorem or_bit (w : Int64) {p j : Nat} (hp : p < 64) (hj : j < 64) : (w ||| ((1 : Int64) <<< ((nI p).toInt64 &&& 63))).toBitVec.getLsbD j = true ↔ (w.toBitVec.getLsbD j = true ∨ j = p) := by
  rw [Int64.toBitVec_or, BitVec.getLsbD_or, Bool.or_eq_true, sh1 p hp, BitVec.getLsbD_ofNat, Nat.testBit_two_pow]
  simp [hj]
  constructor
  · rintro (h | h)
    · exact Or.inl h
    · exact Or.inr h.symm
  · rintro (h | h)
    · exact Or.inl h
    · exact Or.inr h.symm
/-- cells of a walk at moment m -/
def fw (m q j : Nat) : Prop := ((q = 278 ∨ q = 279) ∧ 4 * m + 4 ≤ j) ∨ (q = 280 ∧ 4 * m ≤ j) ∨ (q = 281 ∧ m + 1 ≤ j) ∨ (q = 276 ∧ j = 1)
/-- what the walk was begun with -/
def BG (s v L : Nat) (ν : Nm) : Prop := gi ν 276 11 = nI s ∧ gi ν 276 12 = nI v ∧ gi ν 276 13 = nI L
theorem BG_keep {s v L m : Nat} {ν ν2 : Nm} (h : BG s v L ν) (k : ∀ q j, ¬ fw m q j → gi ν2 q j = gi ν q j) : BG s v L ν2 := by
  obtain ⟨h1, h2, h3⟩ := h
  exact ⟨by rw [k _ _ (by unfold fw; omega)]; exact h1, by rw [k _ _ (by unfold fw; omega)]; exact h2, by rw [k _ _ (by unfold fw; omega)]; exact h3⟩
theorem WC_keep {m n : Nat} {t r e : Nat → Nat} {ν ν2 : Nm} (hn : n ≤ m) (h : WC n t r e ν) (k : ∀ q j, ¬ fw m q j → gi ν2 q j = gi ν q j) : WC n t r e ν2 :=
  ⟨fun c hc => ⟨by rw [k _ _ (by unfold fw; omega)]; exact (h.1 c hc).1, by rw [k _ _ (by unfold fw; omega)]; exact (h.1 c hc).2⟩, fun i hi => by rw [k _ _ (by unfold fw; omega)]; exact h.2 i hi⟩
/-- what is marked has changed from ν to ν2 by N -/
def MK (s : Nat) (N : Nat → Prop) (ν ν2 : Nm) : Prop := (∀ v, v < 15424 → (MB s v ν2 ↔ (MB s v ν ∨ N v))) ∧ (∀ q j, ¬ (q = 277 ∧ s * 241 ≤ j ∧ j < s * 241 + 241) → gl ν2 q j = gl ν q j)
theorem MK_rfl (s : Nat) (ν : Nm) : MK s (fun _ => False) ν ν := ⟨fun v _ => ⟨fun h => Or.inl h, fun h => h.elim id False.elim⟩, fun _ _ _ => rfl⟩
theorem MK_tr {s : Nat} {N N2 N3 : Nat → Prop} {ν ν1 ν2 : Nm} (h : MK s N ν ν1) (h2 : MK s N2 ν1 ν2) (e : ∀ v, N3 v ↔ (N v ∨ N2 v)) : MK s N3 ν ν2 := by
  refine ⟨fun v hv => ?_, fun q j hq => (h2.2 q j hq).trans (h.2 q j hq)⟩
  rw [h2.1 v hv, h.1 v hv, e v]
  constructor
  · rintro ((q | q) | q)
    · exact Or.inl q
    · exact Or.inr (Or.inl q)
    · exact Or.inr (Or.inr q)
  · rintro (q | q | q)
    · exact Or.inl (Or.inl q)
    · exact Or.inl (Or.inr q)
    · exact Or.inr q
theorem MK_gl {s : Nat} {ν ν2 : Nm} (h : ∀ q j, gl ν2 q j = gl ν q j) : MK s (fun _ => False) ν ν2 :=
  ⟨fun v _ => by rw [MB_keep (fun j => h _ _)]; exact ⟨fun z => Or.inl z, fun z => z.elim id False.elim⟩, fun q j _ => h q j⟩
/-- one span is marked -/
theorem MK_one {s p : Nat} (hp : p ≤ 15360) (ν : Nm) : MK s (fun v => v = p) ν (sl ν 277 (s * 241 + p / 64) (gl ν 277 (s * 241 + p / 64) ||| ((1 : Int64) <<< ((nI (p % 64)).toInt64 &&& 63)))) := by
  refine ⟨fun v hv => ?_, fun q j hq => by rw [gl_sl, if_neg (by omega)]⟩
  unfold MB
  rw [gl_sl]
  by_cases e : v / 64 = p / 64
  · rw [if_pos (by rw [e]; exact ⟨rfl, rfl⟩), or_bit _ (by omega) (by omega), e]
    constructor
    · rintro (q | q)
      · exact Or.inl q
      · exact Or.inr (by omega)
    · rintro (q | q)
      · exact Or.inl q
      · exact Or.inr (by omega)
  · rw [if_neg (by omega)]
    constructor
    · intro q; exact Or.inl q
    · rintro (q | q)
      · exact q
      · exact absurd (by rw [q]) e
/-- the latest moment is later than each one ahead of it -/
theorem TI_lt {m w : Nat} {t : Nat → Nat} (ht : TI m t) (hw : ¬ w = 0) : ∀ i, i < m + 1 → upn t (m + 1) (t m + w) i < upn t (m + 1) (t m + w) (m + 1) := by
  intro i hi
  rw [upn_s, upn_n _ _ (by omega)]
  have := ht.1 i (by omega)
  omega
theorem c_arriveM {s m : Nat} (hs : s < 16) (hm : m ≤ 4) {t : Nat → Nat} (ht : TI m t) (hst : ∀ i, i < m → t i < t m) : ∀ (k f i : Nat) (ν : Nm), i + k = m → k < f → (∀ i, i ≤ m → gi ν 281 i = nI (t i)) → BG s 0 4 ν → ∃ ν2, Rw_arrive_2 f (nI m) (nI i) ν = some (false, ν2) ∧ (∀ q j, gi ν2 q j = gi ν q j) ∧ MK s (fun v => ∃ j, i ≤ j ∧ j < m ∧ t m - t j = v) ν ν2 := by
  intro k
  induction k with
  | zero =>
    intro f i ν hi hf hT hB
    obtain ⟨f, rfl⟩ := fsucc hf
    refine ⟨ν, by rw [Rw_arrive_2, if_pos (by rw [nI_le' (by omega) (by omega)]; omega)], fun _ _ => rfl, ?_⟩
    have := MK_rfl s ν
    refine ⟨fun v hv => ?_, fun _ _ _ => rfl⟩
    exact ⟨fun h => Or.inl h, fun h => h.elim id (fun ⟨j, j1, j2, _⟩ => by omega)⟩
  | succ k ih =>
    intro f i ν hi hf hT hB
    obtain ⟨f, rfl⟩ := fsucc hf
    have h1 := ht.1 i (by omega)
    have h2 := ht.2
    have h3 := hst i (by omega)
    obtain ⟨b1, b2, b3⟩ := id hB
    have hd := Nat.div_le_self (t m - t i) 64
    have e1 : gi ν 281 m - gi ν 281 i = nI (t m - t i) := by rw [hT m (by omega), hT i (by omega), nI_sub h1]
    have e2 : nI (t m - t i) / 64 = nI ((t m - t i) / 64) := nI_div (b := 64) (by omega) (by decide)
    have e3 : nI (t m - t i) - nI ((t m - t i) / 64) * 64 = nI ((t m - t i) % 64) := by
      rw [← e2]; exact nI_mod (b := 64) (by omega) (by decide)
    have e4 : nI s * 241 = nI (s * 241) := nI_mul s 241
    have hp : t m - t i ≤ 15360 := by omega
    obtain ⟨ν2, p1, p2, p3⟩ := ih f (i + 1) (sl ν 277 (s * 241 + (t m - t i) / 64) (gl ν 277 (s * 241 + (t m - t i) / 64) ||| ((1 : Int64) <<< ((nI ((t m - t i) % 64)).toInt64 &&& 63)))) (by omega) (by omega) hT hB
    refine ⟨ν2, ?_, fun q j => by rw [p2, gi_sl], MK_tr (MK_one hp ν) p3 (fun v => ?_)⟩
    · rw [Rw_arrive_2, if_neg (by rw [nI_le' (by omega) (by omega)]; omega), inb_nI (show m < 2 ^ 31 by omega), inb_nI (show i < 2 ^ 31 by omega), nI_clamp (show m < 2 ^ 31 by omega), nI_clamp (show i < 2 ^ 31 by omega)]
      simp only [dT (show m < 5 by omega), dT (show i < 5 by omega), if_true]
      rw [e1, if_neg (by rw [show (0 : Int32) = nI 0 from rfl, nI_le' (by omega) (by omega)]; omega), if_pos (by rw [show (15360 : Int32) = nI 15360 from rfl, nI_le' (by omega) (by omega)]; omega), b2, if_neg (by simp [nI]), b1, e2, e3, e4, nI_add, inb_nI (by omega), nI_clamp (by omega)]
      simp only [dT (show s * 241 + (t m - t i) / 64 < 3856 by omega), if_true]
      unfold Rw_arrive_68 Rw_arrive_94
      rw [show nI i + 1 = nI (i + 1) from nI_add i 1]
      exact p1
    · constructor
      · rintro ⟨j, j1, j2, j3⟩
        by_cases z : j = i
        · subst z; exact Or.inl j3.symm
        · exact Or.inr ⟨j, by omega, j2, j3⟩
      · rintro (z | ⟨j, j1, j2, j3⟩)
        · exact ⟨i, by omega, by omega, z.symm⟩
        · exact ⟨j, by omega, j2, j3⟩
/-- marks from what is lit at x on, at moment m, k moments left -/
def SubX (k m : Nat) (t r e : Nat → Nat) (x v : Nat) : Prop := ∃ y, x ≤ y ∧ y < 81 ∧ vl r e y = true ∧ byA r e y ≠ 0 ∧ ((∃ i, i ≤ m ∧ upn t (m + 1) (t m + byA r e y) (m + 1) - upn t (m + 1) (t m + byA r e y) i = v) ∨ Sub k (m + 1) (upn t (m + 1) (t m + byA r e y)) (nr r e y) (ne r e y) v)
theorem Sub_X {k m : Nat} {t r e : Nat → Nat} {v : Nat} : Sub (k + 1) m t r e v ↔ SubX k m t r e 0 v := by
  constructor
  · rintro ⟨x, x1, x2, x3, x4⟩; exact ⟨x, by omega, x1, x2, x3, x4⟩
  · rintro ⟨x, _, x1, x2, x3, x4⟩; exact ⟨x, x1, x2, x3, x4⟩
/-- behind x the next that can be lit is y, or none -/
theorem nxv_some {r e : Nat → Nat} {x y : Nat} (h : nxv r e x = some y) : x < y ∧ y < 81 ∧ vl r e y = true ∧ ∀ z, x < z → z < y → ¬ vl r e z = true := by
  have gen : ∀ (j i : Nat), fsc (fun y => if vl r e y = true then some y else none) j i = some y → i ≤ y ∧ y < i + j ∧ vl r e y = true ∧ ∀ z, i ≤ z → z < y → ¬ vl r e z = true := by
    intro j
    induction j with
    | zero => intro i h; cases h
    | succ j ih =>
      intro i h
      unfold fsc at h
      by_cases q : vl r e i = true
      · simp only [q, if_true] at h
        have := Option.some.inj h
        subst this
        exact ⟨by omega, by omega, q, fun z z1 z2 => by omega⟩
      · simp only [q] at h
        obtain ⟨h1, h2, h3, h4⟩ := ih (i + 1) (by simpa using h)
        refine ⟨by omega, by omega, h3, fun z z1 z2 => ?_⟩
        by_cases zi : z = i
        · subst zi; exact q
        · exact h4 z (by omega) z2
  obtain ⟨h1, h2, h3, h4⟩ := gen (80 - x) (x + 1) h
  exact ⟨by omega, by omega, h3, fun z z1 z2 => h4 z (by omega) z2⟩
theorem nxv_none {r e : Nat → Nat} {x : Nat} (h : nxv r e x = none) : ∀ z, x < z → z < 81 → ¬ vl r e z = true := by
  have gen : ∀ (j i : Nat), fsc (fun y => if vl r e y = true then some y else none) j i = none → ∀ z, i ≤ z → z < i + j → ¬ vl r e z = true := by
    intro j
    induction j with
    | zero => intro i _ z z1 z2; omega
    | succ j ih =>
      intro i h z z1 z2
      unfold fsc at h
      by_cases q : vl r e i = true
      · simp only [q, if_true] at h
        cases h
      · simp only [q] at h
        by_cases zi : z = i
        · subst zi; exact q
        · exact ih (i + 1) (by simpa using h) z (by omega) (by omega)
  intro z z1 z2
  exact gen (80 - x) (x + 1) h z (by omega) (by omega)
/-- the walk at a moment marks what Sub says -/
def WkM (s k f : Nat) : Prop := ∀ (m : Nat) (t r e : Nat → Nat) (ν : Nm), m + k = 4 → RI r e → TI m t → WC m t r e ν → BG s 0 4 ν → ∃ ν2, G_wk f 0 (nI m) ν = some (false, ν2) ∧ (∀ q j, ¬ fw m q j → gi ν2 q j = gi ν q j) ∧ MK s (fun v => Sub k m t r e v) ν ν2
theorem fw_mono {m q j : Nat} (h : fw (m + 1) q j) : fw m q j := by unfold fw at h ⊢; omega
theorem c_wk41 {s k f0 : Nat} (hs : s < 16) (hrec : WkM s k f0) {m : Nat} (hm : m + k = 3) {t r e : Nat → Nat} (hr : RI r e) (ht : TI m t) : ∀ (d f i x : Nat) (ν : Nm), x + d = 80 → d < f → i ≤ x → vl r e x = true → WC m t r e ν → CHc m x ν → BG s 0 4 ν → ∃ ν2, Rw_walk_41 (G_wk f0) f (nI m) (nI i) ν = some (false, ν2) ∧ (∀ q j, ¬ fw m q j → gi ν2 q j = gi ν q j) ∧ MK s (fun v => SubX k m t r e x v) ν ν2 := by
  intro d
  induction d using Nat.strongRecOn with
  | _ d ih =>
  intro f i x ν hx hf hi hv hW hC hB
  obtain ⟨f, rfl⟩ : ∃ f2, f = f2 + 1 := ⟨f - 1, by omega⟩
  have hby := by_le hr hv
  obtain ⟨ν1, p1, p2, p3, p4⟩ := c_burnOn (by omega) hr hv ht hW hC
  have k1 : ∀ q j, ¬ fw m q j → gi ν1 q j = gi ν q j := fun q j hq => p3 q j (by unfold fw at hq; omega) (by unfold fw at hq; omega)
  have e1 : nI m + 1 = nI (m + 1) := nI_add m 1
  -- behind the choice x is done
  have tail : ∀ (ν3 : Nm) (N : Nat → Prop), (∀ q j, ¬ fw m q j → gi ν3 q j = gi ν q j) → CHc m x ν3 → MK s N ν ν3 → (∀ v, N v ↔ (byA r e x ≠ 0 ∧ ((∃ i, i ≤ m ∧ upn t (m + 1) (t m + byA r e x) (m + 1) - upn t (m + 1) (t m + byA r e x) i = v) ∨ Sub k (m + 1) (upn t (m + 1) (t m + byA r e x)) (nr r e x) (ne r e x) v))) → ∃ ν2, Rw_walk_77 (G_wk f0) (Rw_walk_41 (G_wk f0) f) (nI m) (nI i) ν3 = some (false, ν2) ∧ (∀ q j, ¬ fw m q j → gi ν2 q j = gi ν q j) ∧ MK s (fun v => SubX k m t r e x v) ν ν2 := by
    intro ν3 N h1 h2 h3 h4
    have hW3 := WC_keep (Nat.le_refl m) hW h1
    obtain ⟨ν4, q1, q2, q3, q4⟩ := c_choose (by omega) (by omega) hr hv hW3 h2
    have k4 : ∀ q j, ¬ fw m q j → gi ν4 q j = gi ν q j := fun q j hq => by rw [q3 q j (by unfold fw at hq; omega), h1 q j hq]
    unfold Rw_walk_77
    rw [q1, Option.bind_some]
    simp only []
    cases hn : nxv r e x with
    | none =>
      refine ⟨ν4, by rfl, k4, MK_tr h3 (MK_gl q4) (fun v => ?_)⟩
      constructor
      · rintro ⟨y, y1, y2, y3, y4, y5⟩
        by_cases z : y = x
        · subst z; exact Or.inl ((h4 v).mpr ⟨y4, y5⟩)
        · exact absurd y3 (nxv_none hn y (by omega) y2)
      · rintro (q | q)
        · obtain ⟨z1, z2⟩ := (h4 v).mp q
          exact ⟨x, by omega, by omega, hv, z1, z2⟩
        · exact q.elim
    | some y =>
      obtain ⟨y1, y2, y3, y4⟩ := nxv_some hn
      obtain ⟨ν5, t1, t2, t3⟩ := ih (80 - y) (by omega) f (i + 1) y ν4 (by omega) (by omega) (by omega) y3 (WC_keep (Nat.le_refl m) hW k4) (q2 y hn) (BG_keep hB k4)
      refine ⟨ν5, ?_, fun q j hq => by rw [t2 q j hq, k4 q j hq], MK_tr (MK_tr h3 (MK_gl q4) (N3 := N) (fun v => ⟨fun z => Or.inl z, fun z => z.elim id False.elim⟩)) t3 (fun v => ?_)⟩
      · rw [show (some y : Option Nat).isSome = true from rfl, if_pos (by rw [b2iT]; exact id), show nI i + 1 = nI (i + 1) from nI_add i 1]
        exact t1
      · constructor
        · rintro ⟨z, z1, z2, z3, z4, z5⟩
          by_cases q : z = x
          · subst q; exact Or.inl ((h4 v).mpr ⟨z4, z5⟩)
          · refine Or.inr ⟨z, ?_, z2, z3, z4, z5⟩
            apply Nat.le_of_not_lt
            intro q2
            exact y4 z (by omega) q2 z3
        · rintro (q | ⟨z, z1, z2, z3⟩)
          · obtain ⟨w1, w2⟩ := (h4 v).mp q
            exact ⟨x, by omega, by omega, hv, w1, w2⟩
          · exact ⟨z, by omega, z2, z3⟩
  rw [Rw_walk_41, if_neg (by rw [show (81 : Int32) = nI 81 from rfl, nI_le' (by omega) (by omega)]; omega), p1, Option.bind_some]
  simp only []
  by_cases hb0 : byA r e x = 0
  · rw [decide_eq_false (by simp [hb0]), if_pos (by rw [b2iF]; exact True.intro)]
    exact tail ν1 (fun _ => False) k1 (fun c hc => by rw [p3 _ _ (by omega) (by omega)]; exact hC c hc) (MK_gl p4) (fun v => ⟨False.elim, fun q => q.1 hb0⟩)
  · rw [decide_eq_true hb0, if_neg (by rw [b2iT]; exact id), e1]
    have ht1 := TI_n ht hby
    obtain ⟨ν2, a1, a2, a3⟩ := c_arriveM hs (show m + 1 ≤ 4 by omega) ht1 (TI_lt ht hb0) (m + 1) FU 0 ν1 (by omega) (by unfold FU; omega) p2.2 (BG_keep hB k1)
    have a1' : Rw_arrive (nI (m + 1)) ν1 = some (false, ν2) := a1
    rw [a1', Option.bind_some]
    simp only []
    rw [if_neg (by rw [b2iF]; simp)]
    have k2 : ∀ q j, ¬ fw m q j → gi ν2 q j = gi ν q j := fun q j hq => by rw [a2, k1 q j hq]
    obtain ⟨ν3, w1, w2, w3⟩ := hrec (m + 1) _ _ _ ν2 (by omega) (RI_n hr hv) ht1 ⟨fun c hc => by rw [a2, a2]; exact p2.1 c hc, fun i hi => by rw [a2]; exact p2.2 i hi⟩ (BG_keep hB k2)
    rw [w1, Option.bind_some]
    simp only []
    rw [if_pos (by rw [b2iF]; exact True.intro)]
    refine tail ν3 (fun v => (∃ i, i ≤ m ∧ upn t (m + 1) (t m + byA r e x) (m + 1) - upn t (m + 1) (t m + byA r e x) i = v) ∨ Sub k (m + 1) (upn t (m + 1) (t m + byA r e x)) (nr r e x) (ne r e x) v) (fun q j hq => by rw [w2 q j (fun z => hq (fw_mono z)), k2 q j hq]) (fun c hc => ?_) (MK_tr (MK_tr (MK_gl p4) a3 (N3 := fun v => ∃ i, i ≤ m ∧ upn t (m + 1) (t m + byA r e x) (m + 1) - upn t (m + 1) (t m + byA r e x) i = v) (fun v => ?_)) w3 (fun v => Iff.rfl)) (fun v => ⟨fun q => ⟨hb0, q⟩, fun q => q.2⟩)
    · rw [w2 _ _ (by unfold fw; omega), a2, p3 _ _ (by omega) (by omega)]; exact hC c hc
    · constructor
      · rintro ⟨j, j1, j2⟩; exact Or.inr ⟨j, by omega, by omega, j2⟩
      · rintro (q | ⟨j, j1, j2, j3⟩)
        · exact q.elim
        · exact ⟨j, by omega, j3⟩
theorem c_wk17 {rc : Nat → Int32 → Nm → Option (Bool × Nm)} {m : Nat} (hm : m ≤ 3) : ∀ (k f i : Nat) (ν : Nm), i + k = 4 → k < f → ∃ ν2, Rw_walk_17 rc f (nI m) (nI i) ν = Rw_walk_41 rc FU (nI m) 0 ν2 ∧ (∀ c, i ≤ c → c < 4 → gi ν2 280 (4 * m + c) = nI 0) ∧ (∀ q j, ¬ (q = 280 ∧ 4 * m + i ≤ j) → gi ν2 q j = gi ν q j) ∧ ∀ q j, gl ν2 q j = gl ν q j := by
  intro k
  induction k with
  | zero =>
    intro f i ν hi hf
    obtain ⟨f, rfl⟩ := fsucc hf
    exact ⟨ν, by rw [Rw_walk_17, if_pos (by rw [show (4 : Int32) = nI 4 from rfl, nI_le' (by omega) (by omega)]; omega)], fun c _ _ => by omega, fun _ _ _ => rfl, fun _ _ => rfl⟩
  | succ k ih =>
    intro f i ν hi hf
    obtain ⟨f, rfl⟩ := fsucc hf
    obtain ⟨ν2, p1, p2, p3, p4⟩ := ih f (i + 1) (si ν 280 (4 * m + i) 0) (by omega) (by omega)
    refine ⟨ν2, ?_, fun c c1 c2 => ?_, fun q j hq => by rw [p3 q j (by omega), gi_si, if_neg (by omega)], fun q j => by rw [p4, gl_si]⟩
    · rw [Rw_walk_17, if_neg (by rw [show (4 : Int32) = nI 4 from rfl, nI_le' (by omega) (by omega)]; omega), show nI m * 4 = nI (4 * m) by rw [Nat.mul_comm]; exact nI_mul m 4, nI_add, inb_nI (by omega), nI_clamp (by omega), if_pos (by simp; omega), show nI i + 1 = nI (i + 1) from nI_add i 1]
      exact p1
    · by_cases z : c = i
      · subst z; rw [p3 _ _ (by omega), gi_si_s]; rfl
      · exact p2 c (by omega) c2
theorem vl_0 (r e : Nat → Nat) : vl r e 0 = true := vl_t.mpr (fun c hc => by rcases c4 hc with rfl | rfl | rfl | rfl <;> exact Nat.zero_le _)
theorem dg_0 {c : Nat} (hc : c < 4) : dg 0 c = 0 := by rcases c4 hc with rfl | rfl | rfl | rfl <;> rfl
theorem c_walkM {s : Nat} (hs : s < 16) : ∀ (k f : Nat), k < f → WkM s k f := by
  intro k
  induction k with
  | zero =>
    intro f hf m t r e ν hm hr ht hW hB
    obtain ⟨f, rfl⟩ := fsucc hf
    refine ⟨ν, ?_, fun _ _ _ => rfl, MK_rfl s ν⟩
    show Rw_walk (G_wk f) (nI m) ν = _
    unfold Rw_walk
    rw [hB.2.2, if_pos (by rw [nI_le' (by omega) (by omega)]; omega)]
  | succ k ih =>
    intro f hf m t r e ν hm hr ht hW hB
    obtain ⟨f, rfl⟩ := fsucc hf
    obtain ⟨ν1, p1, p2, p3, p4⟩ := c_wk17 (rc := G_wk f) (m := m) (by omega) 4 FU 0 ν (by omega) (by unfold FU; omega)
    have k1 : ∀ q j, ¬ fw m q j → gi ν1 q j = gi ν q j := fun q j hq => p3 q j (by unfold fw at hq; omega)
    obtain ⟨ν2, q1, q2, q3⟩ := c_wk41 hs (ih f (by omega)) (m := m) (by omega) hr ht 80 FU 0 0 ν1 (by omega) (by unfold FU; omega) (Nat.le_refl _) (vl_0 r e) (WC_keep (Nat.le_refl m) hW k1) (fun c hc => by rw [p2 c (by omega) hc, dg_0 hc]) (BG_keep hB k1)
    refine ⟨ν2, ?_, fun q j hq => by rw [q2 q j hq, k1 q j hq], MK_tr (MK_gl p4) q3 (fun v => ?_)⟩
    · show Rw_walk (G_wk f) (nI m) ν = _
      unfold Rw_walk
      rw [hB.2.2, if_neg (by rw [nI_le' (by omega) (by omega)]; omega), if_pos (by rw [show (4 : Int32) = nI 4 from rfl, nI_lt' (by omega) (by omega)]; omega)]
      exact p1.trans q1
    · rw [Sub_X]
      exact ⟨fun z => Or.inr z, fun z => z.elim False.elim id⟩
