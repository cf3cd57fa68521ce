/-! The model works out a law. -/
def nv : List (Bool × Int64) → Nat
  | [] => 0
  | x :: g => (if x.1 then 1 else 0) + nv g
def nt : List (Bool × Int64) → Nat
  | [] => 0
  | x :: g => (if x.1 then 0 else 1) + nt g
theorem nvt (g : List (Bool × Int64)) : nv g + nt g = g.length := by
  induction g with
  | nil => rfl
  | cons x g ih =>
    show (if x.1 = true then 1 else 0) + nv g + ((if x.1 = true then 0 else 1) + nt g) = g.length + 1
    split <;> omega
/-- the model's values (320) and truths (321) hold g -/
def MS : List (Bool × Int64) → Nm → Prop
  | [], _ => True
  | x :: g, ν => (x.1 = true → gl ν 320 (nv g) = x.2) ∧ (x.1 = false → gi ν 321 (nt g) = x.2.toInt32) ∧ MS g ν
theorem MS_sl {ν : Nm} : ∀ {g : List (Bool × Int64)} {k : Nat} (v : Int64), MS g ν → nv g ≤ k → MS g (sl ν 320 k v) := by
  intro g
  induction g with
  | nil => intro _ _ _ _; exact True.intro
  | cons x g ih =>
    intro k v h hk
    have hk' : (if x.1 = true then 1 else 0) + nv g ≤ k := hk
    refine ⟨fun e => ?_, fun e => by rw [gi_sl]; exact h.2.1 e, ih v h.2.2 (by omega)⟩
    rw [if_pos e] at hk'
    rw [gl_sl, if_neg (by omega)]
    exact h.1 e
theorem MS_si {ν : Nm} : ∀ {g : List (Bool × Int64)} {k : Nat} (v : Int32), MS g ν → nt g ≤ k → MS g (si ν 321 k v) := by
  intro g
  induction g with
  | nil => intro _ _ _ _; exact True.intro
  | cons x g ih =>
    intro k v h hk
    have hk' : (if x.1 = true then 0 else 1) + nt g ≤ k := hk
    refine ⟨fun e => by rw [gl_si]; exact h.1 e, fun e => ?_, ih v h.2.2 (by omega)⟩
    rw [if_neg (by rw [e]; simp)] at hk'
    rw [gi_si_j _ _ _ (by omega)]
    exact h.2.1 e
/-- what the model looks at while it works a law out: C where the code begins, x the clause -/
def ME (a : Nat → Nat) (c s C x b e : Nat) (K : Nat → Nat × Nat) (ν0 ν : Nm) : Prop := M1 a ν0 ν ∧ (∀ i, b ≤ i → i < e → (K i).1 = 1 → gi ν 319 (K i).2 = nI (nmV a c s (K i).2)) ∧ (∀ i, b ≤ i → i < e → gi ν 316 (C + 2 * i) = nI (K i).1 ∧ gi ν 316 (C + 2 * i + 1) = nI (K i).2) ∧ gi ν 316 (x + 2) = nI e
theorem ME_sl {a : Nat → Nat} {c s C x b e : Nat} {K : Nat → Nat × Nat} {ν0 ν : Nm} (h : ME a c s C x b e K ν0 ν) (k : Nat) (v : Int64) : ME a c s C x b e K ν0 (sl ν 320 k v) := by
  obtain ⟨h1, h2, h3, h4⟩ := h
  exact ⟨⟨MX_keep h1.1 (fun j => rfl), Fr_sl h1.2 _ (Or.inr (Or.inr (by omega)))⟩, h2, h3, h4⟩
theorem ME_si {a : Nat → Nat} {c s C x b e : Nat} {K : Nat → Nat × Nat} {ν0 ν : Nm} (h : ME a c s C x b e K ν0 ν) (k : Nat) (v : Int32) : ME a c s C x b e K ν0 (si ν 321 k v) := by
  obtain ⟨h1, h2, h3, h4⟩ := h
  refine ⟨⟨MX_keep h1.1 (fun j => gi_si_q _ _ _ _ (by omega)), Fr_si h1.2 _ (Or.inr (Or.inr (by omega)))⟩, fun i i1 i2 i3 => ?_, fun i i1 i2 => ⟨?_, ?_⟩, ?_⟩
  · rw [gi_si_q _ _ _ _ (by omega)]; exact h2 i i1 i2 i3
  · rw [gi_si_q _ _ _ _ (by omega)]; exact (h3 i i1 i2).1
  · rw [gi_si_q _ _ _ _ (by omega)]; exact (h3 i i1 i2).2
  · rw [gi_si_q _ _ _ _ (by omega)]; exact h4
theorem nI_an {n k : Nat} (h : k ≤ n) : nI n + -(nI k) = nI (n - k) := by rw [← Int32.sub_eq_add_neg, nI_sub h]
theorem m_outOf {a : Nat → Nat} {ν0 ν : Nm} (h : M1 a ν0 ν) (hw : WF a) (x : Int64) : Md_outOf ν x = some (b2l (outF a x)) := by
  have hb := wb hw
  unfold Md_outOf outF
  simp only [lg_lt, lg_ge, l0, mr h (show 0 < 1385 by omega) (by omega), nI_lq (show a 0 < 2 ^ 31 by omega), lq_int (show a 0 < 2 ^ 63 by omega)]
  by_cases h1 : x.toInt < 0
  · rw [if_pos h1, decide_eq_false (by omega)]; rfl
  · rw [if_neg h1]
    by_cases h2 : (a 0 : Int) ≤ x.toInt
    · rw [if_pos h2, decide_eq_false (by omega)]; rfl
    · have hn : x.toInt.toNat < 4 := by omega
      rw [if_neg h2, rng_nat (by omega) (by omega), m_isOut h hw hn, Option.bind_some, b2l_out]
      congr 2
      by_cases e : a (12 + 2 * x.toInt.toNat) = 0
      · rw [decide_eq_true e, decide_eq_true (by omega)]
      · rw [decide_eq_false e, decide_eq_false (by omega)]
theorem m_ofOne {a : Nat → Nat} {ν0 ν : Nm} (h : M1 a ν0 ν) (hw : WF a) {o : Nat} (ho : o = 2 ∨ o = 4 ∨ o = 5) {x : Int64} (hx : rng x) : Md_ofOne ν (nI o) x = some (unV (outF a) o x) := by
  unfold Md_ofOne
  rcases ho with rfl | rfl | rfl
  · rw [if_pos (by decide), if_pos (by decide), m_outOf h hw, Option.bind_some]; rfl
  · rw [if_pos (by decide), if_neg (by decide), (twos_eq hx).1, Option.bind_some]; rfl
  · rw [if_neg (by decide)]; rfl
theorem m_two {o : Nat} (ho : 6 ≤ o ∧ o ≤ 9) (x y : Int64) : Md_two (nI o) x y = some (biV o x y) := by
  unfold Md_two
  rcases (show o = 6 ∨ o = 7 ∨ o = 8 ∨ o = 9 by omega) with rfl | rfl | rfl | rfl
  · rw [if_pos (by decide), clip_eq, Option.bind_some]; unfold biV; rw [if_pos rfl]
  · rw [if_neg (by decide), if_pos (by decide), clip_eq, Option.bind_some]; unfold biV; rw [if_neg (by decide), if_pos rfl]
  · rw [if_neg (by decide), if_neg (by decide), if_pos (by decide), clip_eq, Option.bind_some]; unfold biV; rw [if_neg (by decide), if_neg (by decide), if_pos rfl]
  · rw [if_neg (by decide), if_neg (by decide), if_neg (by decide)]
    unfold biV
    rw [if_neg (show ¬ (9 : Nat) = 6 by decide), if_neg (show ¬ (9 : Nat) = 7 by decide), if_neg (show ¬ (9 : Nat) = 8 by decide), if_pos (show (9 : Nat) = 9 from rfl)]
    simp only [lg_eq]
    by_cases e : y = 0
    · rw [if_neg (by simp [e]), if_pos e]
    · rw [if_pos e, if_neg e, if_neg e, clip_eq, Option.bind_some]
theorem m_asked {o : Nat} (ho : 10 ≤ o ∧ o ≤ 15) (x y : Int64) : ∃ q, Md_isAsked (nI o) x y = some q ∧ biV o x y = b2l q := by
  unfold Md_isAsked
  rcases (show o = 10 ∨ o = 11 ∨ o = 12 ∨ o = 13 ∨ o = 14 ∨ o = 15 by omega) with rfl | rfl | rfl | rfl | rfl | rfl
  · refine ⟨_, ?_, rfl⟩
    rw [if_neg (by decide)]
    exact someb (by rw [lg_ge]; omega)
  · refine ⟨_, ?_, rfl⟩
    rw [if_pos (by decide), if_neg (by decide)]
    exact someb (by rw [lg_gt]; omega)
  · refine ⟨_, ?_, rfl⟩
    rw [if_pos (by decide), if_pos (by decide), if_neg (by decide)]
    exact someb (by rw [lg_le]; omega)
  · refine ⟨_, ?_, rfl⟩
    rw [if_pos (by decide), if_pos (by decide), if_pos (by decide), if_neg (by decide)]
    exact someb (by rw [lg_lt]; omega)
  · refine ⟨_, ?_, rfl⟩
    rw [if_pos (by decide), if_pos (by decide), if_pos (by decide), if_pos (by decide), if_neg (by decide)]
    exact someb (by rw [lg_eq]; exact Decidable.not_not.symm)
  · refine ⟨_, ?_, rfl⟩
    rw [if_pos (by decide), if_pos (by decide), if_pos (by decide), if_pos (by decide), if_pos (by decide)]
    exact someb (by rw [lg_eq])
theorem tru_i {x : Int64} (h : x = 0 ∨ x = 1) : (x.toInt32 = 0) = (x = 0) := by
  rcases h with rfl | rfl <;> simp <;> decide
theorem m_joined {o : Nat} (ho : o = 21 ∨ o = 22) {x y : Int64} (hx : x = 0 ∨ x = 1) (hy : y = 0 ∨ y = 1) : ∃ q, Md_joined (nI o) x.toInt32 y.toInt32 = some q ∧ biV o x y = b2l q := by
  unfold Md_joined
  simp only [tru_i hx, tru_i hy]
  rcases ho with rfl | rfl
  · rw [if_neg (by decide)]
    rcases hx with rfl | rfl <;> rcases hy with rfl | rfl <;> exact ⟨_, rfl, rfl⟩
  · rw [if_pos (by decide)]
    rcases hx with rfl | rfl <;> rcases hy with rfl | rfl <;> exact ⟨_, rfl, rfl⟩
theorem b2l_i (b : Bool) : b2i b = (b2l b).toInt32 := by cases b <;> rfl
theorem m_op {a : Nat → Nat} {c s C x b e : Nat} {K : Nat → Nat × Nat} {ν0 ν : Nm} (h : ME a c s C x b e K ν0 ν) (hw : WF a) (hc : c < 4) (hs : s < 2) {i : Nat} (hb : b ≤ i) (he : i < e) (h300 : e ≤ 295) (hC : C + 2 * 295 < 2724) (hx : x + 2 < 2724) {g : List (Bool × Int64)} (hg : GO g) (hn : g.length ≤ i) (hms : MS g ν) {u : List Bool} (hty : tyE (K i) (g.map Prod.fst) = some u) (f : Nat) : ∃ ν2, Md_summedUp_38 (f + 1) (nI x) (nI C) (nI (nv g)) (nI (nt g)) (nI i) ν = Md_summedUp_38 f (nI x) (nI C) (nI (nv (opE (nE a c s) (outF a) (K i) g))) (nI (nt (opE (nE a c s) (outF a) (K i) g))) (nI (i + 1)) ν2 ∧ ME a c s C x b e K ν0 ν2 ∧ MS (opE (nE a c s) (outF a) (K i) g) ν2 := by
  obtain ⟨hO, hV⟩ := h.2.2.1 i hb he
  have hE := h.2.2.2
  have hvt := nvt g
  have hv := nmV_le hw (v := (K i).2) hc hs
  rcases ty_cases hty with ⟨h1, h2, rfl⟩ | ⟨h1, h2, rfl⟩ | ⟨h1, r, h2, rfl⟩ | ⟨h1, r, h2, rfl⟩ | ⟨h1, r, h2, rfl⟩ | ⟨h1, r, h2, rfl⟩ | ⟨h1, r, h2, rfl⟩ | ⟨h1, r, h2, rfl⟩
  · have eo : opE (nE a c s) (outF a) (K i) g = (true, lq (K i).2) :: g := by unfold opE; rw [if_pos h1]
    rw [eo]
    have c1 : (nI 1 < nI (K i).1) = False := by
      show (nI 1 < nI (K i).1) = False
      first | rw [nI_lt' (by omega) (by omega)] | rw [nI_le' (by omega) (by omega)] | rw [nI_eq' (by omega) (by omega)]
      exact eq_false (by omega)
    have c0 : (nI (K i).1 = (0 : Int32)) = True := by
      show (nI (K i).1 = nI 0) = True
      first | rw [nI_lt' (by omega) (by omega)] | rw [nI_le' (by omega) (by omega)] | rw [nI_eq' (by omega) (by omega)]
      exact eq_true (by omega)
    rw [Md_summedUp_38, show (2 : Int32) = nI 2 from rfl, nI_add, inb_nI (show x + 2 < 2 ^ 31 by omega), nI_clamp (show x + 2 < 2 ^ 31 by omega), if_pos (by simp; omega), hE, if_neg (by rw [nI_le' (by omega) (by omega)]; omega), nI_mul, nI_add, inb_nI (show C + 2 * i < 2 ^ 31 by omega), nI_clamp (show C + 2 * i < 2 ^ 31 by omega), if_pos (by simp; omega), show (1 : Int32) = nI 1 from rfl, nI_add (C + 2 * i) 1, inb_nI (show C + 2 * i + 1 < 2 ^ 31 by omega), nI_clamp (show C + 2 * i + 1 < 2 ^ 31 by omega), if_pos (by simp; omega), hO, hV]
    simp only [c1, c0, if_true, if_false, not_true_eq_false, not_false_eq_true]
    unfold Md_summedUp_112 Md_summedUp_349
    rw [inb_nI (by omega), nI_clamp (by omega), if_pos (by simp; omega), show (1 : Int32) = nI 1 from rfl, nI_add, nI_add, nI_lq (by omega)]
    refine ⟨_, ?_, ME_sl h (nv g) (lq (K i).2), fun _ => ?_, fun z => (by cases z), MS_sl _ hms (Nat.le_refl _)⟩
    · show _ = Md_summedUp_38 f (nI x) (nI C) (nI (1 + nv g)) (nI (0 + nt g)) (nI (i + 1)) _
      rw [Nat.add_comm 1, Nat.zero_add]
    · rw [gl_sl, if_pos ⟨rfl, rfl⟩]
  · have eo : opE (nE a c s) (outF a) (K i) g = (true, nE a c s (K i).2) :: g := by unfold opE; rw [if_neg (by omega), if_pos h1]
    rw [eo]
    have c1 : (nI 1 < nI (K i).1) = False := by
      show (nI 1 < nI (K i).1) = False
      first | rw [nI_lt' (by omega) (by omega)] | rw [nI_le' (by omega) (by omega)] | rw [nI_eq' (by omega) (by omega)]
      exact eq_false (by omega)
    have c0 : (nI (K i).1 = (0 : Int32)) = False := by
      show (nI (K i).1 = nI 0) = False
      first | rw [nI_lt' (by omega) (by omega)] | rw [nI_le' (by omega) (by omega)] | rw [nI_eq' (by omega) (by omega)]
      exact eq_false (by omega)
    rw [Md_summedUp_38, show (2 : Int32) = nI 2 from rfl, nI_add, inb_nI (show x + 2 < 2 ^ 31 by omega), nI_clamp (show x + 2 < 2 ^ 31 by omega), if_pos (by simp; omega), hE, if_neg (by rw [nI_le' (by omega) (by omega)]; omega), nI_mul, nI_add, inb_nI (show C + 2 * i < 2 ^ 31 by omega), nI_clamp (show C + 2 * i < 2 ^ 31 by omega), if_pos (by simp; omega), show (1 : Int32) = nI 1 from rfl, nI_add (C + 2 * i) 1, inb_nI (show C + 2 * i + 1 < 2 ^ 31 by omega), nI_clamp (show C + 2 * i + 1 < 2 ^ 31 by omega), if_pos (by simp; omega), hO, hV]
    simp only [c1, c0, if_true, if_false, not_true_eq_false, not_false_eq_true]
    rw [inb_nI (by omega), if_pos (by simp; omega), nI_clamp (by omega), h.2.1 i hb he h1]
    unfold Md_summedUp_112 Md_summedUp_349
    rw [inb_nI (by omega), nI_clamp (by omega), if_pos (by simp; omega), show (1 : Int32) = nI 1 from rfl, nI_add, nI_add, nI_lq (by omega)]
    refine ⟨_, ?_, ME_sl h (nv g) (nE a c s (K i).2), fun _ => ?_, fun z => (by cases z), MS_sl _ hms (Nat.le_refl _)⟩
    · show _ = Md_summedUp_38 f (nI x) (nI C) (nI (1 + nv g)) (nI (0 + nt g)) (nI (i + 1)) _
      rw [Nat.add_comm 1, Nat.zero_add]; rfl
    · rw [gl_sl, if_pos ⟨rfl, rfl⟩]
  · obtain ⟨z, g1, rfl, e1⟩ := gmap1 h2
    obtain ⟨y, g2, rfl, e2⟩ := gmap1 e1
    obtain ⟨w, g3, rfl, e3⟩ := gmap1 e2
    have eo : opE (nE a c s) (outF a) (K i) ((true, z) :: (true, y) :: (false, w) :: g3) = (true, if w = 0 then z else y) :: g3 := by unfold opE; rw [if_neg (by omega), if_neg (by omega), if_pos h1]
    rw [eo]
    have tw := (hg (false, w) (by simp)).2 rfl
    obtain ⟨s1, -, s2, -, -, s3, s4⟩ := hms
    have s1' : gl ν 320 (nv g3 + 1) = z := by
      have q := s1 rfl
      have q2 : nv ((true, y) :: (false, w) :: g3) = nv g3 + 1 := by show 1 + (0 + nv g3) = _; omega
      rw [q2] at q; exact q
    have s2' : gl ν 320 (nv g3) = y := by
      have q := s2 rfl
      have q2 : nv ((false, w) :: g3) = nv g3 := by show 0 + nv g3 = _; omega
      rw [q2] at q; exact q
    have s3' : gi ν 321 (nt g3) = w.toInt32 := s3 rfl
    have n1 : nv ((true, z) :: (true, y) :: (false, w) :: g3) = nv g3 + 2 := by show 1 + (1 + (0 + nv g3)) = _; omega
    have n2 : nt ((true, z) :: (true, y) :: (false, w) :: g3) = nt g3 + 1 := by show 0 + (0 + (1 + nt g3)) = _; omega
    have n3 : nv ((true, if w = 0 then z else y) :: g3) = nv g3 + 1 := by show 1 + nv g3 = _; omega
    have n4 : nt ((true, if w = 0 then z else y) :: g3) = nt g3 := by show 0 + nt g3 = _; omega
    simp only [List.length_cons] at hn hvt
    rw [n1, n2] at hvt
    rw [n1, n2, n3, n4]
    have c1 : (nI 1 < nI (K i).1) = True := by
      show (nI 1 < nI (K i).1) = True
      first | rw [nI_lt' (by omega) (by omega)] | rw [nI_le' (by omega) (by omega)] | rw [nI_eq' (by omega) (by omega)]
      exact eq_true (by omega)
    have c3 : (nI (K i).1 = (3 : Int32)) = True := by
      show (nI (K i).1 = nI 3) = True
      first | rw [nI_lt' (by omega) (by omega)] | rw [nI_le' (by omega) (by omega)] | rw [nI_eq' (by omega) (by omega)]
      exact eq_true (by omega)
    rw [Md_summedUp_38, show (2 : Int32) = nI 2 from rfl, nI_add, inb_nI (show x + 2 < 2 ^ 31 by omega), nI_clamp (show x + 2 < 2 ^ 31 by omega), if_pos (by simp; omega), hE, if_neg (by rw [nI_le' (by omega) (by omega)]; omega), nI_mul, nI_add, inb_nI (show C + 2 * i < 2 ^ 31 by omega), nI_clamp (show C + 2 * i < 2 ^ 31 by omega), if_pos (by simp; omega), show (1 : Int32) = nI 1 from rfl, nI_add (C + 2 * i) 1, inb_nI (show C + 2 * i + 1 < 2 ^ 31 by omega), nI_clamp (show C + 2 * i + 1 < 2 ^ 31 by omega), if_pos (by simp; omega), hO, hV]
    simp only [c1, c3, if_true, if_false, not_true_eq_false, not_false_eq_true]
    rw [nI_an (show 1 ≤ nt g3 + 1 by omega), nI_an (show 1 ≤ nv g3 + 2 by omega), nI_sub (show 1 ≤ nv g3 + 2 - 1 by omega), show nt g3 + 1 - 1 = nt g3 by omega, show nv g3 + 2 - 1 = nv g3 + 1 by omega, show nv g3 + 1 - 1 = nv g3 by omega, inb_nI (by omega), inb_nI (by omega), inb_nI (by omega), nI_clamp (by omega), nI_clamp (by omega), nI_clamp (by omega), if_pos (by simp; omega), s3', s1']
    unfold Md_summedUp_349
    rw [show (1 : Int32) = nI 1 from rfl, nI_add]
    by_cases q : w = 0
    · have q' : ¬ ¬ w.toInt32 = 0 := by rw [tru_i tw]; simp [q]
      rw [if_neg q', if_pos (by simp; omega), if_pos (by simp; omega), if_pos q]
      exact ⟨_, rfl, ME_sl h _ _, fun _ => by rw [gl_sl, if_pos ⟨rfl, rfl⟩], fun z => (by cases z), MS_sl _ s4 (Nat.le_refl _)⟩
    · have q' : ¬ w.toInt32 = 0 := by rw [tru_i tw]; exact q
      rw [if_pos q', if_neg q]
      exact ⟨_, rfl, h, fun _ => s2', fun z => (by cases z), s4⟩
  · obtain ⟨z, g1, rfl, e1⟩ := gmap1 h2
    have eo : opE (nE a c s) (outF a) (K i) ((true, z) :: g1) = (true, unV (outF a) (K i).1 z) :: g1 := by unfold opE; rw [if_neg (by omega), if_neg (by omega), if_neg (by omega), if_pos (by omega)]
    rw [eo]
    obtain ⟨s1, -, s4⟩ := hms
    have s1' : gl ν 320 (nv g1) = z := s1 rfl
    have rz := (hg (true, z) (by simp)).1
    have n1 : nv ((true, z) :: g1) = nv g1 + 1 := by show 1 + nv g1 = _; omega
    have n2 : nt ((true, z) :: g1) = nt g1 := by show 0 + nt g1 = _; omega
    have n3 : nv ((true, unV (outF a) (K i).1 z) :: g1) = nv g1 + 1 := by show 1 + nv g1 = _; omega
    have n4 : nt ((true, unV (outF a) (K i).1 z) :: g1) = nt g1 := by show 0 + nt g1 = _; omega
    simp only [List.length_cons] at hn hvt
    rw [n1, n2] at hvt
    rw [n1, n2, n3, n4]
    have c1 : (nI 1 < nI (K i).1) = True := by
      show (nI 1 < nI (K i).1) = True
      first | rw [nI_lt' (by omega) (by omega)] | rw [nI_le' (by omega) (by omega)] | rw [nI_eq' (by omega) (by omega)]
      exact eq_true (by omega)
    have c3 : (nI (K i).1 = (3 : Int32)) = False := by
      show (nI (K i).1 = nI 3) = False
      first | rw [nI_lt' (by omega) (by omega)] | rw [nI_le' (by omega) (by omega)] | rw [nI_eq' (by omega) (by omega)]
      exact eq_false (by omega)
    have c5 : ((5 : Int32) < nI (K i).1) = False := by
      show (nI 5 < nI (K i).1) = False
      first | rw [nI_lt' (by omega) (by omega)] | rw [nI_le' (by omega) (by omega)] | rw [nI_eq' (by omega) (by omega)]
      exact eq_false (by omega)
    rw [Md_summedUp_38, show (2 : Int32) = nI 2 from rfl, nI_add, inb_nI (show x + 2 < 2 ^ 31 by omega), nI_clamp (show x + 2 < 2 ^ 31 by omega), if_pos (by simp; omega), hE, if_neg (by rw [nI_le' (by omega) (by omega)]; omega), nI_mul, nI_add, inb_nI (show C + 2 * i < 2 ^ 31 by omega), nI_clamp (show C + 2 * i < 2 ^ 31 by omega), if_pos (by simp; omega), show (1 : Int32) = nI 1 from rfl, nI_add (C + 2 * i) 1, inb_nI (show C + 2 * i + 1 < 2 ^ 31 by omega), nI_clamp (show C + 2 * i + 1 < 2 ^ 31 by omega), if_pos (by simp; omega), hO, hV]
    simp only [c1, c3, c5, if_true, if_false, not_true_eq_false, not_false_eq_true]
    rw [nI_sub (show 1 ≤ nv g1 + 1 by omega), show nv g1 + 1 - 1 = nv g1 by omega, inb_nI (by omega), nI_clamp (by omega), if_pos (by simp; omega), s1', m_ofOne h.1 hw (by omega) rz, Option.bind_some, if_pos (by simp; omega)]
    unfold Md_summedUp_349
    rw [show (1 : Int32) = nI 1 from rfl, nI_add]
    exact ⟨_, rfl, ME_sl h _ _, fun _ => by rw [gl_sl, if_pos ⟨rfl, rfl⟩], fun z => (by cases z), MS_sl _ s4 (Nat.le_refl _)⟩
  · obtain ⟨z, g1, rfl, e1⟩ := gmap1 h2
    obtain ⟨y, g2, rfl, e2⟩ := gmap1 e1
    have eo : opE (nE a c s) (outF a) (K i) ((true, z) :: (true, y) :: g2) = (true, biV (K i).1 y z) :: g2 := by unfold opE; rw [if_neg (by omega), if_neg (by omega), if_neg (by omega), if_neg (by omega)]; show (decide _, _) :: _ = _; rw [decide_eq_true h1.2]
    rw [eo]
    obtain ⟨s1, -, s2, -, s4⟩ := hms
    have s1' : gl ν 320 (nv g2 + 1) = z := by
      have q := s1 rfl
      have q2 : nv ((true, y) :: g2) = nv g2 + 1 := by show 1 + nv g2 = _; omega
      rw [q2] at q; exact q
    have s2' : gl ν 320 (nv g2) = y := s2 rfl
    have n1 : nv ((true, z) :: (true, y) :: g2) = nv g2 + 2 := by show 1 + (1 + nv g2) = _; omega
    have n2 : nt ((true, z) :: (true, y) :: g2) = nt g2 := by show 0 + (0 + nt g2) = _; omega
    have n3 : nv ((true, biV (K i).1 y z) :: g2) = nv g2 + 1 := by show 1 + nv g2 = _; omega
    have n4 : nt ((true, biV (K i).1 y z) :: g2) = nt g2 + 0 := by show 0 + nt g2 = _; omega
    simp only [List.length_cons] at hn hvt
    rw [n1, n2] at hvt
    rw [n1, n2, n3, n4]
    have c1 : (nI 1 < nI (K i).1) = True := by
      show (nI 1 < nI (K i).1) = True
      first | rw [nI_lt' (by omega) (by omega)] | rw [nI_le' (by omega) (by omega)] | rw [nI_eq' (by omega) (by omega)]
      exact eq_true (by omega)
    have c3 : (nI (K i).1 = (3 : Int32)) = False := by
      show (nI (K i).1 = nI 3) = False
      first | rw [nI_lt' (by omega) (by omega)] | rw [nI_le' (by omega) (by omega)] | rw [nI_eq' (by omega) (by omega)]
      exact eq_false (by omega)
    have c5 : ((5 : Int32) < nI (K i).1) = True := by
      show (nI 5 < nI (K i).1) = True
      first | rw [nI_lt' (by omega) (by omega)] | rw [nI_le' (by omega) (by omega)] | rw [nI_eq' (by omega) (by omega)]
      exact eq_true (by omega)
    have c10 : ((10 : Int32) ≤ nI (K i).1) = False := by
      show (nI 10 ≤ nI (K i).1) = False
      first | rw [nI_lt' (by omega) (by omega)] | rw [nI_le' (by omega) (by omega)] | rw [nI_eq' (by omega) (by omega)]
      exact eq_false (by omega)
    rw [Md_summedUp_38, show (2 : Int32) = nI 2 from rfl, nI_add, inb_nI (show x + 2 < 2 ^ 31 by omega), nI_clamp (show x + 2 < 2 ^ 31 by omega), if_pos (by simp; omega), hE, if_neg (by rw [nI_le' (by omega) (by omega)]; omega), nI_mul, nI_add, inb_nI (show C + 2 * i < 2 ^ 31 by omega), nI_clamp (show C + 2 * i < 2 ^ 31 by omega), if_pos (by simp; omega), show (1 : Int32) = nI 1 from rfl, nI_add (C + 2 * i) 1, inb_nI (show C + 2 * i + 1 < 2 ^ 31 by omega), nI_clamp (show C + 2 * i + 1 < 2 ^ 31 by omega), if_pos (by simp; omega), hO, hV]
    simp only [c1, c3, c5, c10, if_true, if_false, not_true_eq_false, not_false_eq_true]
    rw [nI_an (show 1 ≤ nv g2 + 2 by omega), nI_sub (show 1 ≤ nv g2 + 2 - 1 by omega), show nv g2 + 2 - 1 = nv g2 + 1 by omega, show nv g2 + 1 - 1 = nv g2 by omega, inb_nI (by omega), inb_nI (by omega), nI_clamp (by omega), nI_clamp (by omega), if_pos (by simp; omega), if_pos (by simp; omega), s1', s2', m_two h1, Option.bind_some, if_pos (by simp; omega)]
    unfold Md_summedUp_349
    rw [show (1 : Int32) = nI 1 from rfl, nI_add]
    exact ⟨_, rfl, ME_sl h _ _, fun _ => by rw [gl_sl, if_pos ⟨rfl, rfl⟩], fun z => (by cases z), MS_sl _ s4 (Nat.le_refl _)⟩
  · obtain ⟨z, g1, rfl, e1⟩ := gmap1 h2
    obtain ⟨y, g2, rfl, e2⟩ := gmap1 e1
    have eo : opE (nE a c s) (outF a) (K i) ((true, z) :: (true, y) :: g2) = (false, biV (K i).1 y z) :: g2 := by unfold opE; rw [if_neg (by omega), if_neg (by omega), if_neg (by omega), if_neg (by omega)]; show (decide _, _) :: _ = _; rw [decide_eq_false (by omega)]
    rw [eo]
    obtain ⟨s1, -, s2, -, s4⟩ := hms
    have s1' : gl ν 320 (nv g2 + 1) = z := by
      have q := s1 rfl
      have q2 : nv ((true, y) :: g2) = nv g2 + 1 := by show 1 + nv g2 = _; omega
      rw [q2] at q; exact q
    have s2' : gl ν 320 (nv g2) = y := s2 rfl
    have n1 : nv ((true, z) :: (true, y) :: g2) = nv g2 + 2 := by show 1 + (1 + nv g2) = _; omega
    have n2 : nt ((true, z) :: (true, y) :: g2) = nt g2 := by show 0 + (0 + nt g2) = _; omega
    have n3 : nv ((false, biV (K i).1 y z) :: g2) = nv g2 + 0 := by show 0 + nv g2 = _; omega
    have n4 : nt ((false, biV (K i).1 y z) :: g2) = nt g2 + 1 := by show 1 + nt g2 = _; omega
    simp only [List.length_cons] at hn hvt
    rw [n1, n2] at hvt
    rw [n1, n2, n3, n4]
    have c1 : (nI 1 < nI (K i).1) = True := by
      show (nI 1 < nI (K i).1) = True
      first | rw [nI_lt' (by omega) (by omega)] | rw [nI_le' (by omega) (by omega)] | rw [nI_eq' (by omega) (by omega)]
      exact eq_true (by omega)
    have c3 : (nI (K i).1 = (3 : Int32)) = False := by
      show (nI (K i).1 = nI 3) = False
      first | rw [nI_lt' (by omega) (by omega)] | rw [nI_le' (by omega) (by omega)] | rw [nI_eq' (by omega) (by omega)]
      exact eq_false (by omega)
    have c5 : ((5 : Int32) < nI (K i).1) = True := by
      show (nI 5 < nI (K i).1) = True
      first | rw [nI_lt' (by omega) (by omega)] | rw [nI_le' (by omega) (by omega)] | rw [nI_eq' (by omega) (by omega)]
      exact eq_true (by omega)
    have c10 : ((10 : Int32) ≤ nI (K i).1) = True := by
      show (nI 10 ≤ nI (K i).1) = True
      first | rw [nI_lt' (by omega) (by omega)] | rw [nI_le' (by omega) (by omega)] | rw [nI_eq' (by omega) (by omega)]
      exact eq_true (by omega)
    have c20 : ((20 : Int32) ≤ nI (K i).1) = False := by
      show (nI 20 ≤ nI (K i).1) = False
      first | rw [nI_lt' (by omega) (by omega)] | rw [nI_le' (by omega) (by omega)] | rw [nI_eq' (by omega) (by omega)]
      exact eq_false (by omega)
    rw [Md_summedUp_38, show (2 : Int32) = nI 2 from rfl, nI_add, inb_nI (show x + 2 < 2 ^ 31 by omega), nI_clamp (show x + 2 < 2 ^ 31 by omega), if_pos (by simp; omega), hE, if_neg (by rw [nI_le' (by omega) (by omega)]; omega), nI_mul, nI_add, inb_nI (show C + 2 * i < 2 ^ 31 by omega), nI_clamp (show C + 2 * i < 2 ^ 31 by omega), if_pos (by simp; omega), show (1 : Int32) = nI 1 from rfl, nI_add (C + 2 * i) 1, inb_nI (show C + 2 * i + 1 < 2 ^ 31 by omega), nI_clamp (show C + 2 * i + 1 < 2 ^ 31 by omega), if_pos (by simp; omega), hO, hV]
    simp only [c1, c3, c5, c10, c20, if_true, if_false, not_true_eq_false, not_false_eq_true]
    obtain ⟨q, r1, r2⟩ := m_asked h1 y z
    rw [nI_an (show 2 ≤ nv g2 + 2 by omega), nI_add, show nv g2 + 2 - 2 = nv g2 by omega, inb_nI (by omega), inb_nI (by omega), inb_nI (by omega), nI_clamp (by omega), nI_clamp (by omega), nI_clamp (by omega), if_pos (by simp; omega), if_pos (by simp; omega), s1', s2', r1, Option.bind_some, if_pos (by simp; omega)]
    unfold Md_summedUp_349
    rw [show (1 : Int32) = nI 1 from rfl, nI_add, nI_add, b2l_i, ← r2]
    exact ⟨_, rfl, ME_si h _ _, fun z => (by cases z), fun _ => gi_si_s _ _ _ _, MS_si _ s4 (Nat.le_refl _)⟩
  · obtain ⟨z, g1, rfl, e1⟩ := gmap1 h2
    have eo : opE (nE a c s) (outF a) (K i) ((false, z) :: g1) = (false, unV (outF a) (K i).1 z) :: g1 := by unfold opE; rw [if_neg (by omega), if_neg (by omega), if_neg (by omega), if_pos (by omega)]
    rw [eo]
    obtain ⟨-, s1, s4⟩ := hms
    have s1' : gi ν 321 (nt g1) = z.toInt32 := s1 rfl
    have tz := (hg (false, z) (by simp)).2 rfl
    have n1 : nv ((false, z) :: g1) = nv g1 := by show 0 + nv g1 = _; omega
    have n2 : nt ((false, z) :: g1) = nt g1 + 1 := by show 1 + nt g1 = _; omega
    have n3 : nv ((false, unV (outF a) (K i).1 z) :: g1) = nv g1 := by show 0 + nv g1 = _; omega
    have n4 : nt ((false, unV (outF a) (K i).1 z) :: g1) = nt g1 + 1 := by show 1 + nt g1 = _; omega
    have ev : unV (outF a) (K i).1 z = b2l (decide (z = 0)) := by unfold unV; rw [if_neg (by omega), if_neg (by omega), if_neg (by omega)]
    simp only [List.length_cons] at hn hvt
    rw [n1, n2] at hvt
    rw [n1, n2, n3, n4, ev]
    have c1 : (nI 1 < nI (K i).1) = True := by
      show (nI 1 < nI (K i).1) = True
      first | rw [nI_lt' (by omega) (by omega)] | rw [nI_le' (by omega) (by omega)] | rw [nI_eq' (by omega) (by omega)]
      exact eq_true (by omega)
    have c3 : (nI (K i).1 = (3 : Int32)) = False := by
      show (nI (K i).1 = nI 3) = False
      first | rw [nI_lt' (by omega) (by omega)] | rw [nI_le' (by omega) (by omega)] | rw [nI_eq' (by omega) (by omega)]
      exact eq_false (by omega)
    have c5 : ((5 : Int32) < nI (K i).1) = True := by
      show (nI 5 < nI (K i).1) = True
      first | rw [nI_lt' (by omega) (by omega)] | rw [nI_le' (by omega) (by omega)] | rw [nI_eq' (by omega) (by omega)]
      exact eq_true (by omega)
    have c10 : ((10 : Int32) ≤ nI (K i).1) = True := by
      show (nI 10 ≤ nI (K i).1) = True
      first | rw [nI_lt' (by omega) (by omega)] | rw [nI_le' (by omega) (by omega)] | rw [nI_eq' (by omega) (by omega)]
      exact eq_true (by omega)
    have c20 : ((20 : Int32) ≤ nI (K i).1) = True := by
      show (nI 20 ≤ nI (K i).1) = True
      first | rw [nI_lt' (by omega) (by omega)] | rw [nI_le' (by omega) (by omega)] | rw [nI_eq' (by omega) (by omega)]
      exact eq_true (by omega)
    have ce20 : (nI (K i).1 = (20 : Int32)) = True := by
      show (nI (K i).1 = nI 20) = True
      first | rw [nI_lt' (by omega) (by omega)] | rw [nI_le' (by omega) (by omega)] | rw [nI_eq' (by omega) (by omega)]
      exact eq_true (by omega)
    rw [Md_summedUp_38, show (2 : Int32) = nI 2 from rfl, nI_add, inb_nI (show x + 2 < 2 ^ 31 by omega), nI_clamp (show x + 2 < 2 ^ 31 by omega), if_pos (by simp; omega), hE, if_neg (by rw [nI_le' (by omega) (by omega)]; omega), nI_mul, nI_add, inb_nI (show C + 2 * i < 2 ^ 31 by omega), nI_clamp (show C + 2 * i < 2 ^ 31 by omega), if_pos (by simp; omega), show (1 : Int32) = nI 1 from rfl, nI_add (C + 2 * i) 1, inb_nI (show C + 2 * i + 1 < 2 ^ 31 by omega), nI_clamp (show C + 2 * i + 1 < 2 ^ 31 by omega), if_pos (by simp; omega), hO, hV]
    simp only [c1, c3, c5, c10, c20, ce20, if_true, if_false, not_true_eq_false, not_false_eq_true]
    rw [nI_sub (show 1 ≤ nt g1 + 1 by omega), show nt g1 + 1 - 1 = nt g1 by omega, inb_nI (by omega), nI_clamp (by omega), if_pos (by simp; omega), s1']
    by_cases q : z = 0
    · have q' : ¬ ¬ z.toInt32 = 0 := by rw [tru_i tz]; simp [q]
      rw [if_neg q']
      unfold Md_summedUp_312 Md_summedUp_349
      rw [inb_nI (by omega), nI_clamp (by omega), if_pos (by simp; omega), if_pos (by decide), show (1 : Int32) = nI 1 from rfl, nI_add, decide_eq_true q]
      exact ⟨_, rfl, ME_si h _ _, fun z => (by cases z), fun _ => (gi_si_s _ _ _ _).trans rfl, MS_si _ s4 (Nat.le_refl _)⟩
    · have q' : ¬ z.toInt32 = 0 := by rw [tru_i tz]; exact q
      rw [if_pos q']
      unfold Md_summedUp_312 Md_summedUp_349
      rw [inb_nI (by omega), nI_clamp (by omega), if_pos (by simp; omega), if_pos (by decide), show (1 : Int32) = nI 1 from rfl, nI_add, decide_eq_false q]
      exact ⟨_, rfl, ME_si h _ _, fun z => (by cases z), fun _ => (gi_si_s _ _ _ _).trans rfl, MS_si _ s4 (Nat.le_refl _)⟩
  · obtain ⟨z, g1, rfl, e1⟩ := gmap1 h2
    obtain ⟨y, g2, rfl, e2⟩ := gmap1 e1
    have eo : opE (nE a c s) (outF a) (K i) ((false, z) :: (false, y) :: g2) = (false, biV (K i).1 y z) :: g2 := by unfold opE; rw [if_neg (by omega), if_neg (by omega), if_neg (by omega), if_neg (by omega)]; show (decide _, _) :: _ = _; rw [decide_eq_false (by omega)]
    rw [eo]
    have tz := (hg (false, z) (by simp)).2 rfl
    have ty := (hg (false, y) (by simp)).2 rfl
    obtain ⟨-, s1, -, s2, s4⟩ := hms
    have s1' : gi ν 321 (nt g2 + 1) = z.toInt32 := by
      have q := s1 rfl
      have q2 : nt ((false, y) :: g2) = nt g2 + 1 := by show 1 + nt g2 = _; omega
      rw [q2] at q; exact q
    have s2' : gi ν 321 (nt g2) = y.toInt32 := s2 rfl
    have n1 : nv ((false, z) :: (false, y) :: g2) = nv g2 := by show 0 + (0 + nv g2) = _; omega
    have n2 : nt ((false, z) :: (false, y) :: g2) = nt g2 + 2 := by show 1 + (1 + nt g2) = _; omega
    have n3 : nv ((false, biV (K i).1 y z) :: g2) = nv g2 := by show 0 + nv g2 = _; omega
    have n4 : nt ((false, biV (K i).1 y z) :: g2) = nt g2 + 1 := by show 1 + nt g2 = _; omega
    simp only [List.length_cons] at hn hvt
    rw [n1, n2] at hvt
    rw [n1, n2, n3, n4]
    have c1 : (nI 1 < nI (K i).1) = True := by
      show (nI 1 < nI (K i).1) = True
      first | rw [nI_lt' (by omega) (by omega)] | rw [nI_le' (by omega) (by omega)] | rw [nI_eq' (by omega) (by omega)]
      exact eq_true (by omega)
    have c3 : (nI (K i).1 = (3 : Int32)) = False := by
      show (nI (K i).1 = nI 3) = False
      first | rw [nI_lt' (by omega) (by omega)] | rw [nI_le' (by omega) (by omega)] | rw [nI_eq' (by omega) (by omega)]
      exact eq_false (by omega)
    have c5 : ((5 : Int32) < nI (K i).1) = True := by
      show (nI 5 < nI (K i).1) = True
      first | rw [nI_lt' (by omega) (by omega)] | rw [nI_le' (by omega) (by omega)] | rw [nI_eq' (by omega) (by omega)]
      exact eq_true (by omega)
    have c10 : ((10 : Int32) ≤ nI (K i).1) = True := by
      show (nI 10 ≤ nI (K i).1) = True
      first | rw [nI_lt' (by omega) (by omega)] | rw [nI_le' (by omega) (by omega)] | rw [nI_eq' (by omega) (by omega)]
      exact eq_true (by omega)
    have c20 : ((20 : Int32) ≤ nI (K i).1) = True := by
      show (nI 20 ≤ nI (K i).1) = True
      first | rw [nI_lt' (by omega) (by omega)] | rw [nI_le' (by omega) (by omega)] | rw [nI_eq' (by omega) (by omega)]
      exact eq_true (by omega)
    have ce20 : (nI (K i).1 = (20 : Int32)) = False := by
      show (nI (K i).1 = nI 20) = False
      first | rw [nI_lt' (by omega) (by omega)] | rw [nI_le' (by omega) (by omega)] | rw [nI_eq' (by omega) (by omega)]
      exact eq_false (by omega)
    rw [Md_summedUp_38, show (2 : Int32) = nI 2 from rfl, nI_add, inb_nI (show x + 2 < 2 ^ 31 by omega), nI_clamp (show x + 2 < 2 ^ 31 by omega), if_pos (by simp; omega), hE, if_neg (by rw [nI_le' (by omega) (by omega)]; omega), nI_mul, nI_add, inb_nI (show C + 2 * i < 2 ^ 31 by omega), nI_clamp (show C + 2 * i < 2 ^ 31 by omega), if_pos (by simp; omega), show (1 : Int32) = nI 1 from rfl, nI_add (C + 2 * i) 1, inb_nI (show C + 2 * i + 1 < 2 ^ 31 by omega), nI_clamp (show C + 2 * i + 1 < 2 ^ 31 by omega), if_pos (by simp; omega), hO, hV]
    simp only [c1, c3, c5, c10, c20, ce20, if_true, if_false, not_true_eq_false, not_false_eq_true]
    obtain ⟨q, r1, r2⟩ := m_joined h1 ty tz
    rw [nI_an (show 1 ≤ nt g2 + 2 by omega), nI_sub (show 1 ≤ nt g2 + 2 - 1 by omega), show nt g2 + 2 - 1 = nt g2 + 1 by omega, show nt g2 + 1 - 1 = nt g2 by omega, inb_nI (by omega), inb_nI (by omega), nI_clamp (by omega), nI_clamp (by omega), if_pos (by simp; omega), if_pos (by simp; omega), s1', s2', r1, Option.bind_some, if_pos (by simp; omega)]
    unfold Md_summedUp_349
    rw [show (1 : Int32) = nI 1 from rfl, nI_add, b2l_i, ← r2]
    exact ⟨_, rfl, ME_si h _ _, fun z => (by cases z), fun _ => gi_si_s _ _ _ _, MS_si _ s4 (Nat.le_refl _)⟩
theorem m_eval {a : Nat → Nat} {c s C x b e : Nat} {K : Nat → Nat × Nat} {ν0 : Nm} (hw : WF a) (hc : c < 4) (hs : s < 2) (h300 : e ≤ 295) (hC : C + 2 * 295 < 2724) (hx : x + 2 < 2724) : ∀ (k f i : Nat) (g : List (Bool × Int64)) (ν : Nm), i + k = e → b ≤ i → k < f → ME a c s C x b e K ν0 ν → GO g → g.length ≤ i → MS g ν → tyR K k i (g.map Prod.fst) = some [true] → ∃ v ν2, Md_summedUp_38 f (nI x) (nI C) (nI (nv g)) (nI (nt g)) (nI i) ν = some (v, ν2) ∧ evR (nE a c s) (outF a) K k i g = [(true, v)] ∧ rng v ∧ M1 a ν0 ν2 := by
  intro k
  induction k with
  | zero =>
    intro f i g ν hi hb hf h hg hn hcs hty
    obtain ⟨f, rfl⟩ := fsucc hf
    have ht : g.map Prod.fst = [true] := Option.some.inj hty
    obtain ⟨v, g1, rfl, e1⟩ := gmap1 ht
    have e2 : g1 = [] := List.map_eq_nil_iff.mp e1
    subst e2
    refine ⟨v, ν, ?_, rfl, (hg (true, v) (by simp)).1, h.1⟩
    rw [Md_summedUp_38, show (2 : Int32) = nI 2 from rfl, nI_add, inb_nI (by omega), nI_clamp (by omega), if_pos (by simp; omega), h.2.2.2, if_pos (by rw [nI_le' (by omega) (by omega)]; omega), show gl ν 320 0 = v from hcs.1 rfl]
  | succ k ih =>
    intro f i g ν hi hb hf h hg hn hcs hty
    obtain ⟨f, rfl⟩ := fsucc hf
    obtain ⟨u, t1, t2⟩ := obind hty
    obtain ⟨ν1, p1, p2, p3⟩ := m_op h hw hc hs hb (by omega) h300 hC hx hg hn hcs t1 f
    obtain ⟨o1, o2, o3⟩ := op_ty (E := nE a c s) (out := outF a) t1 (fun v _ => nE_rng hw hc hs) hg
    obtain ⟨v, ν2, q1, q2, q3, q4⟩ := ih f (i + 1) _ ν1 (by omega) (by omega) (by omega) p2 o2 (by omega) p3 (by rw [o1]; exact t2)
    exact ⟨v, ν2, by rw [p1]; exact q1, q2, q3, q4⟩
