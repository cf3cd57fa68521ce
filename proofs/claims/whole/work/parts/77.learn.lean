/-! The class learns what a set gives. -/
theorem r0_4 {a : Nat → Nat} {s c : Nat} (hs : s < 16) (hc : c < 4) : ((nI s >>> (nI c &&& 31)) &&& 1 = 0) = ¬ (s / 2 ^ c % 2 = 1) := propext (bit_tst (by omega) (by omega))
theorem c_begin30 {a : Nat → Nat} {s : Nat} (hs : s < 16) : ∀ (k f i : Nat) (ν : Nm), i + k = 4 → k < f → (∀ c, c < 4 → gi ν 128 c = nI (a (20 + 2 * c))) → ∃ ν2, Rw_begin_30 f (nI s) (nI i) ν = some ν2 ∧ (∀ c, i ≤ c → c < 4 → gi ν2 278 c = nI (r0 a s c) ∧ gi ν2 279 c = nI 0) ∧ (∀ q j, ¬ ((q = 278 ∨ q = 279) ∧ i ≤ j) → gi ν2 q j = gi ν q j) ∧ ∀ q j, gl ν2 q j = gl ν q j := by
  intro k
  induction k with
  | zero =>
    intro f i ν hi hf h
    obtain ⟨f, rfl⟩ := fsucc hf
    exact ⟨ν, by rw [Rw_begin_30, if_pos (by rw [show (4 : Int32) = nI 4 from rfl, nI_le' (by omega) (by omega)]; omega)], fun c _ _ => by omega, fun _ _ _ => rfl, fun _ _ => rfl⟩
  | succ k ih =>
    intro f i ν hi hf h
    obtain ⟨f, rfl⟩ := fsucc hf
    have i4 : i < 4 := by omega
    have st : Rw_begin_30 (f + 1) (nI s) (nI i) ν = Rw_begin_30 f (nI s) (nI (i + 1)) (si (si ν 278 i (nI (r0 a s i))) 279 i (nI 0)) := by
      rw [Rw_begin_30, if_neg (by rw [show (4 : Int32) = nI 4 from rfl, nI_le' (by omega) (by omega)]; omega)]
      unfold Rw_begin_65
      rw [inb_nI (show i < 2 ^ 31 by omega), inb_nI (show i < 2 ^ 31 by omega), nI_clamp (show i < 2 ^ 31 by omega)]
      simp only [dT (show i < 20 by omega), dT i4, if_true, r0_4 (a := a) hs i4]
      rw [h i i4, show nI i + 1 = nI (i + 1) from nI_add i 1, show nI (a (20 + 2 * i)) * 64 = nI (64 * a (20 + 2 * i)) by rw [Nat.mul_comm 64]; exact nI_mul _ 64]
      unfold r0
      by_cases q : s / 2 ^ i % 2 = 1
      · rw [if_neg (by simp [q]), if_pos q]; rfl
      · rw [if_pos q, if_neg q]; rfl
    obtain ⟨ν2, p1, p2, p3, p4⟩ := ih f (i + 1) (si (si ν 278 i (nI (r0 a s i))) 279 i (nI 0)) (by omega) (by omega) (fun c hc => by rw [gi_si_q _ _ _ _ (by omega), gi_si_q _ _ _ _ (by omega)]; exact h c hc)
    refine ⟨ν2, by rw [st]; exact p1, fun c c1 c2 => ?_, fun q j hq => by rw [p3 q j (by omega), gi_si, if_neg (by omega), gi_si, if_neg (by omega)], fun q j => by rw [p4, gl_si, gl_si]⟩
    by_cases z : c = i
    · subst z
      rw [p3 _ _ (by omega), p3 _ _ (by omega), gi_si_q _ _ _ _ (by omega), gi_si_s, gi_si_s]
      exact ⟨rfl, rfl⟩
    · exact p2 c (by omega) c2
theorem c_begin {a : Nat → Nat} {s v L : Nat} (hs : s < 16) {ν : Nm} (h : ∀ c, c < 4 → gi ν 128 c = nI (a (20 + 2 * c))) : ∃ ν2, Rw_begin (nI s) (nI v) (nI L) ν = some ν2 ∧ WC 0 zer (r0 a s) zer ν2 ∧ BG s v L ν2 ∧ gi ν2 276 5 = nI 0 ∧ (∀ q j, ¬ (q = 278 ∨ q = 279 ∨ (q = 281 ∧ j = 0) ∨ (q = 276 ∧ (j = 5 ∨ j = 11 ∨ j = 12 ∨ j = 13))) → gi ν2 q j = gi ν q j) ∧ ∀ q j, gl ν2 q j = gl ν q j := by
  have g : ∀ q j, ¬ ((q = 281 ∧ j = 0) ∨ (q = 276 ∧ (j = 5 ∨ j = 11 ∨ j = 12 ∨ j = 13))) → gi (si (si (si (si (si ν 276 5 0) 276 11 (nI s)) 276 12 (nI v)) 276 13 (nI L)) 281 0 0) q j = gi ν q j := fun q j hq => by rw [gi_si, if_neg (by omega), gi_si, if_neg (by omega), gi_si, if_neg (by omega), gi_si, if_neg (by omega), gi_si, if_neg (by omega)]
  obtain ⟨ν2, p1, p2, p3, p4⟩ := c_begin30 (a := a) hs 4 FU 0 (si (si (si (si (si ν 276 5 0) 276 11 (nI s)) 276 12 (nI v)) 276 13 (nI L)) 281 0 0) (by omega) (by unfold FU; omega) (fun c hc => by rw [g _ _ (by omega)]; exact h c hc)
  refine ⟨ν2, p1, ⟨fun c hc => ?_, fun i hi => ?_⟩, ⟨?_, ?_, ?_⟩, ?_, fun q j hq => by rw [p3 q j (by omega), g q j (by omega)], fun q j => by rw [p4, gl_si, gl_si, gl_si, gl_si, gl_si]⟩
  · rw [show 4 * 0 + c = c by omega]; exact p2 c (by omega) hc
  · obtain rfl : i = 0 := by omega
    rw [p3 _ _ (by omega), gi_si_s]; rfl
  · rw [p3 _ _ (by omega), gi_si, if_neg (by omega), gi_si, if_neg (by omega), gi_si, if_neg (by omega), gi_si_s]
  · rw [p3 _ _ (by omega), gi_si, if_neg (by omega), gi_si, if_neg (by omega), gi_si_s]
  · rw [p3 _ _ (by omega), gi_si, if_neg (by omega), gi_si_s]
  · rw [p3 _ _ (by omega), gi_si, if_neg (by omega), gi_si, if_neg (by omega), gi_si, if_neg (by omega), gi_si, if_neg (by omega), gi_si_s]; rfl
/-- words are put to none, and then it walks -/
theorem c_zero {s : Nat} (hs : s < 16) : ∀ (k f i : Nat) (ν : Nm), i + k = 241 → k < f → ∃ ν2, Rw_learn_14 f (nI s) (nI i) ν = ((Rw_begin (nI s) 0 4 ν2).bind fun v2 => (G_wk FR 0 0 v2).bind fun v3 => some (si v3.2 276 4 ((gi v3.2 276 4) ||| ((1 : Int32) <<< (nI s &&& 31))))) ∧ (∀ q j, gi ν2 q j = gi ν q j) ∧ (∀ j, s * 241 + i ≤ j → j < s * 241 + 241 → gl ν2 277 j = 0) ∧ ∀ q j, ¬ (q = 277 ∧ s * 241 + i ≤ j ∧ j < s * 241 + 241) → gl ν2 q j = gl ν q j := by
  intro k
  induction k with
  | zero =>
    intro f i ν hi hf
    obtain ⟨f, rfl⟩ := fsucc hf
    exact ⟨ν, by rw [Rw_learn_14, if_pos (by rw [show (241 : Int32) = nI 241 from rfl, nI_le' (by omega) (by omega)]; omega)], fun _ _ => rfl, fun j _ _ => by omega, fun _ _ _ => rfl⟩
  | succ k ih =>
    intro f i ν hi hf
    obtain ⟨f, rfl⟩ := fsucc hf
    obtain ⟨ν2, p1, p2, p3, p4⟩ := ih f (i + 1) (sl ν 277 (s * 241 + i) 0) (by omega) (by omega)
    refine ⟨ν2, ?_, fun q j => by rw [p2, gi_sl], fun j j1 j2 => ?_, fun q j hq => by rw [p4 q j (by omega), gl_sl, if_neg (by omega)]⟩
    · rw [Rw_learn_14, if_neg (by rw [show (241 : Int32) = nI 241 from rfl, nI_le' (by omega) (by omega)]; omega), show nI s * 241 = nI (s * 241) from nI_mul s 241, nI_add, inb_nI (by omega), nI_clamp (by omega), if_pos (by simp; omega), show nI i + 1 = nI (i + 1) from nI_add i 1]
      exact p1
    · by_cases z : j = s * 241 + i
      · subst z; rw [p4 _ _ (by omega), gl_sl, if_pos ⟨rfl, rfl⟩]
      · exact p3 j (by omega) j2
theorem or_tst (K : Nat) {s : Nat} (i : Nat) : ((K ||| 2 ^ s) / 2 ^ i % 2 = 1) ↔ (K / 2 ^ i % 2 = 1 ∨ i = s) := by
  rw [← tbit, Nat.testBit_or, Bool.or_eq_true, tbit, Nat.testBit_two_pow, decide_eq_true_iff]
  constructor
  · rintro (h | h)
    · exact Or.inl h
    · exact Or.inr h.symm
  · rintro (h | h)
    · exact Or.inl h
    · exact Or.inr h.symm
/-- what the class's looks at rows may change -/
def fcQ (q j : Nat) : Prop := 276 ≤ q ∧ q ≤ 284
def CQ (a : Nat → Nat) (ν0 ν : Nm) : Prop := CX 1 a ν ∧ RC a ν ∧ Fr fcQ ν0 ν
theorem CQ_C {a : Nat → Nat} {ν0 ν : Nm} (h : CQ a ν0 ν) : C1 a ν ν := ⟨h.1, Fr_rfl _ _⟩
theorem CQ_go {a : Nat → Nat} {ν0 ν ν2 : Nm} (h : CQ a ν0 ν) (k : ∀ q j, ¬ fcQ q j → gi ν2 q j = gi ν q j) (kl : ∀ q j, q ≠ 277 → gl ν2 q j = gl ν q j) (hR : RC a ν2) : CQ a ν0 ν2 :=
  ⟨CX_keep h.1 (fun q j _ _ => k q j (by unfold fcQ; omega)), hR, ⟨fun q j hq => by rw [k q j hq]; exact h.2.2.1 q j hq, fun q j hq => by rw [kl q j (fun z => hq (by unfold fcQ; omega))]; exact h.2.2.2 q j hq⟩⟩
theorem c_learn {a : Nat → Nat} {ν0 ν : Nm} (h : CQ a ν0 ν) (hw : WF a) {s : Nat} (h1 : 1 ≤ s) (h2 : s < 2 ^ a 0) : ∃ ν2, Rw_learn (nI s) ν = some ν2 ∧ CQ a ν0 ν2 ∧ ∀ v, v < 15424 → (MB s v ν2 ↔ mkS a s v) := by
  have hb := wb hw
  have p4 : 2 ^ a 0 ≤ 2 ^ 4 := Nat.pow_le_pow_right (by omega) hb.1
  have hs : s < 16 := by omega
  have hC := CQ_C h
  obtain ⟨⟨K, k1, k2, k3⟩, hr⟩ := id h.2.1
  unfold Rw_learn
  have bt : ((nI K >>> (nI s &&& 31)) &&& 1 = 0) = ¬ (K / 2 ^ s % 2 = 1) := propext (bit_tst k1 hs)
  rw [k2]
  simp only [bt]
  by_cases e : K / 2 ^ s % 2 = 1
  · rw [if_neg (by simp [e])]
    exact ⟨ν, rfl, h, k3 s h1 h2 e⟩
  · rw [if_pos e]
    obtain ⟨ν1, z1, z2, z3, z4⟩ := c_zero hs 241 FU 0 ν (by omega) (by unfold FU; omega)
    obtain ⟨ν2, b1, b2, b3, b4, b5, b6⟩ := c_begin (a := a) (s := s) (v := 0) (L := 4) hs (ν := ν1) (fun c hc => by rw [z2]; exact cr_min hC hc)
    obtain ⟨ν3, w1, w2, w3⟩ := c_walkM hs 4 FR (by unfold FR; omega) 0 zer (r0 a s) zer ν2 (by omega) (RI_0 hw s hs) TI_0 b2 b3
    have g4 : gi ν3 276 4 = nI K := by rw [w2 _ _ (by unfold fw; omega), b5 _ _ (by omega), z2]; exact k2
    have hK : K ||| 2 ^ s < 65536 := by
      have h16 : (65536 : Nat) = 2 ^ 16 := rfl
      rw [h16]
      exact Nat.or_lt_two_pow k1 (Nat.pow_lt_pow_right (by omega) hs)
    have eK : gi ν3 276 4 ||| ((1 : Int32) <<< (nI s &&& 31)) = nI (K ||| 2 ^ s) := by
      rw [g4, show (1 : Int32) = nI 1 from rfl, nI_shl (by omega), Nat.one_mul, nI_or]
    have gg : ∀ q j, ¬ fcQ q j → gi ν3 q j = gi ν q j := fun q j hq => by rw [w2 q j (by unfold fcQ at hq; unfold fw; omega), b5 q j (by unfold fcQ at hq; omega), z2]
    have lo : ∀ q j, ¬ (q = 277 ∧ s * 241 ≤ j ∧ j < s * 241 + 241) → gl ν3 q j = gl ν q j := fun q j hq => by rw [w3.2 q j hq, b6, z4 q j (by rw [Nat.add_zero]; exact hq)]
    have ms : ∀ v, v < 15424 → (MB s v (si ν3 276 4 (nI (K ||| 2 ^ s))) ↔ mkS a s v) := by
      intro v hv
      rw [MB_keep (ν := ν3) (fun j => gl_si _ _ _ _ _ _), w3.1 v hv, mkS_Sub]
      constructor
      · rintro (q | q)
        · exfalso
          unfold MB at q
          rw [b6, z3 _ (by omega) (by omega)] at q
          have : ∀ j, (0 : Int64).toBitVec.getLsbD j = false := fun j => by simp
          rw [this] at q
          cases q
        · exact q
      · exact fun q => Or.inr q
    refine ⟨si ν3 276 4 (nI (K ||| 2 ^ s)), ?_, CQ_go h (fun q j hq => by rw [gi_si, if_neg (by unfold fcQ at hq; omega), gg q j hq]) (fun q j hq => by rw [gl_si, lo q j (by omega)]) ⟨⟨K ||| 2 ^ s, hK, gi_si_s _ _ _ _, fun s2 h3 h4 h5 v hv => ?_⟩, 0, by omega, ?_, fun q => by omega⟩, ms⟩
    · rw [show (0 : Int32) = nI 0 from rfl, z1]
      have b1' : Rw_begin (nI s) 0 4 ν1 = some ν2 := b1
      have w1' : G_wk FR 0 0 ν2 = some (false, ν3) := w1
      rw [b1', Option.bind_some, w1', Option.bind_some, eK]
    · rcases (or_tst K s2).mp h5 with q | q
      · by_cases z : s2 = s
        · subst z; exact ms v hv
        · have hsep : ∀ j, s2 * 241 ≤ j → j < s2 * 241 + 241 → gl (si ν3 276 4 (nI (K ||| 2 ^ s))) 277 j = gl ν 277 j := fun j j1 j2 => by
            rw [gl_si, lo _ _ (by
              rintro ⟨-, q1, q2⟩
              rcases Nat.lt_or_gt_of_ne z with y | y
              · have := Nat.mul_le_mul_right 241 (show s2 + 1 ≤ s from y); omega
              · have := Nat.mul_le_mul_right 241 (show s + 1 ≤ s2 from y); omega)]
          have : MB s2 v (si ν3 276 4 (nI (K ||| 2 ^ s))) ↔ MB s2 v ν := by unfold MB; rw [hsep _ (by omega) (by omega)]
          rw [this]; exact k3 s2 h3 h4 q v hv
      · subst q; exact ms v hv
    · rw [gi_si_j _ _ _ (by omega), w2 _ _ (by unfold fw; omega)]; exact b4
/-- does a set give a span -/
def gvB (a : Nat → Nat) (s v : Nat) : Bool := (fn0 a s v 1).isSome || ((fn0 a s v 2).isSome || ((fn0 a s v 3).isSome || (fn0 a s v 4).isSome))
theorem gvB_t {a : Nat → Nat} {s v : Nat} : gvB a s v = true ↔ mkS a s v := by
  unfold gvB mkS
  simp only [Bool.or_eq_true]
  constructor
  · rintro (h | h | h | h)
    · exact ⟨1, by omega, by omega, h⟩
    · exact ⟨2, by omega, by omega, h⟩
    · exact ⟨3, by omega, by omega, h⟩
    · exact ⟨4, by omega, by omega, h⟩
  · rintro ⟨n, n1, n2, n3⟩
    rcases (show n = 1 ∨ n = 2 ∨ n = 3 ∨ n = 4 by omega) with rfl | rfl | rfl | rfl
    · exact Or.inl n3
    · exact Or.inr (Or.inl n3)
    · exact Or.inr (Or.inr (Or.inl n3))
    · exact Or.inr (Or.inr (Or.inr n3))
theorem sh63 : ∀ p, p < 64 → (((nI p).toInt64 &&& 63).toBitVec.smod 64).toNat = p := by decide +kernel
theorem and1_b (z : Int64) : (z &&& 1 = 0) ↔ ¬ z.toBitVec.getLsbD 0 = true := by
  constructor
  · intro h q
    have h2 := congrArg (fun w : Int64 => w.toBitVec.getLsbD 0) h
    simp only [Int64.toBitVec_and, BitVec.getLsbD_and, q, Bool.true_and] at h2
    revert h2
    decide
  · intro h
    apply Int64.toBitVec_inj.mp
    apply BitVec.eq_of_getLsbD_eq
    intro i hi
    rw [Int64.toBitVec_and, BitVec.getLsbD_and]
    have e1 : (1 : Int64).toBitVec = 1#64 := rfl
    have e0 : (0 : Int64).toBitVec = 0#64 := rfl
    rw [e1, e0]
    by_cases z0 : i = 0
    · subst z0; rw [Bool.eq_false_iff.mpr h]; simp
    · simp [BitVec.getLsbD_one, z0]
theorem shr_b (w : Int64) {p : Nat} (hp : p < 64) : (w >>> ((nI p).toInt64 &&& 63)).toBitVec.getLsbD 0 = w.toBitVec.getLsbD p := by
  show (w.toBitVec.sshiftRight ((((nI p).toInt64 &&& 63).toBitVec.smod 64).toNat)).getLsbD 0 = _
  rw [sh63 p hp, BitVec.getLsbD_sshiftRight]
  simp [hp]
theorem c_marked {s v : Nat} (hs : s < 16) (hv : v < 15424) (ν : Nm) : ∃ b, Rw_marked ν (nI s) (nI v) = some b ∧ (b = true ↔ MB s v ν) := by
  have hd := Nat.div_le_self v 64
  have e2 : nI v / 64 = nI (v / 64) := nI_div (b := 64) (by omega) (by decide)
  have e3 : nI v - nI (v / 64) * 64 = nI (v % 64) := by rw [← e2]; exact nI_mod (b := 64) (by omega) (by decide)
  unfold Rw_marked
  rw [e2, e3, show nI s * 241 = nI (s * 241) from nI_mul s 241, nI_add, inb_nI (by omega), nI_clamp (by omega), if_pos (by simp; omega)]
  simp only [lg_eq, and1_b, shr_b _ (show v % 64 < 64 by omega)]
  unfold MB
  by_cases q : (gl ν 277 (s * 241 + v / 64)).toBitVec.getLsbD (v % 64) = true
  · rw [if_neg (by simp [q])]; exact ⟨true, rfl, fun _ => q, fun _ => rfl⟩
  · rw [if_pos q]; exact ⟨false, rfl, fun z => (by cases z), fun z => absurd z q⟩
theorem c_gives {a : Nat → Nat} {ν0 ν : Nm} (h : CQ a ν0 ν) (hw : WF a) {s v : Nat} (h1 : 1 ≤ s) (h2 : s < 2 ^ a 0) (v1 : 1 ≤ v) (v2 : v ≤ 15360) : ∃ ν2, Rw_gives (nI s) (nI v) ν = some (gvB a s v, ν2) ∧ CQ a ν0 ν2 := by
  have hb := wb hw
  have p4 : 2 ^ a 0 ≤ 2 ^ 4 := Nat.pow_le_pow_right (by omega) hb.1
  obtain ⟨ν1, p1, p2, p3⟩ := c_learn h hw h1 h2
  obtain ⟨b, q1, q2⟩ := c_marked (show s < 16 by omega) (show v < 15424 by omega) ν1
  have eb : b = gvB a s v := by rw [Bool.eq_iff_iff, q2, p3 v (by omega), gvB_t]
  refine ⟨ν1, ?_, p2⟩
  unfold Rw_gives Fm_isSpan
  rw [within_isIn, show (1 : Int32) = nI 1 from rfl, show (15360 : Int32) = nI 15360 from rfl, isIn_t v1 v2 (by decide), Option.bind_some, Option.bind_some, if_pos (by rw [b2iT]; exact id), p1, Option.bind_some, q1, Option.bind_some, eb]
theorem c_gives_f {x y : Int32} (ν : Nm) (hx : ∀ n, 1 ≤ n → n ≤ 15360 → y ≠ nI n) : Rw_gives x y ν = some (false, ν) := by
  unfold Rw_gives Fm_isSpan
  rw [within_isIn, show (1 : Int32) = nI 1 from rfl, show (15360 : Int32) = nI 15360 from rfl, isIn_f hx (by decide) (by decide), Option.bind_some, Option.bind_some, if_neg (by rw [b2iF]; simp)]
