/-! Texts, as class and model hold them. A text: how many clauses, the clauses, the code, where laws begin and end. -/
abbrev TD : Type := Nat × (Nat → Nat × Nat × Nat) × (Nat → Nat × Nat) × (Nat → Nat) × (Nat → Nat)
def tn (d : TD) : Nat := d.1
def tk (d : TD) : Nat → Nat × Nat × Nat := d.2.1
def tc (d : TD) : Nat → Nat × Nat := d.2.2.1
def tb (d : TD) : Nat → Nat := d.2.2.2.1
def te (d : TD) : Nat → Nat := d.2.2.2.2
/-- the class's number for a kind of clause -/
def kdK (s : Nat) : Nat := if s ≤ 2 then s + 2 else s + 3
def clOK (p : Nat × Nat × Nat) : Prop := p.1 < 10 ∧ (p.1 = 2 → 1 ≤ p.2.1 ∧ p.2.1 ≤ 60 ∧ p.2.2 ≤ 99) ∧ (p.1 = 3 → 1 ≤ p.2.1 ∧ p.2.1 ≤ 8) ∧ (4 ≤ p.1 ∧ p.1 ≤ 7 → p.2.1 ≤ 3) ∧ (p.1 = 9 → 1 ≤ p.2.1 ∧ p.2.1 ≤ 60)
def TCl (d : TD) (T X k : Nat) (ν : Nm) : Prop := clOK (tk d k) ∧ gi ν (T + 1) k = nI (kdK (tk d k).1) ∧ gi ν 316 (X + 1 + 3 * k) = nI (tk d k).1 ∧ (2 ≤ (tk d k).1 → (tk d k).1 ≠ 8 → gi ν (T + 2) k = nI (tk d k).2.1 ∧ gi ν 316 (X + 2 + 3 * k) = nI (tk d k).2.1) ∧ ((tk d k).1 = 2 → gi ν (T + 3) k = nI (tk d k).2.2 ∧ gi ν 316 (X + 3 + 3 * k) = nI (tk d k).2.2)
def TLaw (d : TD) (T X l : Nat) (ν : Nm) : Prop :=
  (∃ k, k < tn d ∧ (tk d k).1 = l ∧ (∀ j, j < k → (tk d j).1 ≠ l) ∧ tb d l < te d l ∧ te d l ≤ 294 ∧ gi ν (T + 5) l = nI (tb d l) ∧ gi ν (T + 6) l = nI (te d l) ∧ gi ν 316 (X + 2 + 3 * k) = nI (tb d l) ∧ gi ν 316 (X + 3 + 3 * k) = nI (te d l) ∧ (∀ i, tb d l ≤ i → i < te d l → gi ν (T + 4) i = itm (tc d i) ∧ gi ν 316 (X + 73 + 2 * i) = nI (tc d i).1 ∧ gi ν 316 (X + 73 + 2 * i + 1) = nI (tc d i).2) ∧ tyR (tc d) (te d l - tb d l) (tb d l) [] = some [true] ∧ ∀ i, tb d l ≤ i → i < te d l → (tc d i).1 = 1 → (tc d i).2 < 7 ∧ (l = 1 → (tc d i).2 ≠ 6))
  ∨ ((∀ k, k < tn d → (tk d k).1 ≠ l) ∧ tb d l = 0 ∧ te d l = 0 ∧ gi ν (T + 5) l = nI 0 ∧ gi ν (T + 6) l = nI 0)
def TO1 (d : TD) (T X : Nat) (ν : Nm) : Prop := tn d ≤ 24 ∧ gi ν T 3 = nI (tn d) ∧ gi ν 316 X = nI (tn d) ∧ (∀ k, k < tn d → TCl d T X k ν) ∧ TLaw d T X 0 ν ∧ TLaw d T X 1 ν
def TO (D : Nat → TD) (a : Nat → Nat) (ν : Nm) : Prop := ∀ t, t < 4 → t < a 2 → TO1 (D t) (285 + 7 * t) (681 * t) ν
theorem TCl_keep {d : TD} {T X k : Nat} {ν ν2 : Nm} (h : TCl d T X k ν) (hc : ∀ q j, T ≤ q → q < T + 7 → gi ν2 q j = gi ν q j) (hm : ∀ j, X ≤ j → j < X + 681 → gi ν2 316 j = gi ν 316 j) (hk : k < 24) : TCl d T X k ν2 := by
  obtain ⟨h1, h2, h3, h4, h5⟩ := h
  refine ⟨h1, by rw [hc _ _ (by omega) (by omega)]; exact h2, by rw [hm _ (by omega) (by omega)]; exact h3, fun q1 q2 => ⟨?_, ?_⟩, fun q1 => ⟨?_, ?_⟩⟩
  · rw [hc _ _ (by omega) (by omega)]; exact (h4 q1 q2).1
  · rw [hm _ (by omega) (by omega)]; exact (h4 q1 q2).2
  · rw [hc _ _ (by omega) (by omega)]; exact (h5 q1).1
  · rw [hm _ (by omega) (by omega)]; exact (h5 q1).2
theorem TLaw_keep {d : TD} {T X l : Nat} {ν ν2 : Nm} (hn : tn d ≤ 24) (h : TLaw d T X l ν) (hc : ∀ q j, T ≤ q → q < T + 7 → gi ν2 q j = gi ν q j) (hm : ∀ j, X ≤ j → j < X + 681 → gi ν2 316 j = gi ν 316 j) : TLaw d T X l ν2 := by
  rcases h with ⟨k, k1, k2, k3, k4, k5, k6, k7, k8, k9, k10, k11, k12⟩ | ⟨k1, k2, k3, k4, k5⟩
  · refine Or.inl ⟨k, k1, k2, k3, k4, k5, by rw [hc _ _ (by omega) (by omega)]; exact k6, by rw [hc _ _ (by omega) (by omega)]; exact k7, by rw [hm _ (by omega) (by omega)]; exact k8, by rw [hm _ (by omega) (by omega)]; exact k9, fun i i1 i2 => ⟨?_, ?_, ?_⟩, k11, k12⟩
    · rw [hc _ _ (by omega) (by omega)]; exact (k10 i i1 i2).1
    · rw [hm _ (by omega) (by omega)]; exact (k10 i i1 i2).2.1
    · rw [hm _ (by omega) (by omega)]; exact (k10 i i1 i2).2.2
  · exact Or.inr ⟨k1, k2, k3, by rw [hc _ _ (by omega) (by omega)]; exact k4, by rw [hc _ _ (by omega) (by omega)]; exact k5⟩
theorem TO1_keep {d : TD} {T X : Nat} {ν ν2 : Nm} (h : TO1 d T X ν) (hc : ∀ q j, T ≤ q → q < T + 7 → gi ν2 q j = gi ν q j) (hm : ∀ j, X ≤ j → j < X + 681 → gi ν2 316 j = gi ν 316 j) : TO1 d T X ν2 := by
  obtain ⟨h1, h2, h3, h4, h5, h6⟩ := h
  exact ⟨h1, by rw [hc _ _ (by omega) (by omega)]; exact h2, by rw [hm _ (by omega) (by omega)]; exact h3, fun k hk => TCl_keep (h4 k hk) hc hm (by omega), TLaw_keep h1 h5 hc hm, TLaw_keep h1 h6 hc hm⟩
theorem TO_keep {D : Nat → TD} {a a2 : Nat → Nat} {ν ν2 : Nm} (h : TO D a ν) (ha : a2 2 ≤ a 2) (hc : ∀ q j, (285 ≤ q ∧ q ≤ 312) ∨ q = 316 → gi ν2 q j = gi ν q j) : TO D a2 ν2 := fun t t4 ht => TO1_keep (h t t4 (by omega)) (fun q j q1 q2 => hc q j (by omega)) (fun j _ _ => hc _ _ (by omega))
/-- what a law comes to -/
def lawV (a : Nat → Nat) (c s : Nat) (d : TD) (l : Nat) : Int64 := ((evR (nE a c s) (outF a) (tc d) (te d l - tb d l) (tb d l) []).headD (true, 0)).2
def saysV (a : Nat → Nat) (c s : Nat) (d : TD) (l : Nat) (wo lo hi : Int32) : Int32 := if tb d l < te d l then imax lo (imin hi (lawV a c s d l).toInt32) else wo
theorem TLaw_rules {d : TD} {T X l : Nat} {ν : Nm} (hl : l < 2) (h : TLaw d T X l ν) : Tx_rules ν T (nI l) = some (decide (tb d l < te d l)) := by
  unfold Tx_rules
  rw [inb_nI (by omega), nI_clamp (by omega), if_pos (decide_eq_true hl), if_pos (decide_eq_true hl)]
  rcases h with ⟨k, k1, k2, k3, k4, k5, k6, k7, k8, k9, k10, k11, k12⟩ | ⟨k1, k2, k3, k4, k5⟩
  · rw [k6, k7, if_neg (by rw [nI_le' (by omega) (by omega)]; omega), decide_eq_true k4]
  · rw [k4, k5, if_pos (by rw [nI_le' (by omega) (by omega)]; omega), decide_eq_false (by omega)]
theorem c_value {d : TD} {T X l : Nat} {a : Nat → Nat} {ν0 ν : Nm} (hT : 285 ≤ T) (hl : l < 2) (h : TLaw d T X l ν) (hlt : tb d l < te d l) (hC : C1 a ν0 ν) (hw : WF a) {c s : Nat} (hc0 : c < a 0) (hs : s < 2) : ∃ ν2, Su_valueOf T (nI l) (nI c) (nI s) ν = some ((lawV a c s d l).toInt32, ν2) ∧ C1 a ν0 ν2 ∧ Fr (fun q _ => q = 274 ∨ q = 275) ν ν2 := by
  have hc : c < 4 := by have := (wb hw).1; omega
  rcases h with ⟨k, k1, k2, k3, k4, k5, k6, k7, k8, k9, k10, k11, k12⟩ | ⟨k1, k2, k3, k4, k5⟩
  · have f0 : Fr (fun q _ => q = 274 ∨ q = 275) ν (si (si ν 274 2 (nI c)) 274 3 (nI s)) := Fr_si (Fr_si (Fr_rfl _ _) _ (Or.inl rfl)) _ (Or.inl rfl)
    have ce : CE a c s T l (tb d l) (te d l) (tc d) ν0 (si (si ν 274 2 (nI c)) 274 3 (nI s)) := by
      refine ⟨⟨CX_keep hC.1 (fun q j _ _ => f0.1 q j (by omega)), Fr_tr hC.2 (Fr_mono f0 (fun q j m => by unfold fc; omega))⟩, ?_, ?_, fun i i1 i2 => ?_, ?_⟩
      · rw [gi_si_j _ _ _ (by omega), gi_si_s]
      · rw [gi_si_s]
      · rw [f0.1 _ _ (by omega)]; exact (k10 i i1 i2).1
      · rw [f0.1 _ _ (by omega)]; exact k7
    obtain ⟨v, ν2, q1, q2, q3, q4, q5⟩ := c_eval hT hw hc hs hl (by omega) (te d l - tb d l) FU (tb d l) [] _ (by omega) (Nat.le_refl _) (by unfold FU; omega) ce (fun x hx => by cases hx) (by simp) True.intro k11
    refine ⟨ν2, ?_, q5.1, Fr_tr f0 (Fr_mono q4 (fun q j m => Or.inr m))⟩
    unfold Su_valueOf lawV
    rw [c_has_t hC hw hc0, Option.bind_some, if_pos (by rw [b2iT]; exact id), q2, inb_nI (by omega), nI_clamp (by omega), if_pos (decide_eq_true hl), f0.1 _ _ (by omega), k6]
    exact q1
  · omega
theorem toI_rng {v : Int64} (h : rng v) : v.toInt32.toInt = v.toInt := by
  obtain ⟨h1, h2⟩ := h
  rw [Int64.toInt_toInt32]
  exact Int.bmod_eq_of_le (by omega) (by omega)
theorem cut_eq {v : Int64} (h : rng v) {lo hi : Int32} (hlh : lo.toInt ≤ hi.toInt) : Md_cut v lo hi = some (imax lo (imin hi v.toInt32)) := by
  unfold Md_cut imax imin
  simp only [lg_ge, lg_le, Int32.toInt_toInt64, Int32.lt_iff_toInt_lt, toI_rng h]
  by_cases h1 : lo.toInt ≤ v.toInt
  · rw [if_pos h1]
    by_cases h2 : v.toInt ≤ hi.toInt
    · rw [if_pos h2]
      by_cases h3 : v.toInt < hi.toInt
      · rw [if_pos h3]
        by_cases h4 : lo.toInt < v.toInt
        · rw [if_pos (by rw [toI_rng h]; exact h4)]
        · rw [if_neg (by rw [toI_rng h]; exact h4)]
          congr 1
          apply Int32.toInt_inj.mp
          rw [toI_rng h]; omega
      · rw [if_neg h3]
        have e : v.toInt32 = hi := by apply Int32.toInt_inj.mp; rw [toI_rng h]; omega
        rw [e]
        by_cases h4 : lo.toInt < hi.toInt
        · rw [if_pos h4]
        · rw [if_neg h4]
          congr 1
          apply Int32.toInt_inj.mp
          omega
    · rw [if_neg h2, if_neg (show ¬ v.toInt < hi.toInt by omega)]
      by_cases h4 : lo.toInt < hi.toInt
      · rw [if_pos h4]
      · rw [if_neg h4]
        congr 1
        apply Int32.toInt_inj.mp
        omega
  · rw [if_neg h1, if_pos (show v.toInt < hi.toInt by omega), if_neg (by rw [toI_rng h]; omega)]
/-- the names are told -/
theorem m_name {a : Nat → Nat} {ν0 ν : Nm} (h : M1 a ν0 ν) (hw : WF a) {c : Nat} (hc : c < 4) (s : Nat) : ∃ ν2, Md_name (nI c) ν = some ν2 ∧ M1 a ν0 ν2 ∧ (∀ v, v < 6 → gi ν2 319 v = nI (nmV a c s v)) ∧ (∀ q j, q ≠ 319 → gi ν2 q j = gi ν q j) := by
  have hb := wb hw
  have hbc := wbc hw hc
  have up : ∀ {ν3 : Nm} (j : Nat) (v : Int32), M1 a ν0 ν3 → M1 a ν0 (si ν3 319 j v) := fun j v h3 => ⟨MX_keep h3.1 (fun k => gi_si_q _ _ _ _ (by omega)), Fr_si h3.2 _ (Or.inr (Or.inr (by omega)))⟩
  have m1 := up 1 (nI c) (up 0 (nI (a 8 / 64)) h)
  have m2 := up 2 (nI (a (12 + 2 * c) / 64)) m1
  have m3 := up 3 (nI (a (20 + 2 * c))) m2
  have m4 := up 4 (nI (a (21 + 2 * c))) m3
  have m5 := up 5 (nI (ebA a)) m4
  refine ⟨_, ?_, m5, fun v hv => ?_, fun q j hq => ?_⟩
  · unfold Md_name Md_name_55
    rw [mr h (by decide) (by decide), show (64 : Int32) = nI 64 from rfl, nI_div (by omega) (by omega), show (0 : Int32) = nI 0 from rfl, m_g0 m1 hc, Option.bind_some, nI_div (by omega) (by omega), show (20 : Int32) = nI 20 from rfl, show (2 : Int32) = nI 2 from rfl, show (1 : Int32) = nI 1 from rfl, nI_mul, nI_add, nI_add, inb_nI (by omega), inb_nI (by omega), nI_clamp (by omega), nI_clamp (by omega), if_pos (by simp; omega), if_pos (by simp; omega), mr m2 (by omega) (by omega), mr m3 (by omega) (by omega), show 20 + 2 * c + 1 = 21 + 2 * c by omega, m_ends m4 hw, Option.bind_some]
  · unfold nmV
    rcases (show v = 0 ∨ v = 1 ∨ v = 2 ∨ v = 3 ∨ v = 4 ∨ v = 5 by omega) with rfl | rfl | rfl | rfl | rfl | rfl
    · rw [gi_si_j _ _ _ (by omega), gi_si_j _ _ _ (by omega), gi_si_j _ _ _ (by omega), gi_si_j _ _ _ (by omega), gi_si_j _ _ _ (by omega), gi_si_s]; rfl
    · rw [gi_si_j _ _ _ (by omega), gi_si_j _ _ _ (by omega), gi_si_j _ _ _ (by omega), gi_si_j _ _ _ (by omega), gi_si_s]; rfl
    · rw [gi_si_j _ _ _ (by omega), gi_si_j _ _ _ (by omega), gi_si_j _ _ _ (by omega), gi_si_s]; rfl
    · rw [gi_si_j _ _ _ (by omega), gi_si_j _ _ _ (by omega), gi_si_s]; rfl
    · rw [gi_si_j _ _ _ (by omega), gi_si_s]; rfl
    · rw [gi_si_s]; rfl
  · rw [gi_si_q _ _ _ _ hq, gi_si_q _ _ _ _ hq, gi_si_q _ _ _ _ hq, gi_si_q _ _ _ _ hq, gi_si_q _ _ _ _ hq, gi_si_q _ _ _ _ hq]
/-- the model's law, by clause -/
theorem m_sumUp {d : TD} {t l k : Nat} {a : Nat → Nat} {ν0 ν : Nm} (ht : t < 4) (hk : k < 24) (hC : M1 a ν0 ν) (hw : WF a) {c s : Nat} (hc : c < 4) (hs : s < 2) (h2 : te d l ≤ 294) (h3 : tb d l < te d l) (g1 : gi ν 316 (681 * t + 2 + 3 * k) = nI (tb d l)) (g2 : gi ν 316 (681 * t + 3 + 3 * k) = nI (te d l)) (g3 : ∀ i, tb d l ≤ i → i < te d l → gi ν 316 (681 * t + 73 + 2 * i) = nI (tc d i).1 ∧ gi ν 316 (681 * t + 73 + 2 * i + 1) = nI (tc d i).2) (g4 : tyR (tc d) (te d l - tb d l) (tb d l) [] = some [true]) (g5 : ∀ i, tb d l ≤ i → i < te d l → (tc d i).1 = 1 → gi ν 319 (tc d i).2 = nI (nmV a c s (tc d i).2)) : ∃ ν2, Md_summedUp (nI t) (nI k) ν = some (lawV a c s d l, ν2) ∧ M1 a ν0 ν2 ∧ rng (lawV a c s d l) := by
  have me : ME a c s (681 * t + 73) (681 * t + 1 + 3 * k) (tb d l) (te d l) (tc d) ν0 ν := ⟨hC, g5, g3, by rw [show 681 * t + 1 + 3 * k + 2 = 681 * t + 3 + 3 * k by omega]; exact g2⟩
  obtain ⟨v, ν2, q1, q2, q3, q4⟩ := m_eval hw hc hs (by omega) (by omega) (by omega) (te d l - tb d l) FU (tb d l) [] ν (by omega) (Nat.le_refl _) (by unfold FU; omega) me (fun x hx => by cases hx) (by simp) True.intro g4
  have ev : lawV a c s d l = v := by unfold lawV; rw [q2]; rfl
  refine ⟨ν2, ?_, q4, by rw [ev]; exact q3⟩
  unfold Md_summedUp
  rw [ev, show (681 : Int32) = nI 681 from rfl, show (1 : Int32) = nI 1 from rfl, show (3 : Int32) = nI 3 from rfl, show (73 : Int32) = nI 73 from rfl, nI_mul, nI_mul, nI_add, nI_add, nI_add, nI_add, inb_nI (by omega), nI_clamp (by omega), if_pos (by simp; omega), show 681 * t + 1 + 3 * k + 1 = 681 * t + 2 + 3 * k by omega, g1]
  exact q1
/-- the model says -/
theorem m_says {d : TD} {t l : Nat} {a : Nat → Nat} {ν0 ν : Nm} (ht : t < 4) (hl : l < 2) (h : TO1 d (285 + 7 * t) (681 * t) ν) (hC : M1 a ν0 ν) (hw : WF a) {c s : Nat} (hc : c < 4) (hs : s < 2) (hN : ∀ v, v < 7 → (l = 1 → v ≠ 6) → gi ν 319 v = nI (nmV a c s v)) {wo lo hi : Int32} (hlh : lo.toInt ≤ hi.toInt) : ∃ ν2, Md_says (nI t) (nI l) wo lo hi ν = some (saysV a c s d l wo lo hi, ν2) ∧ M1 a ν0 ν2 := by
  obtain ⟨h1, h2, h3, h4, h5, h6⟩ := h
  have hL : TLaw d (285 + 7 * t) (681 * t) l ν := by
    rcases (show l = 0 ∨ l = 1 by omega) with rfl | rfl
    · exact h5
    · exact h6
  have step : ∀ (m f i : Nat), i + m = tn d → m < f → (∀ j, j < i → (tk d j).1 ≠ l) → ∃ ν2, Md_says_3 f (nI t) (nI l) wo lo hi (nI i) ν = some (saysV a c s d l wo lo hi, ν2) ∧ M1 a ν0 ν2 := by
    intro m
    induction m with
    | zero =>
      intro f i him hf hj
      obtain ⟨f, rfl⟩ := fsucc hf
      rcases hL with ⟨k, k1, k2, -⟩ | ⟨k1, k2, k3, k4, k5⟩
      · exact absurd k2 (hj k (by omega))
      · refine ⟨ν, ?_, hC⟩
        rw [Md_says_3, if_neg (nI_pos (by omega)), show (681 : Int32) = nI 681 from rfl, nI_mul, inb_nI (by omega), nI_clamp (by omega), if_pos (by simp; omega), h3, if_pos (by rw [nI_le' (by omega) (by omega)]; omega)]
        unfold saysV
        rw [if_neg (by omega)]
    | succ m ih =>
      intro f i him hf hj
      obtain ⟨f, rfl⟩ := fsucc hf
      have hcl := h4 i (by omega)
      have hx : gi ν 316 (681 * t + 1 + 3 * i) = nI (tk d i).1 := hcl.2.2.1
      have h10 := hcl.1.1
      have e : Md_says_3 (f + 1) (nI t) (nI l) wo lo hi (nI i) ν = if ¬ nI (tk d i).1 = nI l then Md_says_3 f (nI t) (nI l) wo lo hi (nI (i + 1)) ν else (Md_summedUp (nI t) (nI i) ν).bind fun v6 => (Md_cut v6.1 lo hi).bind fun v7 => some (v7, v6.2) := by
        rw [Md_says_3, if_neg (nI_pos (by omega)), show (681 : Int32) = nI 681 from rfl, nI_mul, inb_nI (by omega), nI_clamp (by omega), if_pos (by simp; omega), h3, if_neg (by rw [nI_le' (by omega) (by omega)]; omega), show (1 : Int32) = nI 1 from rfl, show (3 : Int32) = nI 3 from rfl, nI_mul, nI_add, nI_add, nI_add, inb_nI (by omega), nI_clamp (by omega), if_pos (by simp; omega), hx]
      rw [e]
      by_cases q : (tk d i).1 = l
      · rw [if_neg (by rw [q]; simp)]
        rcases hL with ⟨k, k1, k2, k3, k4, k5, k6, k7, k8, k9, k10, k11, k12⟩ | ⟨k1, -⟩
        · have ek : k = i := by
            rcases Nat.lt_trichotomy k i with z | z | z
            · exact absurd k2 (hj k z)
            · exact z
            · exact absurd q (k3 i z)
          subst ek
          obtain ⟨ν2, q1, q2, q3⟩ := m_sumUp (d := d) (l := l) ht (by omega) hC hw hc hs k5 k4 k8 k9 (fun i i1 i2 => (k10 i i1 i2).2) k11 (fun i i1 i2 i3 => hN _ (k12 i i1 i2 i3).1 (k12 i i1 i2 i3).2)
          refine ⟨ν2, ?_, q2⟩
          rw [q1, Option.bind_some]
          simp only []
          rw [cut_eq q3 hlh, Option.bind_some]
          unfold saysV
          rw [if_pos k4]
        · exact absurd q (k1 i (by omega))
      · rw [if_pos (by rw [nI_eq' (by omega) (by omega)]; exact q)]
        refine ih f (i + 1) (by omega) (by omega) (fun j hj2 => ?_)
        by_cases z : j = i
        · subst z; exact q
        · exact hj j (by omega)
  exact step (tn d) FU 0 (by omega) (by unfold FU; omega) (fun j hj => by omega)
