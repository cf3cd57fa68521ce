/-! Rows: what both find. -/
def RowA (a : Nat → Nat) (s v n i : Nat) (l : List Nat) : Prop := 1 ≤ n ∧ n ≤ 4 ∧ fn0 a s v n = some (i, l) ∧ ∀ n2, 1 ≤ n2 → n2 < n → fn0 a s v n2 = none
def RowC (n i : Nat) (l : List Nat) (ν : Nm) : Prop := gi ν 276 2 = nI n ∧ gi ν 276 1 = nI i ∧ ∀ j, j < n → ∀ c, c < 4 → gi ν 280 (4 * j + c) = nI (dg (l.getD j 0) c)
theorem RowA_un {a : Nat → Nat} {s v n i n2 i2 : Nat} {l l2 : List Nat} (h : RowA a s v n i l) (h2 : RowA a s v n2 i2 l2) : n2 = n ∧ i2 = i ∧ l2 = l := by
  obtain ⟨a1, a2, a3, a4⟩ := h
  obtain ⟨b1, b2, b3, b4⟩ := h2
  have e : n2 = n := by
    rcases Nat.lt_trichotomy n n2 with q | q | q
    · have := b4 n a1 q; rw [a3] at this; cases this
    · exact q.symm
    · have := a4 n2 b1 q; rw [b3] at this; cases this
  subst e
  rw [a3] at b3
  obtain ⟨z1, z2⟩ := Prod.mk.inj (Option.some.inj b3)
  exact ⟨rfl, z1.symm, z2.symm⟩
/-- the codes of a row are below 81 -/
theorem fsc_val {α : Type} {g : Nat → Option α} {p : α} : ∀ (j x : Nat), fsc g j x = some p → ∃ y, x ≤ y ∧ y < x + j ∧ g y = some p := by
  intro j
  induction j with
  | zero => intro x h; cases h
  | succ j ih =>
    intro x h
    rw [fsc] at h
    cases hg : g x with
    | some q =>
      rw [hg] at h
      exact ⟨x, by omega, by omega, by rw [hg]; exact h⟩
    | none =>
      rw [hg] at h
      obtain ⟨y, y1, y2, y3⟩ := ih (x + 1) h
      exact ⟨y, by omega, by omega, y3⟩
theorem fnd_81 {v : Nat} : ∀ (k m : Nat) (t r e : Nat → Nat) (i : Nat) (l : List Nat), fnd v k m t r e = some (i, l) → ∀ j, l.getD j 0 < 81 := by
  intro k
  induction k with
  | zero =>
    intro m t r e i l h j
    have h' : (hit v m t m 0).map (fun i => (i, ([] : List Nat))) = some (i, l) := h
    cases hh : hit v m t m 0 with
    | none => rw [hh] at h'; cases h'
    | some q =>
      rw [hh] at h'
      obtain ⟨-, z⟩ := Prod.mk.inj (Option.some.inj h')
      rw [← z]; simp
  | succ k ih =>
    intro m t r e i l h j
    obtain ⟨y, y1, y2, y3⟩ := fsc_val _ _ h
    unfold fbr at y3
    by_cases q : vl r e y = true ∧ byA r e y ≠ 0
    · rw [if_pos q] at y3
      cases hh : fnd v k (m + 1) (upn t (m + 1) (t m + byA r e y)) (nr r e y) (ne r e y) with
      | none => rw [hh] at y3; cases y3
      | some p =>
        obtain ⟨i0, l0⟩ := p
        rw [hh] at y3
        obtain ⟨-, z⟩ := Prod.mk.inj (Option.some.inj y3)
        rw [← z]
        cases j with
        | zero => show y < 81; omega
        | succ j => exact ih (m + 1) _ _ _ i0 l0 hh j
    · rw [if_neg q] at y3; cases y3
/-! the class -/
theorem CQ_fr {a : Nat → Nat} {ν0 ν ν2 : Nm} {s v n : Nat} (h : CQ a ν0 ν) (k : ∀ q j, ¬ (q = 276 ∧ j ≠ 4) → ¬ (278 ≤ q ∧ q ≤ 281) → gi ν2 q j = gi ν q j) (kl : ∀ q j, gl ν2 q j = gl ν q j) (hr : RCr a ν2) : CQ a ν0 ν2 := by
  obtain ⟨⟨K, k1, k2, k3⟩, -⟩ := h.2.1
  exact CQ_go h (fun q j hq => k q j (by unfold fcQ at hq; omega) (by unfold fcQ at hq; omega)) (fun q j _ => kl q j) ⟨⟨K, k1, by rw [k _ _ (by omega) (by omega)]; exact k2, fun s h1 h2 h3 v hv => by rw [MB_keep (fun j => kl _ _)]; exact k3 s h1 h2 h3 v hv⟩, hr⟩
theorem c_fr31 {a : Nat → Nat} {ν0 : Nm} {s v : Nat} (hw : WF a) (h1 : 1 ≤ s) (h2 : s < 2 ^ a 0) (v1 : 1 ≤ v) (v2 : v ≤ 15360) (hg : mkS a s v) : ∀ (k f n : Nat) (ν : Nm), n + k = 5 → k < f → 1 ≤ n → (∀ n2, 1 ≤ n2 → n2 < n → fn0 a s v n2 = none) → CQ a ν0 ν → ∃ ν2 n3 i l, Rw_findRow_31 f (nI s) (nI v) (nI n) ν = some (true, ν2) ∧ CQ a ν0 ν2 ∧ RowA a s v n3 i l ∧ RowC n3 i l ν2 := by
  have hb := wb hw
  have p4 : 2 ^ a 0 ≤ 2 ^ 4 := Nat.pow_le_pow_right (by omega) hb.1
  intro k
  induction k with
  | zero =>
    intro f n ν hn hf n1 hnone hC
    obtain ⟨n2, z1, z2, z3⟩ := hg
    rw [hnone n2 z1 (by omega)] at z3
    cases z3
  | succ k ih =>
    intro f n ν hn hf n1 hnone hC
    obtain ⟨f, rfl⟩ := fsucc hf
    obtain ⟨νb, b1, b2, b3, b4, b5, b6⟩ := c_begin (a := a) (s := s) (v := v) (L := n) (by omega) (ν := ν) (fun c hc => cr_min (CQ_C hC) hc)
    obtain ⟨νw, w1, w2, w3, w4⟩ := c_walkF (s := s) v1 v2 (show n ≤ 4 by omega) n FR (by unfold FR; omega) 0 zer (r0 a s) zer νb (by omega) (RI_0 hw s (by omega)) TI_0 b2 b3
    have er : rf v n 0 zer (r0 a s) zer = fn0 a s v n := by unfold rf; rw [if_neg (by omega)]; rfl
    rw [er] at w1 w4
    have w1' : G_wk FR 0 0 νb = some ((fn0 a s v n).isSome, νw) := w1
    have g : ∀ q j, ¬ (q = 276 ∧ j ≠ 4) → ¬ (278 ≤ q ∧ q ≤ 281) → gi νw q j = gi ν q j := fun q j q1 q2 => by rw [w2 q j (by unfold fw; omega), b5 q j (by omega)]
    rw [Rw_findRow_31, if_neg (by rw [show (4 : Int32) = nI 4 from rfl, nI_lt' (by omega) (by omega)]; omega), b1, Option.bind_some, w1', Option.bind_some]
    simp only []
    cases hh : fn0 a s v n with
    | none =>
      rw [show (none : Option (Nat × List Nat)).isSome = false from rfl, if_pos (by rw [b2iF]; exact True.intro), show nI n + 1 = nI (n + 1) from nI_add n 1]
      refine ih f (n + 1) νw (by omega) (by omega) (by omega) (fun n2 z1 z2 => ?_) (CQ_fr (s := s) (v := v) (n := n) hC g (fun q j => by rw [w3, b6]) ⟨0, by omega, by rw [w2 _ _ (by unfold fw; omega)]; exact b4, fun q => by omega⟩)
      by_cases z : n2 = n
      · subst z; exact hh
      · exact hnone n2 z1 (by omega)
    | some p =>
      obtain ⟨i, l⟩ := p
      rw [show (some (i, l) : Option (Nat × List Nat)).isSome = true from rfl, if_neg (by rw [b2iT]; exact id)]
      obtain ⟨o1, o2⟩ := w4 i l hh
      have hA : RowA a s v n i l := ⟨n1, by omega, hh, hnone⟩
      have gg : ∀ q j, ¬ (q = 276 ∧ (j = 5 ∨ j = 6 ∨ j = 2)) → gi (si (si (si νw 276 5 (nI s)) 276 6 (nI v)) 276 2 (nI n)) q j = gi νw q j := fun q j hq => by rw [gi_si, if_neg (by omega), gi_si, if_neg (by omega), gi_si, if_neg (by omega)]
      have hR : RowC n i l (si (si (si νw 276 5 (nI s)) 276 6 (nI v)) 276 2 (nI n)) := ⟨gi_si_s _ _ _ _, by rw [gg _ _ (by omega)]; exact o1, fun j hj c hc => by rw [gg _ _ (by omega)]; have := o2 j hj c hc; rw [Nat.zero_add] at this; exact this⟩
      refine ⟨_, n, i, l, rfl, CQ_fr (s := s) (v := v) (n := n) hC (fun q j q1 q2 => by rw [gg q j (by omega), g q j q1 q2]) (fun q j => by rw [gl_si, gl_si, gl_si, w3, b6]) ⟨s, by omega, by rw [gi_si_j _ _ _ (by omega), gi_si_j _ _ _ (by omega), gi_si_s], fun _ _ => ⟨v, n, i, l, v1, v2, by rw [gi_si_j _ _ _ (by omega), gi_si_s], n1, by omega, hh, hnone, hR.1, hR.2.1, hR.2.2⟩⟩, hA, hR⟩
theorem c_findRow {a : Nat → Nat} {ν0 ν : Nm} (h : CQ a ν0 ν) (hw : WF a) {s : Nat} (h1 : 1 ≤ s) (h2 : s < 2 ^ a 0) {v : Nat} (v1 : 1 ≤ v) (v2 : v ≤ 15360) : (mkS a s v → ∃ ν2 n i l, Rw_findRow (nI s) (nI v) ν = some (true, ν2) ∧ CQ a ν0 ν2 ∧ RowA a s v n i l ∧ RowC n i l ν2) ∧ (¬ mkS a s v → ∃ ν2, Rw_findRow (nI s) (nI v) ν = some (false, ν2) ∧ CQ a ν0 ν2) := by
  have hb := wb hw
  have p4 : 2 ^ a 0 ≤ 2 ^ 4 := Nat.pow_le_pow_right (by omega) hb.1
  obtain ⟨S, s1, s2, s3⟩ := id h.2.1.2
  obtain ⟨νg, g1, g2⟩ := c_gives h hw h1 h2 v1 v2
  have f18 : Rw_findRow (nI s) (nI v) ν = Rw_findRow_18 (nI s) (nI v) ν → (mkS a s v → ∃ ν2 n i l, Rw_findRow (nI s) (nI v) ν = some (true, ν2) ∧ CQ a ν0 ν2 ∧ RowA a s v n i l ∧ RowC n i l ν2) ∧ (¬ mkS a s v → ∃ ν2, Rw_findRow (nI s) (nI v) ν = some (false, ν2) ∧ CQ a ν0 ν2) := by
    intro e
    rw [e]
    unfold Rw_findRow_18
    rw [g1, Option.bind_some]
    simp only []
    refine ⟨fun hg => ?_, fun hg => ?_⟩
    · rw [gvB_t.mpr hg, if_pos (by rw [b2iT]; exact id)]
      exact c_fr31 hw h1 h2 v1 v2 hg 4 FU 1 νg (by omega) (by unfold FU; omega) (by omega) (fun n2 z1 z2 => by omega) g2
    · have : gvB a s v = false := Bool.eq_false_iff.mpr (fun q => hg (gvB_t.mp q))
      rw [this, if_neg (by rw [b2iF]; simp)]
      exact ⟨νg, rfl, g2⟩
  by_cases e1 : S = s
  · subst e1
    obtain ⟨w, n, i, l, w1, w2, w3, w4, w5, w6, w7, w8, w9, w10⟩ := s3 h1 h2
    by_cases e2 : w = v
    · subst e2
      have e : Rw_findRow (nI S) (nI w) ν = some (true, ν) := by unfold Rw_findRow; rw [if_neg (by rw [s2]; exact fun z => z rfl), if_neg (by rw [w3]; exact fun z => z rfl)]
      exact ⟨fun _ => ⟨ν, n, i, l, e, h, ⟨w4, w5, w6, w7⟩, ⟨w8, w9, w10⟩⟩, fun hg => absurd ⟨n, w4, w5, by rw [w6]; rfl⟩ hg⟩
    · exact f18 (by unfold Rw_findRow; rw [if_neg (by rw [s2]; exact fun z => z rfl), if_pos (by rw [w3, nI_eq' (by omega) (by omega)]; exact e2)])
  · exact f18 (by unfold Rw_findRow; rw [if_pos (by rw [s2, nI_eq' (by omega) (by omega)]; exact e1)])
theorem c_findRow_f {a : Nat → Nat} {ν0 ν : Nm} (h : CQ a ν0 ν) (hw : WF a) {s : Nat} (h1 : 1 ≤ s) (h2 : s < 2 ^ a 0) {y : Int32} (hy : ∀ n, 1 ≤ n → n ≤ 15360 → y ≠ nI n) : Rw_findRow (nI s) y ν = some (false, ν) := by
  have hb := wb hw
  have p4 : 2 ^ a 0 ≤ 2 ^ 4 := Nat.pow_le_pow_right (by omega) hb.1
  obtain ⟨S, s1, s2, s3⟩ := id h.2.1.2
  have e18 : Rw_findRow_18 (nI s) y ν = some (false, ν) := by
    unfold Rw_findRow_18
    rw [c_gives_f ν hy, Option.bind_some]; rfl
  unfold Rw_findRow
  by_cases e1 : S = s
  · subst e1
    obtain ⟨w, n, i, l, w1, w2, w3, -⟩ := s3 h1 h2
    rw [if_neg (by rw [s2]; exact fun z => z rfl), if_pos (by rw [w3]; exact fun z => hy w w1 w2 z.symm)]
    exact e18
  · rw [if_pos (by rw [s2, nI_eq' (by omega) (by omega)]; exact e1)]
    exact e18
def sg (x : Nat) : Nat → Nat → Nat
  | 0, _ => 0
  | k + 1, c => dg x c * 3 ^ c + sg x k (c + 1)
theorem sg_81 : ∀ x, x < 81 → sg x 4 0 = x := by decide +kernel
theorem zth3 : ∀ c, c < 4 → zth c = nI (3 ^ c) := by decide +kernel
theorem c_lit24 {x j : Nat} (hj : j < 4) {ν : Nm} (h : ∀ c, c < 4 → gi ν 280 (4 * j + c) = nI (dg x c)) : ∀ (k f c p : Nat), c + k = 4 → k < f → Rw_litAt_24 ν f (nI j) (nI p) (nI c) = some (nI (p + sg x k c)) := by
  intro k
  induction k with
  | zero =>
    intro f c p hc hf
    obtain ⟨f, rfl⟩ := fsucc hf
    rw [Rw_litAt_24, if_pos (by rw [show (4 : Int32) = nI 4 from rfl, nI_le' (by omega) (by omega)]; omega)]; rfl
  | succ k ih =>
    intro f c p hc hf
    obtain ⟨f, rfl⟩ := fsucc hf
    rw [Rw_litAt_24, if_neg (by rw [show (4 : Int32) = nI 4 from rfl, nI_le' (by omega) (by omega)]; omega), show nI j * 4 = nI (4 * j) by rw [Nat.mul_comm]; exact nI_mul j 4, nI_add, inb_nI (show 4 * j + c < 2 ^ 31 by omega), inb_nI (show c < 2 ^ 31 by omega), nI_clamp (show 4 * j + c < 2 ^ 31 by omega), nI_clamp (show c < 2 ^ 31 by omega)]
    simp only [dT (show 4 * j + c < 20 by omega), dT (show c < 4 by omega), if_true]
    rw [h c (by omega), zth3 c (by omega), nI_mul, nI_add, show nI c + 1 = nI (c + 1) from nI_add c 1, ih f (c + 1) _ (by omega) (by omega), Nat.add_assoc]
    rfl
theorem c_litAt {n i : Nat} {l : List Nat} {ν : Nm} (h : RowC n i l ν) (hn : n ≤ 4) (hl : ∀ j, l.getD j 0 < 81) : (∀ j, j < n → Rw_litAt ν (nI j) = some (nI (l.getD j 0))) ∧ ∀ x : Int32, (∀ j, j < n → x ≠ nI j) → Rw_litAt ν x = some (-2 : Int32) := by
  refine ⟨fun j hj => ?_, fun x hx => ?_⟩
  · unfold Rw_litAt
    rw [if_neg (nI_pos (by omega)), h.1, if_neg (by rw [nI_le' (by omega) (by omega)]; omega), if_pos (by rw [show (4 : Int32) = nI 4 from rfl, nI_le' (by omega) (by omega)]; omega)]
    have := c_lit24 (show j < 4 by omega) (h.2.2 j hj) 4 FU 0 0 (by omega) (by unfold FU; omega)
    rw [sg_81 _ (hl j), Nat.zero_add] at this
    exact this
  · unfold Rw_litAt
    rcases arg_cases x with q | ⟨j, j1, rfl⟩
    · rw [if_pos q]
    · rw [if_neg (nI_pos j1), h.1, if_pos (by
        rw [nI_le' (by omega) j1]
        apply Nat.le_of_not_lt
        intro q
        exact hx j q rfl)]
