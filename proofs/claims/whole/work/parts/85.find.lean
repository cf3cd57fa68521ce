/-! The class walks: a row is found. -/
theorem fsc_skip {α : Type} {g : Nat → Option α} : ∀ (d j x : Nat), d ≤ j → (∀ z, x ≤ z → z < x + d → g z = none) → fsc g j x = fsc g (j - d) (x + d) := by
  intro d
  induction d with
  | zero => intro j x _ _; rfl
  | succ d ih =>
    intro j x hj h
    obtain ⟨j, rfl⟩ : ∃ j2, j = j2 + 1 := ⟨j - 1, by omega⟩
    rw [fsc, h x (by omega) (by omega)]
    show fsc g j (x + 1) = _
    rw [ih j (x + 1) (by omega) (fun z z1 z2 => h z (by omega) (by omega)), show j + 1 - (d + 1) = j - d by omega, show x + 1 + d = x + (d + 1) by omega]
theorem fsc_at {α : Type} {g : Nat → Option α} {x : Nat} (hx : x < 81) : fsc g (81 - x) x = (match g x with | some p => some p | none => fsc g (80 - x) (x + 1)) := by
  rw [show 81 - x = (80 - x) + 1 by omega]; rfl
def rf (v k m : Nat) (t r e : Nat → Nat) : Option (Nat × List Nat) := if k = 0 then none else fnd v k m t r e
def OF (m k : Nat) (p : Option (Nat × List Nat)) (ν2 : Nm) : Prop := ∀ i l, p = some (i, l) → gi ν2 276 1 = nI i ∧ ∀ j, j < k → ∀ c, c < 4 → gi ν2 280 (4 * (m + j) + c) = nI (dg (l.getD j 0) c)
theorem OF_n (m k : Nat) (ν : Nm) : OF m k none ν := fun i l h => by cases h
theorem c_arrN {s v L m : Nat} (hm : m ≤ 4) (hv : 1 ≤ v) (hv2 : v ≤ 15360) (hL : L ≤ 4) (hne : m ≠ L) : ∀ (k f i : Nat) (ν : Nm), i + k = m → k < f → BG s v L ν → Rw_arrive_2 f (nI m) (nI i) ν = some (false, ν) := by
  intro k
  induction k with
  | zero =>
    intro f i ν hi hf hB
    obtain ⟨f, rfl⟩ := fsucc hf
    rw [Rw_arrive_2, if_pos (by rw [nI_le' (by omega) (by omega)]; omega)]
  | succ k ih =>
    intro f i ν hi hf hB
    obtain ⟨f, rfl⟩ := fsucc hf
    rw [Rw_arrive_2, if_neg (by rw [nI_le' (by omega) (by omega)]; omega), inb_nI (show m < 2 ^ 31 by omega), inb_nI (show i < 2 ^ 31 by omega), nI_clamp (show m < 2 ^ 31 by omega), nI_clamp (show i < 2 ^ 31 by omega)]
    simp only [dT (show m < 5 by omega), dT (show i < 5 by omega), if_true]
    by_cases w0 : gi ν 281 m - gi ν 281 i ≤ 0
    · rw [if_pos w0]
    · rw [if_neg w0]
      by_cases w1 : gi ν 281 m - gi ν 281 i ≤ 15360
      · rw [if_pos w1, hB.2.1, if_pos (by rw [show (0 : Int32) = nI 0 from rfl, nI_eq' (by omega) (by omega)]; omega), hB.2.2, if_pos (by rw [nI_eq' (by omega) (by omega)]; exact hne)]
        unfold Rw_arrive_94
        rw [show nI i + 1 = nI (i + 1) from nI_add i 1]
        exact ih f (i + 1) ν (by omega) (by omega) hB
      · rw [if_neg w1]
theorem c_arrF {s v m : Nat} (hm : m ≤ 4) (hv : 1 ≤ v) (hv2 : v ≤ 15360) {t : Nat → Nat} (ht : TI m t) (hst : ∀ i, i < m → t i < t m) : ∀ (k f i : Nat) (ν : Nm), i + k = m → k < f → (∀ i, i ≤ m → gi ν 281 i = nI (t i)) → BG s v m ν → Rw_arrive_2 f (nI m) (nI i) ν = some ((hit v m t k i).isSome, match hit v m t k i with | some j => si ν 276 1 (nI j) | none => ν) := by
  intro k
  induction k with
  | zero =>
    intro f i ν hi hf hT hB
    obtain ⟨f, rfl⟩ := fsucc hf
    rw [Rw_arrive_2, if_pos (by rw [nI_le' (by omega) (by omega)]; omega)]
    rfl
  | succ k ih =>
    intro f i ν hi hf hT hB
    obtain ⟨f, rfl⟩ := fsucc hf
    have h1 := ht.1 i (by omega)
    have h2 := ht.2
    have h3 := hst i (by omega)
    have e1 : gi ν 281 m - gi ν 281 i = nI (t m - t i) := by rw [hT m (by omega), hT i (by omega), nI_sub h1]
    rw [Rw_arrive_2, if_neg (by rw [nI_le' (by omega) (by omega)]; omega), inb_nI (show m < 2 ^ 31 by omega), inb_nI (show i < 2 ^ 31 by omega), nI_clamp (show m < 2 ^ 31 by omega), nI_clamp (show i < 2 ^ 31 by omega)]
    simp only [dT (show m < 5 by omega), dT (show i < 5 by omega), if_true]
    rw [e1, if_neg (by rw [show (0 : Int32) = nI 0 from rfl, nI_le' (by omega) (by omega)]; omega), if_pos (by rw [show (15360 : Int32) = nI 15360 from rfl, nI_le' (by omega) (by omega)]; omega), hB.2.1, if_pos (by rw [show (0 : Int32) = nI 0 from rfl, nI_eq' (by omega) (by omega)]; omega), hB.2.2, if_neg (fun z => z rfl)]
    unfold hit
    by_cases q : t m - t i = v
    · rw [if_neg (by rw [q]; exact fun z => z rfl), if_pos q]; rfl
    · rw [if_pos (by rw [nI_eq' (by omega) (by omega)]; exact q), if_neg q]
      unfold Rw_arrive_94
      rw [show nI i + 1 = nI (i + 1) from nI_add i 1]
      exact ih f (i + 1) ν (by omega) (by omega) hT hB
def WkF (s v L k f : Nat) : Prop := ∀ (m : Nat) (t r e : Nat → Nat) (ν : Nm), m + k = L → RI r e → TI m t → WC m t r e ν → BG s v L ν → ∃ ν2, G_wk f 0 (nI m) ν = some ((rf v k m t r e).isSome, ν2) ∧ (∀ q j, ¬ fw m q j → gi ν2 q j = gi ν q j) ∧ (∀ q j, gl ν2 q j = gl ν q j) ∧ OF m k (rf v k m t r e) ν2
theorem c_wkF41 {s v L k f0 : Nat} (hv1 : 1 ≤ v) (hv2 : v ≤ 15360) (hL : L ≤ 4) (hwk : WkF s v L k f0) {m : Nat} (hm : m + k + 1 = L) {t r e : Nat → Nat} (hr : RI r e) (ht : TI m t) : ∀ (d f i x : Nat) (ν : Nm), x + d = 80 → d < f → i ≤ x → vl r e x = true → WC m t r e ν → CHc m x ν → BG s v L ν → ∃ ν2, Rw_walk_41 (G_wk f0) f (nI m) (nI i) ν = some ((fsc (fbr (fnd v k (m + 1)) m t r e) (81 - x) x).isSome, ν2) ∧ (∀ q j, ¬ fw m q j → gi ν2 q j = gi ν q j) ∧ (∀ q j, gl ν2 q j = gl ν q j) ∧ OF m (k + 1) (fsc (fbr (fnd v k (m + 1)) m t r e) (81 - x) x) ν2 := by
  intro d
  induction d using Nat.strongRecOn with
  | _ d ih =>
  intro f i x ν hx hf hi hv hW hC hB
  obtain ⟨f, rfl⟩ : ∃ f2, f = f2 + 1 := ⟨f - 1, by omega⟩
  have hby := by_le hr hv
  obtain ⟨ν1, p1, p2, p3, p4⟩ := c_burnOn (by omega) hr hv ht hW hC
  have k1 : ∀ q j, ¬ fw m q j → gi ν1 q j = gi ν q j := fun q j hq => p3 q j (by unfold fw at hq; omega) (by unfold fw at hq; omega)
  have e1 : nI m + 1 = nI (m + 1) := nI_add m 1
  -- behind the choice x nothing is found
  have tail : ∀ (ν3 : Nm), (∀ q j, ¬ fw m q j → gi ν3 q j = gi ν q j) → (∀ q j, gl ν3 q j = gl ν q j) → CHc m x ν3 → fbr (fnd v k (m + 1)) m t r e x = none → ∃ ν2, Rw_walk_77 (G_wk f0) (Rw_walk_41 (G_wk f0) f) (nI m) (nI i) ν3 = some ((fsc (fbr (fnd v k (m + 1)) m t r e) (81 - x) x).isSome, ν2) ∧ (∀ q j, ¬ fw m q j → gi ν2 q j = gi ν q j) ∧ (∀ q j, gl ν2 q j = gl ν q j) ∧ OF m (k + 1) (fsc (fbr (fnd v k (m + 1)) m t r e) (81 - x) x) ν2 := by
    intro ν3 h1 hl h2 h4
    have hW3 := WC_keep (Nat.le_refl m) hW h1
    obtain ⟨ν4, q1, q2, q3, q4⟩ := c_choose (by omega) (by omega) hr hv hW3 h2
    have k4 : ∀ q j, ¬ fw m q j → gi ν4 q j = gi ν q j := fun q j hq => by rw [q3 q j (by unfold fw at hq; omega), h1 q j hq]
    have inv : ∀ z, ¬ vl r e z = true → fbr (fnd v k (m + 1)) m t r e z = none := fun z hz => by unfold fbr; rw [if_neg (fun q => hz q.1)]
    unfold Rw_walk_77
    rw [q1, Option.bind_some]
    simp only []
    rw [fsc_at (by omega), h4]
    simp only []
    cases hn : nxv r e x with
    | none =>
      have := fsc_skip (g := fbr (fnd v k (m + 1)) m t r e) (80 - x) (80 - x) (x + 1) (Nat.le_refl _) (fun z z1 z2 => inv z (nxv_none hn z (by omega) (by omega)))
      rw [this, Nat.sub_self]
      exact ⟨ν4, by rfl, k4, fun q j => by rw [q4, hl], OF_n _ _ _⟩
    | some y =>
      obtain ⟨y1, y2, y3, y4⟩ := nxv_some hn
      obtain ⟨ν5, t1, t2, t3, t4⟩ := ih (80 - y) (by omega) f (i + 1) y ν4 (by omega) (by omega) (by omega) y3 (WC_keep (Nat.le_refl m) hW k4) (q2 y hn) (BG_keep hB k4)
      have := fsc_skip (g := fbr (fnd v k (m + 1)) m t r e) (y - (x + 1)) (80 - x) (x + 1) (by omega) (fun z z1 z2 => inv z (y4 z (by omega) (by omega)))
      rw [show 80 - x - (y - (x + 1)) = 81 - y by omega, show x + 1 + (y - (x + 1)) = y by omega] at this
      rw [this]
      refine ⟨ν5, ?_, fun q j hq => by rw [t2 q j hq, k4 q j hq], fun q j => by rw [t3, q4, hl], t4⟩
      rw [show (some y : Option Nat).isSome = true from rfl, if_pos (by rw [b2iT]; exact id), show nI i + 1 = nI (i + 1) from nI_add i 1]
      exact t1
  rw [Rw_walk_41, if_neg (by rw [show (81 : Int32) = nI 81 from rfl, nI_le' (by omega) (by omega)]; omega), p1, Option.bind_some]
  simp only []
  by_cases hb0 : byA r e x = 0
  · rw [decide_eq_false (by simp [hb0]), if_pos (by rw [b2iF]; exact True.intro)]
    exact tail ν1 k1 p4 (fun c hc => by rw [p3 _ _ (by omega) (by omega)]; exact hC c hc) (by unfold fbr; rw [if_neg (fun q => q.2 hb0)])
  · rw [decide_eq_true hb0, if_neg (by rw [b2iT]; exact id), e1]
    have ht1 := TI_n ht hby
    have gx : fbr (fnd v k (m + 1)) m t r e x = (fnd v k (m + 1) (upn t (m + 1) (t m + byA r e x)) (nr r e x) (ne r e x)).map (fun p => (p.1, x :: p.2)) := by unfold fbr; rw [if_pos ⟨hv, hb0⟩]
    have hC1 : CHc m x ν1 := fun c hc => by rw [p3 _ _ (by omega) (by omega)]; exact hC c hc
    by_cases hk : k = 0
    · subst hk
      have aa : Rw_arrive (nI (m + 1)) ν1 = _ := c_arrF (s := s) (v := v) (show m + 1 ≤ 4 by omega) hv1 hv2 ht1 (TI_lt ht hb0) (m + 1) FU 0 ν1 (by omega) (by unfold FU; omega) p2.2 (by have := BG_keep hB k1; rw [show L = m + 1 by omega] at this; exact this)
      rw [aa, Option.bind_some]
      simp only []
      cases hh : hit v (m + 1) (upn t (m + 1) (t m + byA r e x)) (m + 1) 0 with
      | some j =>
        have gx2 : fbr (fnd v 0 (m + 1)) m t r e x = some (j, [x]) := by
          rw [gx]
          show (((hit v (m + 1) _ (m + 1) 0).map (fun i => (i, []))).map _ : Option (Nat × List Nat)) = _
          rw [hh]; rfl
        rw [fsc_at (by omega), gx2]
        refine ⟨si ν1 276 1 (nI j), by rfl, fun q j2 hq => by rw [gi_si, if_neg (by unfold fw at hq; omega), k1 q j2 hq], fun q j => by rw [gl_si, p4], fun i2 l2 h2 => ?_⟩
        obtain ⟨rfl, rfl⟩ := Prod.mk.inj (Option.some.inj h2)
        refine ⟨gi_si_s _ _ _ _, fun j3 hj3 c hc => ?_⟩
        obtain rfl : j3 = 0 := by omega
        rw [gi_si_q _ _ _ _ (by omega)]; exact hC1 c hc
      | none =>
        have gx2 : fbr (fnd v 0 (m + 1)) m t r e x = none := by
          rw [gx]
          show (((hit v (m + 1) _ (m + 1) 0).map (fun i => (i, []))).map _ : Option (Nat × List Nat)) = _
          rw [hh]; rfl
        rw [show (none : Option Nat).isSome = false from rfl, if_neg (by rw [b2iF]; simp)]
        obtain ⟨ν3, w1, w2, w3, w4⟩ := hwk (m + 1) _ _ _ ν1 (by omega) (RI_n hr hv) ht1 p2 (BG_keep hB k1)
        rw [w1, Option.bind_some]
        simp only []
        rw [show rf v 0 (m + 1) (upn t (m + 1) (t m + byA r e x)) (nr r e x) (ne r e x) = none from rfl, show (none : Option (Nat × List Nat)).isSome = false from rfl, if_pos (by rw [b2iF]; exact True.intro)]
        exact tail ν3 (fun q j hq => by rw [w2 q j (fun z => hq (fw_mono z)), k1 q j hq]) (fun q j => by rw [w3, p4]) (fun c hc => by rw [w2 _ _ (by unfold fw; omega)]; exact hC1 c hc) gx2
    · have aa : Rw_arrive (nI (m + 1)) ν1 = _ := c_arrN (s := s) (v := v) (L := L) (show m + 1 ≤ 4 by omega) hv1 hv2 hL (by omega) (m + 1) FU 0 ν1 (by omega) (by unfold FU; omega) (BG_keep hB k1)
      rw [aa, Option.bind_some]
      simp only []
      rw [if_neg (by rw [b2iF]; simp)]
      obtain ⟨ν3, w1, w2, w3, w4⟩ := hwk (m + 1) _ _ _ ν1 (by omega) (RI_n hr hv) ht1 p2 (BG_keep hB k1)
      have er : rf v k (m + 1) (upn t (m + 1) (t m + byA r e x)) (nr r e x) (ne r e x) = fnd v k (m + 1) (upn t (m + 1) (t m + byA r e x)) (nr r e x) (ne r e x) := by unfold rf; rw [if_neg hk]
      rw [er] at w1 w4
      have k3 : ∀ q j, ¬ fw m q j → gi ν3 q j = gi ν q j := fun q j hq => by rw [w2 q j (fun z => hq (fw_mono z)), k1 q j hq]
      have hC3 : CHc m x ν3 := fun c hc => by rw [w2 _ _ (by unfold fw; omega)]; exact hC1 c hc
      rw [w1, Option.bind_some]
      simp only []
      cases hh : fnd v k (m + 1) (upn t (m + 1) (t m + byA r e x)) (nr r e x) (ne r e x) with
      | some p =>
        obtain ⟨i0, l0⟩ := p
        rw [hh] at gx w4
        have gx2 : fbr (fnd v k (m + 1)) m t r e x = some (i0, x :: l0) := gx
        rw [fsc_at (by omega), gx2]
        refine ⟨ν3, by rfl, k3, fun q j => by rw [w3, p4], fun i2 l2 h2 => ?_⟩
        obtain ⟨rfl, rfl⟩ := Prod.mk.inj (Option.some.inj h2)
        obtain ⟨o1, o2⟩ := w4 i0 l0 rfl
        refine ⟨o1, fun j3 hj3 c hc => ?_⟩
        cases j3 with
        | zero => exact hC3 c hc
        | succ j3 =>
          rw [show m + (j3 + 1) = m + 1 + j3 by omega]
          exact o2 j3 (by omega) c hc
      | none =>
        rw [hh] at gx
        rw [show (none : Option (Nat × List Nat)).isSome = false from rfl, if_pos (by rw [b2iF]; exact True.intro)]
        exact tail ν3 k3 (fun q j => by rw [w3, p4]) hC3 gx
theorem c_walkF {s v L : Nat} (hv1 : 1 ≤ v) (hv2 : v ≤ 15360) (hL : L ≤ 4) : ∀ (k f : Nat), k < f → WkF s v L k f := by
  intro k
  induction k with
  | zero =>
    intro f hf m t r e ν hm hr ht hW hB
    obtain ⟨f, rfl⟩ := fsucc hf
    refine ⟨ν, ?_, fun _ _ _ => rfl, fun _ _ => rfl, OF_n _ _ _⟩
    show Rw_walk (G_wk f) (nI m) ν = _
    unfold Rw_walk
    rw [hB.2.2, if_pos (by rw [nI_le' (by omega) (by omega)]; omega)]
    rfl
  | succ k ih =>
    intro f hf m t r e ν hm hr ht hW hB
    obtain ⟨f, rfl⟩ := fsucc hf
    obtain ⟨ν1, p1, p2, p3, p4⟩ := c_wk17 (rc := G_wk f) (m := m) (by omega) 4 FU 0 ν (by omega) (by unfold FU; omega)
    have k1 : ∀ q j, ¬ fw m q j → gi ν1 q j = gi ν q j := fun q j hq => p3 q j (by unfold fw at hq; omega)
    obtain ⟨ν2, q1, q2, q3, q4⟩ := c_wkF41 hv1 hv2 hL (ih f (by omega)) (m := m) (by omega) hr ht 80 FU 0 0 ν1 (by omega) (by unfold FU; omega) (Nat.le_refl _) (vl_0 r e) (WC_keep (Nat.le_refl m) hW k1) (fun c hc => by rw [p2 c (by omega) hc, dg_0 hc]) (BG_keep hB k1)
    refine ⟨ν2, ?_, fun q j hq => by rw [q2 q j hq, k1 q j hq], fun q j => by rw [q3, p4], q4⟩
    show Rw_walk (G_wk f) (nI m) ν = _
    unfold Rw_walk
    rw [hB.2.2, if_neg (by rw [nI_le' (by omega) (by omega)]; omega), if_pos (by rw [show (4 : Int32) = nI 4 from rfl, nI_lt' (by omega) (by omega)]; omega)]
    exact p1.trans q1
