/-! The model finds a row. -/
def fwr (m q j : Nat) : Prop := (q = 323 ∧ m + 1 ≤ j) ∨ (q = 324 ∧ m ≤ j) ∨ ((q = 325 ∨ q = 326) ∧ 4 * m + 4 ≤ j) ∨ (q = 313 ∧ j = 32)
theorem fwr_mono {m q j : Nat} (h : fwr (m + 1) q j) : fwr m q j := by unfold fwr at h ⊢; omega
theorem WM_keepR {m : Nat} {t r e : Nat → Nat} {ν ν2 : Nm} (h : WM m t r e ν) (k : ∀ q j, ¬ fwr m q j → gi ν2 q j = gi ν q j) : WM m t r e ν2 :=
  ⟨fun c hc => ⟨by rw [k _ _ (by unfold fwr; omega)]; exact (h.1 c hc).1, by rw [k _ _ (by unfold fwr; omega)]; exact (h.1 c hc).2⟩, fun i hi => by rw [k _ _ (by unfold fwr; omega)]; exact h.2 i hi⟩
theorem m_spanAt {v m : Nat} (hm : m ≤ 4) (hv2 : v ≤ 15360) {t : Nat → Nat} (ht : TI m t) : ∀ (k f i : Nat) (ν : Nm), i + k = m → k < f → (∀ i, i ≤ m → gi ν 323 i = nI (t i)) → Md_isSpanAt_2 f (nI m) (nI v) (nI i) ν = some ((hit v m t k i).isSome, match hit v m t k i with | some j => si ν 313 32 (nI j) | none => ν) := by
  intro k
  induction k with
  | zero =>
    intro f i ν hi hf hT
    obtain ⟨f, rfl⟩ := fsucc hf
    rw [Md_isSpanAt_2, if_pos (by rw [nI_le' (by omega) (by omega)]; omega)]
    rfl
  | succ k ih =>
    intro f i ν hi hf hT
    obtain ⟨f, rfl⟩ := fsucc hf
    have h1 := ht.1 i (by omega)
    have h2 := ht.2
    have e1 : gi ν 323 m - gi ν 323 i = nI (t m - t i) := by rw [hT m (by omega), hT i (by omega), nI_sub h1]
    rw [Md_isSpanAt_2, if_neg (by rw [nI_le' (by omega) (by omega)]; omega), inb_nI (show m < 2 ^ 31 by omega), inb_nI (show i < 2 ^ 31 by omega), nI_clamp (show m < 2 ^ 31 by omega), nI_clamp (show i < 2 ^ 31 by omega)]
    simp only [dT (show m < 6 by omega), dT (show i < 6 by omega), if_true]
    rw [e1]
    unfold hit
    by_cases q : t m - t i = v
    · rw [if_pos (by rw [q]), if_pos q]; rfl
    · rw [if_neg (by rw [nI_eq' (by omega) (by omega)]; exact q), if_neg q, show nI i + 1 = nI (i + 1) from nI_add i 1]
      exact ih f (i + 1) ν (by omega) (by omega) hT
/-- one round of the outer loop -/
theorem m_ir1 {v n m : Nat} (hm : m ≤ 4) {t r e : Nat → Nat} (hr : RI r e) {ν : Nm} (hW : WM m t r e ν) {x d : Nat} (hx : x + d = 81) (hC : gi ν 324 m = nI x) (g : Nat) : Md_isRow_8 (g + 1) (nI v) (nI n) (nI m) ν = Md_isRow_68 (Md_isRow_8 g) (nI v) (nI n) (nI m) (si ν 324 m (nI (nxl m r e d x + 1))) := by
  rw [Md_isRow_8, if_neg (nI_pos (by omega)), inb_nI (show m < 2 ^ 31 by omega), nI_clamp (show m < 2 ^ 31 by omega)]
  simp only [dT (show m < 6 by omega), if_true]
  rw [hC, show nI x + 1 = nI (x + 1) from nI_add x 1]
  have q := m_find hm hr (fun f ν => Md_isRow_24 (Md_isRow_8 g) f (nI v) (nI n) (nI m) ν) (fun ν => Md_isRow_68 (Md_isRow_8 g) (nI v) (nI n) (nI m) ν) (fun f ν y _ hy => by
    show Md_isRow_24 (Md_isRow_8 g) (f + 1) (nI v) (nI n) (nI m) ν = _
    rw [Md_isRow_24, inb_nI (show m < 2 ^ 31 by omega), nI_clamp (show m < 2 ^ 31 by omega)]
    simp only [dT (show m < 6 by omega), if_true]
    rw [hy]) d FU x (si ν 324 m (nI (x + 1))) hx (by unfold FU; omega) ⟨fun c hc => ⟨by rw [gi_si_q _ _ _ _ (by omega)]; exact (hW.1 c hc).1, by rw [gi_si_q _ _ _ _ (by omega)]; exact (hW.1 c hc).2⟩, fun j hj => by rw [gi_si_q _ _ _ _ (by omega)]; exact hW.2 j hj⟩ (gi_si_s _ _ _ _)
  rw [si_si] at q
  exact q
theorem m_ir68n {v n m : Nat} (hm : m ≤ 4) (k8 : Int32 → Int32 → Int32 → Nm → Option (Bool × Nm)) (ν : Nm) : Md_isRow_68 k8 (nI v) (nI n) (nI m) (si ν 324 m (nI 82)) = k8 (nI v) (nI n) (nI m - 1) (si ν 324 m (nI 82)) := by
  unfold Md_isRow_68
  rw [inb_nI (show m < 2 ^ 31 by omega), nI_clamp (show m < 2 ^ 31 by omega)]
  simp only [dT (show m < 6 by omega), if_true]
  rw [gi_si_s, if_neg (show ¬ ¬ nI 82 = (82 : Int32) from fun z => z rfl), Int32.sub_eq_add_neg]
theorem m_ir68 {v n m : Nat} (hm : m ≤ 3) (hn : n ≤ 4) {t r e : Nat → Nat} (hr : RI r e) {y : Nat} (hy : y < 81) (hv : vl r e y = true) {ν : Nm} (hW : WM m t r e ν) : ∃ ν2, (∀ k8, Md_isRow_68 k8 (nI v) (nI n) (nI m) (si ν 324 m (nI (y + 1))) = (if byA r e y ≠ 0 then (if m + 1 ≠ n then k8 (nI v) (nI n) (nI (m + 1)) (si ν2 324 (m + 1) 0) else (Md_isSpanAt (nI n) (nI v) ν2).bind fun v11 => if (b2i v11.1) = 0 then k8 (nI v) (nI n) (nI m) v11.2 else some (true, v11.2)) else k8 (nI v) (nI n) (nI m) ν2)) ∧ gi ν2 324 m = nI (y + 1) ∧ (byA r e y ≠ 0 → WM (m + 1) (upn t (m + 1) (t m + byA r e y)) (nr r e y) (ne r e y) ν2) ∧ (∀ q j, ¬ (q = 324 ∧ j = m) → ¬ ((q = 325 ∨ q = 326) ∧ 4 * m + 4 ≤ j) → ¬ (q = 323 ∧ j = m + 1) → gi ν2 q j = gi ν q j) ∧ ∀ q j, gl ν2 q j = gl ν q j := by
  obtain ⟨ν1, p1, p2, p3, p4⟩ := m_isNext (show m ≤ 4 by omega) hy hr hv (ν := si ν 324 m (nI y)) ⟨fun c hc => ⟨by rw [gi_si_q _ _ _ _ (by omega)]; exact (hW.1 c hc).1, by rw [gi_si_q _ _ _ _ (by omega)]; exact (hW.1 c hc).2⟩, fun j hj => by rw [gi_si_q _ _ _ _ (by omega)]; exact hW.2 j hj⟩ (gi_si_s _ _ _ _)
  have e1 : gi ν1 324 m = nI y := by rw [p3 _ _ (by omega) (by omega), gi_si_s]
  refine ⟨si ν1 324 m (nI (y + 1)), fun k8 => ?_, gi_si_s _ _ _ _, fun q => ⟨fun c hc => ⟨by rw [gi_si_q _ _ _ _ (by omega)]; exact ((p2 q).1 c hc).1, by rw [gi_si_q _ _ _ _ (by omega)]; exact ((p2 q).1 c hc).2⟩, fun j hj => by rw [gi_si_q _ _ _ _ (by omega)]; exact (p2 q).2 j hj⟩, fun q j h1 h2 h4 => by rw [gi_si, if_neg h1, p3 q j h2 h4, gi_si, if_neg h1], fun q j => by rw [gl_si, p4, gl_si]⟩
  unfold Md_isRow_68
  rw [inb_nI (show m < 2 ^ 31 by omega), nI_clamp (show m < 2 ^ 31 by omega)]
  simp only [dT (show m < 6 by omega), if_true]
  rw [gi_si_s, if_pos (by rw [show (82 : Int32) = nI 82 from rfl, nI_eq' (by omega) (by omega)]; omega), show nI (y + 1) - 1 = nI y from nI_sub (b := 1) (by omega), si_si, p1, Option.bind_some]
  simp only []
  rw [e1, show nI y + 1 = nI (y + 1) from nI_add y 1, show nI m + 1 = nI (m + 1) from nI_add m 1]
  by_cases q : byA r e y ≠ 0
  · rw [decide_eq_true q, if_pos (by rw [b2iT]; exact id), if_pos q, inb_nI (show m + 1 < 2 ^ 31 by omega), nI_clamp (show m + 1 < 2 ^ 31 by omega)]
    by_cases z : m + 1 = n
    · rw [if_neg (by rw [z]; exact fun w => w rfl), if_neg (by simp [z])]
    · rw [if_pos (by rw [nI_eq' (by omega) (by omega)]; exact z), if_pos z, if_pos (by simp; omega)]
  · rw [decide_eq_false q, if_neg (by rw [b2iF]; simp), if_neg q]
def IrM (v n k : Nat) : Prop := ∀ (d m : Nat) (t r e : Nat → Nat) (ν : Nm) (x : Nat), m + (k + 1) = n → RI r e → TI m t → (m = 0 → byA r e 0 = 0) → WM m t r e ν → x + d = 81 → gi ν 324 m = nI x → ∃ c ν2, c ≤ cst (k + 1) x ∧ (∀ q j, ¬ fwr m q j → gi ν2 q j = gi ν q j) ∧ (∀ q j, gl ν2 q j = gl ν q j) ∧ (fsc (fbr (fnd v k (m + 1)) m t r e) (81 - x) x = none → ∀ g, Md_isRow_8 (g + c) (nI v) (nI n) (nI m) ν = Md_isRow_8 g (nI v) (nI n) (nI m - 1) ν2) ∧ ∀ i l, fsc (fbr (fnd v k (m + 1)) m t r e) (81 - x) x = some (i, l) → (∀ g, Md_isRow_8 (g + c) (nI v) (nI n) (nI m) ν = some (true, ν2)) ∧ gi ν2 313 32 = nI i ∧ ∀ j, j < k + 1 → gi ν2 324 (m + j) = nI (l.getD j 0 + 1)
theorem m_ir {v n : Nat} (hv2 : v ≤ 15360) (hn : n ≤ 4) : ∀ k, IrM v n k := by
  intro k
  induction k with
  | zero =>
    intro d
    induction d using Nat.strongRecOn with
    | _ d ihd =>
    intro m t r e ν x hm hr ht h0 hW hx hC
    obtain ⟨n1, n2, n3, n4⟩ := nxl_ok m r e d x hx
    have st := fun g => m_ir1 (v := v) (n := n) (show m ≤ 4 by omega) hr hW hx hC g
    generalize nxl m r e d x = y at n1 n2 n3 n4 st
    have sk := fsc_skip (g := fbr (fnd v 0 (m + 1)) m t r e) (y - x) (81 - x) x (by omega) (fun z z1 z2 => by unfold fbr; rw [if_neg (not_lt h0 (n4 z z1 (by omega)))])
    rw [show 81 - x - (y - x) = 81 - y by omega, show x + (y - x) = y by omega] at sk
    rw [sk]
    by_cases hy : y = 81
    · subst hy
      exact ⟨1, si ν 324 m (nI 82), by show 1 ≤ (81 - x) * (1 + cst 0 0) + 1; omega, fun q j hq => by rw [gi_si, if_neg (by unfold fwr at hq; omega)], fun q j => gl_si _ _ _ _ _ _, fun _ g => by rw [st g]; exact m_ir68n (by omega) _ ν, fun i l h => by cases h⟩
    · have hv : vl r e y = true := by
        have := n3 (by omega)
        unfold ltM at this
        rw [Bool.and_eq_true] at this
        exact this.1
      have hby := by_le hr hv
      obtain ⟨ν2, p1, p2, p3, p4, p5⟩ := m_ir68 (v := v) (n := n) (show m ≤ 3 by omega) hn hr (show y < 81 by omega) hv hW
      have k2 : ∀ q j, ¬ fwr m q j → gi ν2 q j = gi ν q j := fun q j hq => p4 q j (by unfold fwr at hq; omega) (by unfold fwr at hq; omega) (by unfold fwr at hq; omega)
      have hcg := cst_go (k := 0) n1 (show y < 81 by omega)
      have c00 : cst 0 0 = 2 := rfl
      rw [fsc_at (show y < 81 by omega), show 80 - y = 81 - (y + 1) by omega]
      have fail : fbr (fnd v 0 (m + 1)) m t r e y = none → (∀ g, Md_isRow_8 (g + 1) (nI v) (nI n) (nI m) ν = Md_isRow_8 g (nI v) (nI n) (nI m) ν2) → ∃ c ν2, c ≤ cst (0 + 1) x ∧ (∀ q j, ¬ fwr m q j → gi ν2 q j = gi ν q j) ∧ (∀ q j, gl ν2 q j = gl ν q j) ∧ (fsc (fbr (fnd v 0 (m + 1)) m t r e) (81 - (y + 1)) (y + 1) = none → ∀ g, Md_isRow_8 (g + c) (nI v) (nI n) (nI m) ν = Md_isRow_8 g (nI v) (nI n) (nI m - 1) ν2) ∧ ∀ i l, fsc (fbr (fnd v 0 (m + 1)) m t r e) (81 - (y + 1)) (y + 1) = some (i, l) → (∀ g, Md_isRow_8 (g + c) (nI v) (nI n) (nI m) ν = some (true, ν2)) ∧ gi ν2 313 32 = nI i ∧ ∀ j, j < 0 + 1 → gi ν2 324 (m + j) = nI (l.getD j 0 + 1) := by
        intro hg he
        obtain ⟨c, ν3, q1, q2, q3, q4, q5⟩ := ihd (81 - (y + 1)) (by omega) m t r e ν2 (y + 1) hm hr ht h0 (WM_keepR hW k2) (by omega) p2
        refine ⟨c + 1, ν3, by omega, fun q j hq => by rw [q2 q j hq, k2 q j hq], fun q j => by rw [q3, p5], fun z g => ?_, fun i l z => ⟨fun g => ?_, (q5 i l z).2⟩⟩
        · rw [show g + (c + 1) = (g + c) + 1 by omega, he]; exact q4 z g
        · rw [show g + (c + 1) = (g + c) + 1 by omega, he]; exact (q5 i l z).1 g
      by_cases hb0 : byA r e y = 0
      · have hg : fbr (fnd v 0 (m + 1)) m t r e y = none := by unfold fbr; rw [if_neg (fun q => q.2 hb0)]
        rw [hg]
        exact fail hg (fun g => by rw [st g, p1, if_neg (by simp [hb0])])
      · have ht1 := TI_n ht hby
        have hW1 := p3 hb0
        have sp : Md_isSpanAt (nI (m + 1)) (nI v) ν2 = _ := m_spanAt (show m + 1 ≤ 4 by omega) hv2 ht1 (m + 1) FU 0 ν2 (by omega) (by unfold FU; omega) hW1.2
        have gx : fbr (fnd v 0 (m + 1)) m t r e y = ((hit v (m + 1) (upn t (m + 1) (t m + byA r e y)) (m + 1) 0).map (fun i => (i, ([] : List Nat)))).map (fun p => (p.1, y :: p.2)) := by unfold fbr; rw [if_pos ⟨hv, hb0⟩]; rfl
        have en : m + 1 = n := by omega
        cases hh : hit v (m + 1) (upn t (m + 1) (t m + byA r e y)) (m + 1) 0 with
        | none =>
          rw [hh] at gx sp
          have hg : fbr (fnd v 0 (m + 1)) m t r e y = none := gx
          rw [hg]
          refine fail hg (fun g => ?_)
          rw [st g, p1, if_pos hb0, if_neg (by simp [en])]
          rw [en] at sp
          rw [sp, Option.bind_some]
          rfl
        | some j =>
          rw [hh] at gx sp
          have hg : fbr (fnd v 0 (m + 1)) m t r e y = some (j, [y]) := gx
          rw [hg]
          refine ⟨1, si ν2 313 32 (nI j), by show 1 ≤ (81 - x) * (1 + cst 0 0) + 1; omega, fun q j2 hq => by rw [gi_si, if_neg (by unfold fwr at hq; omega), k2 q j2 hq], fun q j => by rw [gl_si, p5], fun z => (by cases z), fun i l z => ?_⟩
          obtain ⟨rfl, rfl⟩ := Prod.mk.inj (Option.some.inj z)
          refine ⟨fun g => ?_, gi_si_s _ _ _ _, fun j3 hj3 => ?_⟩
          · rw [st g, p1, if_pos hb0, if_neg (by simp [en])]
            rw [en] at sp
            rw [sp, Option.bind_some]
            rfl
          · obtain rfl : j3 = 0 := by omega
            rw [gi_si_q _ _ _ _ (by omega)]; exact p2
  | succ k ihk =>
    intro d
    induction d using Nat.strongRecOn with
    | _ d ihd =>
    intro m t r e ν x hm hr ht h0 hW hx hC
    obtain ⟨n1, n2, n3, n4⟩ := nxl_ok m r e d x hx
    have st := fun g => m_ir1 (v := v) (n := n) (show m ≤ 4 by omega) hr hW hx hC g
    generalize nxl m r e d x = y at n1 n2 n3 n4 st
    have sk := fsc_skip (g := fbr (fnd v (k + 1) (m + 1)) m t r e) (y - x) (81 - x) x (by omega) (fun z z1 z2 => by unfold fbr; rw [if_neg (not_lt h0 (n4 z z1 (by omega)))])
    rw [show 81 - x - (y - x) = 81 - y by omega, show x + (y - x) = y by omega] at sk
    rw [sk]
    by_cases hy : y = 81
    · subst hy
      exact ⟨1, si ν 324 m (nI 82), by show 1 ≤ (81 - x) * (1 + cst (k + 1) 0) + 1; omega, fun q j hq => by rw [gi_si, if_neg (by unfold fwr at hq; omega)], fun q j => gl_si _ _ _ _ _ _, fun _ g => by rw [st g]; exact m_ir68n (by omega) _ ν, fun i l h => by cases h⟩
    · have hv : vl r e y = true := by
        have := n3 (by omega)
        unfold ltM at this
        rw [Bool.and_eq_true] at this
        exact this.1
      have hby := by_le hr hv
      obtain ⟨ν2, p1, p2, p3, p4, p5⟩ := m_ir68 (v := v) (n := n) (show m ≤ 3 by omega) hn hr (show y < 81 by omega) hv hW
      have k2 : ∀ q j, ¬ fwr m q j → gi ν2 q j = gi ν q j := fun q j hq => p4 q j (by unfold fwr at hq; omega) (by unfold fwr at hq; omega) (by unfold fwr at hq; omega)
      have hcg := cst_go (k := k + 1) n1 (show y < 81 by omega)
      rw [fsc_at (show y < 81 by omega), show 80 - y = 81 - (y + 1) by omega]
      have fail : ∀ (c0 : Nat) (ν4 : Nm), c0 ≤ 1 + cst (k + 1) 0 → (∀ q j, ¬ fwr m q j → gi ν4 q j = gi ν q j) → (∀ q j, gl ν4 q j = gl ν q j) → gi ν4 324 m = nI (y + 1) → (∀ g, Md_isRow_8 (g + c0) (nI v) (nI n) (nI m) ν = Md_isRow_8 g (nI v) (nI n) (nI m) ν4) → ∃ c ν2, c ≤ cst (k + 1 + 1) x ∧ (∀ q j, ¬ fwr m q j → gi ν2 q j = gi ν q j) ∧ (∀ q j, gl ν2 q j = gl ν q j) ∧ (fsc (fbr (fnd v (k + 1) (m + 1)) m t r e) (81 - (y + 1)) (y + 1) = none → ∀ g, Md_isRow_8 (g + c) (nI v) (nI n) (nI m) ν = Md_isRow_8 g (nI v) (nI n) (nI m - 1) ν2) ∧ ∀ i l, fsc (fbr (fnd v (k + 1) (m + 1)) m t r e) (81 - (y + 1)) (y + 1) = some (i, l) → (∀ g, Md_isRow_8 (g + c) (nI v) (nI n) (nI m) ν = some (true, ν2)) ∧ gi ν2 313 32 = nI i ∧ ∀ j, j < k + 1 + 1 → gi ν2 324 (m + j) = nI (l.getD j 0 + 1) := by
        intro c0 ν4 hc0 k4 kl4 c4' he
        obtain ⟨c, ν3, q1, q2, q3, q4, q5⟩ := ihd (81 - (y + 1)) (by omega) m t r e ν4 (y + 1) hm hr ht h0 (WM_keepR hW k4) (by omega) c4'
        refine ⟨c + c0, ν3, by omega, fun q j hq => by rw [q2 q j hq, k4 q j hq], fun q j => by rw [q3, kl4], fun z g => ?_, fun i l z => ⟨fun g => ?_, (q5 i l z).2⟩⟩
        · rw [show g + (c + c0) = (g + c) + c0 by omega, he]; exact q4 z g
        · rw [show g + (c + c0) = (g + c) + c0 by omega, he]; exact (q5 i l z).1 g
      by_cases hb0 : byA r e y = 0
      · have hg : fbr (fnd v (k + 1) (m + 1)) m t r e y = none := by unfold fbr; rw [if_neg (fun q => q.2 hb0)]
        rw [hg]
        exact fail 1 ν2 (by omega) k2 p5 p2 (fun g => by rw [st g, p1, if_neg (by simp [hb0])])
      · have ht1 := TI_n ht hby
        have hW1 := p3 hb0
        have e5 : ∀ q j, ¬ (q = 324 ∧ j = m + 1) → gi (si ν2 324 (m + 1) 0) q j = gi ν2 q j := fun q j hq => by rw [gi_si, if_neg hq]
        obtain ⟨c5, ν5, b1, b2, b3, b4, b5⟩ := ihk 81 (m + 1) _ _ _ (si ν2 324 (m + 1) 0) 0 (by omega) (RI_n hr hv) ht1 (fun z => by omega) ⟨fun c hc => ⟨by rw [e5 _ _ (by omega)]; exact (hW1.1 c hc).1, by rw [e5 _ _ (by omega)]; exact (hW1.1 c hc).2⟩, fun i hi => by rw [e5 _ _ (by omega)]; exact hW1.2 i hi⟩ (by omega) (gi_si_s _ _ _ _)
        have k5 : ∀ q j, ¬ fwr m q j → gi ν5 q j = gi ν q j := fun q j hq => by rw [b2 q j (fun z => hq (fwr_mono z)), e5 q j (by unfold fwr at hq; omega), k2 q j hq]
        have d5 : gi ν5 324 m = nI (y + 1) := by rw [b2 _ _ (by unfold fwr; omega), e5 _ _ (by omega)]; exact p2
        have gx : fbr (fnd v (k + 1) (m + 1)) m t r e y = (fsc (fbr (fnd v k (m + 1 + 1)) (m + 1) (upn t (m + 1) (t m + byA r e y)) (nr r e y) (ne r e y)) (81 - 0) 0).map (fun p => (p.1, y :: p.2)) := by unfold fbr; rw [if_pos ⟨hv, hb0⟩]; rfl
        have s1 : ∀ g, Md_isRow_8 (g + 1) (nI v) (nI n) (nI m) ν = Md_isRow_8 g (nI v) (nI n) (nI (m + 1)) (si ν2 324 (m + 1) 0) := fun g => by rw [st g, p1, if_pos hb0, if_pos (by omega)]
        cases hh : fsc (fbr (fnd v k (m + 1 + 1)) (m + 1) (upn t (m + 1) (t m + byA r e y)) (nr r e y) (ne r e y)) (81 - 0) 0 with
        | none =>
          rw [hh] at gx
          have hg : fbr (fnd v (k + 1) (m + 1)) m t r e y = none := gx
          rw [hg]
          refine fail (c5 + 1) ν5 (by omega) k5 (fun q j => by rw [b3, gl_si, p5]) d5 (fun g => ?_)
          rw [show g + (c5 + 1) = (g + c5) + 1 by omega, s1, b4 hh g, show nI (m + 1) - 1 = nI m from nI_sub (b := 1) (by omega)]
        | some p =>
          obtain ⟨i0, l0⟩ := p
          rw [hh] at gx
          have hg : fbr (fnd v (k + 1) (m + 1)) m t r e y = some (i0, y :: l0) := gx
          rw [hg]
          obtain ⟨z1, z2, z3⟩ := b5 i0 l0 hh
          refine ⟨c5 + 1, ν5, by have := cst_go (k := k + 1) n1 (show y < 81 by omega); omega, k5, fun q j => by rw [b3, gl_si, p5], fun z => (by cases z), fun i l z => ?_⟩
          obtain ⟨rfl, rfl⟩ := Prod.mk.inj (Option.some.inj z)
          refine ⟨fun g => by rw [show g + (c5 + 1) = (g + c5) + 1 by omega, s1]; exact z1 g, z2, fun j3 hj3 => ?_⟩
          cases j3 with
          | zero => exact d5
          | succ j3 =>
            rw [show m + (j3 + 1) = m + 1 + j3 by omega]
            exact z3 j3 (by omega)
