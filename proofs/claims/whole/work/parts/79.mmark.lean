/-! The model marks. -/
theorem cnt_set (P : Nat → Bool) {p : Nat} (hp : P p = false) : ∀ n, cnt (fun k => P k || decide (k = p)) n = cnt P n + (if p < n then 1 else 0) := by
  intro n
  induction n with
  | zero => rfl
  | succ n ih =>
    show cnt (fun k => P k || decide (k = p)) n + (if (P n || decide (n = p)) = true then 1 else 0) = cnt P n + (if P n = true then 1 else 0) + _
    rw [ih]
    by_cases e : n = p
    · subst e
      rw [hp, if_neg (by omega), if_pos (by simp), if_neg (by simp), if_pos (by omega)]
    · rw [decide_eq_false e, Bool.or_false]
      by_cases q : p < n
      · rw [if_pos q, if_pos (show p < n + 1 by omega)]; omega
      · rw [if_neg q, if_neg (show ¬ p < n + 1 by omega)]; omega
def PM (s : Nat) (P : Nat → Bool) (ν : Nm) : Prop := (∀ k, k < 15361 → gi ν 327 (15361 * s + k) = b2i (P k)) ∧ gi ν 328 s = nI (cnt P 15361)
/-- marks of the model have changed from ν to ν2 by N -/
def PMx (s : Nat) (N : Nat → Prop) (ν ν2 : Nm) : Prop := ∀ P, PM s P ν → ∃ P2, PM s P2 ν2 ∧ ∀ v, P2 v = true ↔ (P v = true ∨ N v)
theorem PMx_tr {s : Nat} {N N2 N3 : Nat → Prop} {ν ν1 ν2 : Nm} (h : PMx s N ν ν1) (h2 : PMx s N2 ν1 ν2) (e : ∀ v, N3 v ↔ (N v ∨ N2 v)) : PMx s N3 ν ν2 := by
  intro P hP
  obtain ⟨P1, p1, p2⟩ := h P hP
  obtain ⟨P2, q1, q2⟩ := h2 P1 p1
  refine ⟨P2, q1, fun v => ?_⟩
  rw [q2 v, p2 v, e v]
  constructor
  · rintro ((q | q) | q)
    · exact Or.inl q
    · exact Or.inr (Or.inl q)
    · exact Or.inr (Or.inr q)
  · rintro (q | q | q)
    · exact Or.inl (Or.inl q)
    · exact Or.inl (Or.inr q)
    · exact Or.inr q
theorem PMx_keep {s : Nat} {ν ν2 : Nm} (h : ∀ j, gi ν2 327 j = gi ν 327 j) (h2 : gi ν2 328 s = gi ν 328 s) : PMx s (fun _ => False) ν ν2 := fun P hP => ⟨P, ⟨fun k hk => by rw [h]; exact hP.1 k hk, by rw [h2]; exact hP.2⟩, fun v => ⟨fun q => Or.inl q, fun q => q.elim id False.elim⟩⟩
theorem cnt15 (P : Nat → Bool) : cnt P 15361 ≤ 15361 := cnt_le P 15361
theorem m_mark2 {s m : Nat} (hs : s < 16) (hm : m ≤ 4) {t : Nat → Nat} (ht : TI m t) : ∀ (k f i : Nat) (ν : Nm) (P : Nat → Bool), i + k = m → k < f → (∀ i, i ≤ m → gi ν 323 i = nI (t i)) → PM s P ν → ∃ ν2 P2, Md_mark_2 f (nI s) (nI m) (nI i) ν = some ν2 ∧ PM s P2 ν2 ∧ (∀ v, P2 v = true ↔ (P v = true ∨ ∃ j, i ≤ j ∧ j < m ∧ t m - t j = v)) ∧ (∀ q j, ¬ ((q = 327 ∧ 15361 * s ≤ j ∧ j < 15361 * s + 15361) ∨ (q = 328 ∧ j = s)) → gi ν2 q j = gi ν q j) ∧ ∀ q j, gl ν2 q j = gl ν q j := by
  intro k
  induction k with
  | zero =>
    intro f i ν P hi hf hT hP
    obtain ⟨f, rfl⟩ := fsucc hf
    exact ⟨ν, P, by rw [Md_mark_2, if_pos (by rw [nI_le' (by omega) (by omega)]; omega)], hP, fun v => ⟨fun q => Or.inl q, fun q => q.elim id (fun ⟨j, j1, j2, _⟩ => by omega)⟩, fun _ _ _ => rfl, fun _ _ => rfl⟩
  | succ k ih =>
    intro f i ν P hi hf hT hP
    obtain ⟨f, rfl⟩ := fsucc hf
    have h1 := ht.1 i (by omega)
    have h2 := ht.2
    have hp : t m - t i ≤ 15360 := by omega
    have e1 : (15361 : Int32) * nI s + gi ν 323 m - gi ν 323 i = nI (15361 * s + (t m - t i)) := by
      rw [hT m (by omega), hT i (by omega), show (15361 : Int32) * nI s = nI (15361 * s) from nI_mul 15361 s, nI_add, nI_sub (by omega)]
      congr 1; omega
    have hc := cnt15 P
    have go : ∀ (Q : Nat → Bool) (b : Nat), b ≤ 1 → (∀ v, Q v = (P v || decide (v = t m - t i))) → cnt Q 15361 = cnt P 15361 + b → ∃ ν2 P2, Md_mark_2 f (nI s) (nI m) (nI (i + 1)) (si (si ν 328 s (nI (cnt P 15361) + nI b)) 327 (15361 * s + (t m - t i)) 1) = some ν2 ∧ PM s P2 ν2 ∧ (∀ v, P2 v = true ↔ (P v = true ∨ ∃ j, i ≤ j ∧ j < m ∧ t m - t j = v)) ∧ (∀ q j, ¬ ((q = 327 ∧ 15361 * s ≤ j ∧ j < 15361 * s + 15361) ∨ (q = 328 ∧ j = s)) → gi ν2 q j = gi ν q j) ∧ ∀ q j, gl ν2 q j = gl ν q j := by
      intro Q b hb hQ hcn
      have hPQ : PM s Q (si (si ν 328 s (nI (cnt P 15361) + nI b)) 327 (15361 * s + (t m - t i)) 1) := by
        refine ⟨fun k hk => ?_, by rw [gi_si_q _ _ _ _ (by omega), gi_si_s, nI_add, hcn]⟩
        rw [hQ k]
        by_cases z : k = t m - t i
        · subst z; rw [gi_si_s, decide_eq_true rfl, Bool.or_true]; rfl
        · rw [gi_si_j _ _ _ (by omega), gi_si_q _ _ _ _ (by omega), decide_eq_false z, Bool.or_false]; exact hP.1 k hk
      obtain ⟨ν2, P2, p1, p2, p3, p4, p5⟩ := ih f (i + 1) (si (si ν 328 s (nI (cnt P 15361) + nI b)) 327 (15361 * s + (t m - t i)) 1) Q (by omega) (by omega) (fun j hj => by rw [gi_si_q _ _ _ _ (by omega), gi_si_q _ _ _ _ (by omega)]; exact hT j hj) hPQ
      refine ⟨ν2, P2, p1, p2, fun v => ?_, fun q j hq => by rw [p4 q j hq, gi_si, if_neg (by omega), gi_si, if_neg (by omega)], fun q j => by rw [p5, gl_si, gl_si]⟩
      rw [p3 v, hQ v, Bool.or_eq_true, decide_eq_true_iff]
      constructor
      · rintro ((q | q) | ⟨j, j1, j2, j3⟩)
        · exact Or.inl q
        · exact Or.inr ⟨i, by omega, by omega, q.symm⟩
        · exact Or.inr ⟨j, by omega, j2, j3⟩
      · rintro (q | ⟨j, j1, j2, j3⟩)
        · exact Or.inl (Or.inl q)
        · by_cases z : j = i
          · subst z; exact Or.inl (Or.inr j3.symm)
          · exact Or.inr ⟨j, by omega, j2, j3⟩
    rw [Md_mark_2, if_neg (by rw [nI_le' (by omega) (by omega)]; omega), inb_nI (show m < 2 ^ 31 by omega), inb_nI (show i < 2 ^ 31 by omega), inb_nI (show s < 2 ^ 31 by omega), nI_clamp (show m < 2 ^ 31 by omega), nI_clamp (show i < 2 ^ 31 by omega), nI_clamp (show s < 2 ^ 31 by omega), e1, inb_nI (show 15361 * s + (t m - t i) < 2 ^ 31 by omega), nI_clamp (show 15361 * s + (t m - t i) < 2 ^ 31 by omega)]
    simp only [dT (show m < 6 by omega), dT (show i < 6 by omega), dT hs, dT (show 15361 * s + (t m - t i) < 245776 by omega), if_true]
    unfold Md_mark_50
    rw [inb_nI (show s < 2 ^ 31 by omega), inb_nI (show 15361 * s + (t m - t i) < 2 ^ 31 by omega), nI_clamp (show s < 2 ^ 31 by omega), nI_clamp (show 15361 * s + (t m - t i) < 2 ^ 31 by omega)]
    simp only [dT hs, dT (show 15361 * s + (t m - t i) < 245776 by omega), if_true]
    rw [hP.1 _ (by omega), hP.2, show nI i + 1 = nI (i + 1) from nI_add i 1]
    cases hq : P (t m - t i) with
    | false =>
      rw [if_pos (show b2i false = 0 from rfl)]
      exact go (fun k => P k || decide (k = t m - t i)) 1 (by omega) (fun v => rfl) (by rw [cnt_set P hq, if_pos (by omega)])
    | true =>
      rw [if_neg (show ¬ b2i true = 0 by decide)]
      refine go P 0 (by omega) (fun v => ?_) (Nat.add_zero _).symm
      by_cases z : v = t m - t i
      · subst z; rw [hq]; rfl
      · rw [decide_eq_false z, Bool.or_false]
theorem si_id {ν : Nm} {q j : Nat} {v : Int32} (h : gi ν q j = v) : si ν q j v = ν := by
  unfold si va_up upd
  unfold gi at h
  refine Prod.ext ?_ rfl
  funext q2 j2
  show (if q2 = q then (fun k => if k = j then v else ν.1 q k) else ν.1 q2) j2 = ν.1 q2 j2
  by_cases e : q2 = q
  · subst e
    rw [if_pos rfl]
    show (if j2 = j then v else ν.1 q2 j2) = _
    by_cases e2 : j2 = j
    · subst e2; rw [if_pos rfl, h]
    · rw [if_neg e2]
  · rw [if_neg e]
theorem si_si (ν : Nm) (q j : Nat) (v w : Int32) : si (si ν q j v) q j w = si ν q j w := by
  unfold si va_up upd
  refine Prod.ext ?_ rfl
  funext q2 j2
  show (if q2 = q then (fun k => if k = j then w else (if q = q then (fun k => if k = j then v else ν.1 q k) else ν.1 q) k) else (if q2 = q then (fun k => if k = j then v else ν.1 q k) else ν.1 q2)) j2 = (if q2 = q then (fun k => if k = j then w else ν.1 q k) else ν.1 q2) j2
  by_cases e : q2 = q
  · subst e
    simp only [if_true]
    by_cases e2 : j2 = j
    · simp [e2]
    · simp [e2]
  · simp [e]
/-- can be lit: the model -/
def ltM (m : Nat) (r e : Nat → Nat) (x : Nat) : Bool := vl r e x && decide (0 < m ∨ 0 < x)
/-- the next that can be lit, from x on (81: none) -/
def nxl (m : Nat) (r e : Nat → Nat) : Nat → Nat → Nat
  | 0, x => x
  | d + 1, x => if ltM m r e x = true then x else nxl m r e d (x + 1)
theorem nxl_ok (m : Nat) (r e : Nat → Nat) : ∀ (d x : Nat), x + d = 81 → x ≤ nxl m r e d x ∧ nxl m r e d x ≤ 81 ∧ (nxl m r e d x < 81 → ltM m r e (nxl m r e d x) = true) ∧ ∀ z, x ≤ z → z < nxl m r e d x → ltM m r e z = false := by
  intro d
  induction d with
  | zero => intro x hx; exact ⟨Nat.le_refl _, by show x ≤ 81; omega, fun q => by have : x < 81 := q; omega, fun z z1 z2 => by have : z < x := z2; omega⟩
  | succ d ih =>
    intro x hx
    unfold nxl
    by_cases q : ltM m r e x = true
    · rw [if_pos q]; exact ⟨Nat.le_refl _, by omega, fun _ => q, fun z z1 z2 => by omega⟩
    · rw [if_neg q]
      obtain ⟨h1, h2, h3, h4⟩ := ih (x + 1) (by omega)
      refine ⟨by omega, h2, h3, fun z z1 z2 => ?_⟩
      by_cases e2 : z = x
      · subst e2; exact Bool.eq_false_iff.mpr q
      · exact h4 z (by omega) z2
/-- the inner loop of both -/
theorem m_find {β : Type} {m : Nat} (hm : m ≤ 4) {t r e : Nat → Nat} (hr : RI r e) (F : Nat → Nm → Option β) (G : Nm → Option β) (hF : ∀ f ν x, x ≤ 81 → gi ν 324 m = nI (x + 1) → F (f + 1) ν = if (82 : Int32) ≤ nI (x + 1) then G ν else (Md_isLighting ν (nI m) (nI (x + 1) - 1)).bind fun v4 => if ¬ b2i v4 = 0 then G ν else F f (si ν 324 m (nI (x + 1) + 1))) : ∀ (d f x : Nat) (ν : Nm), x + d = 81 → d < f → WM m t r e ν → gi ν 324 m = nI (x + 1) → F f ν = G (si ν 324 m (nI (nxl m r e d x + 1))) := by
  intro d
  induction d with
  | zero =>
    intro f x ν hx hf hW hC
    obtain ⟨f, rfl⟩ := fsucc hf
    obtain rfl : x = 81 := by omega
    rw [hF f ν 81 (by omega) hC, if_pos (by decide)]
    show G ν = G (si ν 324 m (nI (81 + 1)))
    rw [si_id hC]
  | succ d ih =>
    intro f x ν hx hf hW hC
    obtain ⟨f, rfl⟩ := fsucc hf
    rw [hF f ν x (by omega) hC, if_neg (by rw [show (82 : Int32) = nI 82 from rfl, nI_le' (by omega) (by omega)]; omega), show nI (x + 1) - 1 = nI x from nI_sub (b := 1) (by omega), m_lighting hm (by omega) hr hW, Option.bind_some]
    unfold nxl
    show (if ¬ b2i (ltM m r e x) = 0 then G ν else F f (si ν 324 m (nI (x + 1) + 1))) = _
    by_cases q : ltM m r e x = true
    · rw [q, if_pos (by rw [b2iT]; exact id), if_pos rfl, si_id hC]
    · rw [Bool.eq_false_iff.mpr q, if_neg (by rw [b2iF]; simp), if_neg (by simp), show nI (x + 1) + 1 = nI (x + 1 + 1) from nI_add _ 1]
      rw [ih f (x + 1) (si ν 324 m (nI (x + 1 + 1))) (by omega) (by omega) ⟨fun c hc => ⟨by rw [gi_si_q _ _ _ _ (by omega)]; exact (hW.1 c hc).1, by rw [gi_si_q _ _ _ _ (by omega)]; exact (hW.1 c hc).2⟩, fun j hj => by rw [gi_si_q _ _ _ _ (by omega)]; exact hW.2 j hj⟩ (gi_si_s _ _ _ _), si_si]
/-- how many rounds at most -/
def cst : Nat → Nat → Nat
  | 0, x => if x = 0 then 2 else 1
  | k + 1, x => (81 - x) * (1 + cst k 0) + 1
theorem cst4 : cst 4 0 = 130216330 := by decide +kernel
theorem cst_go {k x y : Nat} (h1 : x ≤ y) (h2 : y < 81) : 1 + cst k 0 + cst (k + 1) (y + 1) ≤ cst (k + 1) x := by
  show 1 + cst k 0 + ((81 - (y + 1)) * (1 + cst k 0) + 1) ≤ (81 - x) * (1 + cst k 0) + 1
  have := Nat.mul_le_mul_right (1 + cst k 0) (show 81 - (y + 1) + 1 ≤ 81 - x by omega)
  rw [Nat.add_mul, Nat.one_mul] at this
  omega
def fwm (m s q j : Nat) : Prop := (q = 323 ∧ m + 1 ≤ j) ∨ (q = 324 ∧ m ≤ j) ∨ ((q = 325 ∨ q = 326) ∧ 4 * m + 4 ≤ j) ∨ (q = 327 ∧ 15361 * s ≤ j ∧ j < 15361 * s + 15361) ∨ (q = 328 ∧ j = s)
theorem fwm_mono {m s q j : Nat} (h : fwm (m + 1) s q j) : fwm m s q j := by unfold fwm at h ⊢; omega
theorem WM_keep {m s : Nat} {t r e : Nat → Nat} {ν ν2 : Nm} (h : WM m t r e ν) (k : ∀ q j, ¬ fwm m s q j → gi ν2 q j = gi ν q j) : WM m t r e ν2 :=
  ⟨fun c hc => ⟨by rw [k _ _ (by unfold fwm; omega)]; exact (h.1 c hc).1, by rw [k _ _ (by unfold fwm; omega)]; exact (h.1 c hc).2⟩, fun i hi => by rw [k _ _ (by unfold fwm; omega)]; exact h.2 i hi⟩
/-- marks from x on, at moment m -/
def SubY (k m : Nat) (t r e : Nat → Nat) (x v : Nat) : Prop := match k with
  | 0 => False
  | k + 1 => SubX k m t r e x v
def LgM (s k : Nat) : Prop := ∀ (d m : Nat) (t r e : Nat → Nat) (ν : Nm) (x : Nat) (P : Nat → Bool), m + k = 4 → lv r ≤ k → RI r e → TI m t → (m = 0 → byA r e 0 = 0) → WM m t r e ν → x + d = 81 → gi ν 324 m = nI x → PM s P ν → ∃ n ν2 P2, n ≤ cst k x ∧ (∀ g, Md_layGives_53 (g + n) (nI s) (nI m) ν = Md_layGives_53 g (nI s) (nI m - 1) ν2) ∧ (∀ q j, ¬ fwm m s q j → gi ν2 q j = gi ν q j) ∧ (∀ q j, gl ν2 q j = gl ν q j) ∧ PM s P2 ν2 ∧ ∀ v, P2 v = true ↔ (P v = true ∨ SubY k m t r e x v)
theorem PM_keep {s : Nat} {P : Nat → Bool} {ν ν2 : Nm} (h : PM s P ν) (k : ∀ j, gi ν2 327 j = gi ν 327 j) (k2 : gi ν2 328 s = gi ν 328 s) : PM s P ν2 := ⟨fun j hj => by rw [k]; exact h.1 j hj, by rw [k2]; exact h.2⟩
theorem vl_out : ∀ x, x < 81 → (∀ c, c < 4 → dg x c = 0) → x = 0 := by decide +kernel
theorem not_lt {m : Nat} {r e : Nat → Nat} (h0 : m = 0 → byA r e 0 = 0) {z : Nat} (h : ltM m r e z = false) : ¬ (vl r e z = true ∧ byA r e z ≠ 0) := by
  rintro ⟨h1, h2⟩
  unfold ltM at h
  rw [h1, Bool.true_and, decide_eq_false_iff_not] at h
  have hz : z = 0 := by omega
  have hm : m = 0 := by omega
  rw [hz] at h2
  exact h2 (h0 hm)
/-- one round of the outer loop -/
theorem m_lg1 {s m : Nat} (hs : s < 16) (hm : m ≤ 4) {t r e : Nat → Nat} (hr : RI r e) {ν : Nm} (hW : WM m t r e ν) {x d : Nat} (hx : x + d = 81) (hC : gi ν 324 m = nI x) (g : Nat) : Md_layGives_53 (g + 1) (nI s) (nI m) ν = Md_layGives_107 (Md_layGives_53 g) (nI s) (nI m) (si ν 324 m (nI (nxl m r e d x + 1))) := by
  rw [Md_layGives_53, if_neg (nI_pos (by omega)), inb_nI (show m < 2 ^ 31 by omega), nI_clamp (show m < 2 ^ 31 by omega)]
  simp only [dT (show m < 6 by omega), if_true]
  rw [hC, show nI x + 1 = nI (x + 1) from nI_add x 1]
  have q := m_find hm hr (fun f ν => Md_layGives_67 (Md_layGives_53 g) f (nI s) (nI m) ν) (fun ν => Md_layGives_107 (Md_layGives_53 g) (nI s) (nI m) ν) (fun f ν y _ hy => by
    show Md_layGives_67 (Md_layGives_53 g) (f + 1) (nI s) (nI m) ν = _
    rw [Md_layGives_67, inb_nI (show m < 2 ^ 31 by omega), nI_clamp (show m < 2 ^ 31 by omega)]
    simp only [dT (show m < 6 by omega), if_true]
    rw [hy]) d FU x (si ν 324 m (nI (x + 1))) hx (by unfold FU; omega) ⟨fun c hc => ⟨by rw [gi_si_q _ _ _ _ (by omega)]; exact (hW.1 c hc).1, by rw [gi_si_q _ _ _ _ (by omega)]; exact (hW.1 c hc).2⟩, fun j hj => by rw [gi_si_q _ _ _ _ (by omega)]; exact hW.2 j hj⟩ (gi_si_s _ _ _ _)
  rw [si_si] at q
  exact q
theorem m_lg107n {s m : Nat} (hm : m ≤ 4) (k53 : Int32 → Int32 → Nm → Option Nm) (ν : Nm) : Md_layGives_107 k53 (nI s) (nI m) (si ν 324 m (nI 82)) = k53 (nI s) (nI m - 1) (si ν 324 m (nI 82)) := by
  unfold Md_layGives_107
  rw [inb_nI (show m < 2 ^ 31 by omega), nI_clamp (show m < 2 ^ 31 by omega)]
  simp only [dT (show m < 6 by omega), if_true]
  rw [gi_si_s, if_neg (show ¬ ¬ nI 82 = (82 : Int32) from fun z => z rfl), Int32.sub_eq_add_neg]
/-- at what can be lit: the next moment, or none -/
theorem m_lg107 {s m : Nat} (hs : s < 16) (hm : m ≤ 4) {t r e : Nat → Nat} (hr : RI r e) (ht : TI m t) {y : Nat} (hy : y < 81) (hv : vl r e y = true) (h3 : byA r e y ≠ 0 → m ≤ 3) {ν : Nm} (hW : WM m t r e ν) : ∃ ν2, (∀ k53, Md_layGives_107 k53 (nI s) (nI m) (si ν 324 m (nI (y + 1))) = (if byA r e y ≠ 0 then (Md_mark (nI s) (nI (m + 1)) (si ν2 324 (m + 1) 0)).bind fun v10 => k53 (nI s) (nI (m + 1)) v10 else k53 (nI s) (nI m) ν2)) ∧ gi ν2 324 m = nI (y + 1) ∧ (byA r e y ≠ 0 → WM (m + 1) (upn t (m + 1) (t m + byA r e y)) (nr r e y) (ne r e y) ν2) ∧ (∀ q j, ¬ (q = 324 ∧ j = m) → ¬ ((q = 325 ∨ q = 326) ∧ 4 * m + 4 ≤ j) → ¬ (q = 323 ∧ j = m + 1) → gi ν2 q j = gi ν q j) ∧ ∀ q j, gl ν2 q j = gl ν q j := by
  obtain ⟨ν1, p1, p2, p3, p4⟩ := m_isNext hm hy hr hv (ν := si ν 324 m (nI y)) ⟨fun c hc => ⟨by rw [gi_si_q _ _ _ _ (by omega)]; exact (hW.1 c hc).1, by rw [gi_si_q _ _ _ _ (by omega)]; exact (hW.1 c hc).2⟩, fun j hj => by rw [gi_si_q _ _ _ _ (by omega)]; exact hW.2 j hj⟩ (gi_si_s _ _ _ _)
  have e1 : gi ν1 324 m = nI y := by rw [p3 _ _ (by omega) (by omega), gi_si_s]
  refine ⟨si ν1 324 m (nI (y + 1)), fun k53 => ?_, gi_si_s _ _ _ _, fun q => ⟨fun c hc => ⟨by rw [gi_si_q _ _ _ _ (by omega)]; exact ((p2 q).1 c hc).1, by rw [gi_si_q _ _ _ _ (by omega)]; exact ((p2 q).1 c hc).2⟩, fun j hj => by rw [gi_si_q _ _ _ _ (by omega)]; exact (p2 q).2 j hj⟩, fun q j h1 h2 h4 => by rw [gi_si, if_neg h1, p3 q j h2 h4, gi_si, if_neg h1], fun q j => by rw [gl_si, p4, gl_si]⟩
  unfold Md_layGives_107
  rw [inb_nI (show m < 2 ^ 31 by omega), nI_clamp (show m < 2 ^ 31 by omega)]
  simp only [dT (show m < 6 by omega), if_true]
  rw [gi_si_s, if_pos (by rw [show (82 : Int32) = nI 82 from rfl, nI_eq' (by omega) (by omega)]; omega), show nI (y + 1) - 1 = nI y from nI_sub (b := 1) (by omega), si_si, p1, Option.bind_some]
  simp only []
  rw [e1, show nI y + 1 = nI (y + 1) from nI_add y 1, show nI m + 1 = nI (m + 1) from nI_add m 1]
  by_cases q : byA r e y ≠ 0
  · have := h3 q
    rw [decide_eq_true q, if_pos (by rw [b2iT]; exact id), if_pos q, inb_nI (show m + 1 < 2 ^ 31 by omega), nI_clamp (show m + 1 < 2 ^ 31 by omega), if_pos (by simp; omega)]
  · rw [decide_eq_false q, if_neg (by rw [b2iF]; simp), if_neg q]
theorem m_lg {s : Nat} (hs : s < 16) : ∀ k, LgM s k := by
  intro k
  induction k with
  | zero =>
    intro d
    induction d using Nat.strongRecOn with
    | _ d ihd =>
    intro m t r e ν x P hm hl hr ht h0 hW hx hC hP
    obtain ⟨n1, n2, n3, n4⟩ := nxl_ok m r e d x hx
    have st := fun g => m_lg1 hs (show m ≤ 4 by omega) hr hW hx hC g
    generalize nxl m r e d x = y at n1 n2 n3 n4 st
    by_cases hy : y = 81
    · subst hy
      exact ⟨1, si ν 324 m (nI 82), P, by unfold cst; split <;> omega, fun g => by rw [st g]; exact m_lg107n (by omega) _ ν, fun q j hq => by rw [gi_si, if_neg (by unfold fwm at hq; omega)], fun q j => gl_si _ _ _ _ _ _, PM_keep hP (fun j => gi_si_q _ _ _ _ (by omega)) (gi_si_q _ _ _ _ (by omega)), fun v => ⟨fun z => Or.inl z, fun z => z.elim id False.elim⟩⟩
    · have hv : vl r e y = true := by
        have := n3 (by omega)
        unfold ltM at this
        rw [Bool.and_eq_true] at this
        exact this.1
      have hr0 := lv_0 (show lv r = 0 by omega)
      have y0 : y = 0 := vl_out y (by omega) (fun c hc => by
        have := vl_t.mp hv c hc
        unfold mo at this
        rw [if_pos (hr0 c hc)] at this
        omega)
      have x0 : x = 0 := by omega
      subst y0
      subst x0
      have hb0 := out_by hr (show lv r = 0 by omega) hv
      obtain ⟨ν2, p1, p2, p3, p4, p5⟩ := m_lg107 hs (show m ≤ 4 by omega) hr ht (show 0 < 81 by omega) hv (fun q => absurd hb0 q) hW
      have k2 : ∀ q j, ¬ fwm m s q j → gi ν2 q j = gi ν q j := fun q j hq => p4 q j (by unfold fwm at hq; omega) (by unfold fwm at hq; omega) (by unfold fwm at hq; omega)
      obtain ⟨n, ν3, P3, q1, q2, q3, q4, q5, q6⟩ := ihd 80 (by omega) m t r e ν2 1 P hm hl hr ht h0 (WM_keep hW k2) (by omega) p2 (PM_keep hP (fun j => p4 _ _ (by omega) (by omega) (by omega)) (p4 _ _ (by omega) (by omega) (by omega)))
      refine ⟨n + 1, ν3, P3, ?_, fun g => ?_, fun q j hq => by rw [q3 q j hq, k2 q j hq], fun q j => by rw [q4, p5], q5, q6⟩
      · have : cst 0 1 = 1 := rfl
        have : cst 0 0 = 2 := rfl
        omega
      · rw [show g + (n + 1) = (g + n) + 1 by omega, st, p1, if_neg (by simp [hb0])]
        exact q2 g
  | succ k ihk =>
    intro d
    induction d using Nat.strongRecOn with
    | _ d ihd =>
    intro m t r e ν x P hm hl hr ht h0 hW hx hC hP
    obtain ⟨n1, n2, n3, n4⟩ := nxl_ok m r e d x hx
    have st := fun g => m_lg1 hs (show m ≤ 4 by omega) hr hW hx hC g
    generalize nxl m r e d x = y at n1 n2 n3 n4 st
    by_cases hy : y = 81
    · subst hy
      refine ⟨1, si ν 324 m (nI 82), P, by show 1 ≤ (81 - x) * (1 + cst k 0) + 1; omega, fun g => by rw [st g]; exact m_lg107n (by omega) _ ν, fun q j hq => by rw [gi_si, if_neg (by unfold fwm at hq; omega)], fun q j => gl_si _ _ _ _ _ _, PM_keep hP (fun j => gi_si_q _ _ _ _ (by omega)) (gi_si_q _ _ _ _ (by omega)), fun v => ⟨fun z => Or.inl z, ?_⟩⟩
      rintro (q | ⟨z, y1, y2, y3, y4, _⟩)
      · exact q
      · exact absurd ⟨y3, y4⟩ (not_lt h0 (n4 z y1 (by omega)))
    · have hv : vl r e y = true := by
        have := n3 (by omega)
        unfold ltM at this
        rw [Bool.and_eq_true] at this
        exact this.1
      have hby := by_le hr hv
      obtain ⟨ν2, p1, p2, p3, p4, p5⟩ := m_lg107 hs (show m ≤ 4 by omega) hr ht (show y < 81 by omega) hv (fun _ => by omega) hW
      have k2 : ∀ q j, ¬ fwm m s q j → gi ν2 q j = gi ν q j := fun q j hq => p4 q j (by unfold fwm at hq; omega) (by unfold fwm at hq; omega) (by unfold fwm at hq; omega)
      have hP2 : PM s P ν2 := PM_keep hP (fun j => p4 _ _ (by omega) (by omega) (by omega)) (p4 _ _ (by omega) (by omega) (by omega))
      have hcg := cst_go (k := k) n1 (show y < 81 by omega)
      by_cases hb0 : byA r e y = 0
      · obtain ⟨n, ν3, P3, q1, q2, q3, q4, q5, q6⟩ := ihd (81 - (y + 1)) (by omega) m t r e ν2 (y + 1) P hm hl hr ht h0 (WM_keep hW k2) (by omega) p2 hP2
        refine ⟨n + 1, ν3, P3, by omega, fun g => ?_, fun q j hq => by rw [q3 q j hq, k2 q j hq], fun q j => by rw [q4, p5], q5, fun v => ?_⟩
        · rw [show g + (n + 1) = (g + n) + 1 by omega, st, p1, if_neg (by simp [hb0])]
          exact q2 g
        · rw [q6 v]
          constructor
          · rintro (q | ⟨z, y1, y2⟩)
            · exact Or.inl q
            · exact Or.inr ⟨z, by omega, y2⟩
          · rintro (q | ⟨z, y1, y2, y3, y4, y5⟩)
            · exact Or.inl q
            · refine Or.inr ⟨z, ?_, y2, y3, y4, y5⟩
              apply Nat.le_of_not_lt
              intro q
              by_cases zy : z = y
              · subst zy; exact y4 hb0
              · exact not_lt h0 (n4 z y1 (by omega)) ⟨y3, y4⟩
      · have ht1 := TI_n ht hby
        have hW1 := p3 hb0
        have e5 : ∀ q j, ¬ (q = 324 ∧ j = m + 1) → gi (si ν2 324 (m + 1) 0) q j = gi ν2 q j := fun q j hq => by rw [gi_si, if_neg hq]
        obtain ⟨ν3, P3, a1, a2, a3, a4, a5⟩ := m_mark2 hs (show m + 1 ≤ 4 by omega) ht1 (m + 1) FU 0 (si ν2 324 (m + 1) 0) P (by omega) (by unfold FU; omega) (fun i hi => by rw [e5 _ _ (by omega)]; exact hW1.2 i hi) (PM_keep hP2 (fun j => e5 _ _ (by omega)) (e5 _ _ (by omega)))
        have a1' : Md_mark (nI s) (nI (m + 1)) (si ν2 324 (m + 1) 0) = some ν3 := a1
        have k3 : ∀ q j, ¬ fwm m s q j → gi ν3 q j = gi ν q j := fun q j hq => by rw [a4 q j (by unfold fwm at hq; omega), e5 q j (by unfold fwm at hq; omega), k2 q j hq]
        obtain ⟨n5, ν5, P5, b1, b2, b3, b4, b5, b6⟩ := ihk 81 (m + 1) _ _ _ ν3 0 P3 (by omega) (by have := lv_n hr hv hb0; omega) (RI_n hr hv) ht1 (fun z => by omega) ⟨fun c hc => ⟨by rw [a4 _ _ (by omega), e5 _ _ (by omega)]; exact (hW1.1 c hc).1, by rw [a4 _ _ (by omega), e5 _ _ (by omega)]; exact (hW1.1 c hc).2⟩, fun i hi => by rw [a4 _ _ (by omega), e5 _ _ (by omega)]; exact hW1.2 i hi⟩ (by omega) (by rw [a4 _ _ (by omega), gi_si_s]; rfl) a2
        have k5 : ∀ q j, ¬ fwm m s q j → gi ν5 q j = gi ν q j := fun q j hq => by rw [b3 q j (fun z => hq (fwm_mono z)), k3 q j hq]
        have c5 : gi ν5 324 m = nI (y + 1) := by rw [b3 _ _ (by unfold fwm; omega), a4 _ _ (by omega), e5 _ _ (by omega)]; exact p2
        obtain ⟨n, ν6, P6, q1, q2, q3, q4, q5, q6⟩ := ihd (81 - (y + 1)) (by omega) m t r e ν5 (y + 1) P5 hm hl hr ht h0 (WM_keep hW k5) (by omega) c5 b5
        refine ⟨n + n5 + 1, ν6, P6, by omega, fun g => ?_, fun q j hq => by rw [q3 q j hq, k5 q j hq], fun q j => by rw [q4, b4, a5, gl_si, p5], q5, fun v => ?_⟩
        · rw [show g + (n + n5 + 1) = (g + n + n5) + 1 by omega, st, p1, if_pos hb0, a1', Option.bind_some, b2 (g + n), show nI (m + 1) - 1 = nI m from nI_sub (b := 1) (by omega)]
          exact q2 g
        · rw [q6 v, b6 v, a3 v]
          have sub0 : SubY k (m + 1) (upn t (m + 1) (t m + byA r e y)) (nr r e y) (ne r e y) 0 v ↔ Sub k (m + 1) (upn t (m + 1) (t m + byA r e y)) (nr r e y) (ne r e y) v := by
            cases k with
            | zero => exact Iff.rfl
            | succ k => exact Sub_X.symm
          rw [sub0]
          constructor
          · rintro (((q | ⟨j, j1, j2, j3⟩) | q) | ⟨z, y1, y2⟩)
            · exact Or.inl q
            · exact Or.inr ⟨y, n1, by omega, hv, hb0, Or.inl ⟨j, by omega, j3⟩⟩
            · exact Or.inr ⟨y, n1, by omega, hv, hb0, Or.inr q⟩
            · exact Or.inr ⟨z, by omega, y2⟩
          · rintro (q | ⟨z, y1, y2, y3, y4, y5⟩)
            · exact Or.inl (Or.inl (Or.inl q))
            · by_cases zy : z = y
              · subst zy
                rcases y5 with ⟨j, j1, j2⟩ | q
                · exact Or.inl (Or.inl (Or.inr ⟨j, by omega, by omega, j2⟩))
                · exact Or.inl (Or.inr q)
              · refine Or.inr ⟨z, ?_, y2, y3, y4, y5⟩
                apply Nat.le_of_not_lt
                intro q
                exact not_lt h0 (n4 z y1 (by omega)) ⟨y3, y4⟩
